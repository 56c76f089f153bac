/-! rows as a least set of states (placed set, last write about cell 0, last write about cell 1; 7 for none) -/
def cc_C (T : Nat → Nat → Nat → Nat → Nat → Nat → Prop) (Q : Nat → Nat → Nat → Prop) : Prop :=
  Q 0 7 7 ∧ ∀ S p q S' p' q', Q S p q → T S p q S' p' q' → Q S' p' q'
def cc_R (T : Nat → Nat → Nat → Nat → Nat → Nat → Prop) (S p q : Nat) : Prop := ∀ Q, cc_C T Q → Q S p q
section
variable {T : Nat → Nat → Nat → Nat → Nat → Nat → Prop}
theorem cc_R0 : cc_R T 0 7 7 := fun _ h => h.1
theorem cc_Rs {S p q S' p' q' : Nat} (h : cc_R T S p q) (t : T S p q S' p' q') : cc_R T S' p' q' :=
  fun Q c => c.2 _ _ _ _ _ _ (h Q c) t
theorem cc_Ri {S p q : Nat} (h : cc_R T S p q) :
    (S = 0 ∧ p = 7 ∧ q = 7) ∨ ∃ S0 p0 q0, cc_R T S0 p0 q0 ∧ T S0 p0 q0 S p q :=
  (h (fun S p q => cc_R T S p q ∧ ((S = 0 ∧ p = 7 ∧ q = 7) ∨ ∃ S0 p0 q0, cc_R T S0 p0 q0 ∧ T S0 p0 q0 S p q))
    ⟨⟨cc_R0, Or.inl ⟨rfl, rfl, rfl⟩⟩, fun S p q S' p' q' hq t => ⟨cc_Rs hq.1 t, Or.inr ⟨S, p, q, hq.1, t⟩⟩⟩).2
/-- the table r when all states with a code below i have been gone on from -/
def cc_I (T : Nat → Nat → Nat → Nat → Nat → Nat → Prop) (E : Nat → Nat → Nat → Nat) (i : Nat) (r : Nat → Prop) : Prop :=
  (∀ c, r c → ∃ S p q, c = E S p q ∧ cc_R T S p q) ∧ r (E 0 7 7) ∧
  ∀ S p q S' p' q', cc_R T S p q → E S p q < i → T S p q S' p' q' → r (E S' p' q')
def cc_mono (T : Nat → Nat → Nat → Nat → Nat → Nat → Prop) (E : Nat → Nat → Nat → Nat) : Prop :=
  ∀ S p q S' p' q', cc_R T S p q → T S p q S' p' q' → E S p q < E S' p' q'
def cc_inj (E : Nat → Nat → Nat → Nat) : Prop :=
  ∀ S p q S' p' q', p ≤ 7 → q ≤ 7 → p' ≤ 7 → q' ≤ 7 → E S p q = E S' p' q' → S = S' ∧ p = p' ∧ q = q'
def cc_bd (T : Nat → Nat → Nat → Nat → Nat → Nat → Prop) : Prop := ∀ S p q, cc_R T S p q → p ≤ 7 ∧ q ≤ 7
variable {E : Nat → Nat → Nat → Nat} {i : Nat} {r r' : Nat → Prop}
theorem cc_Ic (mono : cc_mono T E) (I : cc_I T E i r) {S p q : Nat} (h : cc_R T S p q) (hi : E S p q ≤ i) : r (E S p q) := by
  rcases cc_Ri h with ⟨rfl, rfl, rfl⟩ | ⟨S0, p0, q0, h0, t⟩
  · exact I.2.1
  · exact I.2.2 _ _ _ _ _ _ h0 (Nat.lt_of_lt_of_le (mono _ _ _ _ _ _ h0 t) hi) t
theorem cc_In (mono : cc_mono T E) (I : cc_I T E i r) (hn : ¬ r i) : cc_I T E (i + 1) r :=
  ⟨I.1, I.2.1, fun S p q S' p' q' h hi t => by
    rcases Nat.lt_or_ge (E S p q) i with z | z
    · exact I.2.2 _ _ _ _ _ _ h z t
    · have e : E S p q = i := by omega
      have c := cc_Ic mono I h (by omega)
      rw [e] at c
      exact absurd c hn⟩
theorem cc_Iy (inj : cc_inj E) (bd : cc_bd T) (I : cc_I T E i r) {S p q : Nat} (hS : i = E S p q) (hR : cc_R T S p q)
    (hr : ∀ c, r' c ↔ r c ∨ ∃ S' p' q', T S p q S' p' q' ∧ c = E S' p' q') : cc_I T E (i + 1) r' :=
  ⟨fun c hc => ((hr c).mp hc).elim (I.1 c) (fun ⟨S', p', q', t, e⟩ => ⟨S', p', q', e, cc_Rs hR t⟩),
   (hr _).mpr (Or.inl I.2.1),
   fun S1 p1 q1 S' p' q' h hi t => (hr _).mpr (by
    rcases Nat.lt_or_ge (E S1 p1 q1) i with z | z
    · exact Or.inl (I.2.2 _ _ _ _ _ _ h z t)
    · have e : E S1 p1 q1 = E S p q := by omega
      obtain ⟨rfl, rfl, rfl⟩ := inj _ _ _ _ _ _ (bd _ _ _ h).1 (bd _ _ _ h).2 (bd _ _ _ hR).1 (bd _ _ _ hR).2 e
      exact Or.inr ⟨S', p', q', t, rfl⟩)⟩
theorem cc_If (inj : cc_inj E) (bd : cc_bd T) (I : cc_I T E i r) {P : Nat} (hP : P ≠ 0)
    (hi : ∀ S p q p' q', cc_R T S p q → T S p q P p' q' → E S p q < i) :
    (∃ p q, cc_R T P p q) ↔ ∃ p q, p ≤ 7 ∧ q ≤ 7 ∧ r (E P p q) := by
  constructor
  · rintro ⟨p, q, h⟩
    have b := bd _ _ _ h
    refine ⟨p, q, b.1, b.2, ?_⟩
    rcases cc_Ri h with ⟨z, _⟩ | ⟨S0, p0, q0, h0, t⟩
    · exact absurd z hP
    · exact I.2.2 _ _ _ _ _ _ h0 (hi _ _ _ _ _ h0 t) t
  · rintro ⟨p, q, hp, hq, h⟩
    obtain ⟨S, p', q', e, h'⟩ := I.1 _ h
    have b := bd _ _ _ h'
    obtain ⟨rfl, rfl, rfl⟩ := inj _ _ _ _ _ _ hp hq b.1 b.2 e
    exact ⟨_, _, h'⟩
end
/-- the operation k may be laid next: what comes of it -/
def cc_T1 (ce : Nat → Nat) (wr : Nat → Prop) (so ea : Nat → Nat) (P : Nat) (J : Nat → Prop) (k S p q S' p' q' : Nat) : Prop :=
  P.testBit k = true ∧ S.testBit k = false ∧ (∀ j, (ea k).testBit j = true → S.testBit j = true) ∧ S' = S ||| 2 ^ k ∧
  ((wr k ∧ p' = (if ce k = 0 then k else p) ∧ q' = (if ce k = 0 then q else k)) ∨
   (¬ wr k ∧ (J k → (if ce k = 0 then p else q) = so k) ∧ p' = p ∧ q' = q))
def cc_T (ce : Nat → Nat) (wr : Nat → Prop) (so ea : Nat → Nat) (P : Nat) (J : Nat → Prop) (S p q S' p' q' : Nat) : Prop :=
  ∃ k, cc_T1 ce wr so ea P J k S p q S' p' q'
/-- P has a row in which the reads of J are right -/
def cc_HR (ce : Nat → Nat) (wr : Nat → Prop) (so ea : Nat → Nat) (P : Nat) (J : Nat → Prop) : Prop :=
  ∃ p q, cc_R (cc_T ce wr so ea P J) P p q
section
variable {ce : Nat → Nat} {wr : Nat → Prop} {so ea : Nat → Nat} {P : Nat} {J : Nat → Prop}
theorem cc_Tb (hP : P < 128) {S p q : Nat} (h : cc_R (cc_T ce wr so ea P J) S p q) :
    (p ≤ 7 ∧ q ≤ 7) ∧ ∀ j, S.testBit j = true → P.testBit j = true := by
  refine h (fun S p q => (p ≤ 7 ∧ q ≤ 7) ∧ ∀ j, S.testBit j = true → P.testBit j = true)
    ⟨⟨⟨Nat.le_refl _, Nat.le_refl _⟩, fun j hj => by rw [Nat.zero_testBit] at hj; exact absurd hj (by decide)⟩, ?_⟩
  rintro S p q S' p' q' ⟨⟨hp, hq⟩, hs⟩ ⟨k, h1, h2, h3, rfl, h4⟩
  have hk : k < 7 := cc_tl (n := 7) hP h1
  refine ⟨?_, fun j hj => (cc_o2.mp hj).elim (hs j) (fun e => e ▸ h1)⟩
  rcases h4 with ⟨_, rfl, rfl⟩ | ⟨_, _, rfl, rfl⟩
  · constructor <;> split <;> omega
  · exact ⟨hp, hq⟩
theorem cc_Tbd (hP : P < 128) : cc_bd (cc_T ce wr so ea P J) := fun _ _ _ h => (cc_Tb hP h).1
theorem cc_Tlt {S p q S' p' q' : Nat} (t : cc_T ce wr so ea P J S p q S' p' q') : S < S' := by
  obtain ⟨k, _, h2, _, rfl, _⟩ := t
  have h : S ≤ S ||| 2 ^ k := Nat.left_le_or
  rcases Nat.lt_or_ge S (S ||| 2 ^ k) with z | z
  · exact z
  · have e : S = S ||| 2 ^ k := by omega
    have c : S.testBit k = true := by rw [e]; exact cc_o2.mpr (Or.inr rfl)
    rw [h2] at c
    exact absurd c (by decide)
theorem cc_Tle (hP : P < 128) {S p q : Nat} (h : cc_R (cc_T ce wr so ea P J) S p q) : S ≤ P := Nat.le_of_testBit (cc_Tb hP h).2
/-- the codes of the two programs -/
def cc_EX (S p q : Nat) : Nat := S * 64 + (q * 8 + p)
def cc_y (p : Nat) : Nat := if p = 7 then 8 else p
def cc_EY (S p q : Nat) : Nat := 81 * S + (9 * cc_y p + cc_y q)
theorem cc_yb {p : Nat} (h : p ≤ 7) : cc_y p ≤ 8 := by unfold cc_y; split <;> omega
theorem cc_yi {p q : Nat} (hp : p ≤ 7) (hq : q ≤ 7) (h : cc_y p = cc_y q) : p = q := by
  unfold cc_y at h
  split at h <;> split at h <;> omega
theorem cc_EXi : cc_inj cc_EX := by
  intro S p q S' p' q' hp hq hp' hq' h
  unfold cc_EX at h
  refine ⟨?_, ?_, ?_⟩ <;> omega
theorem cc_EYi : cc_inj cc_EY := by
  intro S p q S' p' q' hp hq hp' hq' h
  unfold cc_EY at h
  have h1 := cc_yb hp
  have h2 := cc_yb hq
  have h3 := cc_yb hp'
  have h4 := cc_yb hq'
  have e1 : S = S' := by omega
  have e2 : cc_y p = cc_y p' := by omega
  have e3 : cc_y q = cc_y q' := by omega
  exact ⟨e1, cc_yi hp hp' e2, cc_yi hq hq' e3⟩
theorem cc_EXm (hP : P < 128) : cc_mono (cc_T ce wr so ea P J) cc_EX := by
  intro S p q S' p' q' h t
  have b := (cc_Tb hP h).1
  have l := cc_Tlt t
  unfold cc_EX
  omega
theorem cc_EYm (hP : P < 128) : cc_mono (cc_T ce wr so ea P J) cc_EY := by
  intro S p q S' p' q' h t
  have b := (cc_Tb hP h).1
  have b1 := cc_yb b.1
  have b2 := cc_yb b.2
  have l := cc_Tlt t
  unfold cc_EY
  omega
/-- X begins at code 63 -/
theorem cc_I63 {r : Nat → Prop} (hr : ∀ c, r c ↔ c = 63) : cc_I (cc_T ce wr so ea P J) cc_EX 63 r := by
  refine ⟨fun c hc => ⟨0, 7, 7, (hr c).mp hc, cc_R0⟩, (hr _).mpr rfl, ?_⟩
  intro S p q S' p' q' h hi t
  rcases cc_Ri h with ⟨rfl, rfl, rfl⟩ | ⟨S0, p0, q0, h0, t0⟩
  · exact absurd hi (by decide)
  · have l := cc_Tlt t0
    unfold cc_EX at hi
    omega
theorem cc_I80 {r : Nat → Prop} (hr : ∀ c, r c ↔ c = 80) : cc_I (cc_T ce wr so ea P J) cc_EY 0 r :=
  ⟨fun c hc => ⟨0, 7, 7, (hr c).mp hc, cc_R0⟩, (hr _).mpr rfl, fun _ _ _ _ _ _ _ hi _ => absurd hi (Nat.not_lt_zero _)⟩
theorem cc_XF (hP : P < 128) (h0 : P ≠ 0) {r : Nat → Prop} (I : cc_I (cc_T ce wr so ea P J) cc_EX (P * 64) r) :
    cc_HR ce wr so ea P J ↔ ∃ c, c < 64 ∧ r (P * 64 + c) := by
  refine (cc_If cc_EXi (cc_Tbd hP) I h0 ?_).trans ?_
  · intro S p q p' q' h t
    have b := (cc_Tb hP h).1
    have l := cc_Tlt t
    unfold cc_EX
    omega
  · constructor
    · rintro ⟨p, q, hp, hq, h⟩
      exact ⟨q * 8 + p, by omega, h⟩
    · rintro ⟨c, hc, h⟩
      refine ⟨c % 8, c / 8, by omega, by omega, ?_⟩
      unfold cc_EX
      rw [show c / 8 * 8 + c % 8 = c by omega]
      exact h
theorem cc_YF (hP : P < 128) (h0 : P ≠ 0) {r : Nat → Prop} (I : cc_I (cc_T ce wr so ea P J) cc_EY 10368 r) :
    cc_HR ce wr so ea P J ↔ ∃ c, c < 81 ∧ r (81 * P + c) := by
  refine (cc_If cc_EYi (cc_Tbd hP) I h0 ?_).trans ?_
  · intro S p q p' q' h t
    have b := (cc_Tb hP h).1
    have b1 := cc_yb b.1
    have b2 := cc_yb b.2
    have l := cc_Tlt t
    unfold cc_EY
    omega
  · constructor
    · rintro ⟨p, q, hp, hq, h⟩
      have b1 := cc_yb hp
      have b2 := cc_yb hq
      exact ⟨9 * cc_y p + cc_y q, by omega, h⟩
    · rintro ⟨c, hc, h⟩
      obtain ⟨S, p, q, e, hR⟩ := I.1 _ h
      have b := (cc_Tb hP hR).1
      have b1 := cc_yb b.1
      have b2 := cc_yb b.2
      have e1 : S = P := by unfold cc_EY at e; omega
      subst e1
      exact ⟨p, q, b.1, b.2, e ▸ h⟩
end
