section
/-! rows of kit/rows, pasted -/
theorem pk_us {f : Nat → Int32} {k : Nat} {x : Int32} : upd f k x k = x := if_pos rfl
theorem pk_un {f : Nat → Int32} {k j : Nat} {x : Int32} (h : j ≠ k) : upd f k x j = f j := if_neg h
theorem pk_sub {a b : Nat} (h : b ≤ a) : nI a - nI b = nI (a - b) := by
  obtain ⟨c, rfl⟩ : ∃ c, a = c + b := ⟨a - b, by omega⟩
  rw [← nI_add, Int32.add_sub_cancel, Nat.add_sub_cancel]
theorem pk_m1 (n : Nat) : nI (n + 1) + (-1) = nI n := by
  rw [← nI_1, Int32.add_assoc, show (1 : Int32) + (-1) = 0 from rfl, Int32.add_zero]
theorem pk_mul (a b : Nat) : nI a * nI b = nI (a * b) := (Int32.ofNat_mul a b).symm
theorem pk_div {a d : Nat} (ha : a < 2 ^ 31) (h0 : 0 < d) (hd : d < 2 ^ 31) : nI a / nI d = nI (a / d) := by
  apply Int32.toInt_inj.mp
  rw [lg_idiv_nonneg (by rw [nI_toInt ha]; omega) (by rw [nI_toInt hd]; omega), nI_toInt ha, nI_toInt hd, nI_toInt (Nat.lt_of_le_of_lt (Nat.div_le_self a d) ha)]
  first | rfl | exact (Int.natCast_ediv _ _).symm
theorem pk_rem {a d : Nat} (ha : a < 2 ^ 31) (h0 : 0 < d) (hd : d < 2 ^ 31) : nI a - nI a / nI d * nI d = nI (a % d) := by
  rw [pk_div ha h0 hd, pk_mul, pk_sub (Nat.div_mul_le_self a d)]
  exact congrArg nI (by have := Nat.div_add_mod' a d; omega)
theorem pk_ix (x : Int32) {n : Nat} (hn : n < 2 ^ 31) : x < 0 ∨ nI n ≤ x ∨ ∃ j : Nat, j < n ∧ x = nI j := by
  by_cases h : x < 0
  · exact Or.inl h
  · obtain ⟨j, hj, rfl⟩ := nI_of h
    by_cases h2 : j < n
    · exact Or.inr (Or.inr ⟨j, h2, rfl⟩)
    · exact Or.inr (Or.inl (nI_le (by omega) hj))
theorem pk_le {x y : Int32} {A B : Prop} (a b : Nat) (f : a ≤ b → A) (g : b < a → B) (hx : x = nI a := by rfl) (hy : y = nI b := by rfl) (ha : a < 2 ^ 31 := by omega) (hb : b < 2 ^ 31 := by omega) : (x ≤ y → A) ∧ (¬ x ≤ y → B) := by
  subst hx hy
  rw [nI_leI ha hb]
  exact ⟨f, fun z => g (by omega)⟩
theorem pk_lt {x y : Int32} {A B : Prop} (a b : Nat) (f : a < b → A) (g : b ≤ a → B) (hx : x = nI a := by rfl) (hy : y = nI b := by rfl) (ha : a < 2 ^ 31 := by omega) (hb : b < 2 ^ 31 := by omega) : (x < y → A) ∧ (¬ x < y → B) := by
  subst hx hy
  rw [nI_ltI ha hb]
  exact ⟨f, fun z => g (by omega)⟩
theorem pk_eq {x y : Int32} {A B : Prop} (a b : Nat) (f : a = b → A) (g : a ≠ b → B) (hx : x = nI a := by rfl) (hy : y = nI b := by rfl) (ha : a < 2 ^ 31 := by omega) (hb : b < 2 ^ 31 := by omega) : (x = y → A) ∧ (¬ x = y → B) := by
  subst hx hy
  rw [nI_eq ha hb]
  exact ⟨f, g⟩
theorem pk_in {x : Int32} (n N : Nat) (h : n < N) (hx : x = nI n := by rfl) (hN : N < 2 ^ 31 := by omega) : vp_in x N := by
  subst hx
  exact vp_in_nI h hN
theorem pk_cl {x : Int32} (n : Nat) (hx : x = nI n := by rfl) (h : n < 2 ^ 31 := by omega) : x.toNatClampNeg = n := by
  subst hx
  exact nI_clamp h
theorem pk_tn {n : Nat} (h : n < 2 ^ 32) : (nI n).toBitVec.toNat = n := Nat.mod_eq_of_lt h
theorem pk_and (x : Int32) {m : Int32} (k : Nat) (hm : m.toBitVec.toNat = 2 ^ k - 1) : x &&& m = nI (x.toBitVec.toNat % 2 ^ k) := by
  apply Int32.toBitVec_inj.mp
  apply BitVec.eq_of_toNat_eq
  rw [Int32.toBitVec_and, BitVec.toNat_and, hm, Nat.and_two_pow_sub_one_eq_mod]
  show _ = (BitVec.ofNat 32 _).toNat
  rw [BitVec.toNat_ofNat]
  exact (Nat.mod_eq_of_lt (Nat.lt_of_le_of_lt (Nat.mod_le _ _) x.toBitVec.isLt)).symm
theorem pk_andN {n : Nat} (h : n < 2 ^ 32) {m : Int32} (k : Nat) (hm : m.toBitVec.toNat = 2 ^ k - 1) : nI n &&& m = nI (n % 2 ^ k) := by
  rw [pk_and _ k hm, pk_tn h]
theorem pk_shl (a s : Int32) (k : Nat) (hs : (s.toBitVec.smod 32).toNat = k) : (a <<< s).toBitVec.toNat = a.toBitVec.toNat * 2 ^ k % 2 ^ 32 := by
  show (a.toBitVec <<< (s.toBitVec.smod 32).toNat).toNat = _
  rw [hs, BitVec.toNat_shiftLeft, Nat.shiftLeft_eq]
theorem pk_shlN {n : Nat} (s : Int32) (k : Nat) (hs : (s.toBitVec.smod 32).toNat = k) (h : n * 2 ^ k < 2 ^ 32) : nI n <<< s = nI (n * 2 ^ k) := by
  apply Int32.toBitVec_inj.mp
  apply BitVec.eq_of_toNat_eq
  have hn : n < 2 ^ 32 := Nat.lt_of_le_of_lt (Nat.le_mul_of_pos_right n (Nat.two_pow_pos k)) h
  rw [pk_shl _ _ k hs, pk_tn hn, pk_tn h, Nat.mod_eq_of_lt h]
theorem pk_shr (a s : Int32) (k : Nat) (hs : (s.toBitVec.smod 32).toNat = k) : (a >>> s).toInt = a.toInt >>> k := by
  show (a.toBitVec.sshiftRight (s.toBitVec.smod 32).toNat).toInt = _
  rw [hs, BitVec.toInt_sshiftRight]
  rfl
theorem pk_shrN {n : Nat} (h : n < 2 ^ 31) (s : Int32) (k : Nat) (hs : (s.toBitVec.smod 32).toNat = k) : nI n >>> s = nI (n / 2 ^ k) := by
  apply Int32.toInt_inj.mp
  have h2 : n / 2 ^ k ≤ n := Nat.div_le_self _ _
  rw [pk_shr _ _ k hs, nI_toInt h, nI_toInt (by omega), Int.shiftRight_eq_div_pow]
  rfl
theorem pk_loop {σ : Type} (W : Nat → Nat → σ → Prop) (I : Nat → σ → Prop) (e i0 : Nat) (s : σ) (hi : i0 ≤ e) (h0 : I i0 s) (hx : ∀ n s, I e s → W (n + 1) e s)
    (hs : ∀ n i s, i < e → I i s → (∀ s', I (i + 1) s' → W n (i + 1) s') → W (n + 1) i s) : ∃ n, W n i0 s :=
  ⟨e + 1, loop_i W I e hx hs (e + 1) i0 s hi (by omega) h0⟩
theorem s_l : ∀ n, n < 32 → ((nI n &&& 31).toBitVec.smod 32).toNat = n := by decide +kernel
end
section
/-! small numbers as Int32; sets of operations as Nat by their bits -/
noncomputable def cc_b (p : Prop) : Int32 := @ite Int32 p (Classical.propDecidable p) 1 0
theorem cc_bt {p : Prop} (h : p) : cc_b p = 1 := by unfold cc_b; rw [if_pos h]
theorem cc_bf {p : Prop} (h : ¬ p) : cc_b p = 0 := by unfold cc_b; rw [if_neg h]
theorem cc_bq {p q : Prop} (h : p ↔ q) : cc_b p = cc_b q := by rw [propext h]
theorem cc_b01 (p : Prop) : cc_b p = 0 ∨ cc_b p = 1 := by
  rcases Classical.em p with h | h
  · exact Or.inr (cc_bt h)
  · exact Or.inl (cc_bf h)
theorem cc_b0 {p : Prop} : cc_b p = 0 ↔ ¬ p := by
  rcases Classical.em p with h | h
  · rw [cc_bt h]; exact ⟨fun z => absurd z (by decide), fun z => absurd h z⟩
  · rw [cc_bf h]; exact ⟨fun _ => h, fun _ => rfl⟩
theorem cc_bn (p : Prop) : narrow .boolean (.int (cc_b p)) = .int (cc_b p) := by
  rcases cc_b01 p with h | h <;> rw [h] <;> rfl
theorem cc_and (a b : Nat) : nI a &&& nI b = nI (a &&& b) := by
  apply Int32.toBitVec_inj.1
  show BitVec.ofNat 32 a &&& BitVec.ofNat 32 b = BitVec.ofNat 32 (a &&& b)
  apply BitVec.eq_of_getLsbD_eq
  intro i hi
  simp [hi]
theorem cc_or (a b : Nat) : nI a ||| nI b = nI (a ||| b) := by
  apply Int32.toBitVec_inj.1
  show BitVec.ofNat 32 a ||| BitVec.ofNat 32 b = BitVec.ofNat 32 (a ||| b)
  apply BitVec.eq_of_getLsbD_eq
  intro i hi
  simp [hi]
theorem cc_xor (a b : Nat) : nI a ^^^ nI b = nI (a ^^^ b) := by
  apply Int32.toBitVec_inj.1
  show BitVec.ofNat 32 a ^^^ BitVec.ofNat 32 b = BitVec.ofNat 32 (a ^^^ b)
  apply BitVec.eq_of_getLsbD_eq
  intro i hi
  simp [hi]
theorem cc_m1 : (-1 : Int32) = nI 4294967295 := by decide +kernel
def cc_d (a b : Nat) : Nat := a &&& (b ^^^ 4294967295)
theorem cc_dif (a b : Nat) : nI a &&& (nI b ^^^ (-1)) = nI (cc_d a b) := by
  rw [cc_m1, cc_xor, cc_and]
  rfl
theorem cc_dt {a b i : Nat} (ha : a < 2 ^ 32) : (cc_d a b).testBit i = (a.testBit i && !b.testBit i) := by
  unfold cc_d
  rw [Nat.testBit_and, Nat.testBit_xor]
  rcases Nat.lt_or_ge i 32 with h | h
  · have e : (4294967295 : Nat).testBit i = true := (by decide +kernel : ∀ i, i < 32 → (4294967295 : Nat).testBit i = true) i h
    rw [e]; simp
  · have e : a.testBit i = false := Nat.testBit_lt_two_pow (Nat.lt_of_lt_of_le ha (Nat.pow_le_pow_right (by decide) h))
    rw [e]; simp
theorem cc_dle (a b : Nat) : cc_d a b ≤ a := Nat.and_le_left
theorem cc_bit : ∀ l, l < 32 → (1 : Int32) <<< (nI l &&& 31) = nI (2 ^ l) := by decide +kernel
theorem cc_t0 {s l : Nat} (hs : s < 2 ^ 31) : nI s &&& nI (2 ^ l) = 0 ↔ s.testBit l = false := by
  have hb : s &&& 2 ^ l < 2 ^ 31 := Nat.lt_of_le_of_lt Nat.and_le_left hs
  rw [cc_and, ← nI_0, nI_eq hb (by decide)]
  constructor
  · intro h
    cases e : s.testBit l with
    | false => rfl
    | true =>
      have t : (s &&& 2 ^ l).testBit l = true := by rw [Nat.testBit_and, e, Nat.testBit_two_pow_self]; rfl
      rw [h, Nat.zero_testBit] at t
      exact absurd t (by decide)
  · intro h
    apply Nat.eq_of_testBit_eq
    intro i
    rw [Nat.testBit_and, Nat.testBit_two_pow, Nat.zero_testBit]
    by_cases e : l = i
    · subst e; rw [h]; rfl
    · simp [e]
theorem cc_sh {s w : Nat} (hs : s < 2 ^ 31) (hw : w < 32) : nI s >>> (nI w &&& 31) = nI (s / 2 ^ w) := pk_shrN hs _ w (s_l w hw)
theorem cc_shl {s w : Nat} (hw : w < 32) (hs : s * 2 ^ w < 2 ^ 32) : nI s <<< (nI w &&& 31) = nI (s * 2 ^ w) := pk_shlN _ w (s_l w hw) hs
theorem cc_sh1 {s w : Nat} (hs : s < 2 ^ 31) (hw : w < 32) : (nI s >>> (nI w &&& 31)) &&& 1 = cc_b (s.testBit w = true) := by
  rw [cc_sh hs hw]
  show nI (s / 2 ^ w) &&& nI 1 = _
  rw [cc_and, Nat.and_one_is_mod, ← Nat.toNat_testBit]
  cases e : s.testBit w with
  | false => rw [cc_bf (by decide)]; rfl
  | true => rw [cc_bt rfl]; rfl
theorem cc_b1 {p : Prop} : cc_b p = 1 ↔ p := by
  rcases Classical.em p with h | h
  · rw [cc_bt h]; exact ⟨fun _ => h, fun _ => rfl⟩
  · rw [cc_bf h]; exact ⟨fun z => absurd z (by decide), fun z => absurd z h⟩
theorem cc_tl {s k n : Nat} (hs : s < 2 ^ n) (h : s.testBit k = true) : k < n := by
  rcases Nat.lt_or_ge k n with z | z
  · exact z
  · rw [Nat.testBit_lt_two_pow (Nat.lt_of_lt_of_le hs (Nat.pow_le_pow_right (by decide) z))] at h
    exact absurd h (by decide)
theorem cc_p2 {l n : Nat} (h : l < n) : 2 ^ l < 2 ^ n := Nat.pow_lt_pow_right (by decide) h
/-- nothing of a lies outside b -/
theorem cc_d0 {a b : Nat} (ha : a < 2 ^ 32) : cc_d a b = 0 ↔ ∀ k, a.testBit k = true → b.testBit k = true := by
  constructor
  · intro h k hk
    have t := cc_dt (b := b) (i := k) ha
    rw [h, Nat.zero_testBit, hk] at t
    cases e : b.testBit k with
    | true => rfl
    | false => rw [e] at t; exact absurd t (by decide)
  · intro h
    apply Nat.eq_of_testBit_eq
    intro i
    rw [cc_dt ha, Nat.zero_testBit]
    cases e : a.testBit i with
    | false => rfl
    | true => rw [h i e]; rfl
theorem cc_dm {L w v : Nat} (hL : L < 2 ^ 32) : (cc_d L (2 ^ w)).testBit v = true ↔ L.testBit v = true ∧ w ≠ v := by
  rw [cc_dt hL, Nat.testBit_two_pow]
  by_cases e : w = v
  · simp [e]
  · simp [e]
theorem cc_ot {a b v : Nat} : (a ||| b).testBit v = true ↔ a.testBit v = true ∨ b.testBit v = true := by
  rw [Nat.testBit_or, Bool.or_eq_true]
theorem cc_o2 {a w v : Nat} : (a ||| 2 ^ w).testBit v = true ↔ a.testBit v = true ∨ w = v := by
  rw [cc_ot, Nat.testBit_two_pow, decide_eq_true_eq]
theorem cc_at {a b v : Nat} : (a &&& b).testBit v = true ↔ a.testBit v = true ∧ b.testBit v = true := by
  rw [Nat.testBit_and, Bool.and_eq_true]
theorem cc_ext {a b : Nat} (h : ∀ v, a.testBit v = true ↔ b.testBit v = true) : a = b := by
  apply Nat.eq_of_testBit_eq
  intro i
  have t := h i
  cases e : a.testBit i <;> cases f : b.testBit i
  · rfl
  · rw [e, f] at t; exact absurd (t.mpr rfl) (by decide)
  · rw [e, f] at t; exact absurd (t.mp rfl) (by decide)
  · rfl
theorem cc_f {b : Bool} (h : ¬ b = true) : b = false := by cases b <;> first | rfl | exact absurd rfl h
theorem cc_nf {b : Bool} (h : b = false) : ¬ b = true := by rw [h]; decide
end
section
/-! rows as a least set of states (placed set, last write about cell 0, last write about cell 1; 7 for none) -/
def cc_C (T : Nat → Nat → Nat → Nat → Nat → Nat → Prop) (Q : Nat → Nat → Nat → Prop) : Prop :=
  Q 0 7 7 ∧ ∀ S p q S' p' q', Q S p q → T S p q S' p' q' → Q S' p' q'
def cc_R (T : Nat → Nat → Nat → Nat → Nat → Nat → Prop) (S p q : Nat) : Prop := ∀ Q, cc_C T Q → Q S p q
section
variable {T : Nat → Nat → Nat → Nat → Nat → Nat → Prop}
theorem cc_R0 : cc_R T 0 7 7 := fun _ h => h.1
theorem cc_Rs {S p q S' p' q' : Nat} (h : cc_R T S p q) (t : T S p q S' p' q') : cc_R T S' p' q' :=
  fun Q c => c.2 _ _ _ _ _ _ (h Q c) t
theorem cc_Ri {S p q : Nat} (h : cc_R T S p q) :
    (S = 0 ∧ p = 7 ∧ q = 7) ∨ ∃ S0 p0 q0, cc_R T S0 p0 q0 ∧ T S0 p0 q0 S p q :=
  (h (fun S p q => cc_R T S p q ∧ ((S = 0 ∧ p = 7 ∧ q = 7) ∨ ∃ S0 p0 q0, cc_R T S0 p0 q0 ∧ T S0 p0 q0 S p q))
    ⟨⟨cc_R0, Or.inl ⟨rfl, rfl, rfl⟩⟩, fun S p q S' p' q' hq t => ⟨cc_Rs hq.1 t, Or.inr ⟨S, p, q, hq.1, t⟩⟩⟩).2
/-- the table r when all states with a code below i have been gone on from -/
def cc_I (T : Nat → Nat → Nat → Nat → Nat → Nat → Prop) (E : Nat → Nat → Nat → Nat) (i : Nat) (r : Nat → Prop) : Prop :=
  (∀ c, r c → ∃ S p q, c = E S p q ∧ cc_R T S p q) ∧ r (E 0 7 7) ∧
  ∀ S p q S' p' q', cc_R T S p q → E S p q < i → T S p q S' p' q' → r (E S' p' q')
def cc_mono (T : Nat → Nat → Nat → Nat → Nat → Nat → Prop) (E : Nat → Nat → Nat → Nat) : Prop :=
  ∀ S p q S' p' q', cc_R T S p q → T S p q S' p' q' → E S p q < E S' p' q'
def cc_inj (E : Nat → Nat → Nat → Nat) : Prop :=
  ∀ S p q S' p' q', p ≤ 7 → q ≤ 7 → p' ≤ 7 → q' ≤ 7 → E S p q = E S' p' q' → S = S' ∧ p = p' ∧ q = q'
def cc_bd (T : Nat → Nat → Nat → Nat → Nat → Nat → Prop) : Prop := ∀ S p q, cc_R T S p q → p ≤ 7 ∧ q ≤ 7
variable {E : Nat → Nat → Nat → Nat} {i : Nat} {r r' : Nat → Prop}
theorem cc_Ic (mono : cc_mono T E) (I : cc_I T E i r) {S p q : Nat} (h : cc_R T S p q) (hi : E S p q ≤ i) : r (E S p q) := by
  rcases cc_Ri h with ⟨rfl, rfl, rfl⟩ | ⟨S0, p0, q0, h0, t⟩
  · exact I.2.1
  · exact I.2.2 _ _ _ _ _ _ h0 (Nat.lt_of_lt_of_le (mono _ _ _ _ _ _ h0 t) hi) t
theorem cc_In (mono : cc_mono T E) (I : cc_I T E i r) (hn : ¬ r i) : cc_I T E (i + 1) r :=
  ⟨I.1, I.2.1, fun S p q S' p' q' h hi t => by
    rcases Nat.lt_or_ge (E S p q) i with z | z
    · exact I.2.2 _ _ _ _ _ _ h z t
    · have e : E S p q = i := by omega
      have c := cc_Ic mono I h (by omega)
      rw [e] at c
      exact absurd c hn⟩
theorem cc_Iy (inj : cc_inj E) (bd : cc_bd T) (I : cc_I T E i r) {S p q : Nat} (hS : i = E S p q) (hR : cc_R T S p q)
    (hr : ∀ c, r' c ↔ r c ∨ ∃ S' p' q', T S p q S' p' q' ∧ c = E S' p' q') : cc_I T E (i + 1) r' :=
  ⟨fun c hc => ((hr c).mp hc).elim (I.1 c) (fun ⟨S', p', q', t, e⟩ => ⟨S', p', q', e, cc_Rs hR t⟩),
   (hr _).mpr (Or.inl I.2.1),
   fun S1 p1 q1 S' p' q' h hi t => (hr _).mpr (by
    rcases Nat.lt_or_ge (E S1 p1 q1) i with z | z
    · exact Or.inl (I.2.2 _ _ _ _ _ _ h z t)
    · have e : E S1 p1 q1 = E S p q := by omega
      obtain ⟨rfl, rfl, rfl⟩ := inj _ _ _ _ _ _ (bd _ _ _ h).1 (bd _ _ _ h).2 (bd _ _ _ hR).1 (bd _ _ _ hR).2 e
      exact Or.inr ⟨S', p', q', t, rfl⟩)⟩
theorem cc_If (inj : cc_inj E) (bd : cc_bd T) (I : cc_I T E i r) {P : Nat} (hP : P ≠ 0)
    (hi : ∀ S p q p' q', cc_R T S p q → T S p q P p' q' → E S p q < i) :
    (∃ p q, cc_R T P p q) ↔ ∃ p q, p ≤ 7 ∧ q ≤ 7 ∧ r (E P p q) := by
  constructor
  · rintro ⟨p, q, h⟩
    have b := bd _ _ _ h
    refine ⟨p, q, b.1, b.2, ?_⟩
    rcases cc_Ri h with ⟨z, _⟩ | ⟨S0, p0, q0, h0, t⟩
    · exact absurd z hP
    · exact I.2.2 _ _ _ _ _ _ h0 (hi _ _ _ _ _ h0 t) t
  · rintro ⟨p, q, hp, hq, h⟩
    obtain ⟨S, p', q', e, h'⟩ := I.1 _ h
    have b := bd _ _ _ h'
    obtain ⟨rfl, rfl, rfl⟩ := inj _ _ _ _ _ _ hp hq b.1 b.2 e
    exact ⟨_, _, h'⟩
end
/-- the operation k may be laid next: what comes of it -/
def cc_T1 (ce : Nat → Nat) (wr : Nat → Prop) (so ea : Nat → Nat) (P : Nat) (J : Nat → Prop) (k S p q S' p' q' : Nat) : Prop :=
  P.testBit k = true ∧ S.testBit k = false ∧ (∀ j, (ea k).testBit j = true → S.testBit j = true) ∧ S' = S ||| 2 ^ k ∧
  ((wr k ∧ p' = (if ce k = 0 then k else p) ∧ q' = (if ce k = 0 then q else k)) ∨
   (¬ wr k ∧ (J k → (if ce k = 0 then p else q) = so k) ∧ p' = p ∧ q' = q))
def cc_T (ce : Nat → Nat) (wr : Nat → Prop) (so ea : Nat → Nat) (P : Nat) (J : Nat → Prop) (S p q S' p' q' : Nat) : Prop :=
  ∃ k, cc_T1 ce wr so ea P J k S p q S' p' q'
/-- P has a row in which the reads of J are right -/
def cc_HR (ce : Nat → Nat) (wr : Nat → Prop) (so ea : Nat → Nat) (P : Nat) (J : Nat → Prop) : Prop :=
  ∃ p q, cc_R (cc_T ce wr so ea P J) P p q
section
variable {ce : Nat → Nat} {wr : Nat → Prop} {so ea : Nat → Nat} {P : Nat} {J : Nat → Prop}
theorem cc_Tb (hP : P < 128) {S p q : Nat} (h : cc_R (cc_T ce wr so ea P J) S p q) :
    (p ≤ 7 ∧ q ≤ 7) ∧ ∀ j, S.testBit j = true → P.testBit j = true := by
  refine h (fun S p q => (p ≤ 7 ∧ q ≤ 7) ∧ ∀ j, S.testBit j = true → P.testBit j = true)
    ⟨⟨⟨Nat.le_refl _, Nat.le_refl _⟩, fun j hj => by rw [Nat.zero_testBit] at hj; exact absurd hj (by decide)⟩, ?_⟩
  rintro S p q S' p' q' ⟨⟨hp, hq⟩, hs⟩ ⟨k, h1, h2, h3, rfl, h4⟩
  have hk : k < 7 := cc_tl (n := 7) hP h1
  refine ⟨?_, fun j hj => (cc_o2.mp hj).elim (hs j) (fun e => e ▸ h1)⟩
  rcases h4 with ⟨_, rfl, rfl⟩ | ⟨_, _, rfl, rfl⟩
  · constructor <;> split <;> omega
  · exact ⟨hp, hq⟩
theorem cc_Tbd (hP : P < 128) : cc_bd (cc_T ce wr so ea P J) := fun _ _ _ h => (cc_Tb hP h).1
theorem cc_Tlt {S p q S' p' q' : Nat} (t : cc_T ce wr so ea P J S p q S' p' q') : S < S' := by
  obtain ⟨k, _, h2, _, rfl, _⟩ := t
  have h : S ≤ S ||| 2 ^ k := Nat.left_le_or
  rcases Nat.lt_or_ge S (S ||| 2 ^ k) with z | z
  · exact z
  · have e : S = S ||| 2 ^ k := by omega
    have c : S.testBit k = true := by rw [e]; exact cc_o2.mpr (Or.inr rfl)
    rw [h2] at c
    exact absurd c (by decide)
theorem cc_Tle (hP : P < 128) {S p q : Nat} (h : cc_R (cc_T ce wr so ea P J) S p q) : S ≤ P := Nat.le_of_testBit (cc_Tb hP h).2
/-- the codes of the two programs -/
def cc_EX (S p q : Nat) : Nat := S * 64 + (q * 8 + p)
def cc_y (p : Nat) : Nat := if p = 7 then 8 else p
def cc_EY (S p q : Nat) : Nat := 81 * S + (9 * cc_y p + cc_y q)
theorem cc_yb {p : Nat} (h : p ≤ 7) : cc_y p ≤ 8 := by unfold cc_y; split <;> omega
theorem cc_yi {p q : Nat} (hp : p ≤ 7) (hq : q ≤ 7) (h : cc_y p = cc_y q) : p = q := by
  unfold cc_y at h
  split at h <;> split at h <;> omega
theorem cc_EXi : cc_inj cc_EX := by
  intro S p q S' p' q' hp hq hp' hq' h
  unfold cc_EX at h
  refine ⟨?_, ?_, ?_⟩ <;> omega
theorem cc_EYi : cc_inj cc_EY := by
  intro S p q S' p' q' hp hq hp' hq' h
  unfold cc_EY at h
  have h1 := cc_yb hp
  have h2 := cc_yb hq
  have h3 := cc_yb hp'
  have h4 := cc_yb hq'
  have e1 : S = S' := by omega
  have e2 : cc_y p = cc_y p' := by omega
  have e3 : cc_y q = cc_y q' := by omega
  exact ⟨e1, cc_yi hp hp' e2, cc_yi hq hq' e3⟩
theorem cc_EXm (hP : P < 128) : cc_mono (cc_T ce wr so ea P J) cc_EX := by
  intro S p q S' p' q' h t
  have b := (cc_Tb hP h).1
  have l := cc_Tlt t
  unfold cc_EX
  omega
theorem cc_EYm (hP : P < 128) : cc_mono (cc_T ce wr so ea P J) cc_EY := by
  intro S p q S' p' q' h t
  have b := (cc_Tb hP h).1
  have b1 := cc_yb b.1
  have b2 := cc_yb b.2
  have l := cc_Tlt t
  unfold cc_EY
  omega
/-- X begins at code 63 -/
theorem cc_I63 {r : Nat → Prop} (hr : ∀ c, r c ↔ c = 63) : cc_I (cc_T ce wr so ea P J) cc_EX 63 r := by
  refine ⟨fun c hc => ⟨0, 7, 7, (hr c).mp hc, cc_R0⟩, (hr _).mpr rfl, ?_⟩
  intro S p q S' p' q' h hi t
  rcases cc_Ri h with ⟨rfl, rfl, rfl⟩ | ⟨S0, p0, q0, h0, t0⟩
  · exact absurd hi (by decide)
  · have l := cc_Tlt t0
    unfold cc_EX at hi
    omega
theorem cc_I80 {r : Nat → Prop} (hr : ∀ c, r c ↔ c = 80) : cc_I (cc_T ce wr so ea P J) cc_EY 0 r :=
  ⟨fun c hc => ⟨0, 7, 7, (hr c).mp hc, cc_R0⟩, (hr _).mpr rfl, fun _ _ _ _ _ _ _ hi _ => absurd hi (Nat.not_lt_zero _)⟩
theorem cc_XF (hP : P < 128) (h0 : P ≠ 0) {r : Nat → Prop} (I : cc_I (cc_T ce wr so ea P J) cc_EX (P * 64) r) :
    cc_HR ce wr so ea P J ↔ ∃ c, c < 64 ∧ r (P * 64 + c) := by
  refine (cc_If cc_EXi (cc_Tbd hP) I h0 ?_).trans ?_
  · intro S p q p' q' h t
    have b := (cc_Tb hP h).1
    have l := cc_Tlt t
    unfold cc_EX
    omega
  · constructor
    · rintro ⟨p, q, hp, hq, h⟩
      exact ⟨q * 8 + p, by omega, h⟩
    · rintro ⟨c, hc, h⟩
      refine ⟨c % 8, c / 8, by omega, by omega, ?_⟩
      unfold cc_EX
      rw [show c / 8 * 8 + c % 8 = c by omega]
      exact h
theorem cc_YF (hP : P < 128) (h0 : P ≠ 0) {r : Nat → Prop} (I : cc_I (cc_T ce wr so ea P J) cc_EY 10368 r) :
    cc_HR ce wr so ea P J ↔ ∃ c, c < 81 ∧ r (81 * P + c) := by
  refine (cc_If cc_EYi (cc_Tbd hP) I h0 ?_).trans ?_
  · intro S p q p' q' h t
    have b := (cc_Tb hP h).1
    have b1 := cc_yb b.1
    have b2 := cc_yb b.2
    have l := cc_Tlt t
    unfold cc_EY
    omega
  · constructor
    · rintro ⟨p, q, hp, hq, h⟩
      have b1 := cc_yb hp
      have b2 := cc_yb hq
      exact ⟨9 * cc_y p + cc_y q, by omega, h⟩
    · rintro ⟨c, hc, h⟩
      obtain ⟨S, p, q, e, hR⟩ := I.1 _ h
      have b := (cc_Tb hP hR).1
      have b1 := cc_yb b.1
      have b2 := cc_yb b.2
      have e1 : S = P := by unfold cc_EY at e; omega
      subst e1
      exact ⟨p, q, b.1, b.2, e ▸ h⟩
end
end
section
/-! counting bits, enumerations of a set, numbers of enumerations -/
def cc_n (L : Nat) : Nat → Nat
  | 0 => 0
  | k + 1 => cc_n L k + (L.testBit k).toNat
theorem cc_n_mono (L : Nat) {a b : Nat} (h : a ≤ b) : cc_n L a ≤ cc_n L b := by
  induction h with
  | refl => exact Nat.le_refl _
  | step _ ih => exact Nat.le_trans ih (Nat.le_add_right _ _)
theorem cc_n_lt {L w k : Nat} (h : L.testBit w = true) (hk : w < k) : cc_n L w < cc_n L k := by
  have a : cc_n L (w + 1) ≤ cc_n L k := cc_n_mono L hk
  have b : cc_n L (w + 1) = cc_n L w + 1 := by show cc_n L w + (L.testBit w).toNat = _; rw [h]; rfl
  omega
theorem cc_n_uniq {L w w' : Nat} (h : L.testBit w = true) (h' : L.testBit w' = true) (e : cc_n L w = cc_n L w') : w = w' := by
  rcases Nat.lt_trichotomy w w' with z | z | z
  · have := cc_n_lt h z; omega
  · exact z
  · have := cc_n_lt h' z; omega
theorem cc_n_0 {L k v : Nat} (h : cc_n L k = 0) (hv : v < k) : L.testBit v = false := by
  apply cc_f
  intro z
  have := cc_n_lt z hv
  omega
theorem cc_n_del {L w : Nat} (hL : L < 2 ^ 32) (h : L.testBit w = true) : ∀ k, cc_n (cc_d L (2 ^ w)) k + (if w < k then 1 else 0) = cc_n L k
  | 0 => by show 0 + _ = 0; rw [if_neg (Nat.not_lt_zero _)]
  | k + 1 => by
    have ih := cc_n_del hL h k
    show cc_n (cc_d L (2 ^ w)) k + ((cc_d L (2 ^ w)).testBit k).toNat + _ = cc_n L k + (L.testBit k).toNat
    rcases Nat.lt_trichotomy w k with z | z | z
    · have e : (cc_d L (2 ^ w)).testBit k = L.testBit k := by
        rw [cc_dt hL, Nat.testBit_two_pow_of_ne (by omega)]; simp
      rw [e, if_pos (by omega)]
      rw [if_pos z] at ih
      omega
    · subst z
      have e : (cc_d L (2 ^ w)).testBit w = false := by
        rw [cc_dt hL, Nat.testBit_two_pow_self]; simp
      rw [e, h, if_pos (by omega)]
      rw [if_neg (by omega)] at ih
      show _ + 0 + 1 = _ + 1
      omega
    · have e : (cc_d L (2 ^ w)).testBit k = L.testBit k := by
        rw [cc_dt hL, Nat.testBit_two_pow_of_ne (by omega)]; simp
      rw [e, if_neg (by omega)]
      rw [if_neg (by omega)] at ih
      omega
theorem cc_n_del8 {L w : Nat} (hL : L < 256) (h : L.testBit w = true) : cc_n (cc_d L (2 ^ w)) 8 + 1 = cc_n L 8 := by
  have := cc_n_del (by omega) h 8
  rw [if_pos (cc_tl (n := 8) hL h)] at this
  exact this
/-- what is left of W when the first j of σ have been taken out -/
def cc_L (W : Nat) (σ : Nat → Nat) : Nat → Nat
  | 0 => W
  | j + 1 => cc_d (cc_L W σ j) (2 ^ σ j)
theorem cc_L_le (W : Nat) (σ : Nat → Nat) : ∀ j, cc_L W σ j ≤ W
  | 0 => Nat.le_refl _
  | j + 1 => Nat.le_trans (cc_dle _ _) (cc_L_le W σ j)
theorem cc_L_t {W : Nat} (hW : W < 256) (σ : Nat → Nat) (v : Nat) : ∀ j, (cc_L W σ j).testBit v = true ↔ W.testBit v = true ∧ ∀ i, i < j → σ i ≠ v
  | 0 => ⟨fun h => ⟨h, fun i hi => absurd hi (Nat.not_lt_zero _)⟩, fun h => h.1⟩
  | j + 1 => by
    have hl := cc_L_le W σ j
    show (cc_d (cc_L W σ j) (2 ^ σ j)).testBit v = true ↔ _
    rw [cc_dm (by omega), cc_L_t hW σ v j]
    constructor
    · rintro ⟨⟨a, b⟩, c⟩
      refine ⟨a, fun i hi => ?_⟩
      rcases Nat.lt_or_ge i j with z | z
      · exact b i z
      · have e : i = j := by omega
        rw [e]; exact c
    · rintro ⟨a, b⟩
      exact ⟨⟨a, fun i hi => b i (by omega)⟩, b j (by omega)⟩
theorem cc_L_congr {W : Nat} {σ τ : Nat → Nat} : ∀ {j : Nat}, (∀ i, i < j → σ i = τ i) → cc_L W σ j = cc_L W τ j
  | 0, _ => rfl
  | j + 1, h => by
    show cc_d (cc_L W σ j) (2 ^ σ j) = cc_d (cc_L W τ j) (2 ^ τ j)
    rw [cc_L_congr (fun i hi => h i (by omega)), h j (by omega)]
theorem cc_L_shift {W w : Nat} {σ τ : Nat → Nat} (h0 : σ 0 = w) (hs : ∀ i, σ (i + 1) = τ i) : ∀ j, cc_L W σ (j + 1) = cc_L (cc_d W (2 ^ w)) τ j
  | 0 => by show cc_d W (2 ^ σ 0) = _; rw [h0]; rfl
  | j + 1 => by
    show cc_d (cc_L W σ (j + 1)) (2 ^ σ (j + 1)) = cc_d (cc_L (cc_d W (2 ^ w)) τ j) (2 ^ τ j)
    rw [cc_L_shift h0 hs j, hs]
/-- the first n of σ go through W -/
def cc_E (W : Nat) (σ : Nat → Nat) (n : Nat) : Prop := ∀ j, j < n → (cc_L W σ j).testBit (σ j) = true
theorem cc_E_cnt {W n : Nat} {σ : Nat → Nat} (hW : W < 256) (h : cc_E W σ n) : ∀ j, j ≤ n → cc_n (cc_L W σ j) 8 + j = cc_n W 8
  | 0, _ => rfl
  | j + 1, hj => by
    have ih := cc_E_cnt hW h j (by omega)
    have hl := cc_L_le W σ j
    have d := cc_n_del8 (by omega) (h j (by omega))
    show cc_n (cc_d (cc_L W σ j) (2 ^ σ j)) 8 + (j + 1) = _
    omega
theorem cc_E_in {W n : Nat} {σ : Nat → Nat} (hW : W < 256) (h : cc_E W σ n) {j : Nat} (hj : j < n) : W.testBit (σ j) = true :=
  ((cc_L_t hW σ _ j).mp (h j hj)).1
theorem cc_E_ne {W n : Nat} {σ : Nat → Nat} (hW : W < 256) (h : cc_E W σ n) {i j : Nat} (hi : i < j) (hj : j < n) : σ i ≠ σ j :=
  ((cc_L_t hW σ _ j).mp (h j hj)).2 i hi
theorem cc_E_inj {W n : Nat} {σ : Nat → Nat} (hW : W < 256) (h : cc_E W σ n) {i j : Nat} (hi : i < n) (hj : j < n) (e : σ i = σ j) : i = j := by
  rcases Nat.lt_trichotomy i j with z | z | z
  · exact absurd e (cc_E_ne hW h z hj)
  · exact z
  · exact absurd e.symm (cc_E_ne hW h z hi)
theorem cc_E_all {W n : Nat} {σ : Nat → Nat} (hW : W < 256) (h : cc_E W σ n) (hn : cc_n W 8 = n) {v : Nat} (hv : W.testBit v = true) : ∃ i, i < n ∧ σ i = v := by
  apply Classical.byContradiction
  intro z
  have c := cc_E_cnt hW h n (Nat.le_refl _)
  have c0 : cc_n (cc_L W σ n) 8 = 0 := by omega
  have t := cc_n_0 c0 (cc_tl (n := 8) hW hv)
  have u : (cc_L W σ n).testBit v = true := (cc_L_t hW σ v n).mpr ⟨hv, fun i hi e => z ⟨i, hi, e⟩⟩
  rw [t] at u
  exact absurd u (by decide)
def cc_r (n num : Nat) : Nat → Nat
  | 0 => num
  | j + 1 => cc_r n num j / (n - j)
def cc_fa : Nat → Nat
  | 0 => 1
  | n + 1 => cc_fa n * (n + 1)
theorem cc_r_shift (n num : Nat) : ∀ j, cc_r (n + 1) num (j + 1) = cc_r n (num / (n + 1)) j
  | 0 => rfl
  | j + 1 => by
    show cc_r (n + 1) num (j + 1) / (n + 1 - (j + 1)) = cc_r n (num / (n + 1)) j / (n - j)
    rw [cc_r_shift n num j, Nat.add_sub_add_right]
theorem cc_r_ex : ∀ (n : Nat) (d : Nat → Nat), (∀ j, j < n → d j < n - j) → ∃ num, num < cc_fa n ∧ ∀ j, j < n → cc_r n num j % (n - j) = d j
  | 0, _, _ => ⟨0, by decide, fun j hj => absurd hj (Nat.not_lt_zero _)⟩
  | n + 1, d, h => by
    obtain ⟨x, hx, hd⟩ := cc_r_ex n (fun j => d (j + 1)) (fun j hj => by have := h (j + 1) (by omega); show d (j + 1) < n - j; omega)
    have h0 := h 0 (by omega)
    have h0' : d 0 < n + 1 := by omega
    refine ⟨d 0 + (n + 1) * x, ?_, ?_⟩
    · show _ < cc_fa n * (n + 1)
      have a : (n + 1) * (x + 1) ≤ (n + 1) * cc_fa n := Nat.mul_le_mul_left _ hx
      have b : (n + 1) * (x + 1) = (n + 1) * x + (n + 1) := Nat.mul_succ _ _
      have c : (n + 1) * cc_fa n = cc_fa n * (n + 1) := Nat.mul_comm _ _
      omega
    · intro j hj
      cases j with
      | zero =>
        show (d 0 + (n + 1) * x) % (n + 1 - 0) = d 0
        rw [Nat.sub_zero, Nat.add_mul_mod_self_left, Nat.mod_eq_of_lt h0']
      | succ j =>
        rw [cc_r_shift, Nat.add_mul_div_left _ _ (Nat.succ_pos n), Nat.div_eq_of_lt h0', Nat.zero_add, Nat.add_sub_add_right]
        exact hd j (by omega)
/-- σ is what the number num stands for -/
def cc_S (W n num : Nat) (σ : Nat → Nat) : Prop :=
  ∀ j, j < n → (cc_L W σ j).testBit (σ j) = true ∧ cc_n (cc_L W σ j) (σ j) = cc_r n num j % (n - j)
theorem cc_S_E {W n num : Nat} {σ : Nat → Nat} (h : cc_S W n num σ) : cc_E W σ n := fun j hj => (h j hj).1
theorem cc_S_ex {W n : Nat} {τ : Nat → Nat} (hW : W < 256) (hn : cc_n W 8 = n) (h : cc_E W τ n) :
    ∃ num, num < cc_fa n ∧ ∀ σ, cc_S W n num σ → ∀ j, j < n → σ j = τ j := by
  obtain ⟨num, h1, h2⟩ := cc_r_ex n (fun j => cc_n (cc_L W τ j) (τ j)) (fun j hj => by
    have c := cc_E_cnt hW h j (by omega)
    have hl := cc_L_le W τ j
    have l := cc_n_lt (h j hj) (cc_tl (n := 8) (by omega) (h j hj))
    show cc_n (cc_L W τ j) (τ j) < n - j
    omega)
  refine ⟨num, h1, fun σ hσ => ?_⟩
  have key : ∀ k j, j < k → j < n → σ j = τ j := by
    intro k
    induction k with
    | zero => intro j hj; omega
    | succ k ih =>
      intro j hj hjn
      rcases Nat.lt_or_ge j k with z | z
      · exact ih j z hjn
      · have e : cc_L W σ j = cc_L W τ j := cc_L_congr (fun i hi => ih i (by omega) (by omega))
        have a := hσ j hjn
        rw [e, h2 j hjn] at a
        exact cc_n_uniq a.1 (h j hjn) a.2
  exact fun j hj => key (j + 1) j (by omega) hj
def cc_cons (w : Nat) (τ : Nat → Nat) : Nat → Nat
  | 0 => w
  | i + 1 => τ i
/-- where no part of W goes round in a ring, W has an order -/
theorem cc_ord {M : Nat → Nat → Prop} : ∀ (n L : Nat), L < 256 → cc_n L 8 = n →
    (∀ B : Nat → Prop, (∀ w, B w → L.testBit w = true) → (∀ w, B w → ∃ v, B v ∧ M w v) → ∀ w, ¬ B w) →
    ∃ τ, cc_E L τ n ∧ ∀ j, j < n → ∀ v, M (τ j) v → L.testBit v = true → ∃ i, i < j ∧ τ i = v
  | 0, L, _, _, _ => ⟨fun _ => 0, fun j hj => absurd hj (Nat.not_lt_zero _), fun j hj => absurd hj (Nat.not_lt_zero _)⟩
  | n + 1, L, hL, hn, hB => by
    have ex : ∃ w, L.testBit w = true ∧ ∀ v, L.testBit v = true → ¬ M w v := by
      apply Classical.byContradiction
      intro z
      have b := hB (fun w => L.testBit w = true) (fun w h => h) (fun w hw => by
        apply Classical.byContradiction
        intro y
        exact z ⟨w, hw, fun v hv hm => y ⟨v, hv, hm⟩⟩)
      have e : cc_n L 8 = 0 := by
        have : ∀ k, cc_n L k = 0 := by
          intro k
          induction k with
          | zero => rfl
          | succ k ih => show cc_n L k + (L.testBit k).toNat = 0; rw [ih, cc_f (b k)]; rfl
        exact this 8
      omega
    obtain ⟨w, hw, hm⟩ := ex
    have d := cc_n_del8 hL hw
    have hle := cc_dle L (2 ^ w)
    obtain ⟨τ, h1, h2⟩ := cc_ord n (cc_d L (2 ^ w)) (by omega) (by omega) (fun B b1 b2 => hB B (fun x hx => ((cc_dm (by omega)).mp (b1 x hx)).1) b2)
    refine ⟨cc_cons w τ, ?_, ?_⟩
    · intro j hj
      cases j with
      | zero => exact hw
      | succ j =>
        rw [cc_L_shift (σ := cc_cons w τ) (w := w) (τ := τ) rfl (fun _ => rfl)]
        exact h1 j (by omega)
    · intro j hj v hv hLv
      cases j with
      | zero => exact absurd hv (hm v hLv)
      | succ j =>
        by_cases e : w = v
        · exact ⟨0, by omega, e⟩
        · obtain ⟨i, hi, ei⟩ := h2 j (by omega) v hv ((cc_dm (by omega)).mpr ⟨hLv, e⟩)
          exact ⟨i + 1, by omega, ei⟩
/-! laying greedily -/
noncomputable def cc_g (wr : Nat → Prop) (M : Nat → Nat) (pl : Nat) : Nat → Nat
  | 0 => pl
  | i + 1 => @ite Nat (wr i ∧ cc_d (M i) (cc_g wr M pl i) = 0) (Classical.propDecidable _) (cc_g wr M pl i ||| 2 ^ i) (cc_g wr M pl i)
noncomputable def cc_G (wr : Nat → Prop) (M : Nat → Nat) (m : Nat) : Nat → Nat
  | 0 => 0
  | t + 1 => cc_g wr M (cc_G wr M m t) m
section
variable {wr : Nat → Prop} {M : Nat → Nat}
theorem cc_g_y {pl i : Nat} (h : wr i ∧ cc_d (M i) (cc_g wr M pl i) = 0) : cc_g wr M pl (i + 1) = cc_g wr M pl i ||| 2 ^ i := if_pos h
theorem cc_g_n {pl i : Nat} (h : ¬ (wr i ∧ cc_d (M i) (cc_g wr M pl i) = 0)) : cc_g wr M pl (i + 1) = cc_g wr M pl i := if_neg h
theorem cc_g_lt {pl : Nat} (hp : pl < 256) : ∀ i, i ≤ 8 → cc_g wr M pl i < 256
  | 0, _ => hp
  | i + 1, hi => by
    have ih := cc_g_lt hp i (by omega)
    by_cases h : wr i ∧ cc_d (M i) (cc_g wr M pl i) = 0
    · rw [cc_g_y h]
      exact Nat.or_lt_two_pow (n := 8) ih (cc_p2 (by omega))
    · rw [cc_g_n h]; exact ih
theorem cc_G_lt {m : Nat} (hm : m ≤ 8) : ∀ t, cc_G wr M m t < 256
  | 0 => by show 0 < 256; decide
  | t + 1 => cc_g_lt (cc_G_lt hm t) m hm
theorem cc_g_up {pl v : Nat} (h : pl.testBit v = true) : ∀ i, (cc_g wr M pl i).testBit v = true
  | 0 => h
  | i + 1 => by
    have ih := cc_g_up h i
    by_cases c : wr i ∧ cc_d (M i) (cc_g wr M pl i) = 0
    · rw [cc_g_y c]; exact cc_o2.mpr (Or.inl ih)
    · rw [cc_g_n c]; exact ih
theorem cc_g_add {pl w : Nat} (hM : M w < 2 ^ 32) (hw : wr w) (h : ∀ v, (M w).testBit v = true → pl.testBit v = true) :
    ∀ i, w < i → (cc_g wr M pl i).testBit w = true
  | 0, z => absurd z (Nat.not_lt_zero _)
  | i + 1, z => by
    rcases Nat.lt_or_ge w i with y | y
    · have ih := cc_g_add hM hw h i y
      by_cases c : wr i ∧ cc_d (M i) (cc_g wr M pl i) = 0
      · rw [cc_g_y c]; exact cc_o2.mpr (Or.inl ih)
      · rw [cc_g_n c]; exact ih
    · have e : w = i := by omega
      subst e
      rw [cc_g_y ⟨hw, (cc_d0 hM).mpr (fun v hv => cc_g_up (h v hv) w)⟩]
      exact cc_o2.mpr (Or.inr rfl)
theorem cc_g_bad {B : Nat → Prop} (hM : ∀ w, B w → M w < 2 ^ 32) (hB : ∀ w, B w → ∃ v, B v ∧ (M w).testBit v = true) {pl : Nat} (h : ∀ w, B w → ¬ pl.testBit w = true) :
    ∀ i w, B w → ¬ (cc_g wr M pl i).testBit w = true
  | 0, w, hw => h w hw
  | i + 1, w, hw => by
    have ih := cc_g_bad hM hB h i
    by_cases c : wr i ∧ cc_d (M i) (cc_g wr M pl i) = 0
    · rw [cc_g_y c]
      intro z
      rcases cc_o2.mp z with y | y
      · exact ih w hw y
      · subst y
        obtain ⟨v, hv, hm⟩ := hB i hw
        exact ih v hv ((cc_d0 (hM i hw)).mp c.2 v hm)
    · rw [cc_g_n c]; exact ih w hw
theorem cc_g_in {m : Nat} {pl : Nat} (h : ∀ v, pl.testBit v = true → v < m ∧ wr v) : ∀ i, i ≤ m → ∀ v, (cc_g wr M pl i).testBit v = true → v < m ∧ wr v
  | 0, _, v, hv => h v hv
  | i + 1, hi, v, hv => by
    have ih := cc_g_in h i (by omega)
    by_cases c : wr i ∧ cc_d (M i) (cc_g wr M pl i) = 0
    · rw [cc_g_y c] at hv
      rcases cc_o2.mp hv with y | y
      · exact ih v y
      · subst y; exact ⟨by omega, c.1⟩
    · rw [cc_g_n c] at hv; exact ih v hv
theorem cc_G_in {m : Nat} : ∀ t v, (cc_G wr M m t).testBit v = true → v < m ∧ wr v
  | 0, v, h => by
    have z : (0 : Nat).testBit v = true := h
    rw [Nat.zero_testBit] at z
    exact absurd z (by decide)
  | t + 1, v, h => cc_g_in (cc_G_in t) m (Nat.le_refl _) v h
theorem cc_G_bad {m : Nat} {B : Nat → Prop} (hM : ∀ w, B w → M w < 2 ^ 32) (hB : ∀ w, B w → ∃ v, B v ∧ (M w).testBit v = true) : ∀ t w, B w → ¬ (cc_G wr M m t).testBit w = true
  | 0, w, _ => by
    show ¬ (0 : Nat).testBit w = true
    rw [Nat.zero_testBit]
    decide
  | t + 1, w, hw => cc_g_bad hM hB (cc_G_bad hM hB t) m w hw
theorem cc_G_all {m n : Nat} {σ : Nat → Nat} (hw : ∀ j, j < n → σ j < m ∧ wr (σ j) ∧ M (σ j) < 2 ^ 32)
    (hc : ∀ j, j < n → ∀ v, (M (σ j)).testBit v = true → ∃ i, i < j ∧ σ i = v) : ∀ t j, j < t → j < n → (cc_G wr M m t).testBit (σ j) = true
  | 0, j, hj, _ => absurd hj (Nat.not_lt_zero _)
  | t + 1, j, hj, hn => by
    have ih := cc_G_all hw hc t
    refine cc_g_add (hw j hn).2.2 (hw j hn).2.1 (fun v hv => ?_) m (hw j hn).1
    obtain ⟨i, hi, e⟩ := hc j hn v hv
    rw [← e]
    exact ih i (by omega) (by omega)
end
end
section
/-! a history, and when it converges -/
def cc_H (n : Nat) (us ce : Nat → Nat) (wr : Nat → Prop) (so ea : Nat → Nat) : Prop :=
  ∀ i, i < n → us i < 3 ∧ ce i < 2 ∧ ea i < 2 ^ i ∧
    (∀ j, (ea i).testBit j = true → ∀ k, (ea j).testBit k = true → (ea i).testBit k = true) ∧
    so i ≤ 7 ∧ (wr i → i < 7) ∧
    (¬ wr i → so i = 7 ∨ (so i < i ∧ so i < 7 ∧ wr (so i) ∧ ce (so i) = ce i ∧ (ea i).testBit (so i) = true))
noncomputable def cc_W (wr : Nat → Prop) : Nat → Nat
  | 0 => 0
  | v + 1 => @ite Nat (wr v) (Classical.propDecidable _) (cc_W wr v ||| 2 ^ v) (cc_W wr v)
noncomputable def cc_wc (wr : Nat → Prop) : Nat → Nat
  | 0 => 0
  | v + 1 => @ite Nat (wr v) (Classical.propDecidable _) (cc_wc wr v + 1) (cc_wc wr v)
noncomputable def cc_se (ce : Nat → Nat) (wr : Nat → Prop) (ea : Nat → Nat) (r : Nat) : Nat → Nat
  | 0 => 0
  | v + 1 => @ite Nat (wr v ∧ ce v = ce r ∧ (ea r ||| 2 ^ r).testBit v = true) (Classical.propDecidable _) (cc_se ce wr ea r v ||| 2 ^ v) (cc_se ce wr ea r v)
noncomputable def cc_mq (W : Nat) (ce : Nat → Nat) (wr : Nat → Prop) (so ea : Nat → Nat) : Nat → Nat → Nat
  | 0, w => ea w &&& W
  | i + 1, w => @ite Nat (¬ wr i ∧ so i = w ∧ so i ≠ 7) (Classical.propDecidable _) (cc_mq W ce wr so ea i w ||| cc_d (cc_se ce wr ea i i) (2 ^ w)) (cc_mq W ce wr so ea i w)
def cc_N (m : Nat) (ce : Nat → Nat) (wr : Nat → Prop) (so ea : Nat → Nat) : Prop :=
  ∀ r, r < m → ¬ wr r → so r = 7 → cc_se ce wr ea r r = 0
def cc_CV (m : Nat) (ce : Nat → Nat) (wr : Nat → Prop) (so ea : Nat → Nat) : Prop :=
  cc_N m ce wr so ea ∧ cc_G wr (cc_mq (cc_W wr m) ce wr so ea m) m 7 = cc_W wr m
def cc_Row (ea σ : Nat → Nat) (n : Nat) : Prop := ∀ i, i < n → ∀ j, j < i → σ i ≠ σ j ∧ (ea (σ j)).testBit (σ i) = false
noncomputable def cc_last (ce ea σ : Nat → Nat) (r : Nat) : Nat → Nat
  | 0 => 7
  | i + 1 => @ite Nat (ce (σ i) = ce r ∧ (ea r).testBit (σ i) = true) (Classical.propDecidable _) (σ i) (cc_last ce ea σ r i)
def cc_Fit (m : Nat) (ce : Nat → Nat) (wr : Nat → Prop) (so ea σ : Nat → Nat) (n : Nat) : Prop :=
  ∀ r, r < m → ¬ wr r → cc_last ce ea σ r n = so r
section
variable {us ce : Nat → Nat} {wr : Nat → Prop} {so ea : Nat → Nat} {m : Nat}
theorem cc_W_t (v : Nat) : ∀ m, (cc_W wr m).testBit v = true ↔ v < m ∧ wr v
  | 0 => by
    show (0 : Nat).testBit v = true ↔ _
    rw [Nat.zero_testBit]
    exact ⟨fun h => absurd h (by decide), fun h => absurd h.1 (Nat.not_lt_zero _)⟩
  | k + 1 => by
    have ih := cc_W_t v k
    by_cases c : wr k
    · have e : cc_W wr (k + 1) = cc_W wr k ||| 2 ^ k := if_pos c
      rw [e, cc_o2, ih]
      constructor
      · rintro (⟨a, b⟩ | rfl)
        · exact ⟨by omega, b⟩
        · exact ⟨by omega, c⟩
      · rintro ⟨a, b⟩
        rcases Nat.lt_or_ge v k with z | z
        · exact Or.inl ⟨z, b⟩
        · exact Or.inr (by omega)
    · have e : cc_W wr (k + 1) = cc_W wr k := if_neg c
      rw [e, ih]
      constructor
      · rintro ⟨a, b⟩; exact ⟨by omega, b⟩
      · rintro ⟨a, b⟩
        rcases Nat.lt_or_ge v k with z | z
        · exact ⟨z, b⟩
        · have : v = k := by omega
          subst this
          exact absurd b c
theorem cc_W_lt : ∀ m, cc_W wr m < 2 ^ m := fun m => Nat.lt_pow_two_of_testBit _ (fun i hi => cc_f (fun z => by
  have := ((cc_W_t i m).mp z).1
  omega))
theorem cc_W_256 (hm : m ≤ 8) : cc_W wr m < 256 := Nat.lt_of_lt_of_le (cc_W_lt m) (Nat.pow_le_pow_right (n := 2) (by decide) hm)
theorem cc_n_wc {L : Nat} : ∀ m, (∀ v, v < m → (L.testBit v = true ↔ wr v)) → cc_n L m = cc_wc wr m
  | 0, _ => rfl
  | k + 1, h => by
    have ih := cc_n_wc k (fun v hv => h v (by omega))
    have t := h k (by omega)
    by_cases c : wr k
    · have e : cc_wc wr (k + 1) = cc_wc wr k + 1 := if_pos c
      show cc_n L k + (L.testBit k).toNat = _
      rw [e, ih, t.mpr c]; rfl
    · have e : cc_wc wr (k + 1) = cc_wc wr k := if_neg c
      show cc_n L k + (L.testBit k).toNat = _
      rw [e, ih, cc_f (fun z => c (t.mp z))]; rfl
theorem cc_n_hi {L m : Nat} (h : ∀ v, m ≤ v → L.testBit v = false) : ∀ d, cc_n L (m + d) = cc_n L m
  | 0 => rfl
  | d + 1 => by
    show cc_n L (m + d) + (L.testBit (m + d)).toNat = _
    rw [h (m + d) (by omega), cc_n_hi h d]; rfl
theorem cc_wn (hm : m ≤ 8) : cc_n (cc_W wr m) 8 = cc_wc wr m := by
  have a : cc_n (cc_W wr m) m = cc_wc wr m := cc_n_wc m (fun v hv => (cc_W_t v m).trans ⟨fun h => h.2, fun h => ⟨hv, h⟩⟩)
  have b := cc_n_hi (L := cc_W wr m) (m := m) (fun v hv => cc_f (fun z => by
    have := ((cc_W_t v m).mp z).1
    omega)) (8 - m)
  rw [show m + (8 - m) = 8 by omega] at b
  rw [b, a]
theorem cc_wc_le : ∀ m, cc_wc wr m ≤ m
  | 0 => Nat.le_refl _
  | k + 1 => by
    have ih := cc_wc_le k
    by_cases c : wr k
    · have e : cc_wc wr (k + 1) = cc_wc wr k + 1 := if_pos c
      omega
    · have e : cc_wc wr (k + 1) = cc_wc wr k := if_neg c
      omega
theorem cc_wc7 (H : cc_H m us ce wr so ea) (hm : m ≤ 8) : cc_wc wr m ≤ 7 := by
  rcases Nat.lt_or_ge m 8 with z | z
  · have := cc_wc_le (wr := wr) m
    omega
  · have e : m = 8 := by omega
    subst e
    have c : ¬ wr 7 := fun h => absurd ((H 7 (by omega)).2.2.2.2.2.1 h) (by decide)
    have e : cc_wc wr 8 = cc_wc wr 7 := if_neg c
    rw [e]
    exact cc_wc_le 7
theorem cc_se_t (r v : Nat) : ∀ i, (cc_se ce wr ea r i).testBit v = true ↔ v < i ∧ wr v ∧ ce v = ce r ∧ (ea r ||| 2 ^ r).testBit v = true
  | 0 => by
    show (0 : Nat).testBit v = true ↔ _
    rw [Nat.zero_testBit]
    exact ⟨fun h => absurd h (by decide), fun h => absurd h.1 (Nat.not_lt_zero _)⟩
  | k + 1 => by
    have ih := cc_se_t r v k
    by_cases c : wr k ∧ ce k = ce r ∧ (ea r ||| 2 ^ r).testBit k = true
    · have e : cc_se ce wr ea r (k + 1) = cc_se ce wr ea r k ||| 2 ^ k := if_pos c
      rw [e, cc_o2, ih]
      constructor
      · rintro (⟨a, b⟩ | rfl)
        · exact ⟨by omega, b⟩
        · exact ⟨by omega, c⟩
      · rintro ⟨a, b⟩
        rcases Nat.lt_or_ge v k with z | z
        · exact Or.inl ⟨z, b⟩
        · exact Or.inr (by omega)
    · have e : cc_se ce wr ea r (k + 1) = cc_se ce wr ea r k := if_neg c
      rw [e, ih]
      constructor
      · rintro ⟨a, b⟩; exact ⟨by omega, b⟩
      · rintro ⟨a, b⟩
        rcases Nat.lt_or_ge v k with z | z
        · exact ⟨z, b⟩
        · have : v = k := by omega
          subst this
          exact absurd b c
theorem cc_se_r {r v : Nat} : (cc_se ce wr ea r r).testBit v = true ↔ v < r ∧ wr v ∧ ce v = ce r ∧ (ea r).testBit v = true := by
  rw [cc_se_t, cc_o2]
  constructor
  · rintro ⟨a, b, c, d⟩
    exact ⟨a, b, c, d.elim id (fun e => by omega)⟩
  · rintro ⟨a, b, c, d⟩
    exact ⟨a, b, c, Or.inl d⟩
theorem cc_se_lt {r i : Nat} (hi : i ≤ 8) : cc_se ce wr ea r i < 256 := Nat.lt_pow_two_of_testBit (n := 8) _ (fun v hv => cc_f (fun z => by
  have := ((cc_se_t r v i).mp z).1
  omega))
theorem cc_mq_lt {W w : Nat} (hW : W < 256) : ∀ i, i ≤ 9 → cc_mq W ce wr so ea i w < 256
  | 0, _ => Nat.and_lt_two_pow (n := 8) _ hW
  | i + 1, hi => by
    have ih := cc_mq_lt (w := w) hW i (by omega)
    by_cases c : ¬ wr i ∧ so i = w ∧ so i ≠ 7
    · have e : cc_mq W ce wr so ea (i + 1) w = cc_mq W ce wr so ea i w ||| cc_d (cc_se ce wr ea i i) (2 ^ w) := if_pos c
      rw [e]
      exact Nat.or_lt_two_pow (n := 8) ih (Nat.lt_of_le_of_lt (cc_dle _ _) (cc_se_lt (by omega)))
    · have e : cc_mq W ce wr so ea (i + 1) w = cc_mq W ce wr so ea i w := if_neg c
      rw [e]; exact ih
theorem cc_mq_t {W w v : Nat} : ∀ i, i ≤ 8 → ((cc_mq W ce wr so ea i w).testBit v = true ↔
    ((ea w).testBit v = true ∧ W.testBit v = true) ∨ ∃ r, r < i ∧ ¬ wr r ∧ so r = w ∧ so r ≠ 7 ∧ (cc_se ce wr ea r r).testBit v = true ∧ w ≠ v)
  | 0, _ => by
    show (ea w &&& W).testBit v = true ↔ _
    rw [cc_at]
    exact ⟨Or.inl, fun h => h.elim id (fun ⟨r, hr, _⟩ => absurd hr (Nat.not_lt_zero _))⟩
  | i + 1, hi => by
    have ih := cc_mq_t (W := W) (w := w) (v := v) i (by omega)
    by_cases c : ¬ wr i ∧ so i = w ∧ so i ≠ 7
    · have e : cc_mq W ce wr so ea (i + 1) w = cc_mq W ce wr so ea i w ||| cc_d (cc_se ce wr ea i i) (2 ^ w) := if_pos c
      have hs : cc_se ce wr ea i i < 256 := cc_se_lt (by omega)
      rw [e, cc_ot, ih, cc_dm (by omega)]
      constructor
      · rintro ((a | ⟨r, hr, a⟩) | ⟨a, b⟩)
        · exact Or.inl a
        · exact Or.inr ⟨r, by omega, a⟩
        · exact Or.inr ⟨i, by omega, c.1, c.2.1, c.2.2, a, b⟩
      · rintro (a | ⟨r, hr, a⟩)
        · exact Or.inl (Or.inl a)
        · rcases Nat.lt_or_ge r i with z | z
          · exact Or.inl (Or.inr ⟨r, z, a⟩)
          · have : r = i := by omega
            subst this
            exact Or.inr a.2.2.2
    · have e : cc_mq W ce wr so ea (i + 1) w = cc_mq W ce wr so ea i w := if_neg c
      rw [e, ih]
      constructor
      · rintro (a | ⟨r, hr, a⟩)
        · exact Or.inl a
        · exact Or.inr ⟨r, by omega, a⟩
      · rintro (a | ⟨r, hr, a⟩)
        · exact Or.inl a
        · rcases Nat.lt_or_ge r i with z | z
          · exact Or.inr ⟨r, z, a⟩
          · have : r = i := by omega
            subst this
            exact absurd ⟨a.1, a.2.1, a.2.2.1⟩ c
theorem cc_last_s {σ : Nat → Nat} {r : Nat} : ∀ n, (cc_last ce ea σ r n = 7 ∧ ∀ i, i < n → ¬ (ce (σ i) = ce r ∧ (ea r).testBit (σ i) = true)) ∨
    ∃ i, i < n ∧ cc_last ce ea σ r n = σ i ∧ (ce (σ i) = ce r ∧ (ea r).testBit (σ i) = true) ∧ ∀ j, i < j → j < n → ¬ (ce (σ j) = ce r ∧ (ea r).testBit (σ j) = true)
  | 0 => Or.inl ⟨rfl, fun i hi => absurd hi (Nat.not_lt_zero _)⟩
  | n + 1 => by
    have ih := cc_last_s (σ := σ) (r := r) n
    by_cases c : ce (σ n) = ce r ∧ (ea r).testBit (σ n) = true
    · have e : cc_last ce ea σ r (n + 1) = σ n := if_pos c
      exact Or.inr ⟨n, by omega, e, c, fun j h1 h2 => by omega⟩
    · have e : cc_last ce ea σ r (n + 1) = cc_last ce ea σ r n := if_neg c
      rw [e]
      rcases ih with ⟨a, b⟩ | ⟨i, hi, a, b, d⟩
      · refine Or.inl ⟨a, fun i hi => ?_⟩
        rcases Nat.lt_or_ge i n with z | z
        · exact b i z
        · have : i = n := by omega
          rw [this]; exact c
      · refine Or.inr ⟨i, by omega, a, b, fun j h1 h2 => ?_⟩
        rcases Nat.lt_or_ge j n with z | z
        · exact d j h1 z
        · have : j = n := by omega
          rw [this]; exact c
end
section
variable {us ce : Nat → Nat} {wr : Nat → Prop} {so ea : Nat → Nat} {m : Nat}
theorem cc_A (H : cc_H m us ce wr so ea) (hm : m ≤ 8) {n : Nat} {σ : Nat → Nat} (hE : cc_E (cc_W wr m) σ n) (hn : cc_n (cc_W wr m) 8 = n)
    (hR : cc_Row ea σ n) (hF : cc_Fit m ce wr so ea σ n) :
    cc_N m ce wr so ea ∧ ∀ j, j < n → ∀ v, (cc_mq (cc_W wr m) ce wr so ea m (σ j)).testBit v = true → ∃ i, i < j ∧ σ i = v := by
  have hW := cc_W_256 (wr := wr) hm
  have w7 : ∀ j, j < n → σ j < m ∧ wr (σ j) ∧ σ j < 7 := fun j hj => by
    have a := (cc_W_t (σ j) m).mp (cc_E_in hW hE hj)
    exact ⟨a.1, a.2, (H _ a.1).2.2.2.2.2.1 a.2⟩
  constructor
  · intro r hr hwr hso
    apply cc_ext
    intro v
    rw [Nat.zero_testBit, cc_se_r]
    constructor
    · rintro ⟨a, b, c, d⟩
      obtain ⟨i, hi, e⟩ := cc_E_all hW hE hn ((cc_W_t v m).mpr ⟨by omega, b⟩)
      have f := hF r hr hwr
      rcases cc_last_s (ce := ce) (ea := ea) (σ := σ) (r := r) n with ⟨x, y⟩ | ⟨i', hi', x, y, z⟩
      · exact absurd ⟨by rw [e]; exact c, by rw [e]; exact d⟩ (y i hi)
      · have := (w7 i' hi').2.2
        omega
    · intro h; exact absurd h (by decide)
  · intro j hj v hv
    have sj := w7 j hj
    rcases (cc_mq_t m hm).mp hv with ⟨a, b⟩ | ⟨r, hr, hwr, hso, h7, hse, hne⟩
    · obtain ⟨i, hi, e⟩ := cc_E_all hW hE hn b
      rcases Nat.lt_trichotomy i j with z | z | z
      · exact ⟨i, z, e⟩
      · subst z
        rw [← e] at a
        have := cc_tl (H _ sj.1).2.2.1 a
        omega
      · have t := (hR i hi j z).2
        rw [e, a] at t
        exact absurd t (by decide)
    · obtain ⟨a, b, c, d⟩ := cc_se_r.mp hse
      obtain ⟨i, hi, e⟩ := cc_E_all hW hE hn ((cc_W_t v m).mpr ⟨by omega, b⟩)
      have f := hF r hr hwr
      rw [hso] at f
      rcases cc_last_s (ce := ce) (ea := ea) (σ := σ) (r := r) n with ⟨x, y⟩ | ⟨i', hi', x, y, z⟩
      · omega
      · have ei : i' = j := cc_E_inj hW hE hi' hj (by omega)
        subst ei
        rcases Nat.lt_trichotomy i i' with q | q | q
        · exact ⟨i, q, e⟩
        · subst q; exact absurd e hne
        · exact absurd ⟨by rw [e]; exact c, by rw [e]; exact d⟩ (z i q hi)
theorem cc_B (H : cc_H m us ce wr so ea) (hm : m ≤ 8) {n : Nat} {σ : Nat → Nat} (hE : cc_E (cc_W wr m) σ n) (hn : cc_n (cc_W wr m) 8 = n)
    (hN : cc_N m ce wr so ea) (hc : ∀ j, j < n → ∀ v, (cc_mq (cc_W wr m) ce wr so ea m (σ j)).testBit v = true → ∃ i, i < j ∧ σ i = v) :
    cc_Row ea σ n ∧ cc_Fit m ce wr so ea σ n := by
  have hW := cc_W_256 (wr := wr) hm
  have w7 : ∀ j, j < n → σ j < m ∧ wr (σ j) := fun j hj => (cc_W_t (σ j) m).mp (cc_E_in hW hE hj)
  constructor
  · intro i hi j hj
    refine ⟨fun e => cc_E_ne hW hE hj hi e.symm, cc_f (fun z => ?_)⟩
    obtain ⟨k, hk, e⟩ := hc j (by omega) (σ i) ((cc_mq_t m hm).mpr (Or.inl ⟨z, cc_E_in hW hE hi⟩))
    have := cc_E_inj hW hE (by omega) hi e
    omega
  · intro r hr hwr
    have sl := cc_last_s (ce := ce) (ea := ea) (σ := σ) (r := r) n
    have mt : ∀ i, i < n → (ce (σ i) = ce r ∧ (ea r).testBit (σ i) = true) → (cc_se ce wr ea r r).testBit (σ i) = true := fun i hi h =>
      cc_se_r.mpr ⟨cc_tl (H r hr).2.2.1 h.2, (w7 i hi).2, h.1, h.2⟩
    rcases (H r hr).2.2.2.2.2.2 hwr with h7 | ⟨a, b, c, d, e⟩
    · rw [h7]
      rcases sl with ⟨x, _⟩ | ⟨i, hi, x, y, _⟩
      · exact x
      · have t := mt i hi y
        rw [hN r hr hwr h7, Nat.zero_testBit] at t
        exact absurd t (by decide)
    · obtain ⟨i0, hi0, e0⟩ := cc_E_all hW hE hn ((cc_W_t (so r) m).mpr ⟨by omega, c⟩)
      rcases sl with ⟨_, y⟩ | ⟨i, hi, x, y, z⟩
      · exact absurd ⟨by rw [e0]; exact d, by rw [e0]; exact e⟩ (y i0 hi0)
      · rw [x]
        rcases Nat.lt_trichotomy i0 i with q | q | q
        · have hne : so r ≠ σ i := by rw [← e0]; exact cc_E_ne hW hE q hi
          obtain ⟨k, hk, ek⟩ := hc i0 hi0 (σ i) ((cc_mq_t m hm).mpr (Or.inr ⟨r, hr, hwr, e0.symm, by omega, mt i hi y, by rw [e0]; exact hne⟩))
          have := cc_E_inj hW hE (by omega) hi ek
          omega
        · subst q; exact e0
        · exact absurd ⟨by rw [e0]; exact d, by rw [e0]; exact e⟩ (z i0 q hi0)
theorem cc_mq_W {w v : Nat} (hm : m ≤ 8) (h : (cc_mq (cc_W wr m) ce wr so ea m w).testBit v = true) : (cc_W wr m).testBit v = true := by
  rcases (cc_mq_t m hm).mp h with ⟨_, b⟩ | ⟨r, hr, _, _, _, hse, _⟩
  · exact b
  · obtain ⟨a, b, _, _⟩ := cc_se_r.mp hse
    exact (cc_W_t v m).mpr ⟨by omega, b⟩
/-- Y says yes -/
theorem cc_CVy (H : cc_H m us ce wr so ea) (hm : m ≤ 8) {num : Nat} {σ : Nat → Nat} (hS : cc_S (cc_W wr m) (cc_wc wr m) num σ)
    (hR : cc_Row ea σ (cc_wc wr m)) (hF : cc_Fit m ce wr so ea σ (cc_wc wr m)) : cc_CV m ce wr so ea := by
  have hW := cc_W_256 (wr := wr) hm
  have hn := cc_wn (wr := wr) hm
  have hE := cc_S_E hS
  obtain ⟨hN, hc⟩ := cc_A H hm hE hn hR hF
  refine ⟨hN, cc_ext (fun v => ⟨fun h => (cc_W_t v m).mpr (cc_G_in 7 v h), fun h => ?_⟩)⟩
  obtain ⟨j, hj, e⟩ := cc_E_all hW hE hn h
  rw [← e]
  have w7 := cc_wc7 H hm
  refine cc_G_all (n := cc_wc wr m) (fun j hj => ?_) hc 7 j (by omega) hj
  have a := (cc_W_t (σ j) m).mp (cc_E_in hW hE hj)
  have b := cc_mq_lt (ce := ce) (wr := wr) (so := so) (ea := ea) (w := σ j) hW m (by omega)
  exact ⟨a.1, a.2, by omega⟩
/-- Y says no -/
theorem cc_CVn (H : cc_H m us ce wr so ea) (hm : m ≤ 8)
    (h : ∀ num, num < cc_fa (cc_wc wr m) → ∃ σ, cc_S (cc_W wr m) (cc_wc wr m) num σ ∧ ¬ (cc_Row ea σ (cc_wc wr m) ∧ cc_Fit m ce wr so ea σ (cc_wc wr m))) :
    ¬ cc_CV m ce wr so ea := by
  rintro ⟨hN, hG⟩
  have hW := cc_W_256 (wr := wr) hm
  have hn := cc_wn (wr := wr) hm
  obtain ⟨τ, t1, t2⟩ := cc_ord (M := fun w v => (cc_mq (cc_W wr m) ce wr so ea m w).testBit v = true) (cc_wc wr m) (cc_W wr m) hW hn (fun B b1 b2 w hw => by
    have b := cc_G_bad (wr := wr) (M := cc_mq (cc_W wr m) ce wr so ea m) (m := m) (B := B)
      (fun w _ => Nat.lt_trans (cc_mq_lt hW m (by omega)) (by decide)) b2 7 w hw
    rw [hG] at b
    exact b (b1 w hw))
  obtain ⟨num, h1, h2⟩ := cc_S_ex hW hn t1
  obtain ⟨σ, s1, s2⟩ := h num h1
  have e := h2 σ s1
  refine s2 (cc_B H hm (cc_S_E s1) hn hN (fun j hj v hv => ?_))
  rw [e j hj] at hv
  obtain ⟨i, hi, ei⟩ := t2 j hj v hv (cc_mq_W hm hv)
  exact ⟨i, hi, by rw [e i (by omega)]; exact ei⟩
end
end
section
/-! adding an operation; the two pictures of a history -/
def cc_en (us ea : Nat → Nat) (user s : Nat) : Nat → Nat
  | 0 => 0
  | a + 1 => if us a = user ∨ a = s then cc_en us ea user s a ||| (ea a ||| 2 ^ a) else cc_en us ea user s a
def cc_u {α : Type} (f : Nat → α) (n : Nat) (x : α) : Nat → α := fun i => if i = n then x else f i
theorem cc_us {α : Type} (f : Nat → α) (n : Nat) (x : α) : cc_u f n x n = x := if_pos rfl
theorem cc_un {α : Type} (f : Nat → α) {n i : Nat} (x : α) (h : i ≠ n) : cc_u f n x i = f i := if_neg h
def cc_s (x : Nat) : Int32 := if x = 7 then -1 else nI x
theorem cc_s7 : cc_s 7 = -1 := rfl
theorem cc_sn {x : Nat} (h : x ≠ 7) : cc_s x = nI x := if_neg h
theorem cc_s_lt0 {x : Nat} (h : x ≤ 7) : cc_s x < 0 ↔ x = 7 := by
  by_cases e : x = 7
  · subst e; exact ⟨fun _ => rfl, fun _ => by decide⟩
  · rw [cc_sn e]; exact ⟨fun z => absurd z (nI_pos (by omega)), fun z => absurd z e⟩
theorem cc_s_eq {x y : Nat} (hx : x ≤ 7) (hy : y ≤ 7) : cc_s x = cc_s y ↔ x = y :=
  (by decide +kernel : ∀ x : Fin 8, ∀ y : Fin 8, cc_s x.val = cc_s y.val ↔ x.val = y.val) ⟨x, by omega⟩ ⟨y, by omega⟩
section
variable {us ce : Nat → Nat} {wr : Nat → Prop} {so ea : Nat → Nat} {n : Nat}
theorem cc_en_t {user s k : Nat} : ∀ i, (cc_en us ea user s i).testBit k = true ↔ ∃ a, a < i ∧ (us a = user ∨ a = s) ∧ ((ea a).testBit k = true ∨ a = k)
  | 0 => by
    show (0 : Nat).testBit k = true ↔ _
    rw [Nat.zero_testBit]
    exact ⟨fun h => absurd h (by decide), fun ⟨a, ha, _⟩ => absurd ha (Nat.not_lt_zero _)⟩
  | i + 1 => by
    have ih := cc_en_t (user := user) (s := s) (k := k) i
    by_cases c : us i = user ∨ i = s
    · have e : cc_en us ea user s (i + 1) = cc_en us ea user s i ||| (ea i ||| 2 ^ i) := if_pos c
      rw [e, cc_ot, cc_o2, ih]
      constructor
      · rintro (⟨a, h1, h2⟩ | h)
        · exact ⟨a, by omega, h2⟩
        · exact ⟨i, by omega, c, h⟩
      · rintro ⟨a, h1, h2, h3⟩
        rcases Nat.lt_or_ge a i with z | z
        · exact Or.inl ⟨a, z, h2, h3⟩
        · have : a = i := by omega
          subst this
          exact Or.inr h3
    · have e : cc_en us ea user s (i + 1) = cc_en us ea user s i := if_neg c
      rw [e, ih]
      constructor
      · rintro ⟨a, h1, h2⟩; exact ⟨a, by omega, h2⟩
      · rintro ⟨a, h1, h2, h3⟩
        rcases Nat.lt_or_ge a i with z | z
        · exact ⟨a, z, h2, h3⟩
        · have : a = i := by omega
          subst this
          exact absurd h2 c
theorem cc_en_lt (H : cc_H n us ce wr so ea) {user s : Nat} : ∀ i, i ≤ n → cc_en us ea user s i < 2 ^ i := fun i hi =>
  Nat.lt_pow_two_of_testBit _ (fun k hk => cc_f (fun z => by
    obtain ⟨a, h1, _, h3⟩ := (cc_en_t i).mp z
    rcases h3 with h3 | h3
    · have := cc_tl (H a (by omega)).2.2.1 h3
      omega
    · omega))
theorem cc_Hle {n' : Nat} (H : cc_H n us ce wr so ea) (h : n' ≤ n) : cc_H n' us ce wr so ea := fun i hi => H i (by omega)
theorem cc_Hadd (H : cc_H n us ce wr so ea) (hn : n ≤ 7) {user cell s : Nat} {w : Prop} (hu : user < 3) (hc : cell < 2) (hw : w → n < 7) (hs : s ≤ 7)
    (hr : ¬ w → s = 7 ∨ (s < n ∧ wr s ∧ ce s = cell)) :
    cc_H (n + 1) (cc_u us n user) (cc_u ce n cell) (cc_u wr n w) (cc_u so n s) (cc_u ea n (cc_en us ea user s n)) := by
  intro i hi
  rcases Nat.lt_or_ge i n with z | z
  · have ne : i ≠ n := by omega
    obtain ⟨h1, h2, h3, h4, h5, h6, h7⟩ := H i z
    rw [cc_un us _ ne, cc_un ce _ ne, cc_un wr _ ne, cc_un so _ ne, cc_un ea _ ne]
    refine ⟨h1, h2, h3, ?_, h5, h6, ?_⟩
    · intro j hj k hk
      have jl := cc_tl h3 hj
      rw [cc_un ea _ (by omega)] at hk
      exact h4 j hj k hk
    · intro hwi
      rcases h7 hwi with a | ⟨a, b, c, d, e⟩
      · exact Or.inl a
      · rw [cc_un wr _ (by omega), cc_un ce _ (by omega)]
        exact Or.inr ⟨a, b, c, d, e⟩
  · have e : i = n := by omega
    subst e
    rw [cc_us, cc_us, cc_us, cc_us, cc_us]
    refine ⟨hu, hc, cc_en_lt H i (Nat.le_refl _), ?_, hs, hw, ?_⟩
    · intro j hj k hk
      have jl := cc_tl (cc_en_lt H i (Nat.le_refl _)) hj
      rw [cc_un ea _ (by omega)] at hk
      obtain ⟨a, h1, h2, h3⟩ := (cc_en_t i).mp hj
      refine (cc_en_t i).mpr ⟨a, h1, h2, Or.inl ?_⟩
      rcases h3 with h3 | h3
      · exact (H a h1).2.2.2.1 j h3 k hk
      · rw [h3]; exact hk
    · intro hwi
      rcases hr hwi with a | ⟨a, b, c⟩
      · exact Or.inl a
      · rw [cc_un wr _ (by omega), cc_un ce _ (by omega)]
        exact Or.inr ⟨a, by omega, b, c, (cc_en_t i).mpr ⟨s, a, Or.inr rfl, Or.inr rfl⟩⟩
end
def cc_X (n : Nat) (us ce : Nat → Nat) (wr : Nat → Prop) (so ea : Nat → Nat) (aU aC aW aS aP : Nat → Int32) : Prop :=
  ∀ i, i < n → aU i = nI (us i) ∧ aC i = nI (ce i) ∧ aW i = cc_b (wr i) ∧ aS i = nI (so i) ∧ aP i = nI (ea i ||| 2 ^ i)
def cc_Y (n : Nat) (us ce : Nat → Nat) (wr : Nat → Prop) (so ea : Nat → Nat) (aU aC aW aS aE : Nat → Int32) : Prop :=
  ∀ i, i < n → aU i = nI (us i) ∧ aC i = nI (ce i) ∧ aW i = cc_b (wr i) ∧ aS i = cc_s (so i) ∧ aE i = nI (ea i)
section
variable {us ce : Nat → Nat} {wr : Nat → Prop} {so ea : Nat → Nat} {n : Nat} {aU aC aW aS aP : Nat → Int32}
theorem cc_Xle {n' : Nat} (h : cc_X n us ce wr so ea aU aC aW aS aP) (hn : n' ≤ n) : cc_X n' us ce wr so ea aU aC aW aS aP := fun i hi => h i (by omega)
theorem cc_Yle {n' : Nat} (h : cc_Y n us ce wr so ea aU aC aW aS aP) (hn : n' ≤ n) : cc_Y n' us ce wr so ea aU aC aW aS aP := fun i hi => h i (by omega)
theorem cc_Xadd (h : cc_X n us ce wr so ea aU aC aW aS aP) (user cell s e : Nat) (w : Prop) {x1 x2 x3 x4 x5 : Int32}
    (e1 : x1 = nI user) (e2 : x2 = nI cell) (e3 : x3 = cc_b w) (e4 : x4 = nI s) (e5 : x5 = nI (e ||| 2 ^ n)) :
    cc_X (n + 1) (cc_u us n user) (cc_u ce n cell) (cc_u wr n w) (cc_u so n s) (cc_u ea n e) (upd aU n x1) (upd aC n x2) (upd aW n x3) (upd aS n x4) (upd aP n x5) := by
  intro i hi
  rcases Nat.lt_or_ge i n with z | z
  · have ne : i ≠ n := by omega
    rw [cc_un us _ ne, cc_un ce _ ne, cc_un wr _ ne, cc_un so _ ne, cc_un ea _ ne, pk_un ne, pk_un ne, pk_un ne, pk_un ne, pk_un ne]
    exact h i z
  · have e : i = n := by omega
    subst e
    rw [cc_us, cc_us, cc_us, cc_us, cc_us, pk_us, pk_us, pk_us, pk_us, pk_us]
    exact ⟨e1, e2, e3, e4, e5⟩
theorem cc_Yadd (h : cc_Y n us ce wr so ea aU aC aW aS aP) (user cell s e : Nat) (w : Prop) {x1 x2 x3 x4 x5 : Int32}
    (e1 : x1 = nI user) (e2 : x2 = nI cell) (e3 : x3 = cc_b w) (e4 : x4 = cc_s s) (e5 : x5 = nI e) :
    cc_Y (n + 1) (cc_u us n user) (cc_u ce n cell) (cc_u wr n w) (cc_u so n s) (cc_u ea n e) (upd aU n x1) (upd aC n x2) (upd aW n x3) (upd aS n x4) (upd aP n x5) := by
  intro i hi
  rcases Nat.lt_or_ge i n with z | z
  · have ne : i ≠ n := by omega
    rw [cc_un us _ ne, cc_un ce _ ne, cc_un wr _ ne, cc_un so _ ne, cc_un ea _ ne, pk_un ne, pk_un ne, pk_un ne, pk_un ne, pk_un ne]
    exact h i z
  · have e : i = n := by omega
    subst e
    rw [cc_us, cc_us, cc_us, cc_us, cc_us, pk_us, pk_us, pk_us, pk_us, pk_us]
    exact ⟨e1, e2, e3, e4, e5⟩
theorem cc_Xup (h : cc_X n us ce wr so ea aU aC aW aS aP) {x1 x2 x3 x4 x5 : Int32} :
    cc_X n us ce wr so ea (upd aU n x1) (upd aC n x2) (upd aW n x3) (upd aS n x4) (upd aP n x5) := by
  intro i hi
  have ne : i ≠ n := by omega
  rw [pk_un ne, pk_un ne, pk_un ne, pk_un ne, pk_un ne]
  exact h i hi
theorem cc_Yup (h : cc_Y n us ce wr so ea aU aC aW aS aP) {x1 x2 x3 x4 x5 : Int32} :
    cc_Y n us ce wr so ea (upd aU n x1) (upd aC n x2) (upd aW n x3) (upd aS n x4) (upd aP n x5) := by
  intro i hi
  have ne : i ≠ n := by omega
  rw [pk_un ne, pk_un ne, pk_un ne, pk_un ne, pk_un ne]
  exact h i hi
end
end
section
/-! the two programs' codes of a state; the sum of choices -/
section
variable {ce : Nat → Nat} {wr : Nat → Prop} {so ea : Nat → Nat} {P : Nat} {J : Nat → Prop}
theorem cc_x1 {k S : Nat} (hP : P < 128) (hk : P.testBit k = true) (hS : S.testBit k = false) (hsub : ∀ j, (ea k).testBit j = true → P.testBit j = true)
    (hlt : ea k < 2 ^ k) : ((ea k ||| 2 ^ k) &&& cc_d P S) = 2 ^ k ↔ ∀ j, (ea k).testBit j = true → S.testBit j = true := by
  have hP' : P < 2 ^ 32 := by omega
  constructor
  · intro h j hj
    have jk := cc_tl hlt hj
    have t : ((ea k ||| 2 ^ k) &&& cc_d P S).testBit j = false := by rw [h]; exact Nat.testBit_two_pow_of_ne (by omega)
    rw [Nat.testBit_and, cc_o2.mpr (Or.inl hj), cc_dt hP', hsub j hj] at t
    cases e : S.testBit j with
    | true => rfl
    | false => rw [e] at t; exact absurd t (by decide)
  · intro h
    apply cc_ext
    intro v
    rw [cc_at, cc_o2, cc_dt hP', Nat.testBit_two_pow, decide_eq_true_eq, Bool.and_eq_true]
    constructor
    · rintro ⟨a | a, b, c⟩
      · rw [h v a] at c; exact absurd c (by decide)
      · exact a
    · rintro rfl
      exact ⟨Or.inr rfl, hk, by rw [hS]; rfl⟩
end
theorem cc_hi {S m : Nat} (hm : m < 64) : S * 64 + m = (S * 64) ||| m := by
  have h := Nat.two_pow_add_eq_or_of_lt (i := 6) hm S
  rw [show 2 ^ 6 * S = S * 64 from Nat.mul_comm _ _] at h
  exact h
theorem cc_o64 (a b : Nat) : a * 64 ||| b * 64 = (a ||| b) * 64 := by
  have h := Nat.shiftLeft_or_distrib (i := 6) (a := a) (b := b)
  rw [Nat.shiftLeft_eq, Nat.shiftLeft_eq, Nat.shiftLeft_eq] at h
  exact h.symm
theorem cc_long {S m k : Nat} (hm : m < 64) : (S * 64 + m) ||| (2 ^ k * 64) = (S ||| 2 ^ k) * 64 + m := by
  rw [cc_hi hm, cc_hi hm, Nat.or_assoc, Nat.or_comm m, ← Nat.or_assoc, cc_o64]
theorem cc_k0 : ∀ S : Fin 128, cc_d (S.val * 64) 7 = S.val * 64 := by decide +kernel
theorem cc_k3 : ∀ S : Fin 128, cc_d (S.val * 64) 56 = S.val * 64 := by decide +kernel
theorem cc_m0 : ∀ q p k : Fin 8, cc_d (q.val * 8 + p.val) 7 ||| k.val = q.val * 8 + k.val := by decide +kernel
theorem cc_m3 : ∀ q p k : Fin 8, cc_d (q.val * 8 + p.val) 56 ||| (k.val * 8) = k.val * 8 + p.val := by decide +kernel
theorem cc_dor (a b c : Nat) : cc_d (a ||| b) c = cc_d a c ||| cc_d b c := Nat.and_or_distrib_right _ _ _
theorem cc_w0 {S q p k : Nat} (hS : S < 128) (hq : q ≤ 7) (hp : p ≤ 7) (hk : k ≤ 7) : cc_d (S * 64 + (q * 8 + p)) 7 ||| k = cc_EX S k q := by
  have a := cc_k0 ⟨S, hS⟩
  have b := cc_m0 ⟨q, by omega⟩ ⟨p, by omega⟩ ⟨k, by omega⟩
  dsimp only at a b
  unfold cc_EX
  rw [cc_hi (by omega), cc_dor, Nat.or_assoc, a, b, ← cc_hi (by omega)]
theorem cc_w3 {S q p k : Nat} (hS : S < 128) (hq : q ≤ 7) (hp : p ≤ 7) (hk : k ≤ 7) : cc_d (S * 64 + (q * 8 + p)) 56 ||| (k * 8) = cc_EX S p k := by
  have a := cc_k3 ⟨S, hS⟩
  have b := cc_m3 ⟨q, by omega⟩ ⟨p, by omega⟩ ⟨k, by omega⟩
  dsimp only at a b
  unfold cc_EX
  rw [cc_hi (by omega), cc_dor, Nat.or_assoc, a, b, ← cc_hi (by omega)]
theorem cc_EX6 {S p q : Nat} (hp : p ≤ 7) (hq : q ≤ 7) : cc_EX S p q / 64 = S := by unfold cc_EX; omega
theorem cc_EXlt {S p q : Nat} (hS : S < 128) (hp : p ≤ 7) (hq : q ≤ 7) : cc_EX S p q < 8192 := by unfold cc_EX; omega
theorem cc_EXp {S p q : Nat} (hp : p ≤ 7) : cc_EX S p q % 8 = p := by unfold cc_EX; omega
theorem cc_EXq {S p q : Nat} (hp : p ≤ 7) (hq : q ≤ 7) : cc_EX S p q / 8 % 8 = q := by unfold cc_EX; omega
theorem cc_EYd {S p q : Nat} (hp : p ≤ 7) (hq : q ≤ 7) : cc_EY S p q / 81 = S := by
  have := cc_yb hp
  have := cc_yb hq
  unfold cc_EY
  omega
theorem cc_EYr {S p q : Nat} (hp : p ≤ 7) (hq : q ≤ 7) : cc_EY S p q % 81 = 9 * cc_y p + cc_y q := by
  have := cc_yb hp
  have := cc_yb hq
  unfold cc_EY
  omega
theorem cc_EYlt {S p q : Nat} (hS : S < 128) (hp : p ≤ 7) (hq : q ≤ 7) : cc_EY S p q < 10368 := by
  have := cc_yb hp
  have := cc_yb hq
  unfold cc_EY
  omega
/-- the sum of 2^s over s below j with C s -/
noncomputable def cc_x (C : Nat → Prop) : Nat → Nat
  | 0 => 0
  | j + 1 => @ite Nat (C j) (Classical.propDecidable _) (cc_x C j + 2 ^ j) (cc_x C j)
theorem cc_x_lt {C : Nat → Prop} : ∀ j, cc_x C j < 2 ^ j
  | 0 => by show 0 < 1; decide
  | j + 1 => by
    have ih := cc_x_lt (C := C) j
    have p : 2 ^ (j + 1) = 2 ^ j + 2 ^ j := by rw [Nat.pow_succ]; omega
    by_cases c : C j
    · have e : cc_x C (j + 1) = cc_x C j + 2 ^ j := if_pos c
      omega
    · have e : cc_x C (j + 1) = cc_x C j := if_neg c
      omega
theorem cc_x_y {C : Nat → Prop} {j : Nat} (h : C j) : cc_x C (j + 1) = cc_x C j + 2 ^ j := if_pos h
theorem cc_x_n {C : Nat → Prop} {j : Nat} (h : ¬ C j) : cc_x C (j + 1) = cc_x C j := if_neg h
theorem cc_x_s {C : Nat → Prop} {n : Nat} : ∀ d, (∀ s, n ≤ s → s < n + d → ¬ C s) → cc_x C (n + d) = cc_x C n
  | 0, _ => rfl
  | d + 1, h => by
    show cc_x C (n + d + 1) = _
    rw [cc_x_n (h (n + d) (by omega) (by omega))]
    exact cc_x_s d (fun s h1 h2 => h s h1 (by omega))
theorem cc_x_or {C : Nat → Prop} {j : Nat} (h : C j) (b : Nat) : (b ||| cc_x C j) ||| 2 ^ j = b ||| cc_x C (j + 1) := by
  rw [cc_x_y h, Nat.or_assoc, Nat.or_two_pow_eq_add_of_lt (cc_x_lt j)]
theorem cc_x_fin {C : Nat → Prop} {n : Nat} (hn : n ≤ 7) (h : ∀ s, n ≤ s → s < 7 → ¬ C s) :
    cc_x C 8 = (@ite Nat (C 7) (Classical.propDecidable _) 128 0) ||| cc_x C n := by
  have e : cc_x C 7 = cc_x C n := by
    have t := cc_x_s (C := C) (n := n) (7 - n) (fun s h1 h2 => h s h1 (by omega))
    rw [show n + (7 - n) = 7 by omega] at t
    exact t
  have l := cc_x_lt (C := C) 7
  show cc_x C (7 + 1) = _
  by_cases c : C 7
  · rw [cc_x_y c, if_pos c, ← e]
    have t := Nat.two_pow_add_eq_or_of_lt (i := 7) l 1
    rw [Nat.mul_one] at t
    rw [Nat.add_comm]
    exact t
  · rw [cc_x_n c, if_neg c, Nat.zero_or, e]
end
section
/-! the component's small methods, and add -/
theorem cc_br {p A B : Prop} (f : ¬ p → A) (g : p → B) : (cc_b p = 0 → A) ∧ (¬ cc_b p = 0 → B) :=
  ⟨fun h => f (cc_b0.mp h), fun h => g (Classical.byContradiction fun z => h (cc_b0.mpr z))⟩
theorem cc_bw {a : Int32} {p A B : Prop} (e : a = cc_b p) (f : ¬ p → A) (g : p → B) : (a = 0 → A) ∧ (¬ a = 0 → B) := by
  subst e
  exact cc_br f g
theorem cc_b1w {a : Int32} {p A B : Prop} (e : a = cc_b p) (f : p → A) (g : ¬ p → B) : (a = 1 → A) ∧ (¬ a = 1 → B) := by
  subst e
  exact ⟨fun h => f (cc_b1.mp h), fun h => g (fun z => h (cc_b1.mpr z))⟩
theorem cc_if {c d A B : Prop} (e : c ↔ d) (f : d → A) (g : ¬ d → B) : (c → A) ∧ (¬ c → B) :=
  ⟨fun h => f (e.mp h), fun h => g (fun z => h (e.mpr z))⟩
theorem cc_nar (p : Prop) : vp_nar .boolean (cc_b p) = cc_b p := by
  rcases cc_b01 p with h | h <;> rw [h] <;> rfl
theorem cc_nar1 : vp_nar .boolean 1 = 1 := rfl
theorem cc_nar0 : vp_nar .boolean 0 = 0 := rfl
def cc_ok (k : Nat) (x : Int32) : Prop := ∃ j : Nat, j < k ∧ x = nI j
theorem cc_okI {k j : Nat} (hk : k < 2 ^ 31) (hj : j < 2 ^ 31) : cc_ok k (nI j) ↔ j < k :=
  ⟨fun ⟨i, hi, e⟩ => by have := (nI_eq hj (by omega)).mp e; omega, fun h => ⟨j, h, rfl⟩⟩
theorem cc_ok0 {k : Nat} {x : Int32} (hk : k < 2 ^ 31) (h : x < 0) : ¬ cc_ok k x := by
  rintro ⟨j, hj, rfl⟩
  exact nI_pos (by omega) h
theorem cc_two {post : Int32 → Prop} {x : Int32} (k : Nat) (hk : k < 2 ^ 31) (h : post (cc_b (cc_ok k x))) :
    (x < 0 → post 0) ∧ (¬ x < 0 → (nI k ≤ x → post 0) ∧ (¬ nI k ≤ x → post 1)) := by
  by_cases a : x < 0
  · rw [cc_bf (cc_ok0 hk a)] at h
    exact br_t a h
  · obtain ⟨j, hj, rfl⟩ := nI_of a
    refine br_f a (pk_le k j (fun z => ?_) (fun z => ?_) rfl rfl hk hj)
    · rw [cc_bf (fun y => by have := (cc_okI hk hj).mp y; omega)] at h
      exact h
    · rw [cc_bt ((cc_okI hk hj).mpr z)] at h
      exact h
theorem cc_xUser {post : Int32 → Prop} {x : Int32} (h : post (cc_b (cc_ok 3 x))) : wpX_isUser post x := cc_two 3 (by decide) h
theorem cc_xCell {post : Int32 → Prop} {x : Int32} (h : post (cc_b (cc_ok 2 x))) : wpX_isCell post x := cc_two 2 (by decide) h
theorem cc_xHas {post : Int32 → Prop} {s k : Nat} (hs : s < 2 ^ 31) (hk : k < 32) (h : post (cc_b (s.testBit k = true))) : wpX_contains post (nI s) (nI k) := by
  unfold wpX_contains
  rw [cc_bit k hk]
  by_cases c : s.testBit k = true
  · rw [cc_bt c] at h
    exact br_f (fun z => by rw [cc_t0 hs, c] at z; exact absurd z (by decide)) h
  · rw [cc_bf c] at h
    exact br_t ((cc_t0 hs).mpr (cc_f c)) h
section
variable {us ce : Nat → Nat} {wr : Nat → Prop} {so ea : Nat → Nat} {n : Nat} {U C W S P M R : Nat → Int32}
theorem cc_xHeld {post : Int32 → Prop} {x : Int32} (hn : n ≤ 8) (h : post (cc_b (cc_ok n x))) : wpX_isHeld post (nI n, U, C, W, S, P, M, R) x :=
  cc_two n (by omega) h
/-- x is the number of a write about the cell -/
def cc_src (n : Nat) (ce : Nat → Nat) (wr : Nat → Prop) (x : Int32) (cell : Nat) : Prop := ∃ j, j < n ∧ x = nI j ∧ wr j ∧ ce j = cell
theorem cc_xAbout {post : Int32 → Prop} {x : Int32} {cell : Nat} (hX : cc_X n us ce wr so ea U C W S P) (hH : cc_H n us ce wr so ea) (hn : n ≤ 8) (hc : cell < 2)
    (h : post (cc_b (cc_src n ce wr x cell))) : wpX_isWriteAbout post (nI n, U, C, W, S, P, M, R) x (nI cell) := by
  unfold wpX_isWriteAbout
  dsimp only
  refine cc_xHeld hn (cc_br (fun z => ?_) (fun z => ?_))
  · rw [cc_bf (fun ⟨j, hj, e, _⟩ => z ⟨j, hj, e⟩)] at h
    exact h
  · obtain ⟨j, hj, rfl⟩ := z
    have w8 : vp_in (nI j) 8 := vp_in_nI (by omega) (by decide)
    have e : (nI j).toNatClampNeg = j := nI_clamp (by omega)
    obtain ⟨_, h2, h3, _, _⟩ := hX j hj
    have hcj := (hH j hj).2.1
    refine ⟨w8, cc_bw (by rw [e]; exact h3) (fun z => ?_) (fun z => ⟨w8, pk_eq (ce j) cell (fun y => ?_) (fun y => ?_) (by rw [e]; exact h2) rfl (by omega) (by omega)⟩)⟩
    · rw [cc_bf (fun ⟨i, hi, ei, w, _⟩ => by
        have : j = i := (nI_eq (by omega) (by omega)).mp ei
        subst this
        exact z w)] at h
      exact h
    · rw [cc_bt ⟨j, hj, rfl, z, y⟩] at h
      exact h
    · rw [cc_bf (fun ⟨i, hi, ei, _, w⟩ => by
        have : j = i := (nI_eq (by omega) (by omega)).mp ei
        subst this
        exact y w)] at h
      exact h
theorem cc_xadd15 {post : Int32 → SX → Prop} {user cell s : Nat} {w : Prop} {x3 : Int32} (hX : cc_X n us ce wr so ea U C W S P) (hH : cc_H n us ce wr so ea) (hn : n ≤ 7)
    (hu : user < 3) (hs : s ≤ 7) (h3 : x3 = cc_b w)
    (K : post (nI n) (nI (n + 1), upd U n (nI user), upd C n (nI cell), upd W n x3, upd S n (nI s), upd P n (nI (cc_en us ea user s n ||| 2 ^ n)), M, R)) :
    ∀ d i f, i + d = n → d < f → wX_add_15 post (nI user) (nI cell) x3 (nI s) (nI n) (nI n) U C W S P M R f (nI (cc_en us ea user s i ||| 2 ^ n)) (nI i) := by
  intro d
  induction d with
  | zero =>
    intro i f h1 h2
    obtain ⟨f, rfl⟩ : ∃ m, f = m + 1 := ⟨f - 1, by omega⟩
    have hi : i = n := by omega
    subst hi
    have w8 : vp_in (nI i) 8 := vp_in_nI (by omega) (by decide)
    have e : (nI i).toNatClampNeg = i := nI_clamp (by omega)
    exact br_t (nI_le (Nat.le_refl _) (by omega)) ⟨w8, nm_r (e' := upd U i (nI user)) (by rw [e]) ⟨w8, nm_r (e' := upd C i (nI cell)) (by rw [e])
      ⟨w8, nm_r (e' := upd W i x3) (by rw [e, h3, cc_nar]) ⟨w8, nm_r (e' := upd S i (nI s)) (by rw [e])
      ⟨w8, nm_r (e' := upd P i (nI (cc_en us ea user s i ||| 2 ^ i))) (by rw [e]) (nm_r (nI_1 i) K)⟩⟩⟩⟩⟩
  | succ d ih =>
    intro i f h1 h2
    obtain ⟨f, rfl⟩ : ∃ m, f = m + 1 := ⟨f - 1, by omega⟩
    have hi : i < n := by omega
    have w8 : vp_in (nI i) 8 := vp_in_nI (by omega) (by decide)
    have e : (nI i).toNatClampNeg = i := nI_clamp (by omega)
    obtain ⟨g1, _, _, _, g5⟩ := hX i hi
    have hui := (hH i hi).1
    have t := ih (i + 1) f (by omega) (by omega)
    have step : (us i = user ∨ i = s) → wX_add_40 post (wX_add_15 post (nI user) (nI cell) x3 (nI s) (nI n) (nI n) U C W S P M R f) (nI user) (nI cell) x3 (nI s) (nI n) (nI (cc_en us ea user s i ||| 2 ^ n)) (nI i) (nI n) U C W S P M R := by
      intro c
      have ee : cc_en us ea user s (i + 1) = cc_en us ea user s i ||| (ea i ||| 2 ^ i) := if_pos c
      refine ⟨w8, nm_r (e' := nI (cc_en us ea user s (i + 1) ||| 2 ^ n)) ?_ (nm_r (nI_1 i) t)⟩
      rw [e, g5, cc_or, ee]
      congr 1
      rw [Nat.or_assoc, Nat.or_comm (2 ^ n), ← Nat.or_assoc]
    have skip : ¬ (us i = user ∨ i = s) → wX_add_15 post (nI user) (nI cell) x3 (nI s) (nI n) (nI n) U C W S P M R f (nI (cc_en us ea user s i ||| 2 ^ n)) (nI (i + 1)) := by
      intro c
      have ee : cc_en us ea user s (i + 1) = cc_en us ea user s i := if_neg c
      rw [ee] at t
      exact t
    exact br_f (nI_ge (by omega) (by omega)) ⟨w8, pk_eq (us i) user (fun c => step (Or.inl c))
      (fun c => pk_eq i s (fun c' => step (Or.inr c')) (fun c' => nm_r (nI_1 i) (skip (fun z => z.elim c c'))) rfl rfl (by omega) (by omega))
      (by rw [e]; exact g1) rfl (by omega) (by omega)⟩
theorem cc_xadd {post : Int32 → SX → Prop} {user cell s : Nat} {w : Prop} {x3 : Int32} (hX : cc_X n us ce wr so ea U C W S P) (hH : cc_H n us ce wr so ea) (hn : n ≤ 7)
    (hu : user < 3) (hs : s ≤ 7) (h3 : x3 = cc_b w)
    (K : post (nI n) (nI (n + 1), upd U n (nI user), upd C n (nI cell), upd W n x3, upd S n (nI s), upd P n (nI (cc_en us ea user s n ||| 2 ^ n)), M, R)) :
    wpX_add post (nI n, U, C, W, S, P, M, R) (nI user) (nI cell) x3 (nI s) :=
  nm_r (e' := nI (cc_en us ea user s 0 ||| 2 ^ n)) (by rw [cc_bit n (by omega)]; show nI (2 ^ n) = nI (0 ||| 2 ^ n); rw [Nat.zero_or])
    ⟨n + 1, cc_xadd15 hX hH hn hu hs h3 K n 0 (n + 1) (by omega) (by omega)⟩
end
end
section
/-! the component's extendRow and hasRow -/
theorem cc_i8 {S p q c : Nat} (hS : S < 128) (hp : p ≤ 7) (hq : q ≤ 7) (hc : c < 2) :
    (nI (cc_EX S p q) >>> ((nI c * 3) &&& 31)) &&& 7 = nI (if c = 0 then p else q) := by
  have hl := cc_EXlt hS hp hq
  have e0 : c = 0 ∨ c = 1 := by omega
  rcases e0 with rfl | rfl
  · rw [show nI 0 * 3 = nI 0 by decide +kernel, cc_sh (by omega) (by decide), pk_andN (Nat.lt_of_le_of_lt (Nat.div_le_self _ _) (by omega)) 3 (by decide +kernel)]
    show nI (cc_EX S p q / 1 % 8) = nI p
    rw [Nat.div_one, cc_EXp hp]
  · rw [show nI 1 * 3 = nI 3 by decide +kernel, cc_sh (by omega) (by decide), pk_andN (Nat.lt_of_le_of_lt (Nat.div_le_self _ _) (by omega)) 3 (by decide +kernel)]
    show nI (cc_EX S p q / 8 % 8) = nI q
    rw [cc_EXq hp hq]
theorem cc_i9 {S p q k : Nat} (hp : p ≤ 7) (hq : q ≤ 7) (hk : k < 7) :
    nI (cc_EX S p q) ||| (nI (2 ^ k) <<< ((6 : Int32) &&& 31)) = nI (cc_EX (S ||| 2 ^ k) p q) := by
  have h2 : 2 ^ k < 2 ^ 7 := cc_p2 hk
  have e : nI (2 ^ k) <<< ((6 : Int32) &&& 31) = nI (2 ^ k * 64) := cc_shl (s := 2 ^ k) (w := 6) (by decide) (by omega)
  rw [e, cc_or]
  unfold cc_EX
  rw [cc_long (by omega)]
theorem cc_iw {S p q k c : Nat} (hS : S < 128) (hp : p ≤ 7) (hq : q ≤ 7) (hk : k ≤ 7) (hc : c < 2) :
    (nI (cc_EX S p q) &&& (((7 : Int32) <<< ((nI c * 3) &&& 31)) ^^^ (-1))) ||| (nI k <<< ((nI c * 3) &&& 31)) = nI (cc_EX S (if c = 0 then k else p) (if c = 0 then q else k)) := by
  have e0 : c = 0 ∨ c = 1 := by omega
  rcases e0 with rfl | rfl
  · have e : nI k <<< (nI 0 &&& 31) = nI (k * 1) := cc_shl (s := k) (w := 0) (by decide) (by omega)
    rw [show nI 0 * 3 = nI 0 by decide +kernel, show (7 : Int32) <<< (nI 0 &&& 31) = nI 7 by decide +kernel, e, cc_dif, cc_or, Nat.mul_one]
    exact congrArg nI (cc_w0 hS hq hp hk)
  · have e : nI k <<< (nI 3 &&& 31) = nI (k * 8) := cc_shl (s := k) (w := 3) (by decide) (by omega)
    rw [show nI 1 * 3 = nI 3 by decide +kernel, show (7 : Int32) <<< (nI 3 &&& 31) = nI 56 by decide +kernel, e, cc_dif, cc_or]
    exact congrArg nI (cc_w3 hS hq hp hk)
theorem cc_inv_add {R0 R : Nat → Int32} {B : Nat → Nat → Prop} {i c0 : Nat} (h : ∀ c, R c ≠ 0 ↔ R0 c ≠ 0 ∨ ∃ k, k < i ∧ B k c) (hB : ∀ c, B i c ↔ c = c0) :
    ∀ c, upd R c0 1 c ≠ 0 ↔ R0 c ≠ 0 ∨ ∃ k, k < i + 1 ∧ B k c := by
  intro c
  by_cases e : c = c0
  · subst e
    rw [pk_us]
    exact ⟨fun _ => Or.inr ⟨i, by omega, (hB c).mpr rfl⟩, fun _ => by decide⟩
  · rw [pk_un e, h c]
    constructor
    · rintro (a | ⟨k, hk, b⟩)
      · exact Or.inl a
      · exact Or.inr ⟨k, by omega, b⟩
    · rintro (a | ⟨k, hk, b⟩)
      · exact Or.inl a
      · rcases Nat.lt_or_ge k i with z | z
        · exact Or.inr ⟨k, z, b⟩
        · have : k = i := by omega
          subst this
          exact absurd ((hB c).mp b) e
theorem cc_inv_skip {R0 R : Nat → Int32} {B : Nat → Nat → Prop} {i : Nat} (h : ∀ c, R c ≠ 0 ↔ R0 c ≠ 0 ∨ ∃ k, k < i ∧ B k c) (hB : ∀ c, ¬ B i c) :
    ∀ c, R c ≠ 0 ↔ R0 c ≠ 0 ∨ ∃ k, k < i + 1 ∧ B k c := by
  intro c
  rw [h c]
  constructor
  · rintro (a | ⟨k, hk, b⟩)
    · exact Or.inl a
    · exact Or.inr ⟨k, by omega, b⟩
  · rintro (a | ⟨k, hk, b⟩)
    · exact Or.inl a
    · rcases Nat.lt_or_ge k i with z | z
      · exact Or.inr ⟨k, z, b⟩
      · have : k = i := by omega
        subst this
        exact absurd b (hB c)
section
variable {us ce : Nat → Nat} {wr : Nat → Prop} {so ea : Nat → Nat} {PS : Nat} {J : Nat → Prop}
/-- what k makes of the state, as a code -/
def cc_BX (ce : Nat → Nat) (wr : Nat → Prop) (so ea : Nat → Nat) (PS : Nat) (J : Nat → Prop) (E : Nat → Nat → Nat → Nat) (St p q k c : Nat) : Prop :=
  ∃ S' p' q', cc_T1 ce wr so ea PS J k St p q S' p' q' ∧ c = E S' p' q'
theorem cc_BX_w {E : Nat → Nat → Nat → Nat} {St p q k : Nat} (h1 : PS.testBit k = true) (h2 : St.testBit k = false) (h3 : ∀ j, (ea k).testBit j = true → St.testBit j = true) (hw : wr k) (c : Nat) :
    cc_BX ce wr so ea PS J E St p q k c ↔ c = E (St ||| 2 ^ k) (if ce k = 0 then k else p) (if ce k = 0 then q else k) := by
  constructor
  · rintro ⟨S', p', q', ⟨_, _, _, rfl, h4⟩, rfl⟩
    rcases h4 with ⟨_, rfl, rfl⟩ | ⟨z, _⟩
    · rfl
    · exact absurd hw z
  · intro e
    exact ⟨_, _, _, ⟨h1, h2, h3, rfl, Or.inl ⟨hw, rfl, rfl⟩⟩, e⟩
theorem cc_BX_r {E : Nat → Nat → Nat → Nat} {St p q k : Nat} (h1 : PS.testBit k = true) (h2 : St.testBit k = false) (h3 : ∀ j, (ea k).testBit j = true → St.testBit j = true) (hw : ¬ wr k)
    (hJ : J k → (if ce k = 0 then p else q) = so k) (c : Nat) :
    cc_BX ce wr so ea PS J E St p q k c ↔ c = E (St ||| 2 ^ k) p q := by
  constructor
  · rintro ⟨S', p', q', ⟨_, _, _, rfl, h4⟩, rfl⟩
    rcases h4 with ⟨z, _⟩ | ⟨_, _, rfl, rfl⟩
    · exact absurd z hw
    · rfl
  · intro e
    exact ⟨_, _, _, ⟨h1, h2, h3, rfl, Or.inr ⟨hw, hJ, rfl, rfl⟩⟩, e⟩
theorem cc_BX_n {E : Nat → Nat → Nat → Nat} {St p q k : Nat} (h : ¬ (PS.testBit k = true ∧ St.testBit k = false ∧ ∀ j, (ea k).testBit j = true → St.testBit j = true)) (c : Nat) :
    ¬ cc_BX ce wr so ea PS J E St p q k c := by
  rintro ⟨S', p', q', ⟨a, b, d, _⟩, _⟩
  exact h ⟨a, b, d⟩
theorem cc_BX_x {E : Nat → Nat → Nat → Nat} {St p q k : Nat} (hw : ¬ wr k) (hJ : J k) (hne : (if ce k = 0 then p else q) ≠ so k) (c : Nat) :
    ¬ cc_BX ce wr so ea PS J E St p q k c := by
  rintro ⟨S', p', q', ⟨_, _, _, _, h4⟩, _⟩
  rcases h4 with ⟨z, _⟩ | ⟨_, z, _⟩
  · exact hw z
  · exact hne (z hJ)
end
section
variable {us ce : Nat → Nat} {wr : Nat → Prop} {so ea : Nat → Nat} {n : Nat} {U C W S A M : Nat → Int32} {PS jd : Nat} {J : Nat → Prop}
theorem cc_xext13 {post : SX → Prop} {R0 : Nat → Int32} {St p q : Nat} (hX : cc_X n us ce wr so ea U C W S A) (hH : cc_H n us ce wr so ea) (hn : n ≤ 7) (hP : PS < 128)
    (hPn : ∀ k, PS.testBit k = true → k < n) (hPd : ∀ k, PS.testBit k = true → ∀ j, (ea k).testBit j = true → PS.testBit j = true)
    (hj : jd < 2 ^ 31) (hJ : ∀ k, PS.testBit k = true → ¬ wr k → (jd.testBit k = true ↔ J k)) (hp : p ≤ 7) (hq : q ≤ 7) (hS : ∀ j, St.testBit j = true → PS.testBit j = true)
    (K : ∀ R', (∀ c, R' c ≠ 0 ↔ R0 c ≠ 0 ∨ ∃ k, k < 7 ∧ cc_BX ce wr so ea PS J cc_EX St p q k c) → post (nI n, U, C, W, S, A, M, R')) :
    ∀ d i f R, i + d = 7 → d < f → (∀ c, R c ≠ 0 ↔ R0 c ≠ 0 ∨ ∃ k, k < i ∧ cc_BX ce wr so ea PS J cc_EX St p q k c) →
    wX_extendRow_13 post (nI (cc_EX St p q)) (nI jd) (nI (cc_d PS St)) (nI n) f (nI i) U C W S A M R := by
  have hSt : St < 128 := Nat.lt_of_le_of_lt (Nat.le_of_testBit hS) hP
  have hd : cc_d PS St < 2 ^ 31 := Nat.lt_of_le_of_lt (cc_dle _ _) (by omega)
  intro d
  induction d with
  | zero =>
    intro i f R h1 h2 hR
    obtain ⟨f, rfl⟩ : ∃ m, f = m + 1 := ⟨f - 1, by omega⟩
    have hi : i = 7 := by omega
    subst hi
    exact br_t (nI_le (a := 7) (Nat.le_refl _) (by decide)) (K R hR)
  | succ d ih =>
    intro i f R h1 h2 hR
    obtain ⟨f, rfl⟩ : ∃ m, f = m + 1 := ⟨f - 1, by omega⟩
    have hi7 : i < 7 := by omega
    have w8 : vp_in (nI i) 8 := vp_in_nI (by omega) (by decide)
    have ec : (nI i).toNatClampNeg = i := nI_clamp (by omega)
    have h2i : 2 ^ i < 2 ^ 7 := cc_p2 hi7
    have skip : (∀ c, ¬ cc_BX ce wr so ea PS J cc_EX St p q i c) → wX_extendRow_13 post (nI (cc_EX St p q)) (nI jd) (nI (cc_d PS St)) (nI n) f (nI (i + 1)) U C W S A M R :=
      fun hB => ih (i + 1) f R (by omega) (by omega) (cc_inv_skip hR hB)
    have add : ∀ c0, c0 < 8192 → (∀ c, cc_BX ce wr so ea PS J cc_EX St p q i c ↔ c = c0) →
        vp_in (nI c0) 8192 ∧ ∀ y, y = upd R (nI c0).toNatClampNeg (vp_nar .boolean 1) → ∀ x, x = nI i + 1 → wX_extendRow_13 post (nI (cc_EX St p q)) (nI jd) (nI (cc_d PS St)) (nI n) f x U C W S A M y :=
      fun c0 h0 hB => ⟨vp_in_nI h0 (by decide), nm_r (e' := upd R c0 1) (by rw [nI_clamp (by omega), cc_nar1]) (nm_r (nI_1 i) (ih (i + 1) f _ (by omega) (by omega) (cc_inv_add hR hB)))⟩
    refine br_f (nI_ge (b := 7) hi7 (by decide)) (nm_r (cc_bit i (by omega)) (cc_xHas hd (by omega) (cc_br (fun z => ?_) (fun z => ?_))))
    · refine nm_r (nI_1 i) (skip (cc_BX_n (fun y => z ?_)))
      rw [cc_dt (by omega), y.1, y.2.1]
      rfl
    · have z' : PS.testBit i = true ∧ St.testBit i = false := by
        rw [cc_dt (by omega), Bool.and_eq_true] at z
        refine ⟨z.1, ?_⟩
        cases e : St.testBit i with
        | false => rfl
        | true => rw [e] at z; exact absurd z.2 (by decide)
      have hin : i < n := hPn i z'.1
      obtain ⟨_, g2, g3, g4, g5⟩ := hX i hin
      obtain ⟨_, b2, b3, _, b5, _, _⟩ := hH i hin
      have eS : St ||| 2 ^ i < 128 := Nat.or_lt_two_pow (n := 7) hSt h2i
      refine ⟨w8, cc_if (d := ∀ j, (ea i).testBit j = true → St.testBit j = true) ?_ (fun hsub => ?_) (fun hns => nm_r (nI_1 i) (skip (cc_BX_n (fun y => hns y.2.2))))⟩
      · rw [ec, g5, cc_and, nI_eq (Nat.lt_of_le_of_lt Nat.and_le_right (by omega)) (by omega)]
        exact cc_x1 hP z'.1 z'.2 (hPd i z'.1) b3
      · refine ⟨w8, nm_r (e' := nI (ce i) * 3) (by rw [ec, g2]) (nm_r (cc_i8 hSt hp hq b2) (nm_r (cc_i9 hp hq hi7) ⟨w8, cc_bw (by rw [ec]; exact g3) (fun hw => ?_) (fun hw => ?_)⟩))⟩
        · refine cc_xHas hj (by omega) (cc_br (fun y => ?_) (fun y => ⟨w8, pk_eq (if ce i = 0 then p else q) (so i) (fun eq => ?_) (fun ne => ?_) rfl (by rw [ec]; exact g4) (by split <;> omega) (by omega)⟩))
          · exact add _ (cc_EXlt eS hp hq) (cc_BX_r z'.1 z'.2 hsub hw (fun jk => absurd ((hJ i z'.1 hw).mpr jk) y))
          · exact add _ (cc_EXlt eS hp hq) (cc_BX_r z'.1 z'.2 hsub hw (fun _ => eq))
          · exact nm_r (nI_1 i) (skip (cc_BX_x hw ((hJ i z'.1 hw).mp y) ne))
        · rw [cc_iw eS hp hq (by omega) b2]
          exact add _ (cc_EXlt eS (by split <;> omega) (by split <;> omega)) (cc_BX_w z'.1 z'.2 hsub hw)
theorem cc_xext {post : SX → Prop} {R : Nat → Int32} {St p q : Nat} (hX : cc_X n us ce wr so ea U C W S A) (hH : cc_H n us ce wr so ea) (hn : n ≤ 7) (hP : PS < 128)
    (hPn : ∀ k, PS.testBit k = true → k < n) (hPd : ∀ k, PS.testBit k = true → ∀ j, (ea k).testBit j = true → PS.testBit j = true)
    (hj : jd < 2 ^ 31) (hJ : ∀ k, PS.testBit k = true → ¬ wr k → (jd.testBit k = true ↔ J k)) (hp : p ≤ 7) (hq : q ≤ 7) (hS : ∀ j, St.testBit j = true → PS.testBit j = true)
    (K : ∀ R', (∀ c, R' c ≠ 0 ↔ R c ≠ 0 ∨ ∃ k, k < 7 ∧ cc_BX ce wr so ea PS J cc_EX St p q k c) → post (nI n, U, C, W, S, A, M, R')) :
    wpX_extendRow post (nI n, U, C, W, S, A, M, R) (nI (cc_EX St p q)) (nI PS) (nI jd) := by
  have hSt : St < 128 := Nat.lt_of_le_of_lt (Nat.le_of_testBit hS) hP
  have hl := cc_EXlt hSt hp hq
  refine nm_r (e' := nI (cc_d PS St)) ?_ ⟨8, cc_xext13 (R0 := R) hX hH hn hP hPn hPd hj hJ hp hq hS K 7 0 8 R (by omega) (by omega) (fun c => ⟨Or.inl, fun h => h.elim id (fun ⟨k, hk, _⟩ => absurd hk (Nat.not_lt_zero _))⟩)⟩
  have e : nI (cc_EX St p q) >>> ((6 : Int32) &&& 31) = nI (cc_EX St p q / 64) := cc_sh (w := 6) (by omega) (by decide)
  rw [e, cc_EX6 hp hq, cc_dif]
theorem cc_xrow72 {post : Int32 → SX → Prop} {R : Nat → Int32} {Q : Prop} (hP : PS < 128) (hQ : Q ↔ ∃ c, c < 64 ∧ R (PS * 64 + c) ≠ 0) (K : post (cc_b Q) (nI n, U, C, W, S, A, M, R)) :
    ∀ d j f, j + d = 64 → d < f → (∀ c, c < j → R (PS * 64 + c) = 0) → wX_hasRow_72 post (nI (PS * 64)) (nI n) U C W S A M R f (nI j) := by
  intro d
  induction d with
  | zero =>
    intro j f h1 h2 h
    obtain ⟨f, rfl⟩ : ∃ m, f = m + 1 := ⟨f - 1, by omega⟩
    have hj : j = 64 := by omega
    subst hj
    rw [cc_bf (fun z => by obtain ⟨c, hc, y⟩ := hQ.mp z; exact y (h c hc))] at K
    exact br_t (nI_le (a := 64) (Nat.le_refl _) (by decide)) K
  | succ d ih =>
    intro j f h1 h2 h
    obtain ⟨f, rfl⟩ : ∃ m, f = m + 1 := ⟨f - 1, by omega⟩
    have e : nI (PS * 64) + nI j = nI (PS * 64 + j) := nI_add _ _
    have ec : (nI (PS * 64) + nI j).toNatClampNeg = PS * 64 + j := by rw [e]; exact nI_clamp (by omega)
    refine br_f (nI_ge (b := 64) (by omega) (by decide)) ⟨by rw [e]; exact vp_in_nI (by omega) (by decide), cc_if (d := R (PS * 64 + j) = 0) (by rw [ec]) (fun z => nm_r (nI_1 j) (ih (j + 1) f (by omega) (by omega) (fun c hc => ?_))) (fun z => ?_)⟩
    · rcases Nat.lt_or_ge c j with y | y
      · exact h c y
      · have : c = j := by omega
        rw [this]; exact z
    · rw [cc_bt (hQ.mpr ⟨j, by omega, z⟩)] at K
      exact K
theorem cc_xrow39 {post : Int32 → SX → Prop} (hX : cc_X n us ce wr so ea U C W S A) (hH : cc_H n us ce wr so ea) (hn : n ≤ 7) (hP : PS < 128) (hP0 : PS ≠ 0)
    (hPn : ∀ k, PS.testBit k = true → k < n) (hPd : ∀ k, PS.testBit k = true → ∀ j, (ea k).testBit j = true → PS.testBit j = true)
    (hj : jd < 2 ^ 31) (hJ : ∀ k, PS.testBit k = true → ¬ wr k → (jd.testBit k = true ↔ J k))
    (K : ∀ R', post (cc_b (cc_HR ce wr so ea PS J)) (nI n, U, C, W, S, A, M, R')) :
    ∀ d i f R, i + d = PS * 64 → d < f → cc_I (cc_T ce wr so ea PS J) cc_EX i (fun c => c < 8192 ∧ R c ≠ 0) →
    wX_hasRow_39 post (nI PS) (nI jd) (nI (PS * 64)) f (nI i) (nI n) U C W S A M R := by
  intro d
  induction d with
  | zero =>
    intro i f R h1 h2 I
    obtain ⟨f, rfl⟩ : ∃ m, f = m + 1 := ⟨f - 1, by omega⟩
    have hi : i = PS * 64 := by omega
    subst hi
    refine br_t (nI_le (Nat.le_refl _) (by omega)) ⟨65, cc_xrow72 hP ((cc_XF hP hP0 I).trans ?_) (K R) 64 0 65 (by omega) (by omega) (fun c hc => absurd hc (Nat.not_lt_zero _))⟩
    exact ⟨fun ⟨c, hc, _, y⟩ => ⟨c, hc, y⟩, fun ⟨c, hc, y⟩ => ⟨c, hc, by omega, y⟩⟩
  | succ d ih =>
    intro i f R h1 h2 I
    obtain ⟨f, rfl⟩ : ∃ m, f = m + 1 := ⟨f - 1, by omega⟩
    have hi : i < 8192 := by omega
    have ec : (nI i).toNatClampNeg = i := nI_clamp (by omega)
    refine br_f (nI_ge (by omega) (by omega)) ⟨vp_in_nI hi (by decide), cc_if (d := R i = 0) (by rw [ec]) (fun z => nm_r (nI_1 i) (ih (i + 1) f R (by omega) (by omega) (cc_In (cc_EXm hP) I (fun y => y.2 z)))) (fun z => ?_)⟩
    obtain ⟨St, p, q, e, hR⟩ := I.1 i ⟨hi, z⟩
    have b := cc_Tb hP hR
    have main : wpX_extendRow (fun u => match u with | (f_held_14, a_userOf_15, a_cellOf_16, a_isWrite_17, a_sourceOf_18, a_past_19, a_mustPrecede_20, a_reached_21) => (∀ x4_22 : Int32, x4_22 = nI i + 1 → (wX_hasRow_39 post (nI PS) (nI jd) (nI (PS * 64)) f x4_22 f_held_14 a_userOf_15 a_cellOf_16 a_isWrite_17 a_sourceOf_18 a_past_19 a_mustPrecede_20 a_reached_21))) (nI n, U, C, W, S, A, M, R) (nI (cc_EX St p q)) (nI PS) (nI jd) := by
      refine cc_xext hX hH hn hP hPn hPd hj hJ b.1.1 b.1.2 b.2 (fun R' hR' => nm_r (nI_1 i) (ih (i + 1) f R' (by omega) (by omega) (cc_Iy cc_EXi (cc_Tbd hP) I e hR (fun c => ?_))))
      constructor
      · rintro ⟨hc, y⟩
        rcases (hR' c).mp y with y | ⟨k, _, S', p', q', t, e'⟩
        · exact Or.inl ⟨hc, y⟩
        · exact Or.inr ⟨S', p', q', ⟨k, t⟩, e'⟩
      · rintro (⟨hc, y⟩ | ⟨S', p', q', ⟨k, t⟩, e'⟩)
        · exact ⟨hc, (hR' c).mpr (Or.inl y)⟩
        · have hR2 := cc_Rs hR (S' := S') (p' := p') (q' := q') ⟨k, t⟩
          have b2 := cc_Tb hP hR2
          have hS' : S' < 128 := Nat.lt_of_le_of_lt (cc_Tle hP hR2) hP
          exact ⟨by rw [e']; exact cc_EXlt hS' b2.1.1 b2.1.2, (hR' c).mpr (Or.inr ⟨k, cc_tl (n := 7) hP t.1, S', p', q', t, e'⟩)⟩
    rw [← e] at main
    exact main
theorem cc_xrow2 {post : Int32 → SX → Prop} (hX : cc_X n us ce wr so ea U C W S A) (hH : cc_H n us ce wr so ea) (hn : n ≤ 7) (hP : PS < 128) (hP0 : PS ≠ 0)
    (hPn : ∀ k, PS.testBit k = true → k < n) (hPd : ∀ k, PS.testBit k = true → ∀ j, (ea k).testBit j = true → PS.testBit j = true)
    (hj : jd < 2 ^ 31) (hJ : ∀ k, PS.testBit k = true → ¬ wr k → (jd.testBit k = true ↔ J k))
    (K : ∀ R', post (cc_b (cc_HR ce wr so ea PS J)) (nI n, U, C, W, S, A, M, R')) :
    ∀ d i f R, i + d = 8192 → d < f → (∀ c, c < i → R c = 0) → wX_hasRow_2 post (nI PS) (nI jd) (nI n) f (nI i) U C W S A M R := by
  intro d
  induction d with
  | zero =>
    intro i f R h1 h2 h
    obtain ⟨f, rfl⟩ : ∃ m, f = m + 1 := ⟨f - 1, by omega⟩
    have hi : i = 8192 := by omega
    subst hi
    have e : nI PS <<< ((6 : Int32) &&& 31) = nI (PS * 64) := cc_shl (s := PS) (w := 6) (by decide) (by omega)
    refine br_t (nI_le (a := 8192) (Nat.le_refl _) (by decide)) (nm_r (e' := upd R 63 1) rfl (nm_r e ⟨PS * 64 + 1, ?_⟩))
    refine cc_xrow39 hX hH hn hP hP0 hPn hPd hj hJ K (PS * 64 - 63) 63 (PS * 64 + 1) (upd R 63 1) (by omega) (by omega) (cc_I63 (fun c => ?_))
    constructor
    · rintro ⟨hc, y⟩
      apply Classical.byContradiction
      intro z
      rw [pk_un z] at y
      exact y (h c hc)
    · rintro rfl
      exact ⟨by decide, by rw [pk_us]; decide⟩
  | succ d ih =>
    intro i f R h1 h2 h
    obtain ⟨f, rfl⟩ : ∃ m, f = m + 1 := ⟨f - 1, by omega⟩
    have ec : (nI i).toNatClampNeg = i := nI_clamp (by omega)
    refine br_f (nI_ge (b := 8192) (by omega) (by decide)) ⟨vp_in_nI (by omega) (by decide), nm_r (e' := upd R i 0) (by rw [ec, cc_nar0]) (nm_r (nI_1 i) (ih (i + 1) f _ (by omega) (by omega) (fun c hc => ?_)))⟩
    by_cases y : c = i
    · rw [y, pk_us]
    · rw [pk_un y]
      exact h c (by omega)
theorem cc_xrow {post : Int32 → SX → Prop} {R : Nat → Int32} (hX : cc_X n us ce wr so ea U C W S A) (hH : cc_H n us ce wr so ea) (hn : n ≤ 7) (hP : PS < 128) (hP0 : PS ≠ 0)
    (hPn : ∀ k, PS.testBit k = true → k < n) (hPd : ∀ k, PS.testBit k = true → ∀ j, (ea k).testBit j = true → PS.testBit j = true)
    (hj : jd < 2 ^ 31) (hJ : ∀ k, PS.testBit k = true → ¬ wr k → (jd.testBit k = true ↔ J k))
    (K : ∀ R', post (cc_b (cc_HR ce wr so ea PS J)) (nI n, U, C, W, S, A, M, R')) :
    wpX_hasRow post (nI n, U, C, W, S, A, M, R) (nI PS) (nI jd) :=
  ⟨8193, cc_xrow2 hX hH hn hP hP0 hPn hPd hj hJ K 8192 0 8193 R (by omega) (by omega) (fun c hc => absurd hc (Nat.not_lt_zero _))⟩
end
end
section
/-! the component's soundness of an operation -/
def cc_WK (ce : Nat → Nat) (wr : Nat → Prop) (so ea : Nat → Nat) (b : Nat) : Prop := wr b ∨ cc_HR ce wr so ea (ea b ||| 2 ^ b) (fun k => k = b)
def cc_SK (us ce : Nat → Nat) (wr : Nat → Prop) (so ea : Nat → Nat) (b : Nat) : Prop := cc_HR ce wr so ea (ea b ||| 2 ^ b) (fun k => us k = us b)
noncomputable def cc_jd (us : Nat → Nat) (wr : Nat → Prop) (b : Nat) : Nat → Nat
  | 0 => 0
  | i + 1 => @ite Nat (¬ wr i ∧ us i = us b) (Classical.propDecidable _) (cc_jd us wr b i ||| 2 ^ i) (cc_jd us wr b i)
section
variable {us ce : Nat → Nat} {wr : Nat → Prop} {so ea : Nat → Nat} {n : Nat} {U C W S A M R : Nat → Int32}
theorem cc_past (hH : cc_H n us ce wr so ea) (hn : n ≤ 7) {b : Nat} (hb : b < n) :
    ea b ||| 2 ^ b < 128 ∧ ea b ||| 2 ^ b ≠ 0 ∧ (∀ k, (ea b ||| 2 ^ b).testBit k = true → k ≤ b) ∧
    ∀ k, (ea b ||| 2 ^ b).testBit k = true → ∀ j, (ea k).testBit j = true → (ea b ||| 2 ^ b).testBit j = true := by
  obtain ⟨_, _, b3, b4, _⟩ := hH b hb
  have l1 : ea b < 2 ^ 7 := Nat.lt_trans b3 (cc_p2 (by omega))
  refine ⟨Nat.or_lt_two_pow (n := 7) l1 (cc_p2 (by omega)), ?_, ?_, ?_⟩
  · intro z
    have t : (ea b ||| 2 ^ b).testBit b = true := cc_o2.mpr (Or.inr rfl)
    rw [z, Nat.zero_testBit] at t
    exact absurd t (by decide)
  · intro k hk
    rcases cc_o2.mp hk with z | z
    · have := cc_tl b3 z
      omega
    · omega
  · intro k hk j hj
    rcases cc_o2.mp hk with z | z
    · exact cc_o2.mpr (Or.inl (b4 k z j hj))
    · subst z
      exact cc_o2.mpr (Or.inl hj)
theorem cc_jd_t {b k : Nat} : ∀ i, (cc_jd us wr b i).testBit k = true ↔ k < i ∧ ¬ wr k ∧ us k = us b
  | 0 => by
    show (0 : Nat).testBit k = true ↔ _
    rw [Nat.zero_testBit]
    exact ⟨fun h => absurd h (by decide), fun h => absurd h.1 (Nat.not_lt_zero _)⟩
  | i + 1 => by
    have ih := cc_jd_t (b := b) (k := k) i
    by_cases c : ¬ wr i ∧ us i = us b
    · have e : cc_jd us wr b (i + 1) = cc_jd us wr b i ||| 2 ^ i := if_pos c
      rw [e, cc_o2, ih]
      constructor
      · rintro (⟨a, d⟩ | rfl)
        · exact ⟨by omega, d⟩
        · exact ⟨by omega, c⟩
      · rintro ⟨a, d⟩
        rcases Nat.lt_or_ge k i with z | z
        · exact Or.inl ⟨z, d⟩
        · exact Or.inr (by omega)
    · have e : cc_jd us wr b (i + 1) = cc_jd us wr b i := if_neg c
      rw [e, ih]
      constructor
      · rintro ⟨a, d⟩; exact ⟨by omega, d⟩
      · rintro ⟨a, d⟩
        rcases Nat.lt_or_ge k i with z | z
        · exact ⟨z, d⟩
        · have : k = i := by omega
          subst this
          exact absurd d c
theorem cc_jd_lt {b : Nat} (i : Nat) : cc_jd us wr b i < 2 ^ i := Nat.lt_pow_two_of_testBit _ (fun k hk => cc_f (fun z => by
  have := ((cc_jd_t i).mp z).1
  omega))
theorem cc_xwk {post : Int32 → SX → Prop} (hX : cc_X n us ce wr so ea U C W S A) (hH : cc_H n us ce wr so ea) (hn : n ≤ 7) {b : Nat} (hb : b < n)
    (K : ∀ R', post (cc_b (cc_WK ce wr so ea b)) (nI n, U, C, W, S, A, M, R')) : wpX_isWeaklySound post (nI n, U, C, W, S, A, M, R) (nI b) := by
  have w8 : vp_in (nI b) 8 := vp_in_nI (by omega) (by decide)
  have ec : (nI b).toNatClampNeg = b := nI_clamp (by omega)
  obtain ⟨_, _, g3, _, g5⟩ := hX b hb
  obtain ⟨p1, p2, p3, p4⟩ := cc_past hH hn hb
  refine ⟨w8, cc_bw (by rw [ec]; exact g3) (fun hw => ⟨w8, ?_⟩) (fun hw => ?_)⟩
  · rw [ec, g5, cc_bit b (by omega)]
    refine cc_xrow hX hH hn p1 p2 (fun k hk => by have := p3 k hk; omega) p4 (Nat.lt_trans (cc_p2 (show b < 7 by omega)) (by decide)) (J := fun k => k = b) (fun k hk _ => ?_) (fun R' => cc_br (fun z => ?_) (fun z => ?_))
    · rw [Nat.testBit_two_pow, decide_eq_true_eq]
      exact ⟨fun e => e.symm, fun e => e.symm⟩
    · have k := K R'
      rw [cc_bf (p := cc_WK ce wr so ea b) (fun y => y.elim hw z)] at k
      exact k
    · have k := K R'
      rw [cc_bt (p := cc_WK ce wr so ea b) (Or.inr z)] at k
      exact k
  · have k := K R
    rw [cc_bt (p := cc_WK ce wr so ea b) (Or.inl hw)] at k
    exact k
theorem cc_xsk4 {post : Int32 → SX → Prop} (hX : cc_X n us ce wr so ea U C W S A) (hH : cc_H n us ce wr so ea) (hn : n ≤ 7) {b : Nat} (hb : b < n)
    (K : ∀ R', post (cc_b (cc_SK us ce wr so ea b)) (nI n, U, C, W, S, A, M, R')) :
    ∀ d i f, i + d = b + 1 → d < f → wX_isStronglySound_4 post (nI b) (nI n) U C W S A M R f (nI (cc_jd us wr b i)) (nI i) := by
  have w8b : vp_in (nI b) 8 := vp_in_nI (by omega) (by decide)
  have ecb : (nI b).toNatClampNeg = b := nI_clamp (by omega)
  intro d
  induction d with
  | zero =>
    intro i f h1 h2
    obtain ⟨f, rfl⟩ : ∃ m, f = m + 1 := ⟨f - 1, by omega⟩
    have hi : i = b + 1 := by omega
    subst hi
    obtain ⟨_, _, _, _, g5⟩ := hX b hb
    obtain ⟨p1, p2, p3, p4⟩ := cc_past hH hn hb
    have jl := cc_jd_lt (us := us) (wr := wr) (b := b) (b + 1)
    have j7 : 2 ^ (b + 1) ≤ 2 ^ 7 := Nat.pow_le_pow_right (by decide) (by omega)
    refine br_t (nI_lt (by omega) (by omega)) ⟨w8b, ?_⟩
    rw [ecb, g5]
    refine cc_xrow hX hH hn p1 p2 (fun k hk => by have := p3 k hk; omega) p4 (by omega) (J := fun k => us k = us b) (fun k hk hw => ?_) (fun R' => ⟨cc_bn _, K R'⟩)
    rw [cc_jd_t]
    have := p3 k hk
    exact ⟨fun z => z.2.2, fun z => ⟨by omega, hw, z⟩⟩
  | succ d ih =>
    intro i f h1 h2
    obtain ⟨f, rfl⟩ : ∃ m, f = m + 1 := ⟨f - 1, by omega⟩
    have w8 : vp_in (nI i) 8 := vp_in_nI (by omega) (by decide)
    have ec : (nI i).toNatClampNeg = i := nI_clamp (by omega)
    obtain ⟨g1, _, g3, _, _⟩ := hX i (by omega)
    obtain ⟨q1, _, _, _, _⟩ := hX b hb
    have u1 := (hH i (by omega)).1
    have u2 := (hH b hb).1
    have t := ih (i + 1) f (by omega) (by omega)
    have skip : ¬ (¬ wr i ∧ us i = us b) → wX_isStronglySound_4 post (nI b) (nI n) U C W S A M R f (nI (cc_jd us wr b i)) (nI (i + 1)) := by
      intro c
      have e : cc_jd us wr b (i + 1) = cc_jd us wr b i := if_neg c
      rw [e] at t
      exact t
    refine br_f (nI_nlt (by omega) (by omega)) ⟨w8, cc_bw (by rw [ec]; exact g3) (fun hw => ⟨w8, w8b, pk_eq (us i) (us b) (fun y => ?_) (fun y => nm_r (nI_1 i) (skip (fun z => y z.2))) (by rw [ec]; exact g1) (by rw [ecb]; exact q1) (by omega) (by omega)⟩) (fun hw => nm_r (nI_1 i) (skip (fun z => z.1 hw)))⟩
    have e : cc_jd us wr b (i + 1) = cc_jd us wr b i ||| 2 ^ i := if_pos ⟨hw, y⟩
    rw [e] at t
    exact nm_r (by rw [cc_bit i (by omega), cc_or]) (nm_r (nI_1 i) t)
theorem cc_xsk {post : Int32 → SX → Prop} (hX : cc_X n us ce wr so ea U C W S A) (hH : cc_H n us ce wr so ea) (hn : n ≤ 7) {b : Nat} (hb : b < n)
    (K : ∀ R', post (cc_b (cc_SK us ce wr so ea b)) (nI n, U, C, W, S, A, M, R')) : wpX_isStronglySound post (nI n, U, C, W, S, A, M, R) (nI b) :=
  ⟨b + 2, cc_xsk4 hX hH hn hb K (b + 1) 0 (b + 2) (by omega) (by omega)⟩
end
end
section
/-! the component's converges -/
section
variable {us ce : Nat → Nat} {wr : Nat → Prop} {so ea : Nat → Nat} {m : Nat} {U C W S A M R : Nat → Int32}
theorem cc_xwip4 {post : Int32 → Prop} (hX : cc_X m us ce wr so ea U C W S A) (hH : cc_H m us ce wr so ea) (hm : m ≤ 8) {r : Nat} (hr : r < m)
    (K : post (nI (cc_se ce wr ea r r))) :
    ∀ d i f, i + d = r → d < f → wX_writesInPast_4 post (nI r) (nI m) U C W S A M R f (nI (cc_se ce wr ea r i)) (nI i) := by
  have w8r : vp_in (nI r) 8 := vp_in_nI (by omega) (by decide)
  have ecr : (nI r).toNatClampNeg = r := nI_clamp (by omega)
  obtain ⟨_, r2, _, _, r5⟩ := hX r hr
  have cr := (hH r hr).2.1
  have er := (hH r hr).2.2.1
  have el : ea r ||| 2 ^ r < 2 ^ 8 := Nat.or_lt_two_pow (Nat.lt_trans er (cc_p2 (by omega))) (cc_p2 (by omega))
  intro d
  induction d with
  | zero =>
    intro i f h1 h2
    obtain ⟨f, rfl⟩ : ∃ m, f = m + 1 := ⟨f - 1, by omega⟩
    have hi : i = r := by omega
    subst hi
    exact br_t (nI_le (Nat.le_refl _) (by omega)) K
  | succ d ih =>
    intro i f h1 h2
    obtain ⟨f, rfl⟩ : ∃ m, f = m + 1 := ⟨f - 1, by omega⟩
    have w8 : vp_in (nI i) 8 := vp_in_nI (by omega) (by decide)
    have ec : (nI i).toNatClampNeg = i := nI_clamp (by omega)
    obtain ⟨_, g2, g3, _, _⟩ := hX i (by omega)
    have ci := (hH i (by omega)).2.1
    have t := ih (i + 1) f (by omega) (by omega)
    have skip : ¬ (wr i ∧ ce i = ce r ∧ (ea r ||| 2 ^ r).testBit i = true) → wX_writesInPast_4 post (nI r) (nI m) U C W S A M R f (nI (cc_se ce wr ea r i)) (nI (i + 1)) := by
      intro c
      have e : cc_se ce wr ea r (i + 1) = cc_se ce wr ea r i := if_neg c
      rw [e] at t
      exact t
    refine br_f (nI_ge (by omega) (by omega)) ⟨w8, cc_bw (by rw [ec]; exact g3) (fun hw => nm_r (nI_1 i) (skip (fun z => hw z.1))) (fun hw => ⟨w8, w8r, pk_eq (ce i) (ce r) (fun y => ⟨w8r, ?_⟩) (fun y => nm_r (nI_1 i) (skip (fun z => y z.2.1))) (by rw [ec]; exact g2) (by rw [ecr]; exact r2) (by omega) (by omega)⟩)⟩
    rw [ecr, r5]
    refine cc_xHas (by omega) (by omega) (cc_br (fun z => nm_r (nI_1 i) (skip (fun x => z x.2.2))) (fun z => ?_))
    have e : cc_se ce wr ea r (i + 1) = cc_se ce wr ea r i ||| 2 ^ i := if_pos ⟨hw, y, z⟩
    rw [e] at t
    exact nm_r (by rw [cc_bit i (by omega), cc_or]) (nm_r (nI_1 i) t)
theorem cc_xwip {post : Int32 → Prop} (hX : cc_X m us ce wr so ea U C W S A) (hH : cc_H m us ce wr so ea) (hm : m ≤ 8) {r : Nat} (hr : r < m)
    (K : post (nI (cc_se ce wr ea r r))) : wpX_writesInPast post (nI m, U, C, W, S, A, M, R) (nI r) :=
  ⟨r + 1, cc_xwip4 hX hH hm hr K r 0 (r + 1) (by omega) (by omega)⟩
theorem cc_xrca2 {post : Int32 → SX → Prop} {WW : Nat} (hX : cc_X m us ce wr so ea U C W S A) (hH : cc_H m us ce wr so ea) (hm : m ≤ 8) (hWW : WW < 256)
    (K1 : ∀ M', cc_N m ce wr so ea → (∀ w, w < m → M' w = nI (cc_mq WW ce wr so ea m w)) → post 1 (nI m, U, C, W, S, A, M', R))
    (K0 : ∀ M', ¬ cc_N m ce wr so ea → post 0 (nI m, U, C, W, S, A, M', R)) :
    ∀ d i f M, i + d = m → d < f → cc_N i ce wr so ea → (∀ w, w < m → M w = nI (cc_mq WW ce wr so ea i w)) →
    wX_readsCanAgree_2 post (nI m) f (nI i) U C W S A M R := by
  intro d
  induction d with
  | zero =>
    intro i f M h1 h2 hN hM
    obtain ⟨f, rfl⟩ : ∃ m, f = m + 1 := ⟨f - 1, by omega⟩
    have hi : i = m := by omega
    subst hi
    exact br_t (nI_le (Nat.le_refl _) (by omega)) (K1 M hN hM)
  | succ d ih =>
    intro i f M h1 h2 hN hM
    obtain ⟨f, rfl⟩ : ∃ m, f = m + 1 := ⟨f - 1, by omega⟩
    have him : i < m := by omega
    have w8 : vp_in (nI i) 8 := vp_in_nI (by omega) (by decide)
    have ec : (nI i).toNatClampNeg = i := nI_clamp (by omega)
    obtain ⟨_, _, g3, g4, _⟩ := hX i him
    obtain ⟨_, _, _, _, b5, _, b7⟩ := hH i him
    have hsl : cc_se ce wr ea i i < 256 := cc_se_lt (by omega)
    have nstep : (¬ wr i → so i = 7 → cc_se ce wr ea i i = 0) → cc_N (i + 1) ce wr so ea := by
      intro h r hr hw h7
      rcases Nat.lt_or_ge r i with z | z
      · exact hN r z hw h7
      · have : r = i := by omega
        subst this
        exact h hw h7
    have mskip : ¬ (¬ wr i ∧ so i ≠ 7) → ∀ w, w < m → M w = nI (cc_mq WW ce wr so ea (i + 1) w) := by
      intro c w hw
      have e : cc_mq WW ce wr so ea (i + 1) w = cc_mq WW ce wr so ea i w := if_neg (fun z => c ⟨z.1, z.2.2⟩)
      rw [e]
      exact hM w hw
    refine br_f (nI_ge (by omega) (by omega)) ⟨w8, cc_bw (by rw [ec]; exact g3) (fun hw => ?_) (fun hw => nm_r (nI_1 i) (ih (i + 1) f M (by omega) (by omega) (nstep (fun z => absurd hw z)) (mskip (fun z => z.1 hw))))⟩
    refine cc_xwip hX hH hm him ⟨w8, nm_r (e' := nI (so i)) (by rw [ec]; exact g4) (pk_eq (so i) 7 (fun h7 => ?_) (fun h7 => ?_) rfl rfl (by omega) (by decide))⟩
    · refine pk_eq (cc_se ce wr ea i i) 0 (fun z => nm_r (nI_1 i) (ih (i + 1) f M (by omega) (by omega) (nstep (fun _ _ => z)) (mskip (fun z => z.2 h7)))) (fun z => K0 M (fun y => z (y i him hw h7))) rfl rfl (by omega) (by decide)
    · have hso : so i < i := (b7 hw).elim (fun z => absurd z h7) (fun z => z.1)
      have w8s : vp_in (nI (so i)) 8 := vp_in_nI (by omega) (by decide)
      have ecs : (nI (so i)).toNatClampNeg = so i := nI_clamp (by omega)
      refine ⟨w8s, w8s, nm_r (e' := upd M (so i) (nI (cc_mq WW ce wr so ea (i + 1) (so i)))) ?_ (nm_r (nI_1 i) (ih (i + 1) f _ (by omega) (by omega) (nstep (fun _ z => absurd z h7)) (fun w hw' => ?_)))⟩
      · have e : cc_mq WW ce wr so ea (i + 1) (so i) = cc_mq WW ce wr so ea i (so i) ||| cc_d (cc_se ce wr ea i i) (2 ^ so i) := if_pos ⟨hw, rfl, h7⟩
        rw [ecs, hM (so i) (by omega), cc_bit (so i) (by omega), cc_dif, cc_or, e]
      · by_cases ew : w = so i
        · rw [ew, pk_us]
        · have e : cc_mq WW ce wr so ea (i + 1) w = cc_mq WW ce wr so ea i w := if_neg (fun z => ew z.2.1.symm)
          rw [pk_un ew, e]
          exact hM w hw'
theorem cc_xcbl13 {post : Int32 → Prop} {J4 : Int32 → Int32 → Prop} {MQ : Nat → Nat} {x1 x3 : Int32} {pl : Nat} (hX : cc_X m us ce wr so ea U C W S A) (hm : m ≤ 8) (hpl : pl < 256)
    (hMl : ∀ w, w < m → MQ w < 256) (hM : ∀ w, w < m → M w = nI (MQ w)) (K : ∀ y, y = x3 + 1 → J4 (nI (cc_g wr MQ pl m)) y) :
    ∀ d i f, i + d = m → d < f → wX_canBeLaid_13 post J4 x1 x3 (nI m) U C W S A M R f (nI (cc_g wr MQ pl i)) (nI i) := by
  intro d
  induction d with
  | zero =>
    intro i f h1 h2
    obtain ⟨f, rfl⟩ : ∃ m, f = m + 1 := ⟨f - 1, by omega⟩
    have hi : i = m := by omega
    subst hi
    exact br_t (nI_le (Nat.le_refl _) (by omega)) K
  | succ d ih =>
    intro i f h1 h2
    obtain ⟨f, rfl⟩ : ∃ m, f = m + 1 := ⟨f - 1, by omega⟩
    have him : i < m := by omega
    have w8 : vp_in (nI i) 8 := vp_in_nI (by omega) (by decide)
    have ec : (nI i).toNatClampNeg = i := nI_clamp (by omega)
    obtain ⟨_, _, g3, _, _⟩ := hX i him
    have t := ih (i + 1) f (by omega) (by omega)
    have hl := hMl i him
    have hdl := cc_dle (MQ i) (cc_g wr MQ pl i)
    have skip : ¬ (wr i ∧ cc_d (MQ i) (cc_g wr MQ pl i) = 0) → wX_canBeLaid_13 post J4 x1 x3 (nI m) U C W S A M R f (nI (cc_g wr MQ pl i)) (nI (i + 1)) := by
      intro c
      rw [cc_g_n c] at t
      exact t
    refine br_f (nI_ge (by omega) (by omega)) ⟨w8, cc_bw (by rw [ec]; exact g3) (fun hw => nm_r (nI_1 i) (skip (fun z => hw z.1))) (fun hw => ⟨w8, pk_eq (cc_d (MQ i) (cc_g wr MQ pl i)) 0 (fun z => ?_) (fun z => nm_r (nI_1 i) (skip (fun y => z y.2))) (by rw [ec, hM i him, cc_dif]) rfl (by omega) (by decide)⟩)⟩
    rw [cc_g_y ⟨hw, z⟩] at t
    exact nm_r (by rw [cc_bit i (by omega), cc_or]) (nm_r (nI_1 i) t)
theorem cc_xcbl4 {post : Int32 → Prop} {MQ : Nat → Nat} {WW : Nat} (hX : cc_X m us ce wr so ea U C W S A) (hm : m ≤ 8) (hWW : WW < 256)
    (hMl : ∀ w, w < m → MQ w < 256) (hM : ∀ w, w < m → M w = nI (MQ w)) (K : post (cc_b (cc_G wr MQ m 7 = WW))) :
    ∀ d i f, i + d = 7 → d < f → wX_canBeLaid_4 post (nI WW) (nI m) U C W S A M R f (nI (cc_G wr MQ m i)) (nI i) := by
  intro d
  induction d with
  | zero =>
    intro i f h1 h2
    obtain ⟨f, rfl⟩ : ∃ m, f = m + 1 := ⟨f - 1, by omega⟩
    have hi : i = 7 := by omega
    subst hi
    have hl := cc_G_lt (wr := wr) (M := MQ) hm 7
    refine br_t (nI_le (a := 7) (Nat.le_refl _) (by decide)) (pk_eq (cc_G wr MQ m 7) WW (fun z => ?_) (fun z => ?_) rfl rfl (by omega) (by omega))
    · rw [cc_bt z] at K
      exact K
    · rw [cc_bf z] at K
      exact K
  | succ d ih =>
    intro i f h1 h2
    obtain ⟨f, rfl⟩ : ∃ m, f = m + 1 := ⟨f - 1, by omega⟩
    have t := ih (i + 1) f (by omega) (by omega)
    exact br_f (nI_ge (b := 7) (by omega) (by decide)) ⟨m + 1, cc_xcbl13 hX hm (cc_G_lt hm i) hMl hM (nm_r (nI_1 i) t) m 0 (m + 1) (by omega) (by omega)⟩
theorem cc_xcbl {post : Int32 → Prop} {MQ : Nat → Nat} {WW : Nat} (hX : cc_X m us ce wr so ea U C W S A) (hm : m ≤ 8) (hWW : WW < 256)
    (hMl : ∀ w, w < m → MQ w < 256) (hM : ∀ w, w < m → M w = nI (MQ w)) (K : post (cc_b (cc_G wr MQ m 7 = WW))) :
    wpX_canBeLaid post (nI m, U, C, W, S, A, M, R) (nI WW) :=
  ⟨8, cc_xcbl4 hX hm hWW hMl hM K 7 0 8 (by omega) (by omega)⟩
theorem cc_mw {w WW : Nat} (hl : ea w < 2 ^ w) (hW : WW < 256) : cc_d ((ea w ||| 2 ^ w) &&& WW) (2 ^ w) = ea w &&& WW := by
  apply cc_ext
  intro v
  have hb : (ea w ||| 2 ^ w) &&& WW < 2 ^ 32 := Nat.lt_of_le_of_lt Nat.and_le_right (by omega)
  rw [cc_dm hb, cc_at, cc_at, cc_o2]
  constructor
  · rintro ⟨⟨a, b⟩, c⟩
    exact ⟨a.elim id (fun z => absurd z c), b⟩
  · rintro ⟨a, b⟩
    have := cc_tl hl a
    exact ⟨⟨Or.inl a, b⟩, by omega⟩
theorem cc_xcv35 {post : Int32 → SX → Prop} (hX : cc_X m us ce wr so ea U C W S A) (hH : cc_H m us ce wr so ea) (hm : m ≤ 8)
    (K : ∀ M', post (cc_b (cc_CV m ce wr so ea)) (nI m, U, C, W, S, A, M', R)) :
    ∀ d i f M, i + d = m → d < f → (∀ w, w < i → M w = nI (cc_mq (cc_W wr m) ce wr so ea 0 w)) → wX_converges_35 post (nI (cc_W wr m)) (nI m) f (nI i) U C W S A M R := by
  have hWW := cc_W_256 (wr := wr) hm
  intro d
  induction d with
  | zero =>
    intro i f M h1 h2 hM
    obtain ⟨f, rfl⟩ : ∃ m, f = m + 1 := ⟨f - 1, by omega⟩
    have hi : i = m := by omega
    subst hi
    refine br_t (nI_le (Nat.le_refl _) (by omega)) ⟨i + 1, cc_xrca2 hX hH hm hWW (fun M' hN hM' => ?_) (fun M' hN => ?_) i 0 (i + 1) M (by omega) (by omega) (fun r hr => absurd hr (Nat.not_lt_zero _)) hM⟩
    · refine br_f (by decide) (cc_xcbl hX hm hWW (fun w hw => cc_mq_lt hWW i (by omega)) hM' (cc_br (fun z => ?_) (fun z => ?_)))
      · have k := K M'
        rw [cc_bf (p := cc_CV i ce wr so ea) (fun y => z y.2)] at k
        exact k
      · have k := K M'
        rw [cc_bt (p := cc_CV i ce wr so ea) ⟨hN, z⟩] at k
        exact k
    · have k := K M'
      rw [cc_bf (p := cc_CV i ce wr so ea) (fun y => hN y.1)] at k
      exact br_t rfl k
  | succ d ih =>
    intro i f M h1 h2 hM
    obtain ⟨f, rfl⟩ : ∃ m, f = m + 1 := ⟨f - 1, by omega⟩
    have him : i < m := by omega
    have w8 : vp_in (nI i) 8 := vp_in_nI (by omega) (by decide)
    have ec : (nI i).toNatClampNeg = i := nI_clamp (by omega)
    obtain ⟨_, _, _, _, g5⟩ := hX i him
    have b3 := (hH i him).2.2.1
    refine br_f (nI_ge (by omega) (by omega)) ⟨w8, w8, nm_r (e' := upd M i (nI (ea i &&& cc_W wr m))) (by rw [ec, g5, cc_and, cc_bit i (by omega), cc_dif, cc_mw b3 hWW]) (nm_r (nI_1 i) (ih (i + 1) f _ (by omega) (by omega) (fun w hw => ?_)))⟩
    by_cases e : w = i
    · rw [e, pk_us]
      rfl
    · rw [pk_un e]
      exact hM w (by omega)
theorem cc_xcv4 {post : Int32 → SX → Prop} (hX : cc_X m us ce wr so ea U C W S A) (hH : cc_H m us ce wr so ea) (hm : m ≤ 8)
    (K : ∀ M', post (cc_b (cc_CV m ce wr so ea)) (nI m, U, C, W, S, A, M', R)) :
    ∀ d i f, i + d = m → d < f → wX_converges_4 post (nI m) U C W S A M R f (nI (cc_W wr i)) (nI i) := by
  intro d
  induction d with
  | zero =>
    intro i f h1 h2
    obtain ⟨f, rfl⟩ : ∃ m, f = m + 1 := ⟨f - 1, by omega⟩
    have hi : i = m := by omega
    subst hi
    exact br_t (nI_le (Nat.le_refl _) (by omega)) ⟨i + 1, cc_xcv35 hX hH hm K i 0 (i + 1) M (by omega) (by omega) (fun w hw => absurd hw (Nat.not_lt_zero _))⟩
  | succ d ih =>
    intro i f h1 h2
    obtain ⟨f, rfl⟩ : ∃ m, f = m + 1 := ⟨f - 1, by omega⟩
    have him : i < m := by omega
    have w8 : vp_in (nI i) 8 := vp_in_nI (by omega) (by decide)
    have ec : (nI i).toNatClampNeg = i := nI_clamp (by omega)
    obtain ⟨_, _, g3, _, _⟩ := hX i him
    have t := ih (i + 1) f (by omega) (by omega)
    refine br_f (nI_ge (by omega) (by omega)) ⟨w8, cc_bw (by rw [ec]; exact g3) (fun hw => ?_) (fun hw => ?_)⟩
    · have e : cc_W wr (i + 1) = cc_W wr i := if_neg hw
      rw [e] at t
      exact nm_r (nI_1 i) t
    · have e : cc_W wr (i + 1) = cc_W wr i ||| 2 ^ i := if_pos hw
      rw [e] at t
      exact nm_r (by rw [cc_bit i (by omega), cc_or]) (nm_r (nI_1 i) t)
theorem cc_xcv {post : Int32 → SX → Prop} (hX : cc_X m us ce wr so ea U C W S A) (hH : cc_H m us ce wr so ea) (hm : m ≤ 8)
    (K : ∀ M', post (cc_b (cc_CV m ce wr so ea)) (nI m, U, C, W, S, A, M', R)) : wpX_converges post (nI m, U, C, W, S, A, M, R) :=
  ⟨m + 1, cc_xcv4 hX hH hm K m 0 (m + 1) (by omega) (by omega)⟩
end
end
section
/-! the reference's small methods, put and after -/
theorem cc_yBad {post : Int32 → Prop} {x y : Int32} (h : post (cc_b (¬ (cc_ok 3 x ∧ cc_ok 2 y)))) : wpY_badPlace post x y := by
  by_cases a : x < 0
  · rw [cc_bt (fun z => cc_ok0 (by decide) a z.1)] at h
    exact br_t a h
  · obtain ⟨j, hj, rfl⟩ := nI_of a
    refine br_f a (pk_lt 2 j (fun z => ?_) (fun z => ?_) rfl rfl (by decide) hj)
    · rw [cc_bt (fun w => by have := (cc_okI (by decide) hj).mp w.1; omega)] at h
      exact h
    · by_cases b : y < 0
      · rw [cc_bt (fun z => cc_ok0 (by decide) b z.2)] at h
        exact br_t b h
      · obtain ⟨i, hi, rfl⟩ := nI_of b
        refine br_f b (pk_le i 1 (fun w => ?_) (fun w => ?_) rfl rfl hi (by decide))
        · rw [cc_bf (fun v => v ⟨(cc_okI (by decide) hj).mpr (by omega), (cc_okI (by decide) hi).mpr (by omega)⟩)] at h
          exact h
        · rw [cc_bt (fun v => by have := (cc_okI (by decide) hi).mp v.2; omega)] at h
          exact h
theorem cc_sm {a s : Nat} (ha : a < 7) (hs : s ≤ 7) : nI a = cc_s s ↔ a = s := by
  rw [← cc_sn (x := a) (by omega)]
  exact cc_s_eq (by omega) hs
section
variable {us ce : Nat → Nat} {wr : Nat → Prop} {so ea : Nat → Nat} {n : Nat} {U C W S E R O : Nat → Int32}
theorem cc_yMiss {post : Int32 → Prop} {x : Int32} (hn : n ≤ 8) (h : post (cc_b (¬ cc_ok n x))) : wpY_missing post (nI n, U, C, W, S, E, R, O) x := by
  by_cases a : x < 0
  · rw [cc_bt (cc_ok0 (by omega) a)] at h
    exact br_t a h
  · obtain ⟨j, hj, rfl⟩ := nI_of a
    refine br_f a (pk_lt j n (fun z => ?_) (fun z => ?_) rfl rfl hj (by omega))
    · rw [cc_bf (fun w => w ((cc_okI (by omega) hj).mpr z))] at h
      exact h
    · rw [cc_bt (fun w => by have := (cc_okI (by omega) hj).mp w; omega)] at h
      exact h
theorem cc_yNo {post : Int32 → Prop} {x : Int32} {cell : Nat} (hY : cc_Y n us ce wr so ea U C W S E) (hH : cc_H n us ce wr so ea) (hn : n ≤ 8) (hc : cell < 2)
    (h : post (cc_b (¬ (x = -1 ∨ cc_src n ce wr x cell)))) : wpY_noSource post (nI n, U, C, W, S, E, R, O) (nI cell) x := by
  by_cases e1 : x = -1
  · rw [cc_bf (fun z => z (Or.inl e1))] at h
    exact br_t e1 h
  · have h : post (cc_b (¬ cc_src n ce wr x cell)) := by
      rw [cc_bq (q := ¬ cc_src n ce wr x cell) ⟨fun z y => z (Or.inr y), fun z y => y.elim e1 z⟩] at h
      exact h
    by_cases a : x < 0
    · rw [cc_bt (fun ⟨j, hj, e, _⟩ => cc_ok0 (k := n) (by omega) a ⟨j, hj, e⟩)] at h
      exact br_f e1 (br_t a h)
    · obtain ⟨j, hj, rfl⟩ := nI_of a
      refine br_f e1 (br_f a (pk_le n j (fun z => ?_) (fun z => ?_) rfl rfl (by omega) hj))
      · rw [cc_bt (fun ⟨i, hi, e, _⟩ => by have := (nI_eq hj (by omega)).mp e; omega)] at h
        exact h
      · have w8 : vp_in (nI j) 8 := vp_in_nI (by omega) (by decide)
        have ec : (nI j).toNatClampNeg = j := nI_clamp (by omega)
        obtain ⟨_, h2, h3, _, _⟩ := hY j z
        have hcj := (hH j z).2.1
        refine ⟨w8, cc_bw (by rw [ec]; exact h3) (fun y => ?_) (fun y => ⟨w8, pk_eq (ce j) cell (fun v => ?_) (fun v => ?_) (by rw [ec]; exact h2) rfl (by omega) (by omega)⟩)⟩
        · rw [cc_bt (fun ⟨i, hi, e, w, _⟩ => by
            have : j = i := (nI_eq hj (by omega)).mp e
            subst this
            exact y w)] at h
          exact h
        · rw [cc_bf (fun w => w ⟨j, z, rfl, y, v⟩)] at h
          exact h
        · rw [cc_bt (fun ⟨i, hi, e, _, w⟩ => by
            have : j = i := (nI_eq hj (by omega)).mp e
            subst this
            exact v w)] at h
          exact h
theorem cc_yput47 {post : SY → Prop} {user s : Nat} {w : Prop} {x3 : Int32} (hU : ∀ a, a < n → U a = nI (us a)) (hE : ∀ a, a < n → E a = nI (ea a)) (hus : ∀ a, a < n → us a < 3)
    (hn : n ≤ 7) (hu : user < 3) (hs : s ≤ 7) (h3 : x3 = cc_b w) (hw : w → s = 7)
    (K : post (nI n, U, C, W, S, upd E n (nI (cc_en us ea user s n)), R, O)) :
    ∀ d i f, i + d = n → d < f → wY_put_47 post (nI user) x3 (cc_s s) (nI n) U C W S E R O f (nI (cc_en us ea user s i)) (nI i) := by
  intro d
  induction d with
  | zero =>
    intro i f h1 h2
    obtain ⟨f, rfl⟩ : ∃ m, f = m + 1 := ⟨f - 1, by omega⟩
    have hi : i = n := by omega
    subst hi
    have w8 : vp_in (nI i) 8 := vp_in_nI (by omega) (by decide)
    have e : (nI i).toNatClampNeg = i := nI_clamp (by omega)
    exact br_t (nI_le (Nat.le_refl _) (by omega)) ⟨w8, nm_r (e' := upd E i (nI (cc_en us ea user s i))) (by rw [e]) K⟩
  | succ d ih =>
    intro i f h1 h2
    obtain ⟨f, rfl⟩ : ∃ m, f = m + 1 := ⟨f - 1, by omega⟩
    have hi : i < n := by omega
    have w8 : vp_in (nI i) 8 := vp_in_nI (by omega) (by decide)
    have e : (nI i).toNatClampNeg = i := nI_clamp (by omega)
    have g1 := hU i hi
    have g5 := hE i hi
    have hui := hus i hi
    have t := ih (i + 1) f (by omega) (by omega)
    have step : (us i = user ∨ i = s) → wY_put_78 post (wY_put_47 post (nI user) x3 (cc_s s) (nI n) U C W S E R O f) (nI user) x3 (cc_s s) (nI (cc_en us ea user s i)) (nI i) (nI n) U C W S E R O := by
      intro c
      have ee : cc_en us ea user s (i + 1) = cc_en us ea user s i ||| (ea i ||| 2 ^ i) := if_pos c
      refine ⟨w8, nm_r (e' := nI (cc_en us ea user s (i + 1))) ?_ (nm_r (nI_1 i) t)⟩
      rw [e, g5, cc_bit i (by omega), cc_or, cc_or, ee]
    have skip : ¬ (us i = user ∨ i = s) → wY_put_47 post (nI user) x3 (cc_s s) (nI n) U C W S E R O f (nI (cc_en us ea user s i)) (nI (i + 1)) := by
      intro c
      have ee : cc_en us ea user s (i + 1) = cc_en us ea user s i := if_neg c
      rw [ee] at t
      exact t
    exact br_f (nI_ge (by omega) (by omega)) ⟨w8, pk_eq (us i) user (fun c => step (Or.inl c))
      (fun c => cc_bw h3 (fun nw => cc_if (cc_sm (by omega) hs) (fun c' => step (Or.inr c')) (fun c' => nm_r (nI_1 i) (skip (fun z => z.elim c c'))))
        (fun hw' => nm_r (nI_1 i) (skip (fun z => z.elim c (fun z => by have := hw hw'; omega)))))
      (by rw [e]; exact g1) rfl (by omega) (by omega)⟩
theorem cc_yput {post : SY → Prop} {user cell s : Nat} {w : Prop} {x3 x4 : Int32} (hY : cc_Y n us ce wr so ea U C W S E) (hH : cc_H n us ce wr so ea)
    (hn : n ≤ 7) (hu : user < 3) (hs : s ≤ 7) (h3 : x3 = cc_b w) (h4 : x4 = cc_s s) (hw : w → s = 7)
    (K : post (nI n, upd U n (nI user), upd C n (nI cell), upd W n x3, upd S n x4, upd E n (nI (cc_en us ea user s n)), R, O)) :
    wpY_put post (nI n, U, C, W, S, E, R, O) (nI user) (nI cell) x3 x4 := by
  have w8 : vp_in (nI n) 8 := vp_in_nI (by omega) (by decide)
  have e : (nI n).toNatClampNeg = n := nI_clamp (by omega)
  refine ⟨w8, nm_r (e' := upd U n (nI user)) (by rw [e]) ⟨w8, nm_r (e' := upd C n (nI cell)) (by rw [e]) ⟨w8, nm_r (e' := upd W n x3) (by rw [e, h3, cc_nar]) ⟨w8, nm_r (e' := upd S n x4) (by rw [e]) ⟨n + 1, ?_⟩⟩⟩⟩⟩
  rw [h4]
  rw [h4] at K
  exact cc_yput47 (us := us) (ea := ea) (fun a ha => by rw [pk_un (by omega)]; exact (hY a ha).1) (fun a ha => (hY a ha).2.2.2.2) (fun a ha => (hH a ha).1) hn hu hs h3 hw K n 0 (n + 1) (by omega) (by omega)
theorem cc_yaft {post : Int32 → Prop} {p q k : Nat} {J' : Prop} {x3 : Int32} (hY : cc_Y n us ce wr so ea U C W S E) (hH : cc_H n us ce wr so ea) (hn : n ≤ 7) (hk : k < n) (hp : p ≤ 7) (hq : q ≤ 7) (h3 : x3 = cc_b J')
    (Kw : wr k → post (nI (9 * cc_y (if ce k = 0 then k else p) + cc_y (if ce k = 0 then q else k))))
    (Kr : ¬ wr k → (J' → (if ce k = 0 then p else q) = so k) → post (nI (9 * cc_y p + cc_y q)))
    (Kx : ¬ wr k → J' → (if ce k = 0 then p else q) ≠ so k → post (-1)) :
    wpY_after post (nI n, U, C, W, S, E, R, O) (nI (9 * cc_y p + cc_y q)) (nI k) x3 := by
  have w8 : vp_in (nI k) 8 := vp_in_nI (by omega) (by decide)
  have ec : (nI k).toNatClampNeg = k := nI_clamp (by omega)
  obtain ⟨_, g2, g3, g4, _⟩ := hY k hk
  obtain ⟨_, b2, _, _, b5, _, _⟩ := hH k hk
  have hyp := cc_yb hp
  have hyq := cc_yb hq
  have hyk : cc_y k = k := if_neg (by omega)
  have ed : nI (9 * cc_y p + cc_y q) / 9 = nI (cc_y p) := by
    have t : nI (9 * cc_y p + cc_y q) / 9 = nI ((9 * cc_y p + cc_y q) / 9) := pk_div (by omega) (by decide) (by decide)
    rw [t]
    congr 1
    omega
  have er : nI (9 * cc_y p + cc_y q) - nI (9 * cc_y p + cc_y q) / 9 * 9 = nI (cc_y q) := by
    have t : nI (9 * cc_y p + cc_y q) - nI (9 * cc_y p + cc_y q) / 9 * 9 = nI ((9 * cc_y p + cc_y q) % 9) := pk_rem (by omega) (by decide) (by decide)
    rw [t]
    congr 1
    omega
  have m9 : ∀ a, (9 : Int32) * nI a = nI (9 * a) := fun a => pk_mul 9 a
  have n9 : ∀ a, nI a * 9 = nI (a * 9) := fun a => pk_mul a 9
  have n90 : ¬ (9 : Int32) = 0 := by decide
  have sy : (0 ≤ S (nI k).toNatClampNeg) ↔ so k ≠ 7 := by
    rw [ec, g4]
    by_cases e7 : so k = 7
    · rw [e7, cc_s7]; exact ⟨fun z => absurd z (by decide), fun z => absurd rfl z⟩
    · rw [cc_sn e7]; exact ⟨fun _ => e7, fun _ => nI_pos' (by omega)⟩
  have a20 : ∀ mine, mine ≤ 7 → mine = (if ce k = 0 then p else q) → wY_after_20 post (nI (9 * cc_y p + cc_y q)) (nI k) x3 (nI (cc_y mine)) (nI n) U C W S E R O := by
    intro mine hm em
    have hym := cc_yb hm
    refine ⟨w8, cc_bw (by rw [ec]; exact g3) (fun hw => cc_bw h3 (fun nj => Kr hw (fun z => absurd z nj)) (fun hj => ⟨w8, cc_if sy (fun s7 => ⟨w8, ?_⟩) (fun s7 => ?_)⟩)) (fun hw => ⟨w8, ?_⟩)⟩
    · have es : S (nI k).toNatClampNeg = nI (cc_y (so k)) := by rw [ec, g4, cc_sn s7]; congr 1; exact (if_neg s7).symm
      rw [es]
      have hys := cc_yb b5
      exact pk_eq (cc_y mine) (cc_y (so k)) (fun z => Kr hw (fun _ => by rw [← em]; exact cc_yi hm b5 z)) (fun z => Kx hw hj (fun y => z (by rw [em, y]))) rfl rfl (by omega) (by omega)
    · have s7 : so k = 7 := Classical.byContradiction s7
      exact pk_eq (cc_y mine) 8 (fun z => Kr hw (fun _ => by rw [← em, s7]; exact cc_yi hm (by decide) z)) (fun z => Kx hw hj (fun y => z (by rw [em, y, s7]; rfl))) rfl rfl (by omega) (by decide)
    · have kw := Kw hw
      refine pk_eq (ce k) 0 (fun c0 => ⟨n90, ?_⟩) (fun c0 => ⟨n90, ?_⟩) (by rw [ec]; exact g2) rfl (by omega) (by decide)
      · rw [if_pos c0, if_pos c0, hyk] at kw
        rw [er, m9, nI_add]
        exact kw
      · rw [if_neg c0, if_neg c0, hyk, Nat.mul_comm] at kw
        rw [ed, n9, nI_add]
        exact kw
  refine ⟨w8, pk_eq (ce k) 0 (fun c0 => ⟨n90, ?_⟩) (fun c0 => ⟨n90, ?_⟩) (by rw [ec]; exact g2) rfl (by omega) (by decide)⟩
  · rw [ed]
    exact a20 p hp (by rw [if_pos c0])
  · rw [er]
    exact a20 q hq (by rw [if_neg c0])
end
end
section
/-! the reference's hasRow -/
section
variable {us ce : Nat → Nat} {wr : Nat → Prop} {so ea : Nat → Nat} {n : Nat} {U C W S E O : Nat → Int32} {PS : Nat} {J : Nat → Prop} {al : Prop}
theorem cc_y181n {post : Int32 → SY → Prop} {J47 J65 : Int32 → (Nat → Int32) → (Nat → Int32) → (Nat → Int32) → (Nat → Int32) → (Nat → Int32) → (Nat → Int32) → (Nat → Int32) → Prop}
    {x1 x2 x3 x4 x5 : Int32} {j : Nat} {R : Nat → Int32} (K : J65 (nI (j + 1)) U C W S E R O) :
    wY_hasRow_181 post J47 J65 x1 x2 x3 x4 x5 (nI j) (-1) (nI n) U C W S E R O :=
  br_t (by decide) (nm_r (nI_1 j) K)
theorem cc_y181p {post : Int32 → SY → Prop} {J47 J65 : Int32 → (Nat → Int32) → (Nat → Int32) → (Nat → Int32) → (Nat → Int32) → (Nat → Int32) → (Nat → Int32) → (Nat → Int32) → Prop}
    {x1 x2 x3 x4 : Int32} {j St p q : Nat} {R : Nat → Int32} (hj : j < 7) (hS : St ||| 2 ^ j < 128) (hp : p ≤ 7) (hq : q ≤ 7)
    (K : J65 (nI (j + 1)) U C W S E (upd R (cc_EY (St ||| 2 ^ j) p q) 1) O) :
    wY_hasRow_181 post J47 J65 x1 x2 x3 x4 (nI St) (nI j) (nI (9 * cc_y p + cc_y q)) (nI n) U C W S E R O := by
  have b1 := cc_yb hp
  have b2 := cc_yb hq
  have hl := cc_EYlt hS hp hq
  have e : ((81 : Int32) * (nI St ||| ((1 : Int32) <<< (nI j &&& 31)))) + nI (9 * cc_y p + cc_y q) = nI (cc_EY (St ||| 2 ^ j) p q) := by
    have m81 : ∀ a, (81 : Int32) * nI a = nI (81 * a) := fun a => pk_mul 81 a
    rw [cc_bit j (by omega), cc_or, m81, nI_add]
    rfl
  have ec : (((81 : Int32) * (nI St ||| ((1 : Int32) <<< (nI j &&& 31)))) + nI (9 * cc_y p + cc_y q)).toNatClampNeg = cc_EY (St ||| 2 ^ j) p q := by rw [e]; exact nI_clamp (by omega)
  exact br_f (nI_pos (by omega)) ⟨by rw [e]; exact vp_in_nI hl (by decide), nm_r (e' := upd R (cc_EY (St ||| 2 ^ j) p q) 1) (by rw [ec, cc_nar1]) (nm_r (nI_1 j) K)⟩
theorem cc_y124 {post : Int32 → SY → Prop} {J47 J65 : Int32 → (Nat → Int32) → (Nat → Int32) → (Nat → Int32) → (Nat → Int32) → (Nat → Int32) → (Nat → Int32) → (Nat → Int32) → Prop}
    {x2 x3 x4 x5 z0 : Int32} {j b : Nat} {R : Nat → Int32} (hY : cc_Y n us ce wr so ea U C W S E) (hH : cc_H n us ce wr so ea) (hn : n ≤ 7) (hj : j < n) (hb : b < n) (h2 : x2 = cc_b al)
    (K : ∀ x : Int32, x = cc_b (j = b ∨ (al ∧ us j = us b)) → wY_hasRow_157 post J47 J65 (nI b) x2 x3 x4 x5 (nI j) z0 x (nI n) U C W S E R O) :
    wY_hasRow_124 post J47 J65 (nI b) x2 x3 x4 x5 (nI j) z0 (nI n) U C W S E R O := by
  have w8 : vp_in (nI j) 8 := vp_in_nI (by omega) (by decide)
  have w8b : vp_in (nI b) 8 := vp_in_nI (by omega) (by decide)
  have ec : (nI j).toNatClampNeg = j := nI_clamp (by omega)
  have ecb : (nI b).toNatClampNeg = b := nI_clamp (by omega)
  have u1 := (hH j hj).1
  have u2 := (hH b hb).1
  refine pk_eq j b (fun e => K 1 (cc_bt (Or.inl e)).symm) (fun e => cc_bw h2 (fun a => K 0 (cc_bf (fun z => z.elim e (fun y => a y.1))).symm) (fun a => ⟨w8, w8b, pk_eq (us j) (us b) (fun y => K 1 (cc_bt (Or.inr ⟨a, y⟩)).symm) (fun y => K 0 (cc_bf (fun z => z.elim e (fun v => y v.2))).symm) (by rw [ec]; exact (hY j hj).1) (by rw [ecb]; exact (hY b hb).1) (by omega) (by omega)⟩)) rfl rfl (by omega) (by omega)
theorem cc_yrow65 {post : Int32 → SY → Prop} {J47 : Int32 → (Nat → Int32) → (Nat → Int32) → (Nat → Int32) → (Nat → Int32) → (Nat → Int32) → (Nat → Int32) → (Nat → Int32) → Prop}
    {x2 : Int32} {b St p q : Nat} {R0 : Nat → Int32} (hY : cc_Y n us ce wr so ea U C W S E) (hH : cc_H n us ce wr so ea) (hn : n ≤ 7) (hP : PS < 128) (hb : b < n) (h2 : x2 = cc_b al)
    (hJ : ∀ k, PS.testBit k = true → ((k = b ∨ (al ∧ us k = us b)) ↔ J k)) (hp : p ≤ 7) (hq : q ≤ 7) (hS : ∀ j, St.testBit j = true → PS.testBit j = true)
    (hR0 : R0 (cc_EY St p q) ≠ 0)
    (K : ∀ R', (∀ c, R' c ≠ 0 ↔ R0 c ≠ 0 ∨ ∃ k, k < n ∧ cc_BX ce wr so ea PS J cc_EY St p q k c) → J47 (nI (cc_EY St p q + 1)) U C W S E R' O) :
    ∀ d i f R, i + d = n → d < f → (∀ c, R c ≠ 0 ↔ R0 c ≠ 0 ∨ ∃ k, k < i ∧ cc_BX ce wr so ea PS J cc_EY St p q k c) →
    wY_hasRow_65 post J47 (nI b) x2 (nI PS) (nI (cc_EY St p q)) (nI St) (nI n) f (nI i) U C W S E R O := by
  have hSt : St < 128 := Nat.lt_of_le_of_lt (Nat.le_of_testBit hS) hP
  have hl := cc_EYlt hSt hp hq
  intro d
  induction d with
  | zero =>
    intro i f R h1 h2 hR
    obtain ⟨f, rfl⟩ : ∃ m, f = m + 1 := ⟨f - 1, by omega⟩
    have hi : i = n := by omega
    subst hi
    exact br_t (nI_le (Nat.le_refl _) (by omega)) (nm_r (nI_1 _) (K R hR))
  | succ d ih =>
    intro i f R h1 h2' hR
    obtain ⟨f, rfl⟩ : ∃ m, f = m + 1 := ⟨f - 1, by omega⟩
    have hin : i < n := by omega
    have w8 : vp_in (nI i) 8 := vp_in_nI (by omega) (by decide)
    have ec : (nI i).toNatClampNeg = i := nI_clamp (by omega)
    have ecs : (nI (cc_EY St p q)).toNatClampNeg = cc_EY St p q := nI_clamp (by omega)
    have h2i : 2 ^ i < 2 ^ 7 := cc_p2 (by omega)
    obtain ⟨_, _, _, _, g5⟩ := hY i hin
    obtain ⟨_, b2, b3, _, b5, _, _⟩ := hH i hin
    have eS : St ||| 2 ^ i < 128 := Nat.or_lt_two_pow (n := 7) hSt h2i
    have eal : ea i < 2 ^ 7 := Nat.lt_trans b3 h2i
    have skip : (∀ c, ¬ cc_BX ce wr so ea PS J cc_EY St p q i c) → wY_hasRow_65 post J47 (nI b) x2 (nI PS) (nI (cc_EY St p q)) (nI St) (nI n) f (nI (i + 1)) U C W S E R O :=
      fun hB => ih (i + 1) f R (by omega) (by omega) (cc_inv_skip hR hB)
    have add : ∀ p' q', p' ≤ 7 → q' ≤ 7 → (∀ c, cc_BX ce wr so ea PS J cc_EY St p q i c ↔ c = cc_EY (St ||| 2 ^ i) p' q') →
        wY_hasRow_65 post J47 (nI b) x2 (nI PS) (nI (cc_EY St p q)) (nI St) (nI n) f (nI (i + 1)) U C W S E (upd R (cc_EY (St ||| 2 ^ i) p' q') 1) O :=
      fun p' q' _ _ hB => ih (i + 1) f _ (by omega) (by omega) (cc_inv_add hR hB)
    have no : ¬ (PS.testBit i = true ∧ St.testBit i = false ∧ ∀ j, (ea i).testBit j = true → St.testBit j = true) →
        wY_hasRow_123 post J47 (wY_hasRow_65 post J47 (nI b) x2 (nI PS) (nI (cc_EY St p q)) (nI St) (nI n) f) (nI b) x2 (nI PS) (nI (cc_EY St p q)) (nI St) (nI i) (nI n) U C W S E R O := by
      intro c
      unfold wY_hasRow_123
      exact cc_y124 hY hH hn hin hb h2 (fun x _ => br_t rfl (cc_y181n (skip (cc_BX_n c))))
    refine br_f (nI_ge (by omega) (by omega)) ⟨vp_in_nI hl (by decide), br_f (by rw [ecs]; exact (hR _).mpr (Or.inl hR0)) (cc_b1w (cc_sh1 (by omega) (by omega)) (fun c1 => cc_bw (cc_sh1 (by omega) (by omega)) (fun c2 => ⟨w8, ?_⟩) (fun c2 => no (fun z => by rw [z.2.1] at c2; exact absurd c2 (by decide)))) (fun c1 => no (fun z => c1 z.1)))⟩
    have hdl := cc_dle (ea i) St
    refine pk_eq (cc_d (ea i) St) 0 (fun c3 => ?_) (fun c3 => no (fun z => c3 ((cc_d0 (by omega)).mpr z.2.2))) (by rw [ec, g5, cc_dif]) rfl (by omega) (by decide)
    have c2 := cc_f c2
    have c3 := (cc_d0 (show ea i < 2 ^ 32 by omega)).mp c3
    refine cc_y124 hY hH hn hin hb h2 (fun x hx => br_f (by decide) ⟨by decide, ?_⟩)
    have er : nI (cc_EY St p q) - nI (cc_EY St p q) / 81 * 81 = nI (9 * cc_y p + cc_y q) := by
      have t : nI (cc_EY St p q) - nI (cc_EY St p q) / 81 * 81 = nI (cc_EY St p q % 81) := pk_rem (by omega) (by decide) (by decide)
      rw [t, cc_EYr hp hq]
    rw [er]
    refine cc_yaft hY hH hn hin hp hq hx (fun hw => ?_) (fun hw hj => ?_) (fun hw hj hne => ?_)
    · have q1 : (if ce i = 0 then i else p) ≤ 7 := by split <;> omega
      have q2 : (if ce i = 0 then q else i) ≤ 7 := by split <;> omega
      exact cc_y181p (by omega) eS q1 q2 (add _ _ q1 q2 (cc_BX_w c1 c2 c3 hw))
    · exact cc_y181p (by omega) eS hp hq (add _ _ hp hq (cc_BX_r c1 c2 c3 hw (fun jk => hj ((hJ i c1).mpr jk))))
    · exact cc_y181n (skip (cc_BX_x hw ((hJ i c1).mp hj) hne))
theorem cc_yrow222 {post : Int32 → SY → Prop} {R : Nat → Int32} {Q : Prop} (hP : PS < 128) (hQ : Q ↔ ∃ c, c < 81 ∧ R (81 * PS + c) ≠ 0) (K : post (cc_b Q) (nI n, U, C, W, S, E, R, O)) :
    ∀ d j f, j + d = 81 → d < f → (∀ c, c < j → R (81 * PS + c) = 0) → wY_hasRow_222 post (nI PS) (nI n) U C W S E R O f (nI j) := by
  intro d
  induction d with
  | zero =>
    intro j f h1 h2 h
    obtain ⟨f, rfl⟩ : ∃ m, f = m + 1 := ⟨f - 1, by omega⟩
    have hj : j = 81 := by omega
    subst hj
    rw [cc_bf (fun z => by obtain ⟨c, hc, y⟩ := hQ.mp z; exact y (h c hc))] at K
    exact br_t (nI_le (a := 81) (Nat.le_refl _) (by decide)) K
  | succ d ih =>
    intro j f h1 h2 h
    obtain ⟨f, rfl⟩ : ∃ m, f = m + 1 := ⟨f - 1, by omega⟩
    have e : (81 : Int32) * nI PS + nI j = nI (81 * PS + j) := by
      have m81 : (81 : Int32) * nI PS = nI (81 * PS) := pk_mul 81 PS
      rw [m81, nI_add]
    have ec : ((81 : Int32) * nI PS + nI j).toNatClampNeg = 81 * PS + j := by rw [e]; exact nI_clamp (by omega)
    refine br_f (nI_ge (b := 81) (by omega) (by decide)) ⟨by rw [e]; exact vp_in_nI (by omega) (by decide), cc_if (d := R (81 * PS + j) = 0) (by rw [ec]) (fun z => nm_r (nI_1 j) (ih (j + 1) f (by omega) (by omega) (fun c hc => ?_))) (fun z => ?_)⟩
    · rcases Nat.lt_or_ge c j with y | y
      · exact h c y
      · have : c = j := by omega
        rw [this]; exact z
    · rw [cc_bt (hQ.mpr ⟨j, by omega, z⟩)] at K
      exact K
theorem cc_yrow47 {post : Int32 → SY → Prop} {x2 : Int32} {b : Nat} (hY : cc_Y n us ce wr so ea U C W S E) (hH : cc_H n us ce wr so ea) (hn : n ≤ 7) (hP : PS < 128) (hP0 : PS ≠ 0)
    (hPn : ∀ k, PS.testBit k = true → k < n) (hb : b < n) (h2 : x2 = cc_b al) (hJ : ∀ k, PS.testBit k = true → ((k = b ∨ (al ∧ us k = us b)) ↔ J k))
    (K : ∀ R', post (cc_b (cc_HR ce wr so ea PS J)) (nI n, U, C, W, S, E, R', O)) :
    ∀ d i f R, i + d = 10368 → d < f → cc_I (cc_T ce wr so ea PS J) cc_EY i (fun c => c < 10368 ∧ R c ≠ 0) →
    wY_hasRow_47 post (nI b) x2 (nI PS) (nI n) f (nI i) U C W S E R O := by
  intro d
  induction d with
  | zero =>
    intro i f R h1 h2 I
    obtain ⟨f, rfl⟩ : ∃ m, f = m + 1 := ⟨f - 1, by omega⟩
    have hi : i = 10368 := by omega
    subst hi
    refine br_t (nI_le (a := 10368) (Nat.le_refl _) (by decide)) ⟨82, cc_yrow222 hP ((cc_YF hP hP0 I).trans ?_) (K R) 81 0 82 (by omega) (by omega) (fun c hc => absurd hc (Nat.not_lt_zero _))⟩
    exact ⟨fun ⟨c, hc, _, y⟩ => ⟨c, hc, y⟩, fun ⟨c, hc, y⟩ => ⟨c, hc, by omega, y⟩⟩
  | succ d ih =>
    intro i f R h1 h2' I
    obtain ⟨f, rfl⟩ : ∃ m, f = m + 1 := ⟨f - 1, by omega⟩
    have hi : i < 10368 := by omega
    have ec : (nI i).toNatClampNeg = i := nI_clamp (by omega)
    have ed : nI i / 81 = nI (i / 81) := pk_div (by omega) (by decide) (by decide)
    refine br_f (nI_ge (b := 10368) hi (by decide)) ⟨by decide, nm_r ed ?_⟩
    by_cases z : R i = 0
    · have t := ih (i + 1) f R (by omega) (by omega) (cc_In (cc_EYm hP) I (fun y => y.2 z))
      exact ⟨1, br_c (fun _ => nm_r (nI_1 i) t) (fun _ => ⟨vp_in_nI hi (by decide), br_t (by rw [ec]; exact z) (nm_r (nI_1 i) t)⟩)⟩
    · obtain ⟨St, p, q, e, hR⟩ := I.1 i ⟨hi, z⟩
      have bb := cc_Tb hP hR
      rw [e] at z ⊢
      rw [cc_EYd bb.1.1 bb.1.2]
      refine ⟨n + 1, cc_yrow65 (R0 := R) hY hH hn hP hb h2 hJ bb.1.1 bb.1.2 bb.2 z (fun R' hR' => ?_) n 0 (n + 1) R (by omega) (by omega) (fun c => ⟨Or.inl, fun h => h.elim id (fun ⟨k, hk, _⟩ => absurd hk (Nat.not_lt_zero _))⟩)⟩
      rw [← e]
      refine ih (i + 1) f R' (by omega) (by omega) (cc_Iy cc_EYi (cc_Tbd hP) I e hR (fun c => ?_))
      constructor
      · rintro ⟨hc, y⟩
        rcases (hR' c).mp y with y | ⟨k, _, S', p', q', t, e'⟩
        · exact Or.inl ⟨hc, y⟩
        · exact Or.inr ⟨S', p', q', ⟨k, t⟩, e'⟩
      · rintro (⟨hc, y⟩ | ⟨S', p', q', ⟨k, t⟩, e'⟩)
        · exact ⟨hc, (hR' c).mpr (Or.inl y)⟩
        · have hR2 := cc_Rs hR (S' := S') (p' := p') (q' := q') ⟨k, t⟩
          have b2 := cc_Tb hP hR2
          have hS' : S' < 128 := Nat.lt_of_le_of_lt (cc_Tle hP hR2) hP
          exact ⟨by rw [e']; exact cc_EYlt hS' b2.1.1 b2.1.2, (hR' c).mpr (Or.inr ⟨k, hPn k t.1, S', p', q', t, e'⟩)⟩
theorem cc_yrow14 {post : Int32 → SY → Prop} {x2 : Int32} {b : Nat} (hY : cc_Y n us ce wr so ea U C W S E) (hH : cc_H n us ce wr so ea) (hn : n ≤ 7) (hP : PS < 128) (hP0 : PS ≠ 0)
    (hPn : ∀ k, PS.testBit k = true → k < n) (hb : b < n) (h2 : x2 = cc_b al) (hJ : ∀ k, PS.testBit k = true → ((k = b ∨ (al ∧ us k = us b)) ↔ J k))
    (K : ∀ R', post (cc_b (cc_HR ce wr so ea PS J)) (nI n, U, C, W, S, E, R', O)) :
    ∀ d i f R, i + d = 10368 → d < f → (∀ c, c < i → R c = 0) → wY_hasRow_14 post (nI b) x2 (nI PS) (nI n) f (nI i) U C W S E R O := by
  intro d
  induction d with
  | zero =>
    intro i f R h1 h2' h
    obtain ⟨f, rfl⟩ : ∃ m, f = m + 1 := ⟨f - 1, by omega⟩
    have hi : i = 10368 := by omega
    subst hi
    refine br_t (nI_le (a := 10368) (Nat.le_refl _) (by decide)) (nm_r (e' := upd R 80 1) rfl ⟨10369, ?_⟩)
    refine cc_yrow47 hY hH hn hP hP0 hPn hb h2 hJ K 10368 0 10369 (upd R 80 1) (by omega) (by omega) (cc_I80 (fun c => ?_))
    constructor
    · rintro ⟨hc, y⟩
      apply Classical.byContradiction
      intro z
      rw [pk_un z] at y
      exact y (h c hc)
    · rintro rfl
      exact ⟨by decide, by rw [pk_us]; decide⟩
  | succ d ih =>
    intro i f R h1 h2' h
    obtain ⟨f, rfl⟩ : ∃ m, f = m + 1 := ⟨f - 1, by omega⟩
    have ec : (nI i).toNatClampNeg = i := nI_clamp (by omega)
    refine br_f (nI_ge (b := 10368) (by omega) (by decide)) ⟨vp_in_nI (by omega) (by decide), nm_r (e' := upd R i 0) (by rw [ec, cc_nar0]) (nm_r (nI_1 i) (ih (i + 1) f _ (by omega) (by omega) (fun c hc => ?_)))⟩
    by_cases y : c = i
    · rw [y, pk_us]
    · rw [pk_un y]
      exact h c (by omega)
theorem cc_yrow {post : Int32 → SY → Prop} {x2 : Int32} {b : Nat} {R : Nat → Int32} (hY : cc_Y n us ce wr so ea U C W S E) (hH : cc_H n us ce wr so ea) (hn : n ≤ 7) (hb : b < n) (h2 : x2 = cc_b al)
    (hJ : ∀ k, (ea b ||| 2 ^ b).testBit k = true → ((k = b ∨ (al ∧ us k = us b)) ↔ J k))
    (K : ∀ R', post (cc_b (cc_HR ce wr so ea (ea b ||| 2 ^ b) J)) (nI n, U, C, W, S, E, R', O)) :
    wpY_hasRow post (nI n, U, C, W, S, E, R, O) (nI b) x2 := by
  have w8 : vp_in (nI b) 8 := vp_in_nI (by omega) (by decide)
  have ec : (nI b).toNatClampNeg = b := nI_clamp (by omega)
  obtain ⟨p1, p2, p3, p4⟩ := cc_past hH hn hb
  exact ⟨w8, nm_r (e' := nI (ea b ||| 2 ^ b)) (by rw [ec, (hY b hb).2.2.2.2, cc_bit b (by omega), cc_or]) ⟨10369, cc_yrow14 hY hH hn p1 p2 (fun k hk => by have := p3 k hk; omega) hb h2 hJ K 10368 0 10369 R (by omega) (by omega) (fun c hc => absurd hc (Nat.not_lt_zero _))⟩⟩
theorem cc_ywk {post : Int32 → SY → Prop} {b : Nat} {R : Nat → Int32} (hY : cc_Y n us ce wr so ea U C W S E) (hH : cc_H n us ce wr so ea) (hn : n ≤ 7) (hb : b < n)
    (K : ∀ R', post (cc_b (cc_WK ce wr so ea b)) (nI n, U, C, W, S, E, R', O)) : wpY_weak post (nI n, U, C, W, S, E, R, O) (nI b) := by
  have w8 : vp_in (nI b) 8 := vp_in_nI (by omega) (by decide)
  have ec : (nI b).toNatClampNeg = b := nI_clamp (by omega)
  unfold wpY_weak
  dsimp only
  refine cc_yMiss (by omega) (cc_br (fun z => ⟨w8, cc_bw (by rw [ec]; exact (hY b hb).2.2.1) (fun hw => ?_) (fun hw => ?_)⟩) (fun z => absurd ⟨b, hb, rfl⟩ z))
  · refine cc_yrow (al := False) (J := fun k => k = b) hY hH hn hb (cc_bf id).symm (fun k _ => ⟨fun z => z.elim id (fun y => y.1.elim), Or.inl⟩) (fun R' => cc_br (fun y => ?_) (fun y => ?_))
    · have k := K R'
      rw [cc_bf (p := cc_WK ce wr so ea b) (fun v => v.elim hw y)] at k
      exact k
    · have k := K R'
      rw [cc_bt (p := cc_WK ce wr so ea b) (Or.inr y)] at k
      exact k
  · have k := K R
    rw [cc_bt (p := cc_WK ce wr so ea b) (Or.inl hw)] at k
    exact k
theorem cc_ysk {post : Int32 → SY → Prop} {b : Nat} {R : Nat → Int32} (hY : cc_Y n us ce wr so ea U C W S E) (hH : cc_H n us ce wr so ea) (hn : n ≤ 7) (hb : b < n)
    (K : ∀ R', post (cc_b (cc_SK us ce wr so ea b)) (nI n, U, C, W, S, E, R', O)) : wpY_strong post (nI n, U, C, W, S, E, R, O) (nI b) := by
  unfold wpY_strong
  dsimp only
  refine cc_yMiss (by omega) (cc_br (fun z => ?_) (fun z => absurd ⟨b, hb, rfl⟩ z))
  refine cc_yrow (al := True) (J := fun k => us k = us b) hY hH hn hb (cc_bt trivial).symm (fun k _ => ⟨fun z => z.elim (fun e => by rw [e]) (fun y => y.2), fun z => Or.inr ⟨trivial, z⟩⟩) (fun R' => cc_br (fun y => ?_) (fun y => ?_))
  · have k := K R'
    rw [cc_bf (p := cc_SK us ce wr so ea b) y] at k
    exact k
  · have k := K R'
    rw [cc_bt (p := cc_SK us ce wr so ea b) y] at k
    exact k
end
end
section
/-! the reference's isRow, fits, arrange, converges -/
section
variable {us ce : Nat → Nat} {wr : Nat → Prop} {so ea : Nat → Nat} {n m nw : Nat} {U C W S E R O : Nat → Int32} {σ : Nat → Nat}
theorem cc_yir9 {post : Int32 → Prop} {J2 : Int32 → Prop} {x1 : Int32} {i : Nat} (hO : ∀ i, i < nw → O i = nI (σ i)) (hσ : ∀ i, i < nw → σ i < 7)
    (hE : ∀ i, i < nw → E (σ i) = nI (ea (σ i)) ∧ ea (σ i) < 2 ^ 31) (hw : nw ≤ 7) (hi : i < nw)
    (K0 : ¬ cc_Row ea σ nw → post 0) (K1 : (∀ j, j < i → σ i ≠ σ j ∧ (ea (σ j)).testBit (σ i) = false) → J2 (nI (i + 1))) :
    ∀ d j f, j + d = i → d < f → (∀ k, k < j → σ i ≠ σ k ∧ (ea (σ k)).testBit (σ i) = false) → wY_isRow_9 post J2 x1 (nI i) (nI n) U C W S E R O f (nI j) := by
  have w8i : vp_in (nI i) 8 := vp_in_nI (by omega) (by decide)
  have eci : (nI i).toNatClampNeg = i := nI_clamp (by omega)
  have si := hσ i hi
  intro d
  induction d with
  | zero =>
    intro j f h1 h2 h
    obtain ⟨f, rfl⟩ : ∃ m, f = m + 1 := ⟨f - 1, by omega⟩
    have hj : j = i := by omega
    subst hj
    exact br_t (nI_le (Nat.le_refl _) (by omega)) (nm_r (nI_1 j) (K1 h))
  | succ d ih =>
    intro j f h1 h2 h
    obtain ⟨f, rfl⟩ : ∃ m, f = m + 1 := ⟨f - 1, by omega⟩
    have hj : j < i := by omega
    have w8 : vp_in (nI j) 8 := vp_in_nI (by omega) (by decide)
    have ec : (nI j).toNatClampNeg = j := nI_clamp (by omega)
    have sj := hσ j (by omega)
    have oj : O (nI j).toNatClampNeg = nI (σ j) := by rw [ec]; exact hO j (by omega)
    have oi : O (nI i).toNatClampNeg = nI (σ i) := by rw [eci]; exact hO i hi
    have ecs : (nI (σ j)).toNatClampNeg = σ j := nI_clamp (by omega)
    obtain ⟨e1, e2⟩ := hE j (by omega)
    refine br_f (nI_ge (by omega) (by omega)) ⟨w8i, w8, ?_⟩
    rw [oj, oi, ecs, e1]
    refine pk_eq (σ i) (σ j) (fun z => K0 (fun y => (y i hi j hj).1 z)) (fun z => ⟨w8, vp_in_nI (by omega) (by decide), w8i, cc_b1w (cc_sh1 e2 (by omega)) (fun y => K0 (fun v => by rw [(v i hi j hj).2] at y; exact absurd y (by decide))) (fun y => nm_r (nI_1 j) (ih (j + 1) f (by omega) (by omega) (fun k hk => ?_)))⟩) rfl rfl (by omega) (by omega)
    rcases Nat.lt_or_ge k j with v | v
    · exact h k v
    · have : k = j := by omega
      subst this
      exact ⟨z, cc_f y⟩
theorem cc_yir2 {post : Int32 → Prop} (hO : ∀ i, i < nw → O i = nI (σ i)) (hσ : ∀ i, i < nw → σ i < 7)
    (hE : ∀ i, i < nw → E (σ i) = nI (ea (σ i)) ∧ ea (σ i) < 2 ^ 31) (hw : nw ≤ 7) (K : post (cc_b (cc_Row ea σ nw))) :
    ∀ d i f, i + d = nw → d < f → (∀ k, k < i → ∀ j, j < k → σ k ≠ σ j ∧ (ea (σ j)).testBit (σ k) = false) → wY_isRow_2 post (nI nw) (nI n) U C W S E R O f (nI i) := by
  intro d
  induction d with
  | zero =>
    intro i f h1 h2 h
    obtain ⟨f, rfl⟩ : ∃ m, f = m + 1 := ⟨f - 1, by omega⟩
    have hi : i = nw := by omega
    subst hi
    rw [cc_bt (p := cc_Row ea σ i) h] at K
    exact br_t (nI_le (Nat.le_refl _) (by omega)) K
  | succ d ih =>
    intro i f h1 h2 h
    obtain ⟨f, rfl⟩ : ∃ m, f = m + 1 := ⟨f - 1, by omega⟩
    refine br_f (nI_ge (by omega) (by omega)) ⟨i + 1, cc_yir9 hO hσ hE hw (by omega) (fun z => ?_) (fun z => ih (i + 1) f (by omega) (by omega) (fun k hk => ?_)) i 0 (i + 1) (by omega) (by omega) (fun k hk => absurd hk (Nat.not_lt_zero _))⟩
    · rw [cc_bf z] at K
      exact K
    · rcases Nat.lt_or_ge k i with v | v
      · exact h k v
      · have : k = i := by omega
        subst this
        exact z
theorem cc_yir {post : Int32 → Prop} (hO : ∀ i, i < nw → O i = nI (σ i)) (hσ : ∀ i, i < nw → σ i < 7)
    (hE : ∀ i, i < nw → E (σ i) = nI (ea (σ i)) ∧ ea (σ i) < 2 ^ 31) (hw : nw ≤ 7) (K : post (cc_b (cc_Row ea σ nw))) :
    wpY_isRow post (nI n, U, C, W, S, E, R, O) (nI nw) :=
  ⟨nw + 1, cc_yir2 hO hσ hE hw K nw 0 (nw + 1) (by omega) (by omega) (fun k hk => absurd hk (Nat.not_lt_zero _))⟩
theorem cc_last_le {r : Nat} (hσ : ∀ i, i < nw → σ i < 7) : ∀ i, i ≤ nw → cc_last ce ea σ r i ≤ 7
  | 0, _ => Nat.le_refl _
  | i + 1, hi => by
    have ih := cc_last_le (r := r) hσ i (by omega)
    by_cases c : ce (σ i) = ce r ∧ (ea r).testBit (σ i) = true
    · have e : cc_last ce ea σ r (i + 1) = σ i := if_pos c
      have := hσ i (by omega)
      omega
    · have e : cc_last ce ea σ r (i + 1) = cc_last ce ea σ r i := if_neg c
      omega
theorem cc_yft13 {post : Int32 → Prop} {J2 : Int32 → Prop} {x2 : Int32} {r : Nat} (hY : cc_Y m us ce wr so ea U C W S E) (hH : cc_H m us ce wr so ea) (hm : m ≤ 8)
    (hO : ∀ i, i < nw → O i = nI (σ i)) (hσ : ∀ i, i < nw → σ i < 7 ∧ σ i < m) (hw : nw ≤ 7) (hr : r < m)
    (K0 : (¬ wr r ∧ cc_last ce ea σ r nw ≠ so r) → post 0) (K1 : (¬ wr r → cc_last ce ea σ r nw = so r) → J2 (nI (r + 1))) :
    ∀ d i f, i + d = nw → d < f → wY_fits_13 post J2 (nI nw) x2 (nI r) (nI n) U C W S E R O f (cc_s (cc_last ce ea σ r i)) (nI i) := by
  have w8r : vp_in (nI r) 8 := vp_in_nI (by omega) (by decide)
  have ecr : (nI r).toNatClampNeg = r := nI_clamp (by omega)
  obtain ⟨_, r2, r3, r4, r5⟩ := hY r hr
  obtain ⟨_, b2, b3, _, b5, _, _⟩ := hH r hr
  have el : ea r < 2 ^ 8 := Nat.lt_trans b3 (cc_p2 (by omega))
  intro d
  induction d with
  | zero =>
    intro i f h1 h2
    obtain ⟨f, rfl⟩ : ∃ m, f = m + 1 := ⟨f - 1, by omega⟩
    have hi : i = nw := by omega
    subst hi
    have ll := cc_last_le (ce := ce) (ea := ea) (r := r) (fun j hj => (hσ j hj).1) i (Nat.le_refl _)
    refine br_t (nI_le (Nat.le_refl _) (by omega)) ⟨w8r, cc_bw (by rw [ecr]; exact r3) (fun nw' => ⟨w8r, cc_if (d := cc_last ce ea σ r i = so r) (by rw [ecr, r4]; exact cc_s_eq ll b5) (fun z => nm_r (nI_1 r) (K1 (fun _ => z))) (fun z => K0 ⟨nw', z⟩)⟩) (fun hw' => nm_r (nI_1 r) (K1 (fun z => absurd hw' z)))⟩
  | succ d ih =>
    intro i f h1 h2
    obtain ⟨f, rfl⟩ : ∃ m, f = m + 1 := ⟨f - 1, by omega⟩
    have hi : i < nw := by omega
    have w8 : vp_in (nI i) 8 := vp_in_nI (by omega) (by decide)
    have ec : (nI i).toNatClampNeg = i := nI_clamp (by omega)
    obtain ⟨s7, sm⟩ := hσ i hi
    have w8s : vp_in (nI (σ i)) 8 := vp_in_nI (by omega) (by decide)
    have ecs : (nI (σ i)).toNatClampNeg = σ i := nI_clamp (by omega)
    have c2 := (hH (σ i) sm).2.1
    have t := ih (i + 1) f (by omega) (by omega)
    have skip : ¬ (ce (σ i) = ce r ∧ (ea r).testBit (σ i) = true) → wY_fits_13 post J2 (nI nw) x2 (nI r) (nI n) U C W S E R O f (cc_s (cc_last ce ea σ r i)) (nI (i + 1)) := by
      intro c
      have e : cc_last ce ea σ r (i + 1) = cc_last ce ea σ r i := if_neg c
      rw [e] at t
      exact t
    refine br_f (nI_ge (by omega) (by omega)) ⟨w8, nm_r (e' := nI (σ i)) (by rw [ec]; exact hO i hi) ⟨w8s, w8r, pk_eq (ce (σ i)) (ce r) (fun y => ⟨w8r, cc_b1w (p := (ea r).testBit (σ i) = true) (by rw [ecr, r5]; exact cc_sh1 (by omega) (by omega)) (fun z => ?_) (fun z => nm_r (nI_1 i) (skip (fun v => z v.2)))⟩) (fun y => nm_r (nI_1 i) (skip (fun v => y v.1))) (by rw [ecs]; exact (hY (σ i) sm).2.1) (by rw [ecr]; exact r2) (by omega) (by omega)⟩⟩
    have e : cc_last ce ea σ r (i + 1) = σ i := if_pos ⟨y, z⟩
    rw [e, cc_sn (by omega)] at t
    exact nm_r (nI_1 i) t
theorem cc_yft2 {post : Int32 → Prop} (hY : cc_Y m us ce wr so ea U C W S E) (hH : cc_H m us ce wr so ea) (hm : m ≤ 8)
    (hO : ∀ i, i < nw → O i = nI (σ i)) (hσ : ∀ i, i < nw → σ i < 7 ∧ σ i < m) (hw : nw ≤ 7) (K : post (cc_b (cc_Fit m ce wr so ea σ nw))) :
    ∀ d i f, i + d = m → d < f → cc_Fit i ce wr so ea σ nw → wY_fits_2 post (nI nw) (nI m) (nI n) U C W S E R O f (nI i) := by
  intro d
  induction d with
  | zero =>
    intro i f h1 h2 h
    obtain ⟨f, rfl⟩ : ∃ m, f = m + 1 := ⟨f - 1, by omega⟩
    have hi : i = m := by omega
    subst hi
    rw [cc_bt h] at K
    exact br_t (nI_le (Nat.le_refl _) (by omega)) K
  | succ d ih =>
    intro i f h1 h2 h
    obtain ⟨f, rfl⟩ : ∃ m, f = m + 1 := ⟨f - 1, by omega⟩
    refine br_f (nI_ge (by omega) (by omega)) ⟨nw + 1, cc_yft13 hY hH hm hO hσ hw (by omega) (fun z => ?_) (fun z => ih (i + 1) f (by omega) (by omega) (fun r hr hwr => ?_)) nw 0 (nw + 1) (by omega) (by omega)⟩
    · rw [cc_bf (p := cc_Fit m ce wr so ea σ nw) (fun y => z.2 (y i (by omega) z.1))] at K
      exact K
    · rcases Nat.lt_or_ge r i with v | v
      · exact h r v hwr
      · have : r = i := by omega
        subst this
        exact z hwr
theorem cc_yft {post : Int32 → Prop} (hY : cc_Y m us ce wr so ea U C W S E) (hH : cc_H m us ce wr so ea) (hm : m ≤ 8)
    (hO : ∀ i, i < nw → O i = nI (σ i)) (hσ : ∀ i, i < nw → σ i < 7 ∧ σ i < m) (hw : nw ≤ 7) (K : post (cc_b (cc_Fit m ce wr so ea σ nw))) :
    wpY_fits post (nI n, U, C, W, S, E, R, O) (nI nw) (nI m) :=
  ⟨m + 1, cc_yft2 hY hH hm hO hσ hw K m 0 (m + 1) (by omega) (by omega) (fun r hr => absurd hr (Nat.not_lt_zero _))⟩
end
section
variable {wr : Nat → Prop} {n nw : Nat} {U C W S E R : Nat → Int32}
theorem cc_yar74 {post : SY → Prop} {J47 : Int32 → Int32 → Int32 → (Nat → Int32) → (Nat → Int32) → (Nat → Int32) → (Nat → Int32) → (Nat → Int32) → (Nat → Int32) → (Nat → Int32) → Prop}
    {x1 x4 x5 : Int32} {L s0 : Nat} {O : Nat → Int32} (hL : L < 256) (hs : s0 < cc_n L 8)
    (K : ∀ w, w < 8 → L.testBit w = true → cc_n L w = s0 → wY_arrange_114 post J47 x1 (nI L) x4 x5 (nI w) (nI n) U C W S E R O) :
    ∀ d w f sk, w + d = 8 → d < f → sk + cc_n L w = s0 → wY_arrange_74 post J47 x1 (nI L) x4 x5 (nI n) U C W S E R O f (nI sk) (nI w) := by
  have c8 : cc_n L 8 ≤ 8 := by
    have : ∀ k, cc_n L k ≤ k := by
      intro k
      induction k with
      | zero => exact Nat.le_refl _
      | succ k ih =>
        show cc_n L k + (L.testBit k).toNat ≤ k + 1
        have := Bool.toNat_le (L.testBit k)
        omega
    exact this 8
  intro d
  induction d with
  | zero =>
    intro w f sk h1 h2 h
    have hw : w = 8 := by omega
    subst hw
    omega
  | succ d ih =>
    intro w f sk h1 h2 h
    obtain ⟨f, rfl⟩ : ∃ m, f = m + 1 := ⟨f - 1, by omega⟩
    have es : cc_n L (w + 1) = cc_n L w + (L.testBit w).toNat := rfl
    refine br_f (nI_ge (b := 8) (by omega) (by decide)) (cc_bw (cc_sh1 (by omega) (by omega)) (fun z => ?_) (fun z => ?_))
    · refine br_f (by rw [cc_sh1 (by omega) (by omega), cc_bf z]; decide) (nm_r (nI_1 w) (ih (w + 1) f sk (by omega) (by omega) ?_))
      rw [es, cc_f z]
      exact h
    · refine pk_le sk 0 (fun y => K w (by omega) z (by omega)) (fun y => ?_) rfl rfl (by omega) (by decide)
      refine br_t (by rw [cc_sh1 (by omega) (by omega), cc_bt z]) (nm_r (e' := nI (sk - 1)) ?_ (nm_r (nI_1 w) (ih (w + 1) f (sk - 1) (by omega) (by omega) ?_)))
      · obtain ⟨k, rfl⟩ : ∃ k, sk = k + 1 := ⟨sk - 1, by omega⟩
        exact pk_m1 k
      · rw [es, z]
        show sk - 1 + (cc_n L w + 1) = s0
        omega
theorem cc_r_le (n num : Nat) : ∀ j, cc_r n num j ≤ num
  | 0 => Nat.le_refl _
  | j + 1 => Nat.le_trans (Nat.div_le_self _ _) (cc_r_le n num j)
theorem cc_yar47 {post : SY → Prop} {WW num : Nat} (hWW : WW < 256) (hnw : cc_n WW 8 = nw) (hn7 : nw ≤ 7) (hnum : num < 2 ^ 30)
    (K : ∀ O' σ, (∀ i, i < nw → O' i = nI (σ i)) → cc_S WW nw num σ → post (nI n, U, C, W, S, E, R, O')) :
    ∀ d i f O σ, i + d = nw → d < f → (∀ j, j < i → O j = nI (σ j)) → (∀ j, j < i → (cc_L WW σ j).testBit (σ j) = true ∧ cc_n (cc_L WW σ j) (σ j) = cc_r nw num j % (nw - j)) →
    wY_arrange_47 post (nI nw) (nI n) f (nI (cc_L WW σ i)) (nI (cc_r nw num i)) (nI i) U C W S E R O := by
  intro d
  induction d with
  | zero =>
    intro i f O σ h1 h2 hO hS
    obtain ⟨f, rfl⟩ : ∃ m, f = m + 1 := ⟨f - 1, by omega⟩
    have hi : i = nw := by omega
    subst hi
    exact br_t (nI_le (Nat.le_refl _) (by omega)) (K O σ hO hS)
  | succ d ih =>
    intro i f O σ h1 h2 hO hS
    obtain ⟨f, rfl⟩ : ∃ m, f = m + 1 := ⟨f - 1, by omega⟩
    have hi : i < nw := by omega
    have esub : nI nw - nI i = nI (nw - i) := pk_sub (by omega)
    have n0 : ¬ nI (nw - i) = 0 := nI_ne0 (by omega) (by omega)
    have rl := cc_r_le nw num i
    have hl := cc_L_le WW σ i
    have cnt := cc_E_cnt (n := i) hWW (fun j hj => (hS j hj).1) i (Nat.le_refl _)
    have hmod := Nat.mod_lt (cc_r nw num i) (show 0 < nw - i by omega)
    refine br_f (nI_ge (by omega) (by omega)) ?_
    rw [esub]
    refine ⟨n0, nm_r (e' := nI (cc_r nw num i % (nw - i))) (pk_rem (by omega) (by omega) (by omega)) ⟨n0, nm_r (e' := nI (cc_r nw num (i + 1))) (pk_div (by omega) (by omega) (by omega)) ⟨9, ?_⟩⟩⟩
    refine cc_yar74 (s0 := cc_r nw num i % (nw - i)) (by omega) (by omega) (fun w hw8 hw hc => ?_) 8 0 9 (cc_r nw num i % (nw - i)) (by omega) (by omega) rfl
    have w8 : vp_in (nI i) 8 := vp_in_nI (by omega) (by decide)
    have ec : (nI i).toNatClampNeg = i := nI_clamp (by omega)
    have same : ∀ j, j ≤ i → cc_L WW (cc_u σ i w) j = cc_L WW σ j := fun j hj => cc_L_congr (fun k hk => cc_un σ w (by omega))
    have next : cc_L WW (cc_u σ i w) (i + 1) = cc_d (cc_L WW σ i) (2 ^ w) := by
      show cc_d (cc_L WW (cc_u σ i w) i) (2 ^ cc_u σ i w i) = _
      rw [same i (Nat.le_refl _), cc_us]
    refine ⟨w8, nm_r (e' := upd O i (nI w)) (by rw [ec]) (nm_r (e' := nI (cc_L WW (cc_u σ i w) (i + 1))) (by rw [cc_bit w (by omega), cc_dif, next]) (nm_r (nI_1 i) (ih (i + 1) f _ (cc_u σ i w) (by omega) (by omega) (fun j hj => ?_) (fun j hj => ?_))))⟩
    · by_cases e : j = i
      · rw [e, pk_us, cc_us]
      · rw [pk_un e, cc_un σ w e]
        exact hO j (by omega)
    · rw [same j (by omega)]
      by_cases e : j = i
      · rw [e, cc_us]
        exact ⟨hw, hc⟩
      · rw [cc_un σ w e]
        exact hS j (by omega)
theorem cc_yar8 {post : SY → Prop} {num : Nat} {O : Nat → Int32} (hW : ∀ i, i < n → W i = cc_b (wr i)) (hn : n ≤ 8) (hnw : cc_n (cc_W wr n) 8 = nw) (hn7 : nw ≤ 7) (hnum : num < 2 ^ 30)
    (K : ∀ O' σ, (∀ i, i < nw → O' i = nI (σ i)) → cc_S (cc_W wr n) nw num σ → post (nI n, U, C, W, S, E, R, O')) :
    ∀ d i f, i + d = n → d < f → wY_arrange_8 post (nI nw) (nI num) (nI n) U C W S E R O f (nI (cc_W wr i)) (nI i) := by
  intro d
  induction d with
  | zero =>
    intro i f h1 h2
    obtain ⟨f, rfl⟩ : ∃ m, f = m + 1 := ⟨f - 1, by omega⟩
    have hi : i = n := by omega
    subst hi
    exact br_t (nI_le (Nat.le_refl _) (by omega)) ⟨nw + 1, cc_yar47 (cc_W_256 hn) hnw hn7 hnum K nw 0 (nw + 1) O (fun _ => 0) (by omega) (by omega) (fun j hj => absurd hj (Nat.not_lt_zero _)) (fun j hj => absurd hj (Nat.not_lt_zero _))⟩
  | succ d ih =>
    intro i f h1 h2
    obtain ⟨f, rfl⟩ : ∃ m, f = m + 1 := ⟨f - 1, by omega⟩
    have him : i < n := by omega
    have w8 : vp_in (nI i) 8 := vp_in_nI (by omega) (by decide)
    have ec : (nI i).toNatClampNeg = i := nI_clamp (by omega)
    have t := ih (i + 1) f (by omega) (by omega)
    refine br_f (nI_ge (by omega) (by omega)) ⟨w8, cc_bw (by rw [ec]; exact hW i him) (fun hw => ?_) (fun hw => ?_)⟩
    · have e : cc_W wr (i + 1) = cc_W wr i := if_neg hw
      rw [e] at t
      refine nm_r (e' := nI (cc_W wr i)) ?_ (nm_r (nI_1 i) t)
      rw [← nI_0, cc_or, Nat.or_zero]
    · have e : cc_W wr (i + 1) = cc_W wr i ||| 2 ^ i := if_pos hw
      rw [e] at t
      exact nm_r (by rw [cc_bit i (by omega), cc_or]) (nm_r (nI_1 i) t)
theorem cc_yar {post : SY → Prop} {num : Nat} {O : Nat → Int32} (hW : ∀ i, i < n → W i = cc_b (wr i)) (hn : n ≤ 8) (hnw : cc_n (cc_W wr n) 8 = nw) (hn7 : nw ≤ 7) (hnum : num < 2 ^ 30)
    (K : ∀ O' σ, (∀ i, i < nw → O' i = nI (σ i)) → cc_S (cc_W wr n) nw num σ → post (nI n, U, C, W, S, E, R, O')) :
    wpY_arrange post (nI n, U, C, W, S, E, R, O) (nI nw) (nI num) :=
  ⟨n + 1, cc_yar8 hW hn hnw hn7 hnum K n 0 (n + 1) (by omega) (by omega)⟩
end
section
variable {us ce : Nat → Nat} {wr : Nat → Prop} {so ea : Nat → Nat} {n m : Nat} {U C W S E R : Nat → Int32}
theorem cc_fa7 {k : Nat} (h : k ≤ 7) : cc_fa k ≤ 5040 := (by decide +kernel : ∀ k : Fin 8, cc_fa k.val ≤ 5040) ⟨k, by omega⟩
theorem cc_ycv39 {post : Int32 → SY → Prop} (hY : cc_Y m us ce wr so ea U C W S E) (hH : cc_H m us ce wr so ea) (hm : m ≤ 8) (hn : n ≤ m) (hWn : cc_W wr m = cc_W wr n)
    (K : ∀ O', post (cc_b (cc_CV m ce wr so ea)) (nI n, U, C, W, S, E, R, O')) :
    ∀ d i f O, i + d = cc_fa (cc_wc wr m) → d < f → (∀ num, num < i → ∃ σ, cc_S (cc_W wr m) (cc_wc wr m) num σ ∧ ¬ (cc_Row ea σ (cc_wc wr m) ∧ cc_Fit m ce wr so ea σ (cc_wc wr m))) →
    wY_converges_39 post (nI m) (nI (cc_wc wr m)) (nI (cc_fa (cc_wc wr m))) f (nI i) (nI n) U C W S E R O := by
  have w7 := cc_wc7 hH hm
  have f7 := cc_fa7 w7
  have hWW := cc_W_256 (wr := wr) hm
  intro d
  induction d with
  | zero =>
    intro i f O h1 h2 h
    obtain ⟨f, rfl⟩ : ∃ m, f = m + 1 := ⟨f - 1, by omega⟩
    have hi : i = cc_fa (cc_wc wr m) := by omega
    subst hi
    have k := K O
    rw [cc_bf (cc_CVn hH hm h)] at k
    exact br_t (nI_le (Nat.le_refl _) (by omega)) k
  | succ d ih =>
    intro i f O h1 h2 h
    obtain ⟨f, rfl⟩ : ∃ m, f = m + 1 := ⟨f - 1, by omega⟩
    refine br_f (nI_ge (by omega) (by omega)) (cc_yar (wr := wr) (fun j hj => (hY j (by omega)).2.2.1) (by omega) (by rw [← hWn]; exact cc_wn hm) w7 (by omega) (fun O' σ hO hS => ?_))
    rw [← hWn] at hS
    have hE := cc_S_E hS
    have hσ : ∀ j, j < cc_wc wr m → σ j < 7 ∧ σ j < m := fun j hj => by
      have a := (cc_W_t (σ j) m).mp (cc_E_in hWW hE hj)
      exact ⟨(hH _ a.1).2.2.2.2.2.1 a.2, a.1⟩
    have next : ¬ (cc_Row ea σ (cc_wc wr m) ∧ cc_Fit m ce wr so ea σ (cc_wc wr m)) → wY_converges_39 post (nI m) (nI (cc_wc wr m)) (nI (cc_fa (cc_wc wr m))) f (nI (i + 1)) (nI n) U C W S E R O' := by
      intro z
      refine ih (i + 1) f O' (by omega) (by omega) (fun num hnum => ?_)
      rcases Nat.lt_or_ge num i with v | v
      · exact h num v
      · have : num = i := by omega
        subst this
        exact ⟨σ, hS, z⟩
    refine cc_yir (ea := ea) hO (fun j hj => (hσ j hj).1) (fun j hj => ⟨(hY _ (hσ j hj).2).2.2.2.2, ?_⟩) w7 (cc_br (fun z => nm_r (nI_1 i) (next (fun y => z y.1))) (fun z => ?_))
    · have a := (hH _ (hσ j hj).2).2.2.1
      have b : 2 ^ σ j < 2 ^ 31 := cc_p2 (by have := (hσ j hj).1; omega)
      omega
    · refine cc_yft hY hH hm hO hσ w7 (cc_br (fun y => nm_r (nI_1 i) (next (fun v => y v.2))) (fun y => ?_))
      have k := K O'
      rw [cc_bt (cc_CVy hH hm hS z y)] at k
      exact k
theorem cc_ycv7 {post : Int32 → SY → Prop} {O : Nat → Int32} (hY : cc_Y m us ce wr so ea U C W S E) (hH : cc_H m us ce wr so ea) (hm : m ≤ 8) (hn : n ≤ m) (hWn : cc_W wr m = cc_W wr n)
    (K : ∀ O', post (cc_b (cc_CV m ce wr so ea)) (nI n, U, C, W, S, E, R, O')) :
    ∀ d i f, i + d = m → d < f → wY_converges_7 post (nI m) (nI n) U C W S E R O f (nI (cc_wc wr i)) (nI (cc_fa (cc_wc wr i))) (nI i) := by
  intro d
  induction d with
  | zero =>
    intro i f h1 h2
    obtain ⟨f, rfl⟩ : ∃ m, f = m + 1 := ⟨f - 1, by omega⟩
    have hi : i = m := by omega
    subst hi
    exact br_t (nI_le (Nat.le_refl _) (by omega)) ⟨cc_fa (cc_wc wr i) + 1, cc_ycv39 hY hH hm hn hWn K (cc_fa (cc_wc wr i)) 0 (cc_fa (cc_wc wr i) + 1) O (by omega) (by omega) (fun j hj => absurd hj (Nat.not_lt_zero _))⟩
  | succ d ih =>
    intro i f h1 h2
    obtain ⟨f, rfl⟩ : ∃ m, f = m + 1 := ⟨f - 1, by omega⟩
    have him : i < m := by omega
    have w8 : vp_in (nI i) 8 := vp_in_nI (by omega) (by decide)
    have ec : (nI i).toNatClampNeg = i := nI_clamp (by omega)
    have t := ih (i + 1) f (by omega) (by omega)
    refine br_f (nI_ge (by omega) (by omega)) ⟨w8, cc_bw (by rw [ec]; exact (hY i him).2.2.1) (fun hw => ?_) (fun hw => ?_)⟩
    · have e : cc_wc wr (i + 1) = cc_wc wr i := if_neg hw
      rw [e] at t
      exact nm_r (nI_1 i) t
    · have e : cc_wc wr (i + 1) = cc_wc wr i + 1 := if_pos hw
      rw [e] at t
      exact nm_r (nI_1 _) (nm_r (e' := nI (cc_fa (cc_wc wr i + 1))) (pk_mul _ _) (nm_r (nI_1 i) t))
theorem cc_ycv {post : Int32 → SY → Prop} {O : Nat → Int32} (hY : cc_Y m us ce wr so ea U C W S E) (hH : cc_H m us ce wr so ea) (hm : m ≤ 8) (hn : n ≤ m) (hWn : cc_W wr m = cc_W wr n)
    (K : ∀ O', post (cc_b (cc_CV m ce wr so ea)) (nI n, U, C, W, S, E, R, O')) : wpY_converges post (nI n, U, C, W, S, E, R, O) (nI m) :=
  ⟨m + 1, cc_ycv7 hY hH hm hn hWn K m 0 (m + 1) (by omega) (by omega)⟩
end
end
section
/-! the relation, and the methods without a search over the whole history -/
def i_Rel (k : Nat) (u : SX) (v : SY) : Prop :=
  ∃ (n : Nat) (us ce : Nat → Nat) (wr : Nat → Prop) (so ea : Nat → Nat) (U C W S A M R U' C' W' S' E R' O : Nat → Int32),
    n ≤ 7 ∧ cc_H n us ce wr so ea ∧ u = (nI n, U, C, W, S, A, M, R) ∧ v = (nI n, U', C', W', S', E, R', O) ∧ cc_X n us ce wr so ea U C W S A ∧ cc_Y n us ce wr so ea U' C' W' S' E
theorem cc_rel {k n : Nat} {us ce : Nat → Nat} {wr : Nat → Prop} {so ea : Nat → Nat} {U C W S A M R U' C' W' S' E R' O : Nat → Int32} (hn : n ≤ 7) (hH : cc_H n us ce wr so ea)
    (hX : cc_X n us ce wr so ea U C W S A) (hY : cc_Y n us ce wr so ea U' C' W' S' E) : i_Rel k (nI n, U, C, W, S, A, M, R) (nI n, U', C', W', S', E, R', O) :=
  ⟨n, us, ce, wr, so, ea, U, C, W, S, A, M, R, U', C', W', S', E, R', O, hn, hH, rfl, rfl, hX, hY⟩
theorem i_up {k : Nat} {u : SX} {v : SY} (h : i_Rel k u v) : i_Rel (k + 4) u v := h
theorem i_vc0 : wpX_init (fun u => wpY_init (fun v => i_Rel 0 u v)) :=
  cc_rel (k := 0) (n := 0) (us := fun _ => 0) (ce := fun _ => 0) (wr := fun _ => False) (so := fun _ => 0) (ea := fun _ => 0) (by decide)
    (fun i hi => absurd hi (Nat.not_lt_zero _)) (fun i hi => absurd hi (Nat.not_lt_zero _)) (fun i hi => absurd hi (Nat.not_lt_zero _))
theorem i_vc_write {k : Nat} {u : SX} {v : SY} (I : i_Rel k u v) (hk : k + 4 ≤ 2048) (v1 : Int32) (v2 : Int32) : wpX_write (fun r u' => wpY_write (fun r' v' => r' = r ∧ i_Rel (k + 4) u' v') v v1 v2) u v1 v2 := by
  obtain ⟨n, us, ce, wr, so, ea, U, C, W, S, A, M, R, U', C', W', S', E, R', O, hn, hH, rfl, rfl, hX, hY⟩ := I
  have rel0 : i_Rel (k + 4) (nI n, U, C, W, S, A, M, R) (nI n, U', C', W', S', E, R', O) := cc_rel hn hH hX hY
  have yb : ¬ (cc_ok 3 v1 ∧ cc_ok 2 v2) → wpY_write (fun r' v' => r' = -1 ∧ i_Rel (k + 4) (nI n, U, C, W, S, A, M, R) v') (nI n, U', C', W', S', E, R', O) v1 v2 := by
    intro z
    unfold wpY_write
    dsimp only
    exact cc_yBad (cc_br (fun y => absurd z y) (fun _ => ⟨rfl, rel0⟩))
  unfold wpX_write
  dsimp only
  refine cc_xUser (cc_br (fun z => yb (fun y => z y.1)) (fun z => cc_xCell (cc_br (fun y => yb (fun v => y v.2)) (fun y => ?_))))
  obtain ⟨user, hu, rfl⟩ := z
  obtain ⟨cell, hc, rfl⟩ := y
  refine pk_lt n 7 (fun h7 => ?_) (fun h7 => ?_) rfl rfl (by omega) (by decide)
  · refine cc_xadd (w := True) (s := 7) hX hH hn hu (by decide) (cc_bt trivial).symm ?_
    unfold wpY_write
    dsimp only
    refine cc_yBad (cc_br (fun _ => ?_) (fun z => absurd ⟨⟨user, hu, rfl⟩, ⟨cell, hc, rfl⟩⟩ z))
    refine pk_eq n 7 (fun e => by omega) (fun _ => ?_) rfl rfl (by omega) (by decide)
    refine cc_yput (w := True) (s := 7) hY hH hn hu (by decide) (cc_bt trivial).symm rfl (fun _ => rfl) (nm_r (nI_1 n) ⟨nI_pred n, ?_⟩)
    exact cc_rel (n := n + 1) (by omega) (cc_Hadd hH hn hu hc (fun _ => h7) (by decide) (fun z => absurd trivial z))
      (cc_Xadd hX user cell 7 _ True rfl rfl (cc_bt trivial).symm rfl rfl) (cc_Yadd hY user cell 7 _ True rfl rfl (cc_bt trivial).symm rfl rfl)
  · unfold wpY_write
    dsimp only
    refine cc_yBad (cc_br (fun _ => ?_) (fun z => absurd ⟨⟨user, hu, rfl⟩, ⟨cell, hc, rfl⟩⟩ z))
    exact pk_eq n 7 (fun _ => ⟨rfl, rel0⟩) (fun e => by omega) rfl rfl (by omega) (by decide)
theorem i_vc_read {k : Nat} {u : SX} {v : SY} (I : i_Rel k u v) (hk : k + 4 ≤ 2048) (v1 : Int32) (v2 : Int32) (v3 : Int32) : wpX_read (fun r u' => wpY_read (fun r' v' => r' = r ∧ i_Rel (k + 4) u' v') v v1 v2 v3) u v1 v2 v3 := by
  obtain ⟨n, us, ce, wr, so, ea, U, C, W, S, A, M, R, U', C', W', S', E, R', O, hn, hH, rfl, rfl, hX, hY⟩ := I
  have rel0 : i_Rel (k + 4) (nI n, U, C, W, S, A, M, R) (nI n, U', C', W', S', E, R', O) := cc_rel hn hH hX hY
  have yb : ¬ (cc_ok 3 v1 ∧ cc_ok 2 v2) → wpY_read (fun r' v' => r' = -1 ∧ i_Rel (k + 4) (nI n, U, C, W, S, A, M, R) v') (nI n, U', C', W', S', E, R', O) v1 v2 v3 := by
    intro z
    unfold wpY_read
    dsimp only
    exact cc_yBad (cc_br (fun y => absurd z y) (fun _ => ⟨rfl, rel0⟩))
  unfold wpX_read
  dsimp only
  refine cc_xUser (cc_br (fun z => yb (fun y => z y.1)) (fun z => cc_xCell (cc_br (fun y => yb (fun v => y v.2)) (fun y => ?_))))
  obtain ⟨user, hu, rfl⟩ := z
  obtain ⟨cell, hc, rfl⟩ := y
  have good : ∀ s, s ≤ 7 → v3 = cc_s s → (s = 7 ∨ (s < n ∧ wr s ∧ ce s = cell)) → n < 7 →
      wpX_add (fun r u' => wpY_read (fun r' v' => r' = r ∧ i_Rel (k + 4) u' v') (nI n, U', C', W', S', E, R', O) (nI user) (nI cell) v3) (nI n, U, C, W, S, A, M, R) (nI user) (nI cell) 0 (nI s) := by
    intro s hs e3 hsr h7
    refine cc_xadd (w := False) (s := s) hX hH hn hu hs (cc_bf id).symm ?_
    unfold wpY_read
    dsimp only
    refine cc_yBad (cc_br (fun _ => ?_) (fun z => absurd ⟨⟨user, hu, rfl⟩, ⟨cell, hc, rfl⟩⟩ z))
    refine pk_eq n 7 (fun e => by omega) (fun _ => ?_) rfl rfl (by omega) (by decide)
    refine cc_yNo hY hH (by omega) hc (cc_br (fun z => ?_) (fun z => absurd ?_ z))
    · refine cc_yput (w := False) (s := s) hY hH hn hu hs (cc_bf id).symm e3 (fun z => z.elim) (nm_r (nI_1 n) ⟨nI_pred n, ?_⟩)
      exact cc_rel (n := n + 1) (by omega) (cc_Hadd hH hn hu hc (fun z => z.elim) hs (fun _ => hsr))
        (cc_Xadd hX user cell s _ False rfl rfl (cc_bf id).symm rfl rfl) (cc_Yadd hY user cell s _ False rfl rfl (cc_bf id).symm e3 rfl)
    · rcases hsr with h | ⟨a, b, c⟩
      · exact Or.inl (by rw [e3, h]; rfl)
      · exact Or.inr ⟨s, a, by rw [e3, cc_sn (by omega)], b, c⟩
  refine pk_lt n 7 (fun h7 => ?_) (fun h7 => ?_) rfl rfl (by omega) (by decide)
  · refine br_c (fun e => good 7 (by decide) e (Or.inl rfl) h7) (fun e => ?_)
    refine cc_xAbout hX hH (by omega) hc (cc_br (fun z => ?_) (fun z => ?_))
    · unfold wpY_read
      dsimp only
      refine cc_yBad (cc_br (fun _ => ?_) (fun z => absurd ⟨⟨user, hu, rfl⟩, ⟨cell, hc, rfl⟩⟩ z))
      refine pk_eq n 7 (fun e => by omega) (fun _ => ?_) rfl rfl (by omega) (by decide)
      exact cc_yNo hY hH (by omega) hc (cc_br (fun y => absurd (fun w => w.elim e z) y) (fun _ => ⟨rfl, rel0⟩))
    · obtain ⟨s, a, rfl, b, c⟩ := z
      exact good s (by omega) (cc_sn (by omega)).symm (Or.inr ⟨a, b, c⟩) h7
  · unfold wpY_read
    dsimp only
    refine cc_yBad (cc_br (fun _ => ?_) (fun z => absurd ⟨⟨user, hu, rfl⟩, ⟨cell, hc, rfl⟩⟩ z))
    exact pk_eq n 7 (fun _ => ⟨rfl, rel0⟩) (fun e => by omega) rfl rfl (by omega) (by decide)
theorem i_vc_back {k : Nat} {u : SX} {v : SY} (I : i_Rel k u v) (hk : k + 4 ≤ 2048) : wpX_back (fun r u' => wpY_back (fun r' v' => r' = r ∧ i_Rel (k + 4) u' v') v) u := by
  obtain ⟨n, us, ce, wr, so, ea, U, C, W, S, A, M, R, U', C', W', S', E, R', O, hn, hH, rfl, rfl, hX, hY⟩ := I
  refine pk_eq n 0 (fun z => ?_) (fun z => ?_) rfl rfl (by omega) (by decide)
  · exact pk_eq n 0 (fun _ => ⟨rfl, cc_rel hn hH hX hY⟩) (fun y => absurd z y) rfl rfl (by omega) (by decide)
  · obtain ⟨j, rfl⟩ : ∃ j, n = j + 1 := ⟨n - 1, by omega⟩
    refine nm_r (nI_pred j) ?_
    refine pk_eq (j + 1) 0 (fun y => absurd y z) (fun _ => ?_) rfl rfl (by omega) (by decide)
    exact nm_r (nI_pred j) ⟨rfl, cc_rel (by omega) (cc_Hle hH (by omega)) (cc_Xle hX (by omega)) (cc_Yle hY (by omega))⟩
theorem i_vc_before {k : Nat} {u : SX} {v : SY} (I : i_Rel k u v) (hk : k + 4 ≤ 2048) (v1 : Int32) (v2 : Int32) : wpX_before (fun r => wpY_before (fun r' => r' = r ∧ i_Rel (k + 4) u v) v v1 v2) u v1 v2 := by
  obtain ⟨n, us, ce, wr, so, ea, U, C, W, S, A, M, R, U', C', W', S', E, R', O, hn, hH, rfl, rfl, hX, hY⟩ := I
  have rel0 : i_Rel (k + 4) (nI n, U, C, W, S, A, M, R) (nI n, U', C', W', S', E, R', O) := cc_rel hn hH hX hY
  unfold wpX_before
  dsimp only
  refine cc_xHeld (by omega) (cc_br (fun z => ?_) (fun z => cc_xHeld (by omega) (cc_br (fun y => ?_) (fun y => ?_))))
  · unfold wpY_before
    dsimp only
    exact cc_yMiss (by omega) (cc_br (fun w => absurd z w) (fun _ => ⟨rfl, rel0⟩))
  · unfold wpY_before
    dsimp only
    exact cc_yMiss (by omega) (cc_br (fun w => cc_yMiss (by omega) (cc_br (fun w => absurd y w) (fun _ => ⟨rfl, rel0⟩))) (fun w => absurd z w))
  · obtain ⟨a, ha, rfl⟩ := z
    obtain ⟨b, hb, rfl⟩ := y
    have w8 : vp_in (nI b) 8 := vp_in_nI (by omega) (by decide)
    have ec : (nI b).toNatClampNeg = b := nI_clamp (by omega)
    have b3 := (hH b hb).2.2.1
    have el : ea b < 2 ^ 7 := Nat.lt_trans b3 (cc_p2 (by omega))
    have el2 : ea b ||| 2 ^ b < 2 ^ 7 := Nat.or_lt_two_pow el (cc_p2 (by omega))
    have yy : ∀ x, x = cc_b ((ea b).testBit a = true) → wpY_before (fun r' => r' = x ∧ i_Rel (k + 4) (nI n, U, C, W, S, A, M, R) (nI n, U', C', W', S', E, R', O)) (nI n, U', C', W', S', E, R', O) (nI a) (nI b) := by
      intro x hx
      unfold wpY_before
      dsimp only
      refine cc_yMiss (by omega) (cc_br (fun _ => cc_yMiss (by omega) (cc_br (fun _ => ⟨w8, ?_, rel0⟩) (fun w => absurd ⟨b, hb, rfl⟩ w))) (fun w => absurd ⟨a, ha, rfl⟩ w))
      rw [ec, (hY b hb).2.2.2.2, hx]
      exact cc_sh1 (by omega) (by omega)
    refine pk_eq a b (fun e => yy 0 (cc_bf (fun z => by have := cc_tl b3 z; omega)).symm) (fun e => ⟨w8, ?_⟩) rfl rfl (by omega) (by omega)
    rw [ec, (hX b hb).2.2.2.2]
    refine cc_xHas (by omega) (by omega) (cc_br (fun z => yy 0 (cc_bf (fun y => z (cc_o2.mpr (Or.inl y)))).symm) (fun z => yy 1 (cc_bt ((cc_o2.mp z).elim id (fun y => absurd y.symm e))).symm))
theorem i_vc_weak {k : Nat} {u : SX} {v : SY} (I : i_Rel k u v) (hk : k + 4 ≤ 2048) (v1 : Int32) : wpX_weak (fun r u' => wpY_weak (fun r' v' => r' = r ∧ i_Rel (k + 4) u' v') v v1) u v1 := by
  obtain ⟨n, us, ce, wr, so, ea, U, C, W, S, A, M, R, U', C', W', S', E, R', O, hn, hH, rfl, rfl, hX, hY⟩ := I
  unfold wpX_weak
  dsimp only
  refine cc_xHeld (by omega) (cc_br (fun z => ?_) (fun z => ?_))
  · unfold wpY_weak
    dsimp only
    exact cc_yMiss (by omega) (cc_br (fun w => absurd z w) (fun _ => ⟨rfl, cc_rel hn hH hX hY⟩))
  · obtain ⟨b, hb, rfl⟩ := z
    refine cc_xwk hX hH hn hb (fun R1 => cc_br (fun z => ?_) (fun z => ?_))
    · exact cc_ywk hY hH hn hb (fun R2 => ⟨cc_bf z, cc_rel hn hH hX hY⟩)
    · exact cc_ywk hY hH hn hb (fun R2 => ⟨cc_bt z, cc_rel hn hH hX hY⟩)
theorem i_vc_strong {k : Nat} {u : SX} {v : SY} (I : i_Rel k u v) (hk : k + 4 ≤ 2048) (v1 : Int32) : wpX_strong (fun r u' => wpY_strong (fun r' v' => r' = r ∧ i_Rel (k + 4) u' v') v v1) u v1 := by
  obtain ⟨n, us, ce, wr, so, ea, U, C, W, S, A, M, R, U', C', W', S', E, R', O, hn, hH, rfl, rfl, hX, hY⟩ := I
  unfold wpX_strong
  dsimp only
  refine cc_xHeld (by omega) (cc_br (fun z => ?_) (fun z => ?_))
  · unfold wpY_strong
    dsimp only
    exact cc_yMiss (by omega) (cc_br (fun w => absurd z w) (fun _ => ⟨rfl, cc_rel hn hH hX hY⟩))
  · obtain ⟨b, hb, rfl⟩ := z
    refine cc_xsk hX hH hn hb (fun R1 => cc_br (fun z => ?_) (fun z => ?_))
    · exact cc_ysk hY hH hn hb (fun R2 => ⟨cc_bf z, cc_rel hn hH hX hY⟩)
    · exact cc_ysk hY hH hn hb (fun R2 => ⟨cc_bt z, cc_rel hn hH hX hY⟩)
end
section
/-! sound on both sides -/
noncomputable def cc_v (x : Int32) (p : Prop) : Int32 := @ite Int32 p (Classical.propDecidable p) x 0
theorem cc_vt {x : Int32} {p : Prop} (h : p) : cc_v x p = x := if_pos h
theorem cc_vf {x : Int32} {p : Prop} (h : ¬ p) : cc_v x p = 0 := if_neg h
noncomputable def cc_val (A B D : Prop) : Int32 := (cc_v 1 A + cc_v 2 B) + cc_v 4 D
theorem cc_all {P : Nat → Prop} {i : Nat} : (∀ o, o < i + 1 → P o) ↔ (∀ o, o < i → P o) ∧ P i :=
  ⟨fun h => ⟨fun o ho => h o (by omega), h i (by omega)⟩, fun h o ho => by
    rcases Nat.lt_or_ge o i with z | z
    · exact h.1 o z
    · have : o = i := by omega
      rw [this]; exact h.2⟩
section
variable {us ce : Nat → Nat} {wr : Nat → Prop} {so ea : Nat → Nat} {n : Nat} {U C W S A : Nat → Int32}
theorem cc_xs74 {post : Int32 → SX → Prop} {P Q : Prop} {M R : Nat → Int32} {z0 z1 : Int32} (hX : cc_X n us ce wr so ea U C W S A) (hH : cc_H n us ce wr so ea) (hn : n ≤ 7)
    (h0 : z0 = cc_v 2 Q) (h1 : z1 = cc_v 1 P) (K : ∀ M', post (cc_val P Q (cc_CV n ce wr so ea)) (nI n, U, C, W, S, A, M', R)) :
    wX_sound_74 post z0 z1 (nI n) U C W S A M R := by
  subst h0 h1
  refine cc_xcv hX hH (by omega) (fun M' => cc_br (fun z => ?_) (fun z => ?_))
  · have k := K M'
    unfold cc_val at k
    rw [cc_vf z] at k
    exact k
  · have k := K M'
    unfold cc_val at k
    rw [cc_vt (x := 4) z] at k
    exact k
theorem cc_xs31 {post : Int32 → SX → Prop} {J6 : Int32 → Int32 → Int32 → Int32 → (Nat → Int32) → (Nat → Int32) → (Nat → Int32) → (Nat → Int32) → (Nat → Int32) → (Nat → Int32) → (Nat → Int32) → Prop}
    {Q : Prop} {M R : Nat → Int32} {x2 z0 : Int32} {i : Nat} (hX : cc_X n us ce wr so ea U C W S A) (hH : cc_H n us ce wr so ea) (hn : n ≤ 7) (hi : i < n)
    (h2 : x2 = cc_b Q) (K : ∀ R', J6 z0 (cc_b (Q ∧ cc_SK us ce wr so ea i)) (nI (i + 1)) (nI n) U C W S A M R') :
    wX_sound_31 post J6 x2 (nI i) z0 (nI n) U C W S A M R := by
  refine cc_bw h2 (fun z => nm_r (nI_1 i) ?_) (fun z => cc_xsk hX hH hn hi (fun R' => cc_br (fun y => nm_r (nI_1 i) ?_) (fun y => nm_r (nI_1 i) ?_)))
  · have k := K R
    rw [cc_bf (fun y => z y.1)] at k
    exact k
  · have k := K R'
    rw [cc_bf (fun v => y v.2)] at k
    exact k
  · have k := K R'
    rw [cc_bt ⟨z, y⟩] at k
    exact k
theorem cc_xs6 {post : Int32 → SX → Prop} (hX : cc_X n us ce wr so ea U C W S A) (hH : cc_H n us ce wr so ea) (hn : n ≤ 7)
    (K : ∀ M' R', post (cc_val (∀ o, o < n → cc_WK ce wr so ea o) (∀ o, o < n → cc_SK us ce wr so ea o) (cc_CV n ce wr so ea)) (nI n, U, C, W, S, A, M', R')) :
    ∀ d i f M R, i + d = n → d < f → wX_sound_6 post f (cc_b (∀ o, o < i → cc_WK ce wr so ea o)) (cc_b (∀ o, o < i → cc_SK us ce wr so ea o)) (nI i) (nI n) U C W S A M R := by
  intro d
  induction d with
  | zero =>
    intro i f M R h1 h2
    obtain ⟨f, rfl⟩ : ∃ m, f = m + 1 := ⟨f - 1, by omega⟩
    have hi : i = n := by omega
    subst hi
    refine br_t (nI_le (Nat.le_refl _) (by omega)) (cc_br (fun z => cc_br (fun y => ?_) (fun y => ?_)) (fun z => cc_br (fun y => ?_) (fun y => ?_)))
    · exact cc_xs74 hX hH hn (cc_vf y).symm (cc_vf z).symm (fun M' => K M' R)
    · exact cc_xs74 hX hH hn (cc_vt y).symm (cc_vf z).symm (fun M' => K M' R)
    · exact cc_xs74 hX hH hn (cc_vf y).symm (cc_vt z).symm (fun M' => K M' R)
    · exact cc_xs74 hX hH hn (cc_vt y).symm (cc_vt z).symm (fun M' => K M' R)
  | succ d ih =>
    intro i f M R h1 h2
    obtain ⟨f, rfl⟩ : ∃ m, f = m + 1 := ⟨f - 1, by omega⟩
    have hi : i < n := by omega
    have go : ∀ (z0 : Int32) (R1 : Nat → Int32), z0 = cc_b ((∀ o, o < i → cc_WK ce wr so ea o) ∧ cc_WK ce wr so ea i) →
        wX_sound_31 post (wX_sound_6 post f) (cc_b (∀ o, o < i → cc_SK us ce wr so ea o)) (nI i) z0 (nI n) U C W S A M R1 := by
      intro z0 R1 h0
      refine cc_xs31 hX hH hn hi rfl (fun R' => ?_)
      have t := ih (i + 1) f M R' (by omega) (by omega)
      rw [cc_bq (cc_all (P := fun o => cc_WK ce wr so ea o)), cc_bq (cc_all (P := fun o => cc_SK us ce wr so ea o)), ← h0] at t
      exact t
    refine br_f (nI_ge (by omega) (by omega)) (cc_br (fun z => go 0 R (cc_bf (fun y => z y.1)).symm) (fun z => cc_xwk hX hH hn hi (fun R' => cc_br (fun y => go 0 R' (cc_bf (fun v => y v.2)).symm) (fun y => go 1 R' (cc_bt ⟨z, y⟩).symm))))
theorem cc_xs {post : Int32 → SX → Prop} {M R : Nat → Int32} (hX : cc_X n us ce wr so ea U C W S A) (hH : cc_H n us ce wr so ea) (hn : n ≤ 7)
    (K : ∀ M' R', post (cc_val (∀ o, o < n → cc_WK ce wr so ea o) (∀ o, o < n → cc_SK us ce wr so ea o) (cc_CV n ce wr so ea)) (nI n, U, C, W, S, A, M', R')) :
    wpX_sound post (nI n, U, C, W, S, A, M, R) := by
  refine ⟨n + 1, ?_⟩
  have t := cc_xs6 hX hH hn K n 0 (n + 1) M R (by omega) (by omega)
  rw [cc_bt (fun o ho => absurd ho (Nat.not_lt_zero _)), cc_bt (fun o ho => absurd ho (Nat.not_lt_zero _))] at t
  exact t
end
section
variable {us ce : Nat → Nat} {wr : Nat → Prop} {so ea : Nat → Nat} {n : Nat} {U C W S E : Nat → Int32}
theorem cc_ys58 {post : Int32 → SY → Prop} {P Q : Prop} {R O : Nat → Int32} {z0 z1 : Int32} (hY : cc_Y n us ce wr so ea U C W S E) (hH : cc_H n us ce wr so ea) (hn : n ≤ 7)
    (h0 : z0 = cc_v 2 Q) (h1 : z1 = cc_v 1 P) (K : ∀ O', post (cc_val P Q (cc_CV n ce wr so ea)) (nI n, U, C, W, S, E, R, O')) :
    wY_sound_58 post z0 z1 (nI n) U C W S E R O := by
  subst h0 h1
  refine cc_ycv hY hH (by omega) (Nat.le_refl _) rfl (fun O' => cc_br (fun z => ?_) (fun z => ?_))
  · have k := K O'
    unfold cc_val at k
    rw [cc_vf z] at k
    exact k
  · have k := K O'
    unfold cc_val at k
    rw [cc_vt (x := 4) z] at k
    exact k
theorem cc_ys24 {post : Int32 → SY → Prop} {J6 : Int32 → Int32 → Int32 → Int32 → (Nat → Int32) → (Nat → Int32) → (Nat → Int32) → (Nat → Int32) → (Nat → Int32) → (Nat → Int32) → (Nat → Int32) → Prop}
    {Q : Prop} {R O : Nat → Int32} {x1 x2 : Int32} {i : Nat} (hY : cc_Y n us ce wr so ea U C W S E) (hH : cc_H n us ce wr so ea) (hn : n ≤ 7) (hi : i < n)
    (h2 : x2 = cc_b Q) (K : ∀ R', J6 x1 (cc_b (Q ∧ cc_SK us ce wr so ea i)) (nI (i + 1)) (nI n) U C W S E R' O) :
    wY_sound_24 post J6 x1 x2 (nI i) (nI n) U C W S E R O := by
  refine cc_ysk hY hH hn hi (fun R' => cc_br (fun y => nm_r (nI_1 i) ?_) (fun y => nm_r (nI_1 i) ?_))
  · have k := K R'
    rw [cc_bf (fun v => y v.2)] at k
    exact k
  · have k := K R'
    rw [cc_bq (q := Q) ⟨fun v => v.1, fun v => ⟨v, y⟩⟩, ← h2] at k
    exact k
theorem cc_ys6 {post : Int32 → SY → Prop} (hY : cc_Y n us ce wr so ea U C W S E) (hH : cc_H n us ce wr so ea) (hn : n ≤ 7)
    (K : ∀ R' O', post (cc_val (∀ o, o < n → cc_WK ce wr so ea o) (∀ o, o < n → cc_SK us ce wr so ea o) (cc_CV n ce wr so ea)) (nI n, U, C, W, S, E, R', O')) :
    ∀ d i f R O, i + d = n → d < f → wY_sound_6 post f (cc_b (∀ o, o < i → cc_WK ce wr so ea o)) (cc_b (∀ o, o < i → cc_SK us ce wr so ea o)) (nI i) (nI n) U C W S E R O := by
  intro d
  induction d with
  | zero =>
    intro i f R O h1 h2
    obtain ⟨f, rfl⟩ : ∃ m, f = m + 1 := ⟨f - 1, by omega⟩
    have hi : i = n := by omega
    subst hi
    refine br_t (nI_le (Nat.le_refl _) (by omega)) (cc_br (fun z => cc_br (fun y => ?_) (fun y => ?_)) (fun z => cc_br (fun y => ?_) (fun y => ?_)))
    · exact cc_ys58 hY hH hn (cc_vf y).symm (cc_vf z).symm (fun O' => K R O')
    · exact cc_ys58 hY hH hn (cc_vt y).symm (cc_vf z).symm (fun O' => K R O')
    · exact cc_ys58 hY hH hn (cc_vf y).symm (cc_vt z).symm (fun O' => K R O')
    · exact cc_ys58 hY hH hn (cc_vt y).symm (cc_vt z).symm (fun O' => K R O')
  | succ d ih =>
    intro i f R O h1 h2
    obtain ⟨f, rfl⟩ : ∃ m, f = m + 1 := ⟨f - 1, by omega⟩
    have hi : i < n := by omega
    have go : ∀ (x1 : Int32) (R1 : Nat → Int32), x1 = cc_b ((∀ o, o < i → cc_WK ce wr so ea o) ∧ cc_WK ce wr so ea i) →
        wY_sound_24 post (wY_sound_6 post f) x1 (cc_b (∀ o, o < i → cc_SK us ce wr so ea o)) (nI i) (nI n) U C W S E R1 O := by
      intro x1 R1 h0
      refine cc_ys24 hY hH hn hi rfl (fun R' => ?_)
      have t := ih (i + 1) f R' O (by omega) (by omega)
      rw [cc_bq (cc_all (P := fun o => cc_WK ce wr so ea o)), cc_bq (cc_all (P := fun o => cc_SK us ce wr so ea o)), ← h0] at t
      exact t
    refine br_f (nI_ge (by omega) (by omega)) (cc_ywk hY hH hn hi (fun R' => cc_br (fun y => go 0 R' (cc_bf (fun v => y v.2)).symm) (fun y => go _ R' (cc_bq ⟨fun v => ⟨v, y⟩, fun v => v.1⟩))))
theorem cc_ys {post : Int32 → SY → Prop} {R O : Nat → Int32} (hY : cc_Y n us ce wr so ea U C W S E) (hH : cc_H n us ce wr so ea) (hn : n ≤ 7)
    (K : ∀ R' O', post (cc_val (∀ o, o < n → cc_WK ce wr so ea o) (∀ o, o < n → cc_SK us ce wr so ea o) (cc_CV n ce wr so ea)) (nI n, U, C, W, S, E, R', O')) :
    wpY_sound post (nI n, U, C, W, S, E, R, O) := by
  refine ⟨n + 1, ?_⟩
  have t := cc_ys6 hY hH hn K n 0 (n + 1) R O (by omega) (by omega)
  rw [cc_bt (fun o ho => absurd ho (Nat.not_lt_zero _)), cc_bt (fun o ho => absurd ho (Nat.not_lt_zero _))] at t
  exact t
end
theorem i_vc_sound {k : Nat} {u : SX} {v : SY} (I : i_Rel k u v) (hk : k + 4 ≤ 2048) : wpX_sound (fun r u' => wpY_sound (fun r' v' => r' = r ∧ i_Rel (k + 4) u' v') v) u := by
  obtain ⟨n, us, ce, wr, so, ea, U, C, W, S, A, M, R, U', C', W', S', E, R', O, hn, hH, rfl, rfl, hX, hY⟩ := I
  exact cc_xs hX hH hn (fun M1 R1 => cc_ys hY hH hn (fun R2 O2 => ⟨rfl, cc_rel hn hH hX hY⟩))
end
section
/-! choices on both sides -/
/-- a read of the user about the cell that names s could be added, and the history would converge -/
def cc_Ch (n : Nat) (us ce : Nat → Nat) (wr : Nat → Prop) (so ea : Nat → Nat) (user cell s : Nat) : Prop :=
  (s = 7 ∨ (s < n ∧ wr s ∧ ce s = cell)) ∧ cc_CV (n + 1) (cc_u ce n cell) (cc_u wr n False) (cc_u so n s) (cc_u ea n (cc_en us ea user s n))
section
variable {us ce : Nat → Nat} {wr : Nat → Prop} {so ea : Nat → Nat} {n user cell : Nat}
theorem cc_srcI {s : Nat} (hn : n ≤ 7) (hs : s < 2 ^ 31) : cc_src n ce wr (nI s) cell ↔ s < n ∧ wr s ∧ ce s = cell := by
  constructor
  · rintro ⟨j, hj, e, a, b⟩
    have : s = j := (nI_eq hs (by omega)).mp e
    subst this
    exact ⟨hj, a, b⟩
  · rintro ⟨a, b, c⟩
    exact ⟨s, a, rfl, b, c⟩
theorem cc_x45 {post : Int32 → SX → Prop} {J21 : Int32 → Int32 → Int32 → (Nat → Int32) → (Nat → Int32) → (Nat → Int32) → (Nat → Int32) → (Nat → Int32) → (Nat → Int32) → (Nat → Int32) → Prop}
    {U C W S A M R : Nat → Int32} {i s0 : Nat} (hX : cc_X n us ce wr so ea U C W S A) (hH : cc_H n us ce wr so ea) (hn : n ≤ 7) (hu : user < 3) (hc : cell < 2) (hi : i ≤ 7)
    (hs : i = 7 ∨ (i < n ∧ wr i ∧ ce i = cell)) (e0 : s0 = cc_x (cc_Ch n us ce wr so ea user cell) i)
    (K : ∀ U' C' W' S' A' M' R', cc_X n us ce wr so ea U' C' W' S' A' → J21 (nI (cc_x (cc_Ch n us ce wr so ea user cell) (i + 1))) (nI (i + 1)) (nI n) U' C' W' S' A' M' R') :
    wX_choices_45 post J21 (nI user) (nI cell) (nI s0) (nI i) (nI n) U C W S A M R := by
  subst e0
  have hX1 := cc_Xadd hX user cell i (cc_en us ea user i n) False rfl rfl (cc_bf id).symm rfl rfl
  have hH1 : cc_H (n + 1) (cc_u us n user) (cc_u ce n cell) (cc_u wr n False) (cc_u so n i) (cc_u ea n (cc_en us ea user i n)) := cc_Hadd hH hn hu hc (fun z => z.elim) hi (fun _ => hs)
  refine cc_xadd (w := False) hX hH hn hu hi (cc_bf id).symm (cc_xcv hX1 hH1 (by omega) (fun M' => cc_br (fun z => ?_) (fun z => ?_)))
  · have k := K _ _ _ _ _ M' R (cc_Xup hX (x1 := nI user) (x2 := nI cell) (x3 := 0) (x4 := nI i) (x5 := nI (cc_en us ea user i n ||| 2 ^ n)))
    rw [cc_x_n (fun y => z y.2)] at k
    exact nm_r (nI_pred n) (nm_r (nI_1 i) k)
  · have k := K _ _ _ _ _ M' R (cc_Xup hX (x1 := nI user) (x2 := nI cell) (x3 := 0) (x4 := nI i) (x5 := nI (cc_en us ea user i n ||| 2 ^ n)))
    rw [cc_x_y ⟨hs, z⟩] at k
    exact nm_r (by rw [cc_bit i (by omega), nI_add]) (nm_r (nI_pred n) (nm_r (nI_1 i) k))
theorem cc_x21 {post : Int32 → SX → Prop} (hH : cc_H n us ce wr so ea) (hn : n ≤ 7) (hu : user < 3) (hc : cell < 2)
    (K : ∀ U C W S A M R, cc_X n us ce wr so ea U C W S A → post (nI (cc_x (cc_Ch n us ce wr so ea user cell) 8)) (nI n, U, C, W, S, A, M, R)) :
    ∀ d i f U C W S A M R, i + d = 8 → d < f → cc_X n us ce wr so ea U C W S A →
    wX_choices_21 post (nI user) (nI cell) f (nI (cc_x (cc_Ch n us ce wr so ea user cell) i)) (nI i) (nI n) U C W S A M R := by
  intro d
  induction d with
  | zero =>
    intro i f U C W S A M R h1 h2 hX
    obtain ⟨f, rfl⟩ : ∃ m, f = m + 1 := ⟨f - 1, by omega⟩
    have hi : i = 8 := by omega
    subst hi
    exact br_t (nI_lt (a := 7) (b := 8) (by decide) (by decide)) (K U C W S A M R hX)
  | succ d ih =>
    intro i f U C W S A M R h1 h2 hX
    obtain ⟨f, rfl⟩ : ∃ m, f = m + 1 := ⟨f - 1, by omega⟩
    have hi : i ≤ 7 := by omega
    refine br_f (nI_nlt (b := i) (a := 7) hi (by decide)) (pk_eq i 7 (fun e => ?_) (fun e => ?_) rfl rfl (by omega) (by decide))
    · exact cc_x45 hX hH hn hu hc hi (Or.inl e) rfl (fun U' C' W' S' A' M' R' hX' => ih (i + 1) f U' C' W' S' A' M' R' (by omega) (by omega) hX')
    · refine cc_xAbout hX hH (by omega) hc (cc_br (fun z => ?_) (fun z => ?_))
      · have t := ih (i + 1) f U C W S A M R (by omega) (by omega) hX
        rw [cc_x_n (fun y => y.1.elim e (fun v => z ((cc_srcI hn (by omega)).mpr v)))] at t
        exact nm_r (nI_1 i) t
      · exact cc_x45 hX hH hn hu hc hi (Or.inr ((cc_srcI hn (by omega)).mp z)) rfl (fun U' C' W' S' A' M' R' hX' => ih (i + 1) f U' C' W' S' A' M' R' (by omega) (by omega) hX')
/-- one turn of the reference's loop at the source s, where it may be added -/
theorem cc_yput1 {post : Int32 → SY → Prop} {U C W S E R O : Nat → Int32} {s : Nat} {x4 : Int32} (hY : cc_Y n us ce wr so ea U C W S E) (hH : cc_H n us ce wr so ea) (hn : n ≤ 7) (hu : user < 3) (hc : cell < 2) (hs7 : s ≤ 7)
    (e4 : x4 = cc_s s) (hs : s = 7 ∨ (s < n ∧ wr s ∧ ce s = cell))
    (K : ∀ U' C' W' S' E' R' O', cc_Y n us ce wr so ea U' C' W' S' E' → post (cc_b (cc_Ch n us ce wr so ea user cell s)) (nI n, U', C', W', S', E', R', O')) :
    wpY_put (fun u => match u with | (f_held_16, a_users_17, a_cells_18, a_writes_19, a_sources_20, a_earlier_21, a_rows_22, a_order_23) => wpY_converges post (f_held_16, a_users_17, a_cells_18, a_writes_19, a_sources_20, a_earlier_21, a_rows_22, a_order_23) (f_held_16 + 1)) (nI n, U, C, W, S, E, R, O) (nI user) (nI cell) 0 x4 := by
  have hY1 := cc_Yadd hY user cell s (cc_en us ea user s n) False rfl rfl (cc_bf id).symm e4 rfl
  have hH1 : cc_H (n + 1) (cc_u us n user) (cc_u ce n cell) (cc_u wr n False) (cc_u so n s) (cc_u ea n (cc_en us ea user s n)) := cc_Hadd hH hn hu hc (fun z => z.elim) hs7 (fun _ => hs)
  have hWn : cc_W (cc_u wr n False) (n + 1) = cc_W (cc_u wr n False) n := if_neg (by rw [cc_us]; exact id)
  refine cc_yput (w := False) hY hH hn hu hs7 (cc_bf id).symm e4 (fun z => z.elim) ?_
  dsimp only
  rw [nI_1 n]
  refine cc_ycv hY1 hH1 (by omega) (by omega) hWn (fun O' => ?_)
  have k := K _ _ _ _ _ R O' (cc_Yup hY (x1 := nI user) (x2 := nI cell) (x3 := 0) (x4 := x4) (x5 := nI (cc_en us ea user s n)))
  rw [cc_bq (p := cc_Ch n us ce wr so ea user cell s) ⟨fun y => y.2, fun y => ⟨hs, y⟩⟩] at k
  exact k
theorem cc_y15 {post : Int32 → SY → Prop} {b : Nat} (hH : cc_H n us ce wr so ea) (hn : n ≤ 7) (hu : user < 3) (hc : cell < 2)
    (K : ∀ U C W S E R O, cc_Y n us ce wr so ea U C W S E → post (nI (b ||| cc_x (cc_Ch n us ce wr so ea user cell) n)) (nI n, U, C, W, S, E, R, O)) :
    ∀ d i f U C W S E R O, i + d = n → d < f → cc_Y n us ce wr so ea U C W S E →
    wY_choices_15 post (nI user) (nI cell) f (nI (b ||| cc_x (cc_Ch n us ce wr so ea user cell) i)) (nI i) (nI n) U C W S E R O := by
  intro d
  induction d with
  | zero =>
    intro i f U C W S E R O h1 h2 hY
    obtain ⟨f, rfl⟩ : ∃ m, f = m + 1 := ⟨f - 1, by omega⟩
    have hi : i = n := by omega
    subst hi
    exact br_t (nI_le (Nat.le_refl _) (by omega)) (K U C W S E R O hY)
  | succ d ih =>
    intro i f U C W S E R O h1 h2 hY
    obtain ⟨f, rfl⟩ : ∃ m, f = m + 1 := ⟨f - 1, by omega⟩
    have hi : i < n := by omega
    have ni1 : ¬ nI i = -1 := fun z => by
      have p := nI_pos (n := i) (by omega)
      rw [z] at p
      exact p (by decide)
    refine br_f (nI_ge (by omega) (by omega)) (cc_yNo hY hH (by omega) hc (cc_br (fun z => ?_) (fun z => ?_)))
    · have z := Classical.byContradiction z
      have z := (cc_srcI hn (by omega)).mp (z.elim (fun y => absurd y ni1) id)
      refine cc_yput1 hY hH hn hu hc (by omega) (cc_sn (by omega)).symm (Or.inr z) (fun U' C' W' S' E' R' O' hY' => cc_br (fun y => ?_) (fun y => ?_))
      · have t := ih (i + 1) f U' C' W' S' E' R' O' (by omega) (by omega) hY'
        rw [cc_x_n y] at t
        exact nm_r (nI_1 i) t
      · have t := ih (i + 1) f U' C' W' S' E' R' O' (by omega) (by omega) hY'
        rw [← cc_x_or y] at t
        exact br_t (nI_pos' (by omega)) (nm_r (by rw [cc_bit i (by omega), cc_or]) (nm_r (nI_1 i) t))
    · have t := ih (i + 1) f U C W S E R O (by omega) (by omega) hY
      rw [cc_x_n (fun y => z (Or.inr ((cc_srcI hn (by omega)).mpr (y.1.elim (fun v => by omega) id))))] at t
      exact nm_r (nI_1 i) t
theorem cc_ych {post : Int32 → SY → Prop} {U C W S E R O : Nat → Int32} (hY : cc_Y n us ce wr so ea U C W S E) (hH : cc_H n us ce wr so ea) (hn : n ≤ 7) (hu : user < 3) (hc : cell < 2)
    (K : ∀ U C W S E R O, cc_Y n us ce wr so ea U C W S E → post (nI (cc_x (cc_Ch n us ce wr so ea user cell) 8)) (nI n, U, C, W, S, E, R, O)) :
    ∃ f, wY_choices_15 post (nI user) (nI cell) f 0 (-1) (nI n) U C W S E R O := by
  have fin := cc_x_fin (C := cc_Ch n us ce wr so ea user cell) hn (fun s h1 h2 z => z.1.elim (fun y => by omega) (fun y => by omega))
  refine ⟨n + 2, br_f (fun z => ?_) (cc_yNo hY hH (by omega) hc (cc_br (fun _ => ?_) (fun z => absurd (Or.inl rfl) z)))⟩
  · have l : (-1 : Int32) < nI n := Int32.lt_of_lt_of_le (by decide) (nI_pos' (n := n) (by omega))
    exact absurd (Int32.lt_of_lt_of_le l z) (by decide)
  · refine cc_yput1 hY hH hn hu hc (s := 7) (by decide) rfl (Or.inl rfl) (fun U' C' W' S' E' R' O' hY' => cc_br (fun y => ?_) (fun y => ?_))
    · rw [if_neg y] at fin
      have t := cc_y15 (b := 0) hH hn hu hc (fun U C W S E R O h => by have k := K U C W S E R O h; rw [fin] at k; exact k) n 0 (n + 1) U' C' W' S' E' R' O' (by omega) (by omega) hY'
      have e : nI (0 ||| cc_x (cc_Ch n us ce wr so ea user cell) 0) = 0 := by
        show nI (0 ||| 0) = 0
        decide
      rw [e] at t
      exact nm_r (e' := nI 0) rfl t
    · rw [if_pos y] at fin
      exact br_f (by decide) (nm_r (e' := nI (128 ||| 0)) rfl (nm_r (e' := nI 0) rfl (cc_y15 (b := 128) hH hn hu hc (fun U C W S E R O h => by have k := K U C W S E R O h; rw [fin] at k; exact k) n 0 (n + 1) U' C' W' S' E' R' O' (by omega) (by omega) hY')))
end
theorem i_vc_choices {k : Nat} {u : SX} {v : SY} (I : i_Rel k u v) (hk : k + 4 ≤ 2048) (v1 : Int32) (v2 : Int32) : wpX_choices (fun r u' => wpY_choices (fun r' v' => r' = r ∧ i_Rel (k + 4) u' v') v v1 v2) u v1 v2 := by
  obtain ⟨n, us, ce, wr, so, ea, U, C, W, S, A, M, R, U', C', W', S', E, R', O, hn, hH, rfl, rfl, hX, hY⟩ := I
  have yb : ¬ (cc_ok 3 v1 ∧ cc_ok 2 v2) → wpY_choices (fun r' v' => r' = -1 ∧ i_Rel (k + 4) (nI n, U, C, W, S, A, M, R) v') (nI n, U', C', W', S', E, R', O) v1 v2 := by
    intro z
    unfold wpY_choices
    dsimp only
    exact cc_yBad (cc_br (fun y => absurd z y) (fun _ => ⟨rfl, cc_rel hn hH hX hY⟩))
  unfold wpX_choices
  dsimp only
  refine cc_xUser (cc_br (fun z => yb (fun y => z y.1)) (fun z => cc_xCell (cc_br (fun y => yb (fun v => y v.2)) (fun y => ?_))))
  obtain ⟨user, hu, rfl⟩ := z
  obtain ⟨cell, hc, rfl⟩ := y
  refine ⟨9, cc_x21 hH hn hu hc (fun U1 C1 W1 S1 A1 M1 R1 hX1 => ?_) 8 0 9 U C W S A M R (by omega) (by omega) hX⟩
  unfold wpY_choices
  dsimp only
  refine cc_yBad (cc_br (fun _ => ?_) (fun z => absurd ⟨⟨user, hu, rfl⟩, ⟨cell, hc, rfl⟩⟩ z))
  exact cc_ych hY hH hn hu hc (fun U2 C2 W2 S2 E2 R2 O2 hY2 => ⟨rfl, cc_rel hn hH hX1 hY2⟩)
end
