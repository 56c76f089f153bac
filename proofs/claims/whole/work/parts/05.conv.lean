/-! a history, and when it converges -/
def cc_H (n : Nat) (us ce : Nat → Nat) (wr : Nat → Prop) (so ea : Nat → Nat) : Prop :=
  ∀ i, i < n → us i < 3 ∧ ce i < 2 ∧ ea i < 2 ^ i ∧
    (∀ j, (ea i).testBit j = true → ∀ k, (ea j).testBit k = true → (ea i).testBit k = true) ∧
    so i ≤ 7 ∧ (wr i → i < 7) ∧
    (¬ wr i → so i = 7 ∨ (so i < i ∧ so i < 7 ∧ wr (so i) ∧ ce (so i) = ce i ∧ (ea i).testBit (so i) = true))
noncomputable def cc_W (wr : Nat → Prop) : Nat → Nat
  | 0 => 0
  | v + 1 => @ite Nat (wr v) (Classical.propDecidable _) (cc_W wr v ||| 2 ^ v) (cc_W wr v)
noncomputable def cc_wc (wr : Nat → Prop) : Nat → Nat
  | 0 => 0
  | v + 1 => @ite Nat (wr v) (Classical.propDecidable _) (cc_wc wr v + 1) (cc_wc wr v)
noncomputable def cc_se (ce : Nat → Nat) (wr : Nat → Prop) (ea : Nat → Nat) (r : Nat) : Nat → Nat
  | 0 => 0
  | v + 1 => @ite Nat (wr v ∧ ce v = ce r ∧ (ea r ||| 2 ^ r).testBit v = true) (Classical.propDecidable _) (cc_se ce wr ea r v ||| 2 ^ v) (cc_se ce wr ea r v)
noncomputable def cc_mq (W : Nat) (ce : Nat → Nat) (wr : Nat → Prop) (so ea : Nat → Nat) : Nat → Nat → Nat
  | 0, w => ea w &&& W
  | i + 1, w => @ite Nat (¬ wr i ∧ so i = w ∧ so i ≠ 7) (Classical.propDecidable _) (cc_mq W ce wr so ea i w ||| cc_d (cc_se ce wr ea i i) (2 ^ w)) (cc_mq W ce wr so ea i w)
def cc_N (m : Nat) (ce : Nat → Nat) (wr : Nat → Prop) (so ea : Nat → Nat) : Prop :=
  ∀ r, r < m → ¬ wr r → so r = 7 → cc_se ce wr ea r r = 0
def cc_CV (m : Nat) (ce : Nat → Nat) (wr : Nat → Prop) (so ea : Nat → Nat) : Prop :=
  cc_N m ce wr so ea ∧ cc_G wr (cc_mq (cc_W wr m) ce wr so ea m) m 7 = cc_W wr m
def cc_Row (ea σ : Nat → Nat) (n : Nat) : Prop := ∀ i, i < n → ∀ j, j < i → σ i ≠ σ j ∧ (ea (σ j)).testBit (σ i) = false
noncomputable def cc_last (ce ea σ : Nat → Nat) (r : Nat) : Nat → Nat
  | 0 => 7
  | i + 1 => @ite Nat (ce (σ i) = ce r ∧ (ea r).testBit (σ i) = true) (Classical.propDecidable _) (σ i) (cc_last ce ea σ r i)
def cc_Fit (m : Nat) (ce : Nat → Nat) (wr : Nat → Prop) (so ea σ : Nat → Nat) (n : Nat) : Prop :=
  ∀ r, r < m → ¬ wr r → cc_last ce ea σ r n = so r
section
variable {us ce : Nat → Nat} {wr : Nat → Prop} {so ea : Nat → Nat} {m : Nat}
theorem cc_W_t (v : Nat) : ∀ m, (cc_W wr m).testBit v = true ↔ v < m ∧ wr v
  | 0 => by
    show (0 : Nat).testBit v = true ↔ _
    rw [Nat.zero_testBit]
    exact ⟨fun h => absurd h (by decide), fun h => absurd h.1 (Nat.not_lt_zero _)⟩
  | k + 1 => by
    have ih := cc_W_t v k
    by_cases c : wr k
    · have e : cc_W wr (k + 1) = cc_W wr k ||| 2 ^ k := if_pos c
      rw [e, cc_o2, ih]
      constructor
      · rintro (⟨a, b⟩ | rfl)
        · exact ⟨by omega, b⟩
        · exact ⟨by omega, c⟩
      · rintro ⟨a, b⟩
        rcases Nat.lt_or_ge v k with z | z
        · exact Or.inl ⟨z, b⟩
        · exact Or.inr (by omega)
    · have e : cc_W wr (k + 1) = cc_W wr k := if_neg c
      rw [e, ih]
      constructor
      · rintro ⟨a, b⟩; exact ⟨by omega, b⟩
      · rintro ⟨a, b⟩
        rcases Nat.lt_or_ge v k with z | z
        · exact ⟨z, b⟩
        · have : v = k := by omega
          subst this
          exact absurd b c
theorem cc_W_lt : ∀ m, cc_W wr m < 2 ^ m := fun m => Nat.lt_pow_two_of_testBit _ (fun i hi => cc_f (fun z => by
  have := ((cc_W_t i m).mp z).1
  omega))
theorem cc_W_256 (hm : m ≤ 8) : cc_W wr m < 256 := Nat.lt_of_lt_of_le (cc_W_lt m) (Nat.pow_le_pow_right (n := 2) (by decide) hm)
theorem cc_n_wc {L : Nat} : ∀ m, (∀ v, v < m → (L.testBit v = true ↔ wr v)) → cc_n L m = cc_wc wr m
  | 0, _ => rfl
  | k + 1, h => by
    have ih := cc_n_wc k (fun v hv => h v (by omega))
    have t := h k (by omega)
    by_cases c : wr k
    · have e : cc_wc wr (k + 1) = cc_wc wr k + 1 := if_pos c
      show cc_n L k + (L.testBit k).toNat = _
      rw [e, ih, t.mpr c]; rfl
    · have e : cc_wc wr (k + 1) = cc_wc wr k := if_neg c
      show cc_n L k + (L.testBit k).toNat = _
      rw [e, ih, cc_f (fun z => c (t.mp z))]; rfl
theorem cc_n_hi {L m : Nat} (h : ∀ v, m ≤ v → L.testBit v = false) : ∀ d, cc_n L (m + d) = cc_n L m
  | 0 => rfl
  | d + 1 => by
    show cc_n L (m + d) + (L.testBit (m + d)).toNat = _
    rw [h (m + d) (by omega), cc_n_hi h d]; rfl
theorem cc_wn (hm : m ≤ 8) : cc_n (cc_W wr m) 8 = cc_wc wr m := by
  have a : cc_n (cc_W wr m) m = cc_wc wr m := cc_n_wc m (fun v hv => (cc_W_t v m).trans ⟨fun h => h.2, fun h => ⟨hv, h⟩⟩)
  have b := cc_n_hi (L := cc_W wr m) (m := m) (fun v hv => cc_f (fun z => by
    have := ((cc_W_t v m).mp z).1
    omega)) (8 - m)
  rw [show m + (8 - m) = 8 by omega] at b
  rw [b, a]
theorem cc_wc_le : ∀ m, cc_wc wr m ≤ m
  | 0 => Nat.le_refl _
  | k + 1 => by
    have ih := cc_wc_le k
    by_cases c : wr k
    · have e : cc_wc wr (k + 1) = cc_wc wr k + 1 := if_pos c
      omega
    · have e : cc_wc wr (k + 1) = cc_wc wr k := if_neg c
      omega
theorem cc_wc7 (H : cc_H m us ce wr so ea) (hm : m ≤ 8) : cc_wc wr m ≤ 7 := by
  rcases Nat.lt_or_ge m 8 with z | z
  · have := cc_wc_le (wr := wr) m
    omega
  · have e : m = 8 := by omega
    subst e
    have c : ¬ wr 7 := fun h => absurd ((H 7 (by omega)).2.2.2.2.2.1 h) (by decide)
    have e : cc_wc wr 8 = cc_wc wr 7 := if_neg c
    rw [e]
    exact cc_wc_le 7
theorem cc_se_t (r v : Nat) : ∀ i, (cc_se ce wr ea r i).testBit v = true ↔ v < i ∧ wr v ∧ ce v = ce r ∧ (ea r ||| 2 ^ r).testBit v = true
  | 0 => by
    show (0 : Nat).testBit v = true ↔ _
    rw [Nat.zero_testBit]
    exact ⟨fun h => absurd h (by decide), fun h => absurd h.1 (Nat.not_lt_zero _)⟩
  | k + 1 => by
    have ih := cc_se_t r v k
    by_cases c : wr k ∧ ce k = ce r ∧ (ea r ||| 2 ^ r).testBit k = true
    · have e : cc_se ce wr ea r (k + 1) = cc_se ce wr ea r k ||| 2 ^ k := if_pos c
      rw [e, cc_o2, ih]
      constructor
      · rintro (⟨a, b⟩ | rfl)
        · exact ⟨by omega, b⟩
        · exact ⟨by omega, c⟩
      · rintro ⟨a, b⟩
        rcases Nat.lt_or_ge v k with z | z
        · exact Or.inl ⟨z, b⟩
        · exact Or.inr (by omega)
    · have e : cc_se ce wr ea r (k + 1) = cc_se ce wr ea r k := if_neg c
      rw [e, ih]
      constructor
      · rintro ⟨a, b⟩; exact ⟨by omega, b⟩
      · rintro ⟨a, b⟩
        rcases Nat.lt_or_ge v k with z | z
        · exact ⟨z, b⟩
        · have : v = k := by omega
          subst this
          exact absurd b c
theorem cc_se_r {r v : Nat} : (cc_se ce wr ea r r).testBit v = true ↔ v < r ∧ wr v ∧ ce v = ce r ∧ (ea r).testBit v = true := by
  rw [cc_se_t, cc_o2]
  constructor
  · rintro ⟨a, b, c, d⟩
    exact ⟨a, b, c, d.elim id (fun e => by omega)⟩
  · rintro ⟨a, b, c, d⟩
    exact ⟨a, b, c, Or.inl d⟩
theorem cc_se_lt {r i : Nat} (hi : i ≤ 8) : cc_se ce wr ea r i < 256 := Nat.lt_pow_two_of_testBit (n := 8) _ (fun v hv => cc_f (fun z => by
  have := ((cc_se_t r v i).mp z).1
  omega))
theorem cc_mq_lt {W w : Nat} (hW : W < 256) : ∀ i, i ≤ 9 → cc_mq W ce wr so ea i w < 256
  | 0, _ => Nat.and_lt_two_pow (n := 8) _ hW
  | i + 1, hi => by
    have ih := cc_mq_lt (w := w) hW i (by omega)
    by_cases c : ¬ wr i ∧ so i = w ∧ so i ≠ 7
    · have e : cc_mq W ce wr so ea (i + 1) w = cc_mq W ce wr so ea i w ||| cc_d (cc_se ce wr ea i i) (2 ^ w) := if_pos c
      rw [e]
      exact Nat.or_lt_two_pow (n := 8) ih (Nat.lt_of_le_of_lt (cc_dle _ _) (cc_se_lt (by omega)))
    · have e : cc_mq W ce wr so ea (i + 1) w = cc_mq W ce wr so ea i w := if_neg c
      rw [e]; exact ih
theorem cc_mq_t {W w v : Nat} : ∀ i, i ≤ 8 → ((cc_mq W ce wr so ea i w).testBit v = true ↔
    ((ea w).testBit v = true ∧ W.testBit v = true) ∨ ∃ r, r < i ∧ ¬ wr r ∧ so r = w ∧ so r ≠ 7 ∧ (cc_se ce wr ea r r).testBit v = true ∧ w ≠ v)
  | 0, _ => by
    show (ea w &&& W).testBit v = true ↔ _
    rw [cc_at]
    exact ⟨Or.inl, fun h => h.elim id (fun ⟨r, hr, _⟩ => absurd hr (Nat.not_lt_zero _))⟩
  | i + 1, hi => by
    have ih := cc_mq_t (W := W) (w := w) (v := v) i (by omega)
    by_cases c : ¬ wr i ∧ so i = w ∧ so i ≠ 7
    · have e : cc_mq W ce wr so ea (i + 1) w = cc_mq W ce wr so ea i w ||| cc_d (cc_se ce wr ea i i) (2 ^ w) := if_pos c
      have hs : cc_se ce wr ea i i < 256 := cc_se_lt (by omega)
      rw [e, cc_ot, ih, cc_dm (by omega)]
      constructor
      · rintro ((a | ⟨r, hr, a⟩) | ⟨a, b⟩)
        · exact Or.inl a
        · exact Or.inr ⟨r, by omega, a⟩
        · exact Or.inr ⟨i, by omega, c.1, c.2.1, c.2.2, a, b⟩
      · rintro (a | ⟨r, hr, a⟩)
        · exact Or.inl (Or.inl a)
        · rcases Nat.lt_or_ge r i with z | z
          · exact Or.inl (Or.inr ⟨r, z, a⟩)
          · have : r = i := by omega
            subst this
            exact Or.inr a.2.2.2
    · have e : cc_mq W ce wr so ea (i + 1) w = cc_mq W ce wr so ea i w := if_neg c
      rw [e, ih]
      constructor
      · rintro (a | ⟨r, hr, a⟩)
        · exact Or.inl a
        · exact Or.inr ⟨r, by omega, a⟩
      · rintro (a | ⟨r, hr, a⟩)
        · exact Or.inl a
        · rcases Nat.lt_or_ge r i with z | z
          · exact Or.inr ⟨r, z, a⟩
          · have : r = i := by omega
            subst this
            exact absurd ⟨a.1, a.2.1, a.2.2.1⟩ c
theorem cc_last_s {σ : Nat → Nat} {r : Nat} : ∀ n, (cc_last ce ea σ r n = 7 ∧ ∀ i, i < n → ¬ (ce (σ i) = ce r ∧ (ea r).testBit (σ i) = true)) ∨
    ∃ i, i < n ∧ cc_last ce ea σ r n = σ i ∧ (ce (σ i) = ce r ∧ (ea r).testBit (σ i) = true) ∧ ∀ j, i < j → j < n → ¬ (ce (σ j) = ce r ∧ (ea r).testBit (σ j) = true)
  | 0 => Or.inl ⟨rfl, fun i hi => absurd hi (Nat.not_lt_zero _)⟩
  | n + 1 => by
    have ih := cc_last_s (σ := σ) (r := r) n
    by_cases c : ce (σ n) = ce r ∧ (ea r).testBit (σ n) = true
    · have e : cc_last ce ea σ r (n + 1) = σ n := if_pos c
      exact Or.inr ⟨n, by omega, e, c, fun j h1 h2 => by omega⟩
    · have e : cc_last ce ea σ r (n + 1) = cc_last ce ea σ r n := if_neg c
      rw [e]
      rcases ih with ⟨a, b⟩ | ⟨i, hi, a, b, d⟩
      · refine Or.inl ⟨a, fun i hi => ?_⟩
        rcases Nat.lt_or_ge i n with z | z
        · exact b i z
        · have : i = n := by omega
          rw [this]; exact c
      · refine Or.inr ⟨i, by omega, a, b, fun j h1 h2 => ?_⟩
        rcases Nat.lt_or_ge j n with z | z
        · exact d j h1 z
        · have : j = n := by omega
          rw [this]; exact c
end
section
variable {us ce : Nat → Nat} {wr : Nat → Prop} {so ea : Nat → Nat} {m : Nat}
theorem cc_A (H : cc_H m us ce wr so ea) (hm : m ≤ 8) {n : Nat} {σ : Nat → Nat} (hE : cc_E (cc_W wr m) σ n) (hn : cc_n (cc_W wr m) 8 = n)
    (hR : cc_Row ea σ n) (hF : cc_Fit m ce wr so ea σ n) :
    cc_N m ce wr so ea ∧ ∀ j, j < n → ∀ v, (cc_mq (cc_W wr m) ce wr so ea m (σ j)).testBit v = true → ∃ i, i < j ∧ σ i = v := by
  have hW := cc_W_256 (wr := wr) hm
  have w7 : ∀ j, j < n → σ j < m ∧ wr (σ j) ∧ σ j < 7 := fun j hj => by
    have a := (cc_W_t (σ j) m).mp (cc_E_in hW hE hj)
    exact ⟨a.1, a.2, (H _ a.1).2.2.2.2.2.1 a.2⟩
  constructor
  · intro r hr hwr hso
    apply cc_ext
    intro v
    rw [Nat.zero_testBit, cc_se_r]
    constructor
    · rintro ⟨a, b, c, d⟩
      obtain ⟨i, hi, e⟩ := cc_E_all hW hE hn ((cc_W_t v m).mpr ⟨by omega, b⟩)
      have f := hF r hr hwr
      rcases cc_last_s (ce := ce) (ea := ea) (σ := σ) (r := r) n with ⟨x, y⟩ | ⟨i', hi', x, y, z⟩
      · exact absurd ⟨by rw [e]; exact c, by rw [e]; exact d⟩ (y i hi)
      · have := (w7 i' hi').2.2
        omega
    · intro h; exact absurd h (by decide)
  · intro j hj v hv
    have sj := w7 j hj
    rcases (cc_mq_t m hm).mp hv with ⟨a, b⟩ | ⟨r, hr, hwr, hso, h7, hse, hne⟩
    · obtain ⟨i, hi, e⟩ := cc_E_all hW hE hn b
      rcases Nat.lt_trichotomy i j with z | z | z
      · exact ⟨i, z, e⟩
      · subst z
        rw [← e] at a
        have := cc_tl (H _ sj.1).2.2.1 a
        omega
      · have t := (hR i hi j z).2
        rw [e, a] at t
        exact absurd t (by decide)
    · obtain ⟨a, b, c, d⟩ := cc_se_r.mp hse
      obtain ⟨i, hi, e⟩ := cc_E_all hW hE hn ((cc_W_t v m).mpr ⟨by omega, b⟩)
      have f := hF r hr hwr
      rw [hso] at f
      rcases cc_last_s (ce := ce) (ea := ea) (σ := σ) (r := r) n with ⟨x, y⟩ | ⟨i', hi', x, y, z⟩
      · omega
      · have ei : i' = j := cc_E_inj hW hE hi' hj (by omega)
        subst ei
        rcases Nat.lt_trichotomy i i' with q | q | q
        · exact ⟨i, q, e⟩
        · subst q; exact absurd e hne
        · exact absurd ⟨by rw [e]; exact c, by rw [e]; exact d⟩ (z i q hi)
theorem cc_B (H : cc_H m us ce wr so ea) (hm : m ≤ 8) {n : Nat} {σ : Nat → Nat} (hE : cc_E (cc_W wr m) σ n) (hn : cc_n (cc_W wr m) 8 = n)
    (hN : cc_N m ce wr so ea) (hc : ∀ j, j < n → ∀ v, (cc_mq (cc_W wr m) ce wr so ea m (σ j)).testBit v = true → ∃ i, i < j ∧ σ i = v) :
    cc_Row ea σ n ∧ cc_Fit m ce wr so ea σ n := by
  have hW := cc_W_256 (wr := wr) hm
  have w7 : ∀ j, j < n → σ j < m ∧ wr (σ j) := fun j hj => (cc_W_t (σ j) m).mp (cc_E_in hW hE hj)
  constructor
  · intro i hi j hj
    refine ⟨fun e => cc_E_ne hW hE hj hi e.symm, cc_f (fun z => ?_)⟩
    obtain ⟨k, hk, e⟩ := hc j (by omega) (σ i) ((cc_mq_t m hm).mpr (Or.inl ⟨z, cc_E_in hW hE hi⟩))
    have := cc_E_inj hW hE (by omega) hi e
    omega
  · intro r hr hwr
    have sl := cc_last_s (ce := ce) (ea := ea) (σ := σ) (r := r) n
    have mt : ∀ i, i < n → (ce (σ i) = ce r ∧ (ea r).testBit (σ i) = true) → (cc_se ce wr ea r r).testBit (σ i) = true := fun i hi h =>
      cc_se_r.mpr ⟨cc_tl (H r hr).2.2.1 h.2, (w7 i hi).2, h.1, h.2⟩
    rcases (H r hr).2.2.2.2.2.2 hwr with h7 | ⟨a, b, c, d, e⟩
    · rw [h7]
      rcases sl with ⟨x, _⟩ | ⟨i, hi, x, y, _⟩
      · exact x
      · have t := mt i hi y
        rw [hN r hr hwr h7, Nat.zero_testBit] at t
        exact absurd t (by decide)
    · obtain ⟨i0, hi0, e0⟩ := cc_E_all hW hE hn ((cc_W_t (so r) m).mpr ⟨by omega, c⟩)
      rcases sl with ⟨_, y⟩ | ⟨i, hi, x, y, z⟩
      · exact absurd ⟨by rw [e0]; exact d, by rw [e0]; exact e⟩ (y i0 hi0)
      · rw [x]
        rcases Nat.lt_trichotomy i0 i with q | q | q
        · have hne : so r ≠ σ i := by rw [← e0]; exact cc_E_ne hW hE q hi
          obtain ⟨k, hk, ek⟩ := hc i0 hi0 (σ i) ((cc_mq_t m hm).mpr (Or.inr ⟨r, hr, hwr, e0.symm, by omega, mt i hi y, by rw [e0]; exact hne⟩))
          have := cc_E_inj hW hE (by omega) hi ek
          omega
        · subst q; exact e0
        · exact absurd ⟨by rw [e0]; exact d, by rw [e0]; exact e⟩ (z i0 q hi0)
theorem cc_mq_W {w v : Nat} (hm : m ≤ 8) (h : (cc_mq (cc_W wr m) ce wr so ea m w).testBit v = true) : (cc_W wr m).testBit v = true := by
  rcases (cc_mq_t m hm).mp h with ⟨_, b⟩ | ⟨r, hr, _, _, _, hse, _⟩
  · exact b
  · obtain ⟨a, b, _, _⟩ := cc_se_r.mp hse
    exact (cc_W_t v m).mpr ⟨by omega, b⟩
/-- Y says yes -/
theorem cc_CVy (H : cc_H m us ce wr so ea) (hm : m ≤ 8) {num : Nat} {σ : Nat → Nat} (hS : cc_S (cc_W wr m) (cc_wc wr m) num σ)
    (hR : cc_Row ea σ (cc_wc wr m)) (hF : cc_Fit m ce wr so ea σ (cc_wc wr m)) : cc_CV m ce wr so ea := by
  have hW := cc_W_256 (wr := wr) hm
  have hn := cc_wn (wr := wr) hm
  have hE := cc_S_E hS
  obtain ⟨hN, hc⟩ := cc_A H hm hE hn hR hF
  refine ⟨hN, cc_ext (fun v => ⟨fun h => (cc_W_t v m).mpr (cc_G_in 7 v h), fun h => ?_⟩)⟩
  obtain ⟨j, hj, e⟩ := cc_E_all hW hE hn h
  rw [← e]
  have w7 := cc_wc7 H hm
  refine cc_G_all (n := cc_wc wr m) (fun j hj => ?_) hc 7 j (by omega) hj
  have a := (cc_W_t (σ j) m).mp (cc_E_in hW hE hj)
  have b := cc_mq_lt (ce := ce) (wr := wr) (so := so) (ea := ea) (w := σ j) hW m (by omega)
  exact ⟨a.1, a.2, by omega⟩
/-- Y says no -/
theorem cc_CVn (H : cc_H m us ce wr so ea) (hm : m ≤ 8)
    (h : ∀ num, num < cc_fa (cc_wc wr m) → ∃ σ, cc_S (cc_W wr m) (cc_wc wr m) num σ ∧ ¬ (cc_Row ea σ (cc_wc wr m) ∧ cc_Fit m ce wr so ea σ (cc_wc wr m))) :
    ¬ cc_CV m ce wr so ea := by
  rintro ⟨hN, hG⟩
  have hW := cc_W_256 (wr := wr) hm
  have hn := cc_wn (wr := wr) hm
  obtain ⟨τ, t1, t2⟩ := cc_ord (M := fun w v => (cc_mq (cc_W wr m) ce wr so ea m w).testBit v = true) (cc_wc wr m) (cc_W wr m) hW hn (fun B b1 b2 w hw => by
    have b := cc_G_bad (wr := wr) (M := cc_mq (cc_W wr m) ce wr so ea m) (m := m) (B := B)
      (fun w _ => Nat.lt_trans (cc_mq_lt hW m (by omega)) (by decide)) b2 7 w hw
    rw [hG] at b
    exact b (b1 w hw))
  obtain ⟨num, h1, h2⟩ := cc_S_ex hW hn t1
  obtain ⟨σ, s1, s2⟩ := h num h1
  have e := h2 σ s1
  refine s2 (cc_B H hm (cc_S_E s1) hn hN (fun j hj v hv => ?_))
  rw [e j hj] at hv
  obtain ⟨i, hi, ei⟩ := t2 j hj v hv (cc_mq_W hm hv)
  exact ⟨i, hi, by rw [e i (by omega)]; exact ei⟩
end
