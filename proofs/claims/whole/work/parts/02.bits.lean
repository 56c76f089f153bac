/-! small numbers as Int32; sets of operations as Nat by their bits -/
noncomputable def cc_b (p : Prop) : Int32 := @ite Int32 p (Classical.propDecidable p) 1 0
theorem cc_bt {p : Prop} (h : p) : cc_b p = 1 := by unfold cc_b; rw [if_pos h]
theorem cc_bf {p : Prop} (h : ¬ p) : cc_b p = 0 := by unfold cc_b; rw [if_neg h]
theorem cc_bq {p q : Prop} (h : p ↔ q) : cc_b p = cc_b q := by rw [propext h]
theorem cc_b01 (p : Prop) : cc_b p = 0 ∨ cc_b p = 1 := by
  rcases Classical.em p with h | h
  · exact Or.inr (cc_bt h)
  · exact Or.inl (cc_bf h)
theorem cc_b0 {p : Prop} : cc_b p = 0 ↔ ¬ p := by
  rcases Classical.em p with h | h
  · rw [cc_bt h]; exact ⟨fun z => absurd z (by decide), fun z => absurd h z⟩
  · rw [cc_bf h]; exact ⟨fun _ => h, fun _ => rfl⟩
theorem cc_bn (p : Prop) : narrow .boolean (.int (cc_b p)) = .int (cc_b p) := by
  rcases cc_b01 p with h | h <;> rw [h] <;> rfl
theorem cc_and (a b : Nat) : nI a &&& nI b = nI (a &&& b) := by
  apply Int32.toBitVec_inj.1
  show BitVec.ofNat 32 a &&& BitVec.ofNat 32 b = BitVec.ofNat 32 (a &&& b)
  apply BitVec.eq_of_getLsbD_eq
  intro i hi
  simp [hi]
theorem cc_or (a b : Nat) : nI a ||| nI b = nI (a ||| b) := by
  apply Int32.toBitVec_inj.1
  show BitVec.ofNat 32 a ||| BitVec.ofNat 32 b = BitVec.ofNat 32 (a ||| b)
  apply BitVec.eq_of_getLsbD_eq
  intro i hi
  simp [hi]
theorem cc_xor (a b : Nat) : nI a ^^^ nI b = nI (a ^^^ b) := by
  apply Int32.toBitVec_inj.1
  show BitVec.ofNat 32 a ^^^ BitVec.ofNat 32 b = BitVec.ofNat 32 (a ^^^ b)
  apply BitVec.eq_of_getLsbD_eq
  intro i hi
  simp [hi]
theorem cc_m1 : (-1 : Int32) = nI 4294967295 := by decide +kernel
def cc_d (a b : Nat) : Nat := a &&& (b ^^^ 4294967295)
theorem cc_dif (a b : Nat) : nI a &&& (nI b ^^^ (-1)) = nI (cc_d a b) := by
  rw [cc_m1, cc_xor, cc_and]
  rfl
theorem cc_dt {a b i : Nat} (ha : a < 2 ^ 32) : (cc_d a b).testBit i = (a.testBit i && !b.testBit i) := by
  unfold cc_d
  rw [Nat.testBit_and, Nat.testBit_xor]
  rcases Nat.lt_or_ge i 32 with h | h
  · have e : (4294967295 : Nat).testBit i = true := (by decide +kernel : ∀ i, i < 32 → (4294967295 : Nat).testBit i = true) i h
    rw [e]; simp
  · have e : a.testBit i = false := Nat.testBit_lt_two_pow (Nat.lt_of_lt_of_le ha (Nat.pow_le_pow_right (by decide) h))
    rw [e]; simp
theorem cc_dle (a b : Nat) : cc_d a b ≤ a := Nat.and_le_left
theorem cc_bit : ∀ l, l < 32 → (1 : Int32) <<< (nI l &&& 31) = nI (2 ^ l) := by decide +kernel
theorem cc_t0 {s l : Nat} (hs : s < 2 ^ 31) : nI s &&& nI (2 ^ l) = 0 ↔ s.testBit l = false := by
  have hb : s &&& 2 ^ l < 2 ^ 31 := Nat.lt_of_le_of_lt Nat.and_le_left hs
  rw [cc_and, ← nI_0, nI_eq hb (by decide)]
  constructor
  · intro h
    cases e : s.testBit l with
    | false => rfl
    | true =>
      have t : (s &&& 2 ^ l).testBit l = true := by rw [Nat.testBit_and, e, Nat.testBit_two_pow_self]; rfl
      rw [h, Nat.zero_testBit] at t
      exact absurd t (by decide)
  · intro h
    apply Nat.eq_of_testBit_eq
    intro i
    rw [Nat.testBit_and, Nat.testBit_two_pow, Nat.zero_testBit]
    by_cases e : l = i
    · subst e; rw [h]; rfl
    · simp [e]
theorem cc_sh {s w : Nat} (hs : s < 2 ^ 31) (hw : w < 32) : nI s >>> (nI w &&& 31) = nI (s / 2 ^ w) := pk_shrN hs _ w (s_l w hw)
theorem cc_shl {s w : Nat} (hw : w < 32) (hs : s * 2 ^ w < 2 ^ 32) : nI s <<< (nI w &&& 31) = nI (s * 2 ^ w) := pk_shlN _ w (s_l w hw) hs
theorem cc_sh1 {s w : Nat} (hs : s < 2 ^ 31) (hw : w < 32) : (nI s >>> (nI w &&& 31)) &&& 1 = cc_b (s.testBit w = true) := by
  rw [cc_sh hs hw]
  show nI (s / 2 ^ w) &&& nI 1 = _
  rw [cc_and, Nat.and_one_is_mod, ← Nat.toNat_testBit]
  cases e : s.testBit w with
  | false => rw [cc_bf (by decide)]; rfl
  | true => rw [cc_bt rfl]; rfl
theorem cc_b1 {p : Prop} : cc_b p = 1 ↔ p := by
  rcases Classical.em p with h | h
  · rw [cc_bt h]; exact ⟨fun _ => h, fun _ => rfl⟩
  · rw [cc_bf h]; exact ⟨fun z => absurd z (by decide), fun z => absurd z h⟩
theorem cc_tl {s k n : Nat} (hs : s < 2 ^ n) (h : s.testBit k = true) : k < n := by
  rcases Nat.lt_or_ge k n with z | z
  · exact z
  · rw [Nat.testBit_lt_two_pow (Nat.lt_of_lt_of_le hs (Nat.pow_le_pow_right (by decide) z))] at h
    exact absurd h (by decide)
theorem cc_p2 {l n : Nat} (h : l < n) : 2 ^ l < 2 ^ n := Nat.pow_lt_pow_right (by decide) h
/-- nothing of a lies outside b -/
theorem cc_d0 {a b : Nat} (ha : a < 2 ^ 32) : cc_d a b = 0 ↔ ∀ k, a.testBit k = true → b.testBit k = true := by
  constructor
  · intro h k hk
    have t := cc_dt (b := b) (i := k) ha
    rw [h, Nat.zero_testBit, hk] at t
    cases e : b.testBit k with
    | true => rfl
    | false => rw [e] at t; exact absurd t (by decide)
  · intro h
    apply Nat.eq_of_testBit_eq
    intro i
    rw [cc_dt ha, Nat.zero_testBit]
    cases e : a.testBit i with
    | false => rfl
    | true => rw [h i e]; rfl
theorem cc_dm {L w v : Nat} (hL : L < 2 ^ 32) : (cc_d L (2 ^ w)).testBit v = true ↔ L.testBit v = true ∧ w ≠ v := by
  rw [cc_dt hL, Nat.testBit_two_pow]
  by_cases e : w = v
  · simp [e]
  · simp [e]
theorem cc_ot {a b v : Nat} : (a ||| b).testBit v = true ↔ a.testBit v = true ∨ b.testBit v = true := by
  rw [Nat.testBit_or, Bool.or_eq_true]
theorem cc_o2 {a w v : Nat} : (a ||| 2 ^ w).testBit v = true ↔ a.testBit v = true ∨ w = v := by
  rw [cc_ot, Nat.testBit_two_pow, decide_eq_true_eq]
theorem cc_at {a b v : Nat} : (a &&& b).testBit v = true ↔ a.testBit v = true ∧ b.testBit v = true := by
  rw [Nat.testBit_and, Bool.and_eq_true]
theorem cc_ext {a b : Nat} (h : ∀ v, a.testBit v = true ↔ b.testBit v = true) : a = b := by
  apply Nat.eq_of_testBit_eq
  intro i
  have t := h i
  cases e : a.testBit i <;> cases f : b.testBit i
  · rfl
  · rw [e, f] at t; exact absurd (t.mpr rfl) (by decide)
  · rw [e, f] at t; exact absurd (t.mp rfl) (by decide)
  · rfl
theorem cc_f {b : Bool} (h : ¬ b = true) : b = false := by cases b <;> first | rfl | exact absurd rfl h
theorem cc_nf {b : Bool} (h : b = false) : ¬ b = true := by rw [h]; decide
