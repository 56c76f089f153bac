/-! the component's soundness of an operation -/
def cc_WK (ce : Nat → Nat) (wr : Nat → Prop) (so ea : Nat → Nat) (b : Nat) : Prop := wr b ∨ cc_HR ce wr so ea (ea b ||| 2 ^ b) (fun k => k = b)
def cc_SK (us ce : Nat → Nat) (wr : Nat → Prop) (so ea : Nat → Nat) (b : Nat) : Prop := cc_HR ce wr so ea (ea b ||| 2 ^ b) (fun k => us k = us b)
noncomputable def cc_jd (us : Nat → Nat) (wr : Nat → Prop) (b : Nat) : Nat → Nat
  | 0 => 0
  | i + 1 => @ite Nat (¬ wr i ∧ us i = us b) (Classical.propDecidable _) (cc_jd us wr b i ||| 2 ^ i) (cc_jd us wr b i)
section
variable {us ce : Nat → Nat} {wr : Nat → Prop} {so ea : Nat → Nat} {n : Nat} {U C W S A M R : Nat → Int32}
theorem cc_past (hH : cc_H n us ce wr so ea) (hn : n ≤ 7) {b : Nat} (hb : b < n) :
    ea b ||| 2 ^ b < 128 ∧ ea b ||| 2 ^ b ≠ 0 ∧ (∀ k, (ea b ||| 2 ^ b).testBit k = true → k ≤ b) ∧
    ∀ k, (ea b ||| 2 ^ b).testBit k = true → ∀ j, (ea k).testBit j = true → (ea b ||| 2 ^ b).testBit j = true := by
  obtain ⟨_, _, b3, b4, _⟩ := hH b hb
  have l1 : ea b < 2 ^ 7 := Nat.lt_trans b3 (cc_p2 (by omega))
  refine ⟨Nat.or_lt_two_pow (n := 7) l1 (cc_p2 (by omega)), ?_, ?_, ?_⟩
  · intro z
    have t : (ea b ||| 2 ^ b).testBit b = true := cc_o2.mpr (Or.inr rfl)
    rw [z, Nat.zero_testBit] at t
    exact absurd t (by decide)
  · intro k hk
    rcases cc_o2.mp hk with z | z
    · have := cc_tl b3 z
      omega
    · omega
  · intro k hk j hj
    rcases cc_o2.mp hk with z | z
    · exact cc_o2.mpr (Or.inl (b4 k z j hj))
    · subst z
      exact cc_o2.mpr (Or.inl hj)
theorem cc_jd_t {b k : Nat} : ∀ i, (cc_jd us wr b i).testBit k = true ↔ k < i ∧ ¬ wr k ∧ us k = us b
  | 0 => by
    show (0 : Nat).testBit k = true ↔ _
    rw [Nat.zero_testBit]
    exact ⟨fun h => absurd h (by decide), fun h => absurd h.1 (Nat.not_lt_zero _)⟩
  | i + 1 => by
    have ih := cc_jd_t (b := b) (k := k) i
    by_cases c : ¬ wr i ∧ us i = us b
    · have e : cc_jd us wr b (i + 1) = cc_jd us wr b i ||| 2 ^ i := if_pos c
      rw [e, cc_o2, ih]
      constructor
      · rintro (⟨a, d⟩ | rfl)
        · exact ⟨by omega, d⟩
        · exact ⟨by omega, c⟩
      · rintro ⟨a, d⟩
        rcases Nat.lt_or_ge k i with z | z
        · exact Or.inl ⟨z, d⟩
        · exact Or.inr (by omega)
    · have e : cc_jd us wr b (i + 1) = cc_jd us wr b i := if_neg c
      rw [e, ih]
      constructor
      · rintro ⟨a, d⟩; exact ⟨by omega, d⟩
      · rintro ⟨a, d⟩
        rcases Nat.lt_or_ge k i with z | z
        · exact ⟨z, d⟩
        · have : k = i := by omega
          subst this
          exact absurd d c
theorem cc_jd_lt {b : Nat} (i : Nat) : cc_jd us wr b i < 2 ^ i := Nat.lt_pow_two_of_testBit _ (fun k hk => cc_f (fun z => by
  have := ((cc_jd_t i).mp z).1
  omega))
theorem cc_xwk {post : Int32 → SX → Prop} (hX : cc_X n us ce wr so ea U C W S A) (hH : cc_H n us ce wr so ea) (hn : n ≤ 7) {b : Nat} (hb : b < n)
    (K : ∀ R', post (cc_b (cc_WK ce wr so ea b)) (nI n, U, C, W, S, A, M, R')) : wpX_isWeaklySound post (nI n, U, C, W, S, A, M, R) (nI b) := by
  have w8 : vp_in (nI b) 8 := vp_in_nI (by omega) (by decide)
  have ec : (nI b).toNatClampNeg = b := nI_clamp (by omega)
  obtain ⟨_, _, g3, _, g5⟩ := hX b hb
  obtain ⟨p1, p2, p3, p4⟩ := cc_past hH hn hb
  refine ⟨w8, cc_bw (by rw [ec]; exact g3) (fun hw => ⟨w8, ?_⟩) (fun hw => ?_)⟩
  · rw [ec, g5, cc_bit b (by omega)]
    refine cc_xrow hX hH hn p1 p2 (fun k hk => by have := p3 k hk; omega) p4 (Nat.lt_trans (cc_p2 (show b < 7 by omega)) (by decide)) (J := fun k => k = b) (fun k hk _ => ?_) (fun R' => cc_br (fun z => ?_) (fun z => ?_))
    · rw [Nat.testBit_two_pow, decide_eq_true_eq]
      exact ⟨fun e => e.symm, fun e => e.symm⟩
    · have k := K R'
      rw [cc_bf (p := cc_WK ce wr so ea b) (fun y => y.elim hw z)] at k
      exact k
    · have k := K R'
      rw [cc_bt (p := cc_WK ce wr so ea b) (Or.inr z)] at k
      exact k
  · have k := K R
    rw [cc_bt (p := cc_WK ce wr so ea b) (Or.inl hw)] at k
    exact k
theorem cc_xsk4 {post : Int32 → SX → Prop} (hX : cc_X n us ce wr so ea U C W S A) (hH : cc_H n us ce wr so ea) (hn : n ≤ 7) {b : Nat} (hb : b < n)
    (K : ∀ R', post (cc_b (cc_SK us ce wr so ea b)) (nI n, U, C, W, S, A, M, R')) :
    ∀ d i f, i + d = b + 1 → d < f → wX_isStronglySound_4 post (nI b) (nI n) U C W S A M R f (nI (cc_jd us wr b i)) (nI i) := by
  have w8b : vp_in (nI b) 8 := vp_in_nI (by omega) (by decide)
  have ecb : (nI b).toNatClampNeg = b := nI_clamp (by omega)
  intro d
  induction d with
  | zero =>
    intro i f h1 h2
    obtain ⟨f, rfl⟩ : ∃ m, f = m + 1 := ⟨f - 1, by omega⟩
    have hi : i = b + 1 := by omega
    subst hi
    obtain ⟨_, _, _, _, g5⟩ := hX b hb
    obtain ⟨p1, p2, p3, p4⟩ := cc_past hH hn hb
    have jl := cc_jd_lt (us := us) (wr := wr) (b := b) (b + 1)
    have j7 : 2 ^ (b + 1) ≤ 2 ^ 7 := Nat.pow_le_pow_right (by decide) (by omega)
    refine br_t (nI_lt (by omega) (by omega)) ⟨w8b, ?_⟩
    rw [ecb, g5]
    refine cc_xrow hX hH hn p1 p2 (fun k hk => by have := p3 k hk; omega) p4 (by omega) (J := fun k => us k = us b) (fun k hk hw => ?_) (fun R' => ⟨cc_bn _, K R'⟩)
    rw [cc_jd_t]
    have := p3 k hk
    exact ⟨fun z => z.2.2, fun z => ⟨by omega, hw, z⟩⟩
  | succ d ih =>
    intro i f h1 h2
    obtain ⟨f, rfl⟩ : ∃ m, f = m + 1 := ⟨f - 1, by omega⟩
    have w8 : vp_in (nI i) 8 := vp_in_nI (by omega) (by decide)
    have ec : (nI i).toNatClampNeg = i := nI_clamp (by omega)
    obtain ⟨g1, _, g3, _, _⟩ := hX i (by omega)
    obtain ⟨q1, _, _, _, _⟩ := hX b hb
    have u1 := (hH i (by omega)).1
    have u2 := (hH b hb).1
    have t := ih (i + 1) f (by omega) (by omega)
    have skip : ¬ (¬ wr i ∧ us i = us b) → wX_isStronglySound_4 post (nI b) (nI n) U C W S A M R f (nI (cc_jd us wr b i)) (nI (i + 1)) := by
      intro c
      have e : cc_jd us wr b (i + 1) = cc_jd us wr b i := if_neg c
      rw [e] at t
      exact t
    refine br_f (nI_nlt (by omega) (by omega)) ⟨w8, cc_bw (by rw [ec]; exact g3) (fun hw => ⟨w8, w8b, pk_eq (us i) (us b) (fun y => ?_) (fun y => nm_r (nI_1 i) (skip (fun z => y z.2))) (by rw [ec]; exact g1) (by rw [ecb]; exact q1) (by omega) (by omega)⟩) (fun hw => nm_r (nI_1 i) (skip (fun z => z.1 hw)))⟩
    have e : cc_jd us wr b (i + 1) = cc_jd us wr b i ||| 2 ^ i := if_pos ⟨hw, y⟩
    rw [e] at t
    exact nm_r (by rw [cc_bit i (by omega), cc_or]) (nm_r (nI_1 i) t)
theorem cc_xsk {post : Int32 → SX → Prop} (hX : cc_X n us ce wr so ea U C W S A) (hH : cc_H n us ce wr so ea) (hn : n ≤ 7) {b : Nat} (hb : b < n)
    (K : ∀ R', post (cc_b (cc_SK us ce wr so ea b)) (nI n, U, C, W, S, A, M, R')) : wpX_isStronglySound post (nI n, U, C, W, S, A, M, R) (nI b) :=
  ⟨b + 2, cc_xsk4 hX hH hn hb K (b + 1) 0 (b + 2) (by omega) (by omega)⟩
end
