/-! the two programs' codes of a state; the sum of choices -/
section
variable {ce : Nat → Nat} {wr : Nat → Prop} {so ea : Nat → Nat} {P : Nat} {J : Nat → Prop}
theorem cc_x1 {k S : Nat} (hP : P < 128) (hk : P.testBit k = true) (hS : S.testBit k = false) (hsub : ∀ j, (ea k).testBit j = true → P.testBit j = true)
    (hlt : ea k < 2 ^ k) : ((ea k ||| 2 ^ k) &&& cc_d P S) = 2 ^ k ↔ ∀ j, (ea k).testBit j = true → S.testBit j = true := by
  have hP' : P < 2 ^ 32 := by omega
  constructor
  · intro h j hj
    have jk := cc_tl hlt hj
    have t : ((ea k ||| 2 ^ k) &&& cc_d P S).testBit j = false := by rw [h]; exact Nat.testBit_two_pow_of_ne (by omega)
    rw [Nat.testBit_and, cc_o2.mpr (Or.inl hj), cc_dt hP', hsub j hj] at t
    cases e : S.testBit j with
    | true => rfl
    | false => rw [e] at t; exact absurd t (by decide)
  · intro h
    apply cc_ext
    intro v
    rw [cc_at, cc_o2, cc_dt hP', Nat.testBit_two_pow, decide_eq_true_eq, Bool.and_eq_true]
    constructor
    · rintro ⟨a | a, b, c⟩
      · rw [h v a] at c; exact absurd c (by decide)
      · exact a
    · rintro rfl
      exact ⟨Or.inr rfl, hk, by rw [hS]; rfl⟩
end
theorem cc_hi {S m : Nat} (hm : m < 64) : S * 64 + m = (S * 64) ||| m := by
  have h := Nat.two_pow_add_eq_or_of_lt (i := 6) hm S
  rw [show 2 ^ 6 * S = S * 64 from Nat.mul_comm _ _] at h
  exact h
theorem cc_o64 (a b : Nat) : a * 64 ||| b * 64 = (a ||| b) * 64 := by
  have h := Nat.shiftLeft_or_distrib (i := 6) (a := a) (b := b)
  rw [Nat.shiftLeft_eq, Nat.shiftLeft_eq, Nat.shiftLeft_eq] at h
  exact h.symm
theorem cc_long {S m k : Nat} (hm : m < 64) : (S * 64 + m) ||| (2 ^ k * 64) = (S ||| 2 ^ k) * 64 + m := by
  rw [cc_hi hm, cc_hi hm, Nat.or_assoc, Nat.or_comm m, ← Nat.or_assoc, cc_o64]
theorem cc_k0 : ∀ S : Fin 128, cc_d (S.val * 64) 7 = S.val * 64 := by decide +kernel
theorem cc_k3 : ∀ S : Fin 128, cc_d (S.val * 64) 56 = S.val * 64 := by decide +kernel
theorem cc_m0 : ∀ q p k : Fin 8, cc_d (q.val * 8 + p.val) 7 ||| k.val = q.val * 8 + k.val := by decide +kernel
theorem cc_m3 : ∀ q p k : Fin 8, cc_d (q.val * 8 + p.val) 56 ||| (k.val * 8) = k.val * 8 + p.val := by decide +kernel
theorem cc_dor (a b c : Nat) : cc_d (a ||| b) c = cc_d a c ||| cc_d b c := Nat.and_or_distrib_right _ _ _
theorem cc_w0 {S q p k : Nat} (hS : S < 128) (hq : q ≤ 7) (hp : p ≤ 7) (hk : k ≤ 7) : cc_d (S * 64 + (q * 8 + p)) 7 ||| k = cc_EX S k q := by
  have a := cc_k0 ⟨S, hS⟩
  have b := cc_m0 ⟨q, by omega⟩ ⟨p, by omega⟩ ⟨k, by omega⟩
  dsimp only at a b
  unfold cc_EX
  rw [cc_hi (by omega), cc_dor, Nat.or_assoc, a, b, ← cc_hi (by omega)]
theorem cc_w3 {S q p k : Nat} (hS : S < 128) (hq : q ≤ 7) (hp : p ≤ 7) (hk : k ≤ 7) : cc_d (S * 64 + (q * 8 + p)) 56 ||| (k * 8) = cc_EX S p k := by
  have a := cc_k3 ⟨S, hS⟩
  have b := cc_m3 ⟨q, by omega⟩ ⟨p, by omega⟩ ⟨k, by omega⟩
  dsimp only at a b
  unfold cc_EX
  rw [cc_hi (by omega), cc_dor, Nat.or_assoc, a, b, ← cc_hi (by omega)]
theorem cc_EX6 {S p q : Nat} (hp : p ≤ 7) (hq : q ≤ 7) : cc_EX S p q / 64 = S := by unfold cc_EX; omega
theorem cc_EXlt {S p q : Nat} (hS : S < 128) (hp : p ≤ 7) (hq : q ≤ 7) : cc_EX S p q < 8192 := by unfold cc_EX; omega
theorem cc_EXp {S p q : Nat} (hp : p ≤ 7) : cc_EX S p q % 8 = p := by unfold cc_EX; omega
theorem cc_EXq {S p q : Nat} (hp : p ≤ 7) (hq : q ≤ 7) : cc_EX S p q / 8 % 8 = q := by unfold cc_EX; omega
theorem cc_EYd {S p q : Nat} (hp : p ≤ 7) (hq : q ≤ 7) : cc_EY S p q / 81 = S := by
  have := cc_yb hp
  have := cc_yb hq
  unfold cc_EY
  omega
theorem cc_EYr {S p q : Nat} (hp : p ≤ 7) (hq : q ≤ 7) : cc_EY S p q % 81 = 9 * cc_y p + cc_y q := by
  have := cc_yb hp
  have := cc_yb hq
  unfold cc_EY
  omega
theorem cc_EYlt {S p q : Nat} (hS : S < 128) (hp : p ≤ 7) (hq : q ≤ 7) : cc_EY S p q < 10368 := by
  have := cc_yb hp
  have := cc_yb hq
  unfold cc_EY
  omega
/-- the sum of 2^s over s below j with C s -/
noncomputable def cc_x (C : Nat → Prop) : Nat → Nat
  | 0 => 0
  | j + 1 => @ite Nat (C j) (Classical.propDecidable _) (cc_x C j + 2 ^ j) (cc_x C j)
theorem cc_x_lt {C : Nat → Prop} : ∀ j, cc_x C j < 2 ^ j
  | 0 => by show 0 < 1; decide
  | j + 1 => by
    have ih := cc_x_lt (C := C) j
    have p : 2 ^ (j + 1) = 2 ^ j + 2 ^ j := by rw [Nat.pow_succ]; omega
    by_cases c : C j
    · have e : cc_x C (j + 1) = cc_x C j + 2 ^ j := if_pos c
      omega
    · have e : cc_x C (j + 1) = cc_x C j := if_neg c
      omega
theorem cc_x_y {C : Nat → Prop} {j : Nat} (h : C j) : cc_x C (j + 1) = cc_x C j + 2 ^ j := if_pos h
theorem cc_x_n {C : Nat → Prop} {j : Nat} (h : ¬ C j) : cc_x C (j + 1) = cc_x C j := if_neg h
theorem cc_x_s {C : Nat → Prop} {n : Nat} : ∀ d, (∀ s, n ≤ s → s < n + d → ¬ C s) → cc_x C (n + d) = cc_x C n
  | 0, _ => rfl
  | d + 1, h => by
    show cc_x C (n + d + 1) = _
    rw [cc_x_n (h (n + d) (by omega) (by omega))]
    exact cc_x_s d (fun s h1 h2 => h s h1 (by omega))
theorem cc_x_or {C : Nat → Prop} {j : Nat} (h : C j) (b : Nat) : (b ||| cc_x C j) ||| 2 ^ j = b ||| cc_x C (j + 1) := by
  rw [cc_x_y h, Nat.or_assoc, Nat.or_two_pow_eq_add_of_lt (cc_x_lt j)]
theorem cc_x_fin {C : Nat → Prop} {n : Nat} (hn : n ≤ 7) (h : ∀ s, n ≤ s → s < 7 → ¬ C s) :
    cc_x C 8 = (@ite Nat (C 7) (Classical.propDecidable _) 128 0) ||| cc_x C n := by
  have e : cc_x C 7 = cc_x C n := by
    have t := cc_x_s (C := C) (n := n) (7 - n) (fun s h1 h2 => h s h1 (by omega))
    rw [show n + (7 - n) = 7 by omega] at t
    exact t
  have l := cc_x_lt (C := C) 7
  show cc_x C (7 + 1) = _
  by_cases c : C 7
  · rw [cc_x_y c, if_pos c, ← e]
    have t := Nat.two_pow_add_eq_or_of_lt (i := 7) l 1
    rw [Nat.mul_one] at t
    rw [Nat.add_comm]
    exact t
  · rw [cc_x_n c, if_neg c, Nat.zero_or, e]
