/-! the component's small methods, and add -/
theorem cc_br {p A B : Prop} (f : ¬ p → A) (g : p → B) : (cc_b p = 0 → A) ∧ (¬ cc_b p = 0 → B) :=
  ⟨fun h => f (cc_b0.mp h), fun h => g (Classical.byContradiction fun z => h (cc_b0.mpr z))⟩
theorem cc_bw {a : Int32} {p A B : Prop} (e : a = cc_b p) (f : ¬ p → A) (g : p → B) : (a = 0 → A) ∧ (¬ a = 0 → B) := by
  subst e
  exact cc_br f g
theorem cc_b1w {a : Int32} {p A B : Prop} (e : a = cc_b p) (f : p → A) (g : ¬ p → B) : (a = 1 → A) ∧ (¬ a = 1 → B) := by
  subst e
  exact ⟨fun h => f (cc_b1.mp h), fun h => g (fun z => h (cc_b1.mpr z))⟩
theorem cc_if {c d A B : Prop} (e : c ↔ d) (f : d → A) (g : ¬ d → B) : (c → A) ∧ (¬ c → B) :=
  ⟨fun h => f (e.mp h), fun h => g (fun z => h (e.mpr z))⟩
theorem cc_nar (p : Prop) : vp_nar .boolean (cc_b p) = cc_b p := by
  rcases cc_b01 p with h | h <;> rw [h] <;> rfl
theorem cc_nar1 : vp_nar .boolean 1 = 1 := rfl
theorem cc_nar0 : vp_nar .boolean 0 = 0 := rfl
def cc_ok (k : Nat) (x : Int32) : Prop := ∃ j : Nat, j < k ∧ x = nI j
theorem cc_okI {k j : Nat} (hk : k < 2 ^ 31) (hj : j < 2 ^ 31) : cc_ok k (nI j) ↔ j < k :=
  ⟨fun ⟨i, hi, e⟩ => by have := (nI_eq hj (by omega)).mp e; omega, fun h => ⟨j, h, rfl⟩⟩
theorem cc_ok0 {k : Nat} {x : Int32} (hk : k < 2 ^ 31) (h : x < 0) : ¬ cc_ok k x := by
  rintro ⟨j, hj, rfl⟩
  exact nI_pos (by omega) h
theorem cc_two {post : Int32 → Prop} {x : Int32} (k : Nat) (hk : k < 2 ^ 31) (h : post (cc_b (cc_ok k x))) :
    (x < 0 → post 0) ∧ (¬ x < 0 → (nI k ≤ x → post 0) ∧ (¬ nI k ≤ x → post 1)) := by
  by_cases a : x < 0
  · rw [cc_bf (cc_ok0 hk a)] at h
    exact br_t a h
  · obtain ⟨j, hj, rfl⟩ := nI_of a
    refine br_f a (pk_le k j (fun z => ?_) (fun z => ?_) rfl rfl hk hj)
    · rw [cc_bf (fun y => by have := (cc_okI hk hj).mp y; omega)] at h
      exact h
    · rw [cc_bt ((cc_okI hk hj).mpr z)] at h
      exact h
theorem cc_xUser {post : Int32 → Prop} {x : Int32} (h : post (cc_b (cc_ok 3 x))) : wpX_isUser post x := cc_two 3 (by decide) h
theorem cc_xCell {post : Int32 → Prop} {x : Int32} (h : post (cc_b (cc_ok 2 x))) : wpX_isCell post x := cc_two 2 (by decide) h
theorem cc_xHas {post : Int32 → Prop} {s k : Nat} (hs : s < 2 ^ 31) (hk : k < 32) (h : post (cc_b (s.testBit k = true))) : wpX_contains post (nI s) (nI k) := by
  unfold wpX_contains
  rw [cc_bit k hk]
  by_cases c : s.testBit k = true
  · rw [cc_bt c] at h
    exact br_f (fun z => by rw [cc_t0 hs, c] at z; exact absurd z (by decide)) h
  · rw [cc_bf c] at h
    exact br_t ((cc_t0 hs).mpr (cc_f c)) h
section
variable {us ce : Nat → Nat} {wr : Nat → Prop} {so ea : Nat → Nat} {n : Nat} {U C W S P M R : Nat → Int32}
theorem cc_xHeld {post : Int32 → Prop} {x : Int32} (hn : n ≤ 8) (h : post (cc_b (cc_ok n x))) : wpX_isHeld post (nI n, U, C, W, S, P, M, R) x :=
  cc_two n (by omega) h
/-- x is the number of a write about the cell -/
def cc_src (n : Nat) (ce : Nat → Nat) (wr : Nat → Prop) (x : Int32) (cell : Nat) : Prop := ∃ j, j < n ∧ x = nI j ∧ wr j ∧ ce j = cell
theorem cc_xAbout {post : Int32 → Prop} {x : Int32} {cell : Nat} (hX : cc_X n us ce wr so ea U C W S P) (hH : cc_H n us ce wr so ea) (hn : n ≤ 8) (hc : cell < 2)
    (h : post (cc_b (cc_src n ce wr x cell))) : wpX_isWriteAbout post (nI n, U, C, W, S, P, M, R) x (nI cell) := by
  unfold wpX_isWriteAbout
  dsimp only
  refine cc_xHeld hn (cc_br (fun z => ?_) (fun z => ?_))
  · rw [cc_bf (fun ⟨j, hj, e, _⟩ => z ⟨j, hj, e⟩)] at h
    exact h
  · obtain ⟨j, hj, rfl⟩ := z
    have w8 : vp_in (nI j) 8 := vp_in_nI (by omega) (by decide)
    have e : (nI j).toNatClampNeg = j := nI_clamp (by omega)
    obtain ⟨_, h2, h3, _, _⟩ := hX j hj
    have hcj := (hH j hj).2.1
    refine ⟨w8, cc_bw (by rw [e]; exact h3) (fun z => ?_) (fun z => ⟨w8, pk_eq (ce j) cell (fun y => ?_) (fun y => ?_) (by rw [e]; exact h2) rfl (by omega) (by omega)⟩)⟩
    · rw [cc_bf (fun ⟨i, hi, ei, w, _⟩ => by
        have : j = i := (nI_eq (by omega) (by omega)).mp ei
        subst this
        exact z w)] at h
      exact h
    · rw [cc_bt ⟨j, hj, rfl, z, y⟩] at h
      exact h
    · rw [cc_bf (fun ⟨i, hi, ei, _, w⟩ => by
        have : j = i := (nI_eq (by omega) (by omega)).mp ei
        subst this
        exact y w)] at h
      exact h
theorem cc_xadd15 {post : Int32 → SX → Prop} {user cell s : Nat} {w : Prop} {x3 : Int32} (hX : cc_X n us ce wr so ea U C W S P) (hH : cc_H n us ce wr so ea) (hn : n ≤ 7)
    (hu : user < 3) (hs : s ≤ 7) (h3 : x3 = cc_b w)
    (K : post (nI n) (nI (n + 1), upd U n (nI user), upd C n (nI cell), upd W n x3, upd S n (nI s), upd P n (nI (cc_en us ea user s n ||| 2 ^ n)), M, R)) :
    ∀ d i f, i + d = n → d < f → wX_add_15 post (nI user) (nI cell) x3 (nI s) (nI n) (nI n) U C W S P M R f (nI (cc_en us ea user s i ||| 2 ^ n)) (nI i) := by
  intro d
  induction d with
  | zero =>
    intro i f h1 h2
    obtain ⟨f, rfl⟩ : ∃ m, f = m + 1 := ⟨f - 1, by omega⟩
    have hi : i = n := by omega
    subst hi
    have w8 : vp_in (nI i) 8 := vp_in_nI (by omega) (by decide)
    have e : (nI i).toNatClampNeg = i := nI_clamp (by omega)
    exact br_t (nI_le (Nat.le_refl _) (by omega)) ⟨w8, nm_r (e' := upd U i (nI user)) (by rw [e]) ⟨w8, nm_r (e' := upd C i (nI cell)) (by rw [e])
      ⟨w8, nm_r (e' := upd W i x3) (by rw [e, h3, cc_nar]) ⟨w8, nm_r (e' := upd S i (nI s)) (by rw [e])
      ⟨w8, nm_r (e' := upd P i (nI (cc_en us ea user s i ||| 2 ^ i))) (by rw [e]) (nm_r (nI_1 i) K)⟩⟩⟩⟩⟩
  | succ d ih =>
    intro i f h1 h2
    obtain ⟨f, rfl⟩ : ∃ m, f = m + 1 := ⟨f - 1, by omega⟩
    have hi : i < n := by omega
    have w8 : vp_in (nI i) 8 := vp_in_nI (by omega) (by decide)
    have e : (nI i).toNatClampNeg = i := nI_clamp (by omega)
    obtain ⟨g1, _, _, _, g5⟩ := hX i hi
    have hui := (hH i hi).1
    have t := ih (i + 1) f (by omega) (by omega)
    have step : (us i = user ∨ i = s) → wX_add_40 post (wX_add_15 post (nI user) (nI cell) x3 (nI s) (nI n) (nI n) U C W S P M R f) (nI user) (nI cell) x3 (nI s) (nI n) (nI (cc_en us ea user s i ||| 2 ^ n)) (nI i) (nI n) U C W S P M R := by
      intro c
      have ee : cc_en us ea user s (i + 1) = cc_en us ea user s i ||| (ea i ||| 2 ^ i) := if_pos c
      refine ⟨w8, nm_r (e' := nI (cc_en us ea user s (i + 1) ||| 2 ^ n)) ?_ (nm_r (nI_1 i) t)⟩
      rw [e, g5, cc_or, ee]
      congr 1
      rw [Nat.or_assoc, Nat.or_comm (2 ^ n), ← Nat.or_assoc]
    have skip : ¬ (us i = user ∨ i = s) → wX_add_15 post (nI user) (nI cell) x3 (nI s) (nI n) (nI n) U C W S P M R f (nI (cc_en us ea user s i ||| 2 ^ n)) (nI (i + 1)) := by
      intro c
      have ee : cc_en us ea user s (i + 1) = cc_en us ea user s i := if_neg c
      rw [ee] at t
      exact t
    exact br_f (nI_ge (by omega) (by omega)) ⟨w8, pk_eq (us i) user (fun c => step (Or.inl c))
      (fun c => pk_eq i s (fun c' => step (Or.inr c')) (fun c' => nm_r (nI_1 i) (skip (fun z => z.elim c c'))) rfl rfl (by omega) (by omega))
      (by rw [e]; exact g1) rfl (by omega) (by omega)⟩
theorem cc_xadd {post : Int32 → SX → Prop} {user cell s : Nat} {w : Prop} {x3 : Int32} (hX : cc_X n us ce wr so ea U C W S P) (hH : cc_H n us ce wr so ea) (hn : n ≤ 7)
    (hu : user < 3) (hs : s ≤ 7) (h3 : x3 = cc_b w)
    (K : post (nI n) (nI (n + 1), upd U n (nI user), upd C n (nI cell), upd W n x3, upd S n (nI s), upd P n (nI (cc_en us ea user s n ||| 2 ^ n)), M, R)) :
    wpX_add post (nI n, U, C, W, S, P, M, R) (nI user) (nI cell) x3 (nI s) :=
  nm_r (e' := nI (cc_en us ea user s 0 ||| 2 ^ n)) (by rw [cc_bit n (by omega)]; show nI (2 ^ n) = nI (0 ||| 2 ^ n); rw [Nat.zero_or])
    ⟨n + 1, cc_xadd15 hX hH hn hu hs h3 K n 0 (n + 1) (by omega) (by omega)⟩
end
