/-! sound on both sides -/
noncomputable def cc_v (x : Int32) (p : Prop) : Int32 := @ite Int32 p (Classical.propDecidable p) x 0
theorem cc_vt {x : Int32} {p : Prop} (h : p) : cc_v x p = x := if_pos h
theorem cc_vf {x : Int32} {p : Prop} (h : ¬ p) : cc_v x p = 0 := if_neg h
noncomputable def cc_val (A B D : Prop) : Int32 := (cc_v 1 A + cc_v 2 B) + cc_v 4 D
theorem cc_all {P : Nat → Prop} {i : Nat} : (∀ o, o < i + 1 → P o) ↔ (∀ o, o < i → P o) ∧ P i :=
  ⟨fun h => ⟨fun o ho => h o (by omega), h i (by omega)⟩, fun h o ho => by
    rcases Nat.lt_or_ge o i with z | z
    · exact h.1 o z
    · have : o = i := by omega
      rw [this]; exact h.2⟩
section
variable {us ce : Nat → Nat} {wr : Nat → Prop} {so ea : Nat → Nat} {n : Nat} {U C W S A : Nat → Int32}
theorem cc_xs74 {post : Int32 → SX → Prop} {P Q : Prop} {M R : Nat → Int32} {z0 z1 : Int32} (hX : cc_X n us ce wr so ea U C W S A) (hH : cc_H n us ce wr so ea) (hn : n ≤ 7)
    (h0 : z0 = cc_v 2 Q) (h1 : z1 = cc_v 1 P) (K : ∀ M', post (cc_val P Q (cc_CV n ce wr so ea)) (nI n, U, C, W, S, A, M', R)) :
    wX_sound_74 post z0 z1 (nI n) U C W S A M R := by
  subst h0 h1
  refine cc_xcv hX hH (by omega) (fun M' => cc_br (fun z => ?_) (fun z => ?_))
  · have k := K M'
    unfold cc_val at k
    rw [cc_vf z] at k
    exact k
  · have k := K M'
    unfold cc_val at k
    rw [cc_vt (x := 4) z] at k
    exact k
theorem cc_xs31 {post : Int32 → SX → Prop} {J6 : Int32 → Int32 → Int32 → Int32 → (Nat → Int32) → (Nat → Int32) → (Nat → Int32) → (Nat → Int32) → (Nat → Int32) → (Nat → Int32) → (Nat → Int32) → Prop}
    {Q : Prop} {M R : Nat → Int32} {x2 z0 : Int32} {i : Nat} (hX : cc_X n us ce wr so ea U C W S A) (hH : cc_H n us ce wr so ea) (hn : n ≤ 7) (hi : i < n)
    (h2 : x2 = cc_b Q) (K : ∀ R', J6 z0 (cc_b (Q ∧ cc_SK us ce wr so ea i)) (nI (i + 1)) (nI n) U C W S A M R') :
    wX_sound_31 post J6 x2 (nI i) z0 (nI n) U C W S A M R := by
  refine cc_bw h2 (fun z => nm_r (nI_1 i) ?_) (fun z => cc_xsk hX hH hn hi (fun R' => cc_br (fun y => nm_r (nI_1 i) ?_) (fun y => nm_r (nI_1 i) ?_)))
  · have k := K R
    rw [cc_bf (fun y => z y.1)] at k
    exact k
  · have k := K R'
    rw [cc_bf (fun v => y v.2)] at k
    exact k
  · have k := K R'
    rw [cc_bt ⟨z, y⟩] at k
    exact k
theorem cc_xs6 {post : Int32 → SX → Prop} (hX : cc_X n us ce wr so ea U C W S A) (hH : cc_H n us ce wr so ea) (hn : n ≤ 7)
    (K : ∀ M' R', post (cc_val (∀ o, o < n → cc_WK ce wr so ea o) (∀ o, o < n → cc_SK us ce wr so ea o) (cc_CV n ce wr so ea)) (nI n, U, C, W, S, A, M', R')) :
    ∀ d i f M R, i + d = n → d < f → wX_sound_6 post f (cc_b (∀ o, o < i → cc_WK ce wr so ea o)) (cc_b (∀ o, o < i → cc_SK us ce wr so ea o)) (nI i) (nI n) U C W S A M R := by
  intro d
  induction d with
  | zero =>
    intro i f M R h1 h2
    obtain ⟨f, rfl⟩ : ∃ m, f = m + 1 := ⟨f - 1, by omega⟩
    have hi : i = n := by omega
    subst hi
    refine br_t (nI_le (Nat.le_refl _) (by omega)) (cc_br (fun z => cc_br (fun y => ?_) (fun y => ?_)) (fun z => cc_br (fun y => ?_) (fun y => ?_)))
    · exact cc_xs74 hX hH hn (cc_vf y).symm (cc_vf z).symm (fun M' => K M' R)
    · exact cc_xs74 hX hH hn (cc_vt y).symm (cc_vf z).symm (fun M' => K M' R)
    · exact cc_xs74 hX hH hn (cc_vf y).symm (cc_vt z).symm (fun M' => K M' R)
    · exact cc_xs74 hX hH hn (cc_vt y).symm (cc_vt z).symm (fun M' => K M' R)
  | succ d ih =>
    intro i f M R h1 h2
    obtain ⟨f, rfl⟩ : ∃ m, f = m + 1 := ⟨f - 1, by omega⟩
    have hi : i < n := by omega
    have go : ∀ (z0 : Int32) (R1 : Nat → Int32), z0 = cc_b ((∀ o, o < i → cc_WK ce wr so ea o) ∧ cc_WK ce wr so ea i) →
        wX_sound_31 post (wX_sound_6 post f) (cc_b (∀ o, o < i → cc_SK us ce wr so ea o)) (nI i) z0 (nI n) U C W S A M R1 := by
      intro z0 R1 h0
      refine cc_xs31 hX hH hn hi rfl (fun R' => ?_)
      have t := ih (i + 1) f M R' (by omega) (by omega)
      rw [cc_bq (cc_all (P := fun o => cc_WK ce wr so ea o)), cc_bq (cc_all (P := fun o => cc_SK us ce wr so ea o)), ← h0] at t
      exact t
    refine br_f (nI_ge (by omega) (by omega)) (cc_br (fun z => go 0 R (cc_bf (fun y => z y.1)).symm) (fun z => cc_xwk hX hH hn hi (fun R' => cc_br (fun y => go 0 R' (cc_bf (fun v => y v.2)).symm) (fun y => go 1 R' (cc_bt ⟨z, y⟩).symm))))
theorem cc_xs {post : Int32 → SX → Prop} {M R : Nat → Int32} (hX : cc_X n us ce wr so ea U C W S A) (hH : cc_H n us ce wr so ea) (hn : n ≤ 7)
    (K : ∀ M' R', post (cc_val (∀ o, o < n → cc_WK ce wr so ea o) (∀ o, o < n → cc_SK us ce wr so ea o) (cc_CV n ce wr so ea)) (nI n, U, C, W, S, A, M', R')) :
    wpX_sound post (nI n, U, C, W, S, A, M, R) := by
  refine ⟨n + 1, ?_⟩
  have t := cc_xs6 hX hH hn K n 0 (n + 1) M R (by omega) (by omega)
  rw [cc_bt (fun o ho => absurd ho (Nat.not_lt_zero _)), cc_bt (fun o ho => absurd ho (Nat.not_lt_zero _))] at t
  exact t
end
section
variable {us ce : Nat → Nat} {wr : Nat → Prop} {so ea : Nat → Nat} {n : Nat} {U C W S E : Nat → Int32}
theorem cc_ys58 {post : Int32 → SY → Prop} {P Q : Prop} {R O : Nat → Int32} {z0 z1 : Int32} (hY : cc_Y n us ce wr so ea U C W S E) (hH : cc_H n us ce wr so ea) (hn : n ≤ 7)
    (h0 : z0 = cc_v 2 Q) (h1 : z1 = cc_v 1 P) (K : ∀ O', post (cc_val P Q (cc_CV n ce wr so ea)) (nI n, U, C, W, S, E, R, O')) :
    wY_sound_58 post z0 z1 (nI n) U C W S E R O := by
  subst h0 h1
  refine cc_ycv hY hH (by omega) (Nat.le_refl _) rfl (fun O' => cc_br (fun z => ?_) (fun z => ?_))
  · have k := K O'
    unfold cc_val at k
    rw [cc_vf z] at k
    exact k
  · have k := K O'
    unfold cc_val at k
    rw [cc_vt (x := 4) z] at k
    exact k
theorem cc_ys24 {post : Int32 → SY → Prop} {J6 : Int32 → Int32 → Int32 → Int32 → (Nat → Int32) → (Nat → Int32) → (Nat → Int32) → (Nat → Int32) → (Nat → Int32) → (Nat → Int32) → (Nat → Int32) → Prop}
    {Q : Prop} {R O : Nat → Int32} {x1 x2 : Int32} {i : Nat} (hY : cc_Y n us ce wr so ea U C W S E) (hH : cc_H n us ce wr so ea) (hn : n ≤ 7) (hi : i < n)
    (h2 : x2 = cc_b Q) (K : ∀ R', J6 x1 (cc_b (Q ∧ cc_SK us ce wr so ea i)) (nI (i + 1)) (nI n) U C W S E R' O) :
    wY_sound_24 post J6 x1 x2 (nI i) (nI n) U C W S E R O := by
  refine cc_ysk hY hH hn hi (fun R' => cc_br (fun y => nm_r (nI_1 i) ?_) (fun y => nm_r (nI_1 i) ?_))
  · have k := K R'
    rw [cc_bf (fun v => y v.2)] at k
    exact k
  · have k := K R'
    rw [cc_bq (q := Q) ⟨fun v => v.1, fun v => ⟨v, y⟩⟩, ← h2] at k
    exact k
theorem cc_ys6 {post : Int32 → SY → Prop} (hY : cc_Y n us ce wr so ea U C W S E) (hH : cc_H n us ce wr so ea) (hn : n ≤ 7)
    (K : ∀ R' O', post (cc_val (∀ o, o < n → cc_WK ce wr so ea o) (∀ o, o < n → cc_SK us ce wr so ea o) (cc_CV n ce wr so ea)) (nI n, U, C, W, S, E, R', O')) :
    ∀ d i f R O, i + d = n → d < f → wY_sound_6 post f (cc_b (∀ o, o < i → cc_WK ce wr so ea o)) (cc_b (∀ o, o < i → cc_SK us ce wr so ea o)) (nI i) (nI n) U C W S E R O := by
  intro d
  induction d with
  | zero =>
    intro i f R O h1 h2
    obtain ⟨f, rfl⟩ : ∃ m, f = m + 1 := ⟨f - 1, by omega⟩
    have hi : i = n := by omega
    subst hi
    refine br_t (nI_le (Nat.le_refl _) (by omega)) (cc_br (fun z => cc_br (fun y => ?_) (fun y => ?_)) (fun z => cc_br (fun y => ?_) (fun y => ?_)))
    · exact cc_ys58 hY hH hn (cc_vf y).symm (cc_vf z).symm (fun O' => K R O')
    · exact cc_ys58 hY hH hn (cc_vt y).symm (cc_vf z).symm (fun O' => K R O')
    · exact cc_ys58 hY hH hn (cc_vf y).symm (cc_vt z).symm (fun O' => K R O')
    · exact cc_ys58 hY hH hn (cc_vt y).symm (cc_vt z).symm (fun O' => K R O')
  | succ d ih =>
    intro i f R O h1 h2
    obtain ⟨f, rfl⟩ : ∃ m, f = m + 1 := ⟨f - 1, by omega⟩
    have hi : i < n := by omega
    have go : ∀ (x1 : Int32) (R1 : Nat → Int32), x1 = cc_b ((∀ o, o < i → cc_WK ce wr so ea o) ∧ cc_WK ce wr so ea i) →
        wY_sound_24 post (wY_sound_6 post f) x1 (cc_b (∀ o, o < i → cc_SK us ce wr so ea o)) (nI i) (nI n) U C W S E R1 O := by
      intro x1 R1 h0
      refine cc_ys24 hY hH hn hi rfl (fun R' => ?_)
      have t := ih (i + 1) f R' O (by omega) (by omega)
      rw [cc_bq (cc_all (P := fun o => cc_WK ce wr so ea o)), cc_bq (cc_all (P := fun o => cc_SK us ce wr so ea o)), ← h0] at t
      exact t
    refine br_f (nI_ge (by omega) (by omega)) (cc_ywk hY hH hn hi (fun R' => cc_br (fun y => go 0 R' (cc_bf (fun v => y v.2)).symm) (fun y => go _ R' (cc_bq ⟨fun v => ⟨v, y⟩, fun v => v.1⟩))))
theorem cc_ys {post : Int32 → SY → Prop} {R O : Nat → Int32} (hY : cc_Y n us ce wr so ea U C W S E) (hH : cc_H n us ce wr so ea) (hn : n ≤ 7)
    (K : ∀ R' O', post (cc_val (∀ o, o < n → cc_WK ce wr so ea o) (∀ o, o < n → cc_SK us ce wr so ea o) (cc_CV n ce wr so ea)) (nI n, U, C, W, S, E, R', O')) :
    wpY_sound post (nI n, U, C, W, S, E, R, O) := by
  refine ⟨n + 1, ?_⟩
  have t := cc_ys6 hY hH hn K n 0 (n + 1) R O (by omega) (by omega)
  rw [cc_bt (fun o ho => absurd ho (Nat.not_lt_zero _)), cc_bt (fun o ho => absurd ho (Nat.not_lt_zero _))] at t
  exact t
end
theorem i_vc_sound {k : Nat} {u : SX} {v : SY} (I : i_Rel k u v) (hk : k + 4 ≤ 2048) : wpX_sound (fun r u' => wpY_sound (fun r' v' => r' = r ∧ i_Rel (k + 4) u' v') v) u := by
  obtain ⟨n, us, ce, wr, so, ea, U, C, W, S, A, M, R, U', C', W', S', E, R', O, hn, hH, rfl, rfl, hX, hY⟩ := I
  exact cc_xs hX hH hn (fun M1 R1 => cc_ys hY hH hn (fun R2 O2 => ⟨rfl, cc_rel hn hH hX hY⟩))
