/-! choices on both sides -/
/-- a read of the user about the cell that names s could be added, and the history would converge -/
def cc_Ch (n : Nat) (us ce : Nat → Nat) (wr : Nat → Prop) (so ea : Nat → Nat) (user cell s : Nat) : Prop :=
  (s = 7 ∨ (s < n ∧ wr s ∧ ce s = cell)) ∧ cc_CV (n + 1) (cc_u ce n cell) (cc_u wr n False) (cc_u so n s) (cc_u ea n (cc_en us ea user s n))
section
variable {us ce : Nat → Nat} {wr : Nat → Prop} {so ea : Nat → Nat} {n user cell : Nat}
theorem cc_srcI {s : Nat} (hn : n ≤ 7) (hs : s < 2 ^ 31) : cc_src n ce wr (nI s) cell ↔ s < n ∧ wr s ∧ ce s = cell := by
  constructor
  · rintro ⟨j, hj, e, a, b⟩
    have : s = j := (nI_eq hs (by omega)).mp e
    subst this
    exact ⟨hj, a, b⟩
  · rintro ⟨a, b, c⟩
    exact ⟨s, a, rfl, b, c⟩
theorem cc_x45 {post : Int32 → SX → Prop} {J21 : Int32 → Int32 → Int32 → (Nat → Int32) → (Nat → Int32) → (Nat → Int32) → (Nat → Int32) → (Nat → Int32) → (Nat → Int32) → (Nat → Int32) → Prop}
    {U C W S A M R : Nat → Int32} {i s0 : Nat} (hX : cc_X n us ce wr so ea U C W S A) (hH : cc_H n us ce wr so ea) (hn : n ≤ 7) (hu : user < 3) (hc : cell < 2) (hi : i ≤ 7)
    (hs : i = 7 ∨ (i < n ∧ wr i ∧ ce i = cell)) (e0 : s0 = cc_x (cc_Ch n us ce wr so ea user cell) i)
    (K : ∀ U' C' W' S' A' M' R', cc_X n us ce wr so ea U' C' W' S' A' → J21 (nI (cc_x (cc_Ch n us ce wr so ea user cell) (i + 1))) (nI (i + 1)) (nI n) U' C' W' S' A' M' R') :
    wX_choices_45 post J21 (nI user) (nI cell) (nI s0) (nI i) (nI n) U C W S A M R := by
  subst e0
  have hX1 := cc_Xadd hX user cell i (cc_en us ea user i n) False rfl rfl (cc_bf id).symm rfl rfl
  have hH1 : cc_H (n + 1) (cc_u us n user) (cc_u ce n cell) (cc_u wr n False) (cc_u so n i) (cc_u ea n (cc_en us ea user i n)) := cc_Hadd hH hn hu hc (fun z => z.elim) hi (fun _ => hs)
  refine cc_xadd (w := False) hX hH hn hu hi (cc_bf id).symm (cc_xcv hX1 hH1 (by omega) (fun M' => cc_br (fun z => ?_) (fun z => ?_)))
  · have k := K _ _ _ _ _ M' R (cc_Xup hX (x1 := nI user) (x2 := nI cell) (x3 := 0) (x4 := nI i) (x5 := nI (cc_en us ea user i n ||| 2 ^ n)))
    rw [cc_x_n (fun y => z y.2)] at k
    exact nm_r (nI_pred n) (nm_r (nI_1 i) k)
  · have k := K _ _ _ _ _ M' R (cc_Xup hX (x1 := nI user) (x2 := nI cell) (x3 := 0) (x4 := nI i) (x5 := nI (cc_en us ea user i n ||| 2 ^ n)))
    rw [cc_x_y ⟨hs, z⟩] at k
    exact nm_r (by rw [cc_bit i (by omega), nI_add]) (nm_r (nI_pred n) (nm_r (nI_1 i) k))
theorem cc_x21 {post : Int32 → SX → Prop} (hH : cc_H n us ce wr so ea) (hn : n ≤ 7) (hu : user < 3) (hc : cell < 2)
    (K : ∀ U C W S A M R, cc_X n us ce wr so ea U C W S A → post (nI (cc_x (cc_Ch n us ce wr so ea user cell) 8)) (nI n, U, C, W, S, A, M, R)) :
    ∀ d i f U C W S A M R, i + d = 8 → d < f → cc_X n us ce wr so ea U C W S A →
    wX_choices_21 post (nI user) (nI cell) f (nI (cc_x (cc_Ch n us ce wr so ea user cell) i)) (nI i) (nI n) U C W S A M R := by
  intro d
  induction d with
  | zero =>
    intro i f U C W S A M R h1 h2 hX
    obtain ⟨f, rfl⟩ : ∃ m, f = m + 1 := ⟨f - 1, by omega⟩
    have hi : i = 8 := by omega
    subst hi
    exact br_t (nI_lt (a := 7) (b := 8) (by decide) (by decide)) (K U C W S A M R hX)
  | succ d ih =>
    intro i f U C W S A M R h1 h2 hX
    obtain ⟨f, rfl⟩ : ∃ m, f = m + 1 := ⟨f - 1, by omega⟩
    have hi : i ≤ 7 := by omega
    refine br_f (nI_nlt (b := i) (a := 7) hi (by decide)) (pk_eq i 7 (fun e => ?_) (fun e => ?_) rfl rfl (by omega) (by decide))
    · exact cc_x45 hX hH hn hu hc hi (Or.inl e) rfl (fun U' C' W' S' A' M' R' hX' => ih (i + 1) f U' C' W' S' A' M' R' (by omega) (by omega) hX')
    · refine cc_xAbout hX hH (by omega) hc (cc_br (fun z => ?_) (fun z => ?_))
      · have t := ih (i + 1) f U C W S A M R (by omega) (by omega) hX
        rw [cc_x_n (fun y => y.1.elim e (fun v => z ((cc_srcI hn (by omega)).mpr v)))] at t
        exact nm_r (nI_1 i) t
      · exact cc_x45 hX hH hn hu hc hi (Or.inr ((cc_srcI hn (by omega)).mp z)) rfl (fun U' C' W' S' A' M' R' hX' => ih (i + 1) f U' C' W' S' A' M' R' (by omega) (by omega) hX')
/-- one turn of the reference's loop at the source s, where it may be added -/
theorem cc_yput1 {post : Int32 → SY → Prop} {U C W S E R O : Nat → Int32} {s : Nat} {x4 : Int32} (hY : cc_Y n us ce wr so ea U C W S E) (hH : cc_H n us ce wr so ea) (hn : n ≤ 7) (hu : user < 3) (hc : cell < 2) (hs7 : s ≤ 7)
    (e4 : x4 = cc_s s) (hs : s = 7 ∨ (s < n ∧ wr s ∧ ce s = cell))
    (K : ∀ U' C' W' S' E' R' O', cc_Y n us ce wr so ea U' C' W' S' E' → post (cc_b (cc_Ch n us ce wr so ea user cell s)) (nI n, U', C', W', S', E', R', O')) :
    wpY_put (fun u => match u with | (f_held_16, a_users_17, a_cells_18, a_writes_19, a_sources_20, a_earlier_21, a_rows_22, a_order_23) => wpY_converges post (f_held_16, a_users_17, a_cells_18, a_writes_19, a_sources_20, a_earlier_21, a_rows_22, a_order_23) (f_held_16 + 1)) (nI n, U, C, W, S, E, R, O) (nI user) (nI cell) 0 x4 := by
  have hY1 := cc_Yadd hY user cell s (cc_en us ea user s n) False rfl rfl (cc_bf id).symm e4 rfl
  have hH1 : cc_H (n + 1) (cc_u us n user) (cc_u ce n cell) (cc_u wr n False) (cc_u so n s) (cc_u ea n (cc_en us ea user s n)) := cc_Hadd hH hn hu hc (fun z => z.elim) hs7 (fun _ => hs)
  have hWn : cc_W (cc_u wr n False) (n + 1) = cc_W (cc_u wr n False) n := if_neg (by rw [cc_us]; exact id)
  refine cc_yput (w := False) hY hH hn hu hs7 (cc_bf id).symm e4 (fun z => z.elim) ?_
  dsimp only
  rw [nI_1 n]
  refine cc_ycv hY1 hH1 (by omega) (by omega) hWn (fun O' => ?_)
  have k := K _ _ _ _ _ R O' (cc_Yup hY (x1 := nI user) (x2 := nI cell) (x3 := 0) (x4 := x4) (x5 := nI (cc_en us ea user s n)))
  rw [cc_bq (p := cc_Ch n us ce wr so ea user cell s) ⟨fun y => y.2, fun y => ⟨hs, y⟩⟩] at k
  exact k
theorem cc_y15 {post : Int32 → SY → Prop} {b : Nat} (hH : cc_H n us ce wr so ea) (hn : n ≤ 7) (hu : user < 3) (hc : cell < 2)
    (K : ∀ U C W S E R O, cc_Y n us ce wr so ea U C W S E → post (nI (b ||| cc_x (cc_Ch n us ce wr so ea user cell) n)) (nI n, U, C, W, S, E, R, O)) :
    ∀ d i f U C W S E R O, i + d = n → d < f → cc_Y n us ce wr so ea U C W S E →
    wY_choices_15 post (nI user) (nI cell) f (nI (b ||| cc_x (cc_Ch n us ce wr so ea user cell) i)) (nI i) (nI n) U C W S E R O := by
  intro d
  induction d with
  | zero =>
    intro i f U C W S E R O h1 h2 hY
    obtain ⟨f, rfl⟩ : ∃ m, f = m + 1 := ⟨f - 1, by omega⟩
    have hi : i = n := by omega
    subst hi
    exact br_t (nI_le (Nat.le_refl _) (by omega)) (K U C W S E R O hY)
  | succ d ih =>
    intro i f U C W S E R O h1 h2 hY
    obtain ⟨f, rfl⟩ : ∃ m, f = m + 1 := ⟨f - 1, by omega⟩
    have hi : i < n := by omega
    have ni1 : ¬ nI i = -1 := fun z => by
      have p := nI_pos (n := i) (by omega)
      rw [z] at p
      exact p (by decide)
    refine br_f (nI_ge (by omega) (by omega)) (cc_yNo hY hH (by omega) hc (cc_br (fun z => ?_) (fun z => ?_)))
    · have z := Classical.byContradiction z
      have z := (cc_srcI hn (by omega)).mp (z.elim (fun y => absurd y ni1) id)
      refine cc_yput1 hY hH hn hu hc (by omega) (cc_sn (by omega)).symm (Or.inr z) (fun U' C' W' S' E' R' O' hY' => cc_br (fun y => ?_) (fun y => ?_))
      · have t := ih (i + 1) f U' C' W' S' E' R' O' (by omega) (by omega) hY'
        rw [cc_x_n y] at t
        exact nm_r (nI_1 i) t
      · have t := ih (i + 1) f U' C' W' S' E' R' O' (by omega) (by omega) hY'
        rw [← cc_x_or y] at t
        exact br_t (nI_pos' (by omega)) (nm_r (by rw [cc_bit i (by omega), cc_or]) (nm_r (nI_1 i) t))
    · have t := ih (i + 1) f U C W S E R O (by omega) (by omega) hY
      rw [cc_x_n (fun y => z (Or.inr ((cc_srcI hn (by omega)).mpr (y.1.elim (fun v => by omega) id))))] at t
      exact nm_r (nI_1 i) t
theorem cc_ych {post : Int32 → SY → Prop} {U C W S E R O : Nat → Int32} (hY : cc_Y n us ce wr so ea U C W S E) (hH : cc_H n us ce wr so ea) (hn : n ≤ 7) (hu : user < 3) (hc : cell < 2)
    (K : ∀ U C W S E R O, cc_Y n us ce wr so ea U C W S E → post (nI (cc_x (cc_Ch n us ce wr so ea user cell) 8)) (nI n, U, C, W, S, E, R, O)) :
    ∃ f, wY_choices_15 post (nI user) (nI cell) f 0 (-1) (nI n) U C W S E R O := by
  have fin := cc_x_fin (C := cc_Ch n us ce wr so ea user cell) hn (fun s h1 h2 z => z.1.elim (fun y => by omega) (fun y => by omega))
  refine ⟨n + 2, br_f (fun z => ?_) (cc_yNo hY hH (by omega) hc (cc_br (fun _ => ?_) (fun z => absurd (Or.inl rfl) z)))⟩
  · have l : (-1 : Int32) < nI n := Int32.lt_of_lt_of_le (by decide) (nI_pos' (n := n) (by omega))
    exact absurd (Int32.lt_of_lt_of_le l z) (by decide)
  · refine cc_yput1 hY hH hn hu hc (s := 7) (by decide) rfl (Or.inl rfl) (fun U' C' W' S' E' R' O' hY' => cc_br (fun y => ?_) (fun y => ?_))
    · rw [if_neg y] at fin
      have t := cc_y15 (b := 0) hH hn hu hc (fun U C W S E R O h => by have k := K U C W S E R O h; rw [fin] at k; exact k) n 0 (n + 1) U' C' W' S' E' R' O' (by omega) (by omega) hY'
      have e : nI (0 ||| cc_x (cc_Ch n us ce wr so ea user cell) 0) = 0 := by
        show nI (0 ||| 0) = 0
        decide
      rw [e] at t
      exact nm_r (e' := nI 0) rfl t
    · rw [if_pos y] at fin
      exact br_f (by decide) (nm_r (e' := nI (128 ||| 0)) rfl (nm_r (e' := nI 0) rfl (cc_y15 (b := 128) hH hn hu hc (fun U C W S E R O h => by have k := K U C W S E R O h; rw [fin] at k; exact k) n 0 (n + 1) U' C' W' S' E' R' O' (by omega) (by omega) hY')))
end
theorem i_vc_choices {k : Nat} {u : SX} {v : SY} (I : i_Rel k u v) (hk : k + 4 ≤ 2048) (v1 : Int32) (v2 : Int32) : wpX_choices (fun r u' => wpY_choices (fun r' v' => r' = r ∧ i_Rel (k + 4) u' v') v v1 v2) u v1 v2 := by
  obtain ⟨n, us, ce, wr, so, ea, U, C, W, S, A, M, R, U', C', W', S', E, R', O, hn, hH, rfl, rfl, hX, hY⟩ := I
  have yb : ¬ (cc_ok 3 v1 ∧ cc_ok 2 v2) → wpY_choices (fun r' v' => r' = -1 ∧ i_Rel (k + 4) (nI n, U, C, W, S, A, M, R) v') (nI n, U', C', W', S', E, R', O) v1 v2 := by
    intro z
    unfold wpY_choices
    dsimp only
    exact cc_yBad (cc_br (fun y => absurd z y) (fun _ => ⟨rfl, cc_rel hn hH hX hY⟩))
  unfold wpX_choices
  dsimp only
  refine cc_xUser (cc_br (fun z => yb (fun y => z y.1)) (fun z => cc_xCell (cc_br (fun y => yb (fun v => y v.2)) (fun y => ?_))))
  obtain ⟨user, hu, rfl⟩ := z
  obtain ⟨cell, hc, rfl⟩ := y
  refine ⟨9, cc_x21 hH hn hu hc (fun U1 C1 W1 S1 A1 M1 R1 hX1 => ?_) 8 0 9 U C W S A M R (by omega) (by omega) hX⟩
  unfold wpY_choices
  dsimp only
  refine cc_yBad (cc_br (fun _ => ?_) (fun z => absurd ⟨⟨user, hu, rfl⟩, ⟨cell, hc, rfl⟩⟩ z))
  exact cc_ych hY hH hn hu hc (fun U2 C2 W2 S2 E2 R2 O2 hY2 => ⟨rfl, cc_rel hn hH hX1 hY2⟩)
