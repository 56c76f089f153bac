/-! the relation, and the methods without a search over the whole history -/
def i_Rel (k : Nat) (u : SX) (v : SY) : Prop :=
  ∃ (n : Nat) (us ce : Nat → Nat) (wr : Nat → Prop) (so ea : Nat → Nat) (U C W S A M R U' C' W' S' E R' O : Nat → Int32),
    n ≤ 7 ∧ cc_H n us ce wr so ea ∧ u = (nI n, U, C, W, S, A, M, R) ∧ v = (nI n, U', C', W', S', E, R', O) ∧ cc_X n us ce wr so ea U C W S A ∧ cc_Y n us ce wr so ea U' C' W' S' E
theorem cc_rel {k n : Nat} {us ce : Nat → Nat} {wr : Nat → Prop} {so ea : Nat → Nat} {U C W S A M R U' C' W' S' E R' O : Nat → Int32} (hn : n ≤ 7) (hH : cc_H n us ce wr so ea)
    (hX : cc_X n us ce wr so ea U C W S A) (hY : cc_Y n us ce wr so ea U' C' W' S' E) : i_Rel k (nI n, U, C, W, S, A, M, R) (nI n, U', C', W', S', E, R', O) :=
  ⟨n, us, ce, wr, so, ea, U, C, W, S, A, M, R, U', C', W', S', E, R', O, hn, hH, rfl, rfl, hX, hY⟩
theorem i_up {k : Nat} {u : SX} {v : SY} (h : i_Rel k u v) : i_Rel (k + 4) u v := h
theorem i_vc0 : wpX_init (fun u => wpY_init (fun v => i_Rel 0 u v)) :=
  cc_rel (k := 0) (n := 0) (us := fun _ => 0) (ce := fun _ => 0) (wr := fun _ => False) (so := fun _ => 0) (ea := fun _ => 0) (by decide)
    (fun i hi => absurd hi (Nat.not_lt_zero _)) (fun i hi => absurd hi (Nat.not_lt_zero _)) (fun i hi => absurd hi (Nat.not_lt_zero _))
theorem i_vc_write {k : Nat} {u : SX} {v : SY} (I : i_Rel k u v) (hk : k + 4 ≤ 2048) (v1 : Int32) (v2 : Int32) : wpX_write (fun r u' => wpY_write (fun r' v' => r' = r ∧ i_Rel (k + 4) u' v') v v1 v2) u v1 v2 := by
  obtain ⟨n, us, ce, wr, so, ea, U, C, W, S, A, M, R, U', C', W', S', E, R', O, hn, hH, rfl, rfl, hX, hY⟩ := I
  have rel0 : i_Rel (k + 4) (nI n, U, C, W, S, A, M, R) (nI n, U', C', W', S', E, R', O) := cc_rel hn hH hX hY
  have yb : ¬ (cc_ok 3 v1 ∧ cc_ok 2 v2) → wpY_write (fun r' v' => r' = -1 ∧ i_Rel (k + 4) (nI n, U, C, W, S, A, M, R) v') (nI n, U', C', W', S', E, R', O) v1 v2 := by
    intro z
    unfold wpY_write
    dsimp only
    exact cc_yBad (cc_br (fun y => absurd z y) (fun _ => ⟨rfl, rel0⟩))
  unfold wpX_write
  dsimp only
  refine cc_xUser (cc_br (fun z => yb (fun y => z y.1)) (fun z => cc_xCell (cc_br (fun y => yb (fun v => y v.2)) (fun y => ?_))))
  obtain ⟨user, hu, rfl⟩ := z
  obtain ⟨cell, hc, rfl⟩ := y
  refine pk_lt n 7 (fun h7 => ?_) (fun h7 => ?_) rfl rfl (by omega) (by decide)
  · refine cc_xadd (w := True) (s := 7) hX hH hn hu (by decide) (cc_bt trivial).symm ?_
    unfold wpY_write
    dsimp only
    refine cc_yBad (cc_br (fun _ => ?_) (fun z => absurd ⟨⟨user, hu, rfl⟩, ⟨cell, hc, rfl⟩⟩ z))
    refine pk_eq n 7 (fun e => by omega) (fun _ => ?_) rfl rfl (by omega) (by decide)
    refine cc_yput (w := True) (s := 7) hY hH hn hu (by decide) (cc_bt trivial).symm rfl (fun _ => rfl) (nm_r (nI_1 n) ⟨nI_pred n, ?_⟩)
    exact cc_rel (n := n + 1) (by omega) (cc_Hadd hH hn hu hc (fun _ => h7) (by decide) (fun z => absurd trivial z))
      (cc_Xadd hX user cell 7 _ True rfl rfl (cc_bt trivial).symm rfl rfl) (cc_Yadd hY user cell 7 _ True rfl rfl (cc_bt trivial).symm rfl rfl)
  · unfold wpY_write
    dsimp only
    refine cc_yBad (cc_br (fun _ => ?_) (fun z => absurd ⟨⟨user, hu, rfl⟩, ⟨cell, hc, rfl⟩⟩ z))
    exact pk_eq n 7 (fun _ => ⟨rfl, rel0⟩) (fun e => by omega) rfl rfl (by omega) (by decide)
theorem i_vc_read {k : Nat} {u : SX} {v : SY} (I : i_Rel k u v) (hk : k + 4 ≤ 2048) (v1 : Int32) (v2 : Int32) (v3 : Int32) : wpX_read (fun r u' => wpY_read (fun r' v' => r' = r ∧ i_Rel (k + 4) u' v') v v1 v2 v3) u v1 v2 v3 := by
  obtain ⟨n, us, ce, wr, so, ea, U, C, W, S, A, M, R, U', C', W', S', E, R', O, hn, hH, rfl, rfl, hX, hY⟩ := I
  have rel0 : i_Rel (k + 4) (nI n, U, C, W, S, A, M, R) (nI n, U', C', W', S', E, R', O) := cc_rel hn hH hX hY
  have yb : ¬ (cc_ok 3 v1 ∧ cc_ok 2 v2) → wpY_read (fun r' v' => r' = -1 ∧ i_Rel (k + 4) (nI n, U, C, W, S, A, M, R) v') (nI n, U', C', W', S', E, R', O) v1 v2 v3 := by
    intro z
    unfold wpY_read
    dsimp only
    exact cc_yBad (cc_br (fun y => absurd z y) (fun _ => ⟨rfl, rel0⟩))
  unfold wpX_read
  dsimp only
  refine cc_xUser (cc_br (fun z => yb (fun y => z y.1)) (fun z => cc_xCell (cc_br (fun y => yb (fun v => y v.2)) (fun y => ?_))))
  obtain ⟨user, hu, rfl⟩ := z
  obtain ⟨cell, hc, rfl⟩ := y
  have good : ∀ s, s ≤ 7 → v3 = cc_s s → (s = 7 ∨ (s < n ∧ wr s ∧ ce s = cell)) → n < 7 →
      wpX_add (fun r u' => wpY_read (fun r' v' => r' = r ∧ i_Rel (k + 4) u' v') (nI n, U', C', W', S', E, R', O) (nI user) (nI cell) v3) (nI n, U, C, W, S, A, M, R) (nI user) (nI cell) 0 (nI s) := by
    intro s hs e3 hsr h7
    refine cc_xadd (w := False) (s := s) hX hH hn hu hs (cc_bf id).symm ?_
    unfold wpY_read
    dsimp only
    refine cc_yBad (cc_br (fun _ => ?_) (fun z => absurd ⟨⟨user, hu, rfl⟩, ⟨cell, hc, rfl⟩⟩ z))
    refine pk_eq n 7 (fun e => by omega) (fun _ => ?_) rfl rfl (by omega) (by decide)
    refine cc_yNo hY hH (by omega) hc (cc_br (fun z => ?_) (fun z => absurd ?_ z))
    · refine cc_yput (w := False) (s := s) hY hH hn hu hs (cc_bf id).symm e3 (fun z => z.elim) (nm_r (nI_1 n) ⟨nI_pred n, ?_⟩)
      exact cc_rel (n := n + 1) (by omega) (cc_Hadd hH hn hu hc (fun z => z.elim) hs (fun _ => hsr))
        (cc_Xadd hX user cell s _ False rfl rfl (cc_bf id).symm rfl rfl) (cc_Yadd hY user cell s _ False rfl rfl (cc_bf id).symm e3 rfl)
    · rcases hsr with h | ⟨a, b, c⟩
      · exact Or.inl (by rw [e3, h]; rfl)
      · exact Or.inr ⟨s, a, by rw [e3, cc_sn (by omega)], b, c⟩
  refine pk_lt n 7 (fun h7 => ?_) (fun h7 => ?_) rfl rfl (by omega) (by decide)
  · refine br_c (fun e => good 7 (by decide) e (Or.inl rfl) h7) (fun e => ?_)
    refine cc_xAbout hX hH (by omega) hc (cc_br (fun z => ?_) (fun z => ?_))
    · unfold wpY_read
      dsimp only
      refine cc_yBad (cc_br (fun _ => ?_) (fun z => absurd ⟨⟨user, hu, rfl⟩, ⟨cell, hc, rfl⟩⟩ z))
      refine pk_eq n 7 (fun e => by omega) (fun _ => ?_) rfl rfl (by omega) (by decide)
      exact cc_yNo hY hH (by omega) hc (cc_br (fun y => absurd (fun w => w.elim e z) y) (fun _ => ⟨rfl, rel0⟩))
    · obtain ⟨s, a, rfl, b, c⟩ := z
      exact good s (by omega) (cc_sn (by omega)).symm (Or.inr ⟨a, b, c⟩) h7
  · unfold wpY_read
    dsimp only
    refine cc_yBad (cc_br (fun _ => ?_) (fun z => absurd ⟨⟨user, hu, rfl⟩, ⟨cell, hc, rfl⟩⟩ z))
    exact pk_eq n 7 (fun _ => ⟨rfl, rel0⟩) (fun e => by omega) rfl rfl (by omega) (by decide)
theorem i_vc_back {k : Nat} {u : SX} {v : SY} (I : i_Rel k u v) (hk : k + 4 ≤ 2048) : wpX_back (fun r u' => wpY_back (fun r' v' => r' = r ∧ i_Rel (k + 4) u' v') v) u := by
  obtain ⟨n, us, ce, wr, so, ea, U, C, W, S, A, M, R, U', C', W', S', E, R', O, hn, hH, rfl, rfl, hX, hY⟩ := I
  refine pk_eq n 0 (fun z => ?_) (fun z => ?_) rfl rfl (by omega) (by decide)
  · exact pk_eq n 0 (fun _ => ⟨rfl, cc_rel hn hH hX hY⟩) (fun y => absurd z y) rfl rfl (by omega) (by decide)
  · obtain ⟨j, rfl⟩ : ∃ j, n = j + 1 := ⟨n - 1, by omega⟩
    refine nm_r (nI_pred j) ?_
    refine pk_eq (j + 1) 0 (fun y => absurd y z) (fun _ => ?_) rfl rfl (by omega) (by decide)
    exact nm_r (nI_pred j) ⟨rfl, cc_rel (by omega) (cc_Hle hH (by omega)) (cc_Xle hX (by omega)) (cc_Yle hY (by omega))⟩
theorem i_vc_before {k : Nat} {u : SX} {v : SY} (I : i_Rel k u v) (hk : k + 4 ≤ 2048) (v1 : Int32) (v2 : Int32) : wpX_before (fun r => wpY_before (fun r' => r' = r ∧ i_Rel (k + 4) u v) v v1 v2) u v1 v2 := by
  obtain ⟨n, us, ce, wr, so, ea, U, C, W, S, A, M, R, U', C', W', S', E, R', O, hn, hH, rfl, rfl, hX, hY⟩ := I
  have rel0 : i_Rel (k + 4) (nI n, U, C, W, S, A, M, R) (nI n, U', C', W', S', E, R', O) := cc_rel hn hH hX hY
  unfold wpX_before
  dsimp only
  refine cc_xHeld (by omega) (cc_br (fun z => ?_) (fun z => cc_xHeld (by omega) (cc_br (fun y => ?_) (fun y => ?_))))
  · unfold wpY_before
    dsimp only
    exact cc_yMiss (by omega) (cc_br (fun w => absurd z w) (fun _ => ⟨rfl, rel0⟩))
  · unfold wpY_before
    dsimp only
    exact cc_yMiss (by omega) (cc_br (fun w => cc_yMiss (by omega) (cc_br (fun w => absurd y w) (fun _ => ⟨rfl, rel0⟩))) (fun w => absurd z w))
  · obtain ⟨a, ha, rfl⟩ := z
    obtain ⟨b, hb, rfl⟩ := y
    have w8 : vp_in (nI b) 8 := vp_in_nI (by omega) (by decide)
    have ec : (nI b).toNatClampNeg = b := nI_clamp (by omega)
    have b3 := (hH b hb).2.2.1
    have el : ea b < 2 ^ 7 := Nat.lt_trans b3 (cc_p2 (by omega))
    have el2 : ea b ||| 2 ^ b < 2 ^ 7 := Nat.or_lt_two_pow el (cc_p2 (by omega))
    have yy : ∀ x, x = cc_b ((ea b).testBit a = true) → wpY_before (fun r' => r' = x ∧ i_Rel (k + 4) (nI n, U, C, W, S, A, M, R) (nI n, U', C', W', S', E, R', O)) (nI n, U', C', W', S', E, R', O) (nI a) (nI b) := by
      intro x hx
      unfold wpY_before
      dsimp only
      refine cc_yMiss (by omega) (cc_br (fun _ => cc_yMiss (by omega) (cc_br (fun _ => ⟨w8, ?_, rel0⟩) (fun w => absurd ⟨b, hb, rfl⟩ w))) (fun w => absurd ⟨a, ha, rfl⟩ w))
      rw [ec, (hY b hb).2.2.2.2, hx]
      exact cc_sh1 (by omega) (by omega)
    refine pk_eq a b (fun e => yy 0 (cc_bf (fun z => by have := cc_tl b3 z; omega)).symm) (fun e => ⟨w8, ?_⟩) rfl rfl (by omega) (by omega)
    rw [ec, (hX b hb).2.2.2.2]
    refine cc_xHas (by omega) (by omega) (cc_br (fun z => yy 0 (cc_bf (fun y => z (cc_o2.mpr (Or.inl y)))).symm) (fun z => yy 1 (cc_bt ((cc_o2.mp z).elim id (fun y => absurd y.symm e))).symm))
theorem i_vc_weak {k : Nat} {u : SX} {v : SY} (I : i_Rel k u v) (hk : k + 4 ≤ 2048) (v1 : Int32) : wpX_weak (fun r u' => wpY_weak (fun r' v' => r' = r ∧ i_Rel (k + 4) u' v') v v1) u v1 := by
  obtain ⟨n, us, ce, wr, so, ea, U, C, W, S, A, M, R, U', C', W', S', E, R', O, hn, hH, rfl, rfl, hX, hY⟩ := I
  unfold wpX_weak
  dsimp only
  refine cc_xHeld (by omega) (cc_br (fun z => ?_) (fun z => ?_))
  · unfold wpY_weak
    dsimp only
    exact cc_yMiss (by omega) (cc_br (fun w => absurd z w) (fun _ => ⟨rfl, cc_rel hn hH hX hY⟩))
  · obtain ⟨b, hb, rfl⟩ := z
    refine cc_xwk hX hH hn hb (fun R1 => cc_br (fun z => ?_) (fun z => ?_))
    · exact cc_ywk hY hH hn hb (fun R2 => ⟨cc_bf z, cc_rel hn hH hX hY⟩)
    · exact cc_ywk hY hH hn hb (fun R2 => ⟨cc_bt z, cc_rel hn hH hX hY⟩)
theorem i_vc_strong {k : Nat} {u : SX} {v : SY} (I : i_Rel k u v) (hk : k + 4 ≤ 2048) (v1 : Int32) : wpX_strong (fun r u' => wpY_strong (fun r' v' => r' = r ∧ i_Rel (k + 4) u' v') v v1) u v1 := by
  obtain ⟨n, us, ce, wr, so, ea, U, C, W, S, A, M, R, U', C', W', S', E, R', O, hn, hH, rfl, rfl, hX, hY⟩ := I
  unfold wpX_strong
  dsimp only
  refine cc_xHeld (by omega) (cc_br (fun z => ?_) (fun z => ?_))
  · unfold wpY_strong
    dsimp only
    exact cc_yMiss (by omega) (cc_br (fun w => absurd z w) (fun _ => ⟨rfl, cc_rel hn hH hX hY⟩))
  · obtain ⟨b, hb, rfl⟩ := z
    refine cc_xsk hX hH hn hb (fun R1 => cc_br (fun z => ?_) (fun z => ?_))
    · exact cc_ysk hY hH hn hb (fun R2 => ⟨cc_bf z, cc_rel hn hH hX hY⟩)
    · exact cc_ysk hY hH hn hb (fun R2 => ⟨cc_bt z, cc_rel hn hH hX hY⟩)
