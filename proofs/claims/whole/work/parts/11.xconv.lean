/-! the component's converges -/
section
variable {us ce : Nat → Nat} {wr : Nat → Prop} {so ea : Nat → Nat} {m : Nat} {U C W S A M R : Nat → Int32}
theorem cc_xwip4 {post : Int32 → Prop} (hX : cc_X m us ce wr so ea U C W S A) (hH : cc_H m us ce wr so ea) (hm : m ≤ 8) {r : Nat} (hr : r < m)
    (K : post (nI (cc_se ce wr ea r r))) :
    ∀ d i f, i + d = r → d < f → wX_writesInPast_4 post (nI r) (nI m) U C W S A M R f (nI (cc_se ce wr ea r i)) (nI i) := by
  have w8r : vp_in (nI r) 8 := vp_in_nI (by omega) (by decide)
  have ecr : (nI r).toNatClampNeg = r := nI_clamp (by omega)
  obtain ⟨_, r2, _, _, r5⟩ := hX r hr
  have cr := (hH r hr).2.1
  have er := (hH r hr).2.2.1
  have el : ea r ||| 2 ^ r < 2 ^ 8 := Nat.or_lt_two_pow (Nat.lt_trans er (cc_p2 (by omega))) (cc_p2 (by omega))
  intro d
  induction d with
  | zero =>
    intro i f h1 h2
    obtain ⟨f, rfl⟩ : ∃ m, f = m + 1 := ⟨f - 1, by omega⟩
    have hi : i = r := by omega
    subst hi
    exact br_t (nI_le (Nat.le_refl _) (by omega)) K
  | succ d ih =>
    intro i f h1 h2
    obtain ⟨f, rfl⟩ : ∃ m, f = m + 1 := ⟨f - 1, by omega⟩
    have w8 : vp_in (nI i) 8 := vp_in_nI (by omega) (by decide)
    have ec : (nI i).toNatClampNeg = i := nI_clamp (by omega)
    obtain ⟨_, g2, g3, _, _⟩ := hX i (by omega)
    have ci := (hH i (by omega)).2.1
    have t := ih (i + 1) f (by omega) (by omega)
    have skip : ¬ (wr i ∧ ce i = ce r ∧ (ea r ||| 2 ^ r).testBit i = true) → wX_writesInPast_4 post (nI r) (nI m) U C W S A M R f (nI (cc_se ce wr ea r i)) (nI (i + 1)) := by
      intro c
      have e : cc_se ce wr ea r (i + 1) = cc_se ce wr ea r i := if_neg c
      rw [e] at t
      exact t
    refine br_f (nI_ge (by omega) (by omega)) ⟨w8, cc_bw (by rw [ec]; exact g3) (fun hw => nm_r (nI_1 i) (skip (fun z => hw z.1))) (fun hw => ⟨w8, w8r, pk_eq (ce i) (ce r) (fun y => ⟨w8r, ?_⟩) (fun y => nm_r (nI_1 i) (skip (fun z => y z.2.1))) (by rw [ec]; exact g2) (by rw [ecr]; exact r2) (by omega) (by omega)⟩)⟩
    rw [ecr, r5]
    refine cc_xHas (by omega) (by omega) (cc_br (fun z => nm_r (nI_1 i) (skip (fun x => z x.2.2))) (fun z => ?_))
    have e : cc_se ce wr ea r (i + 1) = cc_se ce wr ea r i ||| 2 ^ i := if_pos ⟨hw, y, z⟩
    rw [e] at t
    exact nm_r (by rw [cc_bit i (by omega), cc_or]) (nm_r (nI_1 i) t)
theorem cc_xwip {post : Int32 → Prop} (hX : cc_X m us ce wr so ea U C W S A) (hH : cc_H m us ce wr so ea) (hm : m ≤ 8) {r : Nat} (hr : r < m)
    (K : post (nI (cc_se ce wr ea r r))) : wpX_writesInPast post (nI m, U, C, W, S, A, M, R) (nI r) :=
  ⟨r + 1, cc_xwip4 hX hH hm hr K r 0 (r + 1) (by omega) (by omega)⟩
theorem cc_xrca2 {post : Int32 → SX → Prop} {WW : Nat} (hX : cc_X m us ce wr so ea U C W S A) (hH : cc_H m us ce wr so ea) (hm : m ≤ 8) (hWW : WW < 256)
    (K1 : ∀ M', cc_N m ce wr so ea → (∀ w, w < m → M' w = nI (cc_mq WW ce wr so ea m w)) → post 1 (nI m, U, C, W, S, A, M', R))
    (K0 : ∀ M', ¬ cc_N m ce wr so ea → post 0 (nI m, U, C, W, S, A, M', R)) :
    ∀ d i f M, i + d = m → d < f → cc_N i ce wr so ea → (∀ w, w < m → M w = nI (cc_mq WW ce wr so ea i w)) →
    wX_readsCanAgree_2 post (nI m) f (nI i) U C W S A M R := by
  intro d
  induction d with
  | zero =>
    intro i f M h1 h2 hN hM
    obtain ⟨f, rfl⟩ : ∃ m, f = m + 1 := ⟨f - 1, by omega⟩
    have hi : i = m := by omega
    subst hi
    exact br_t (nI_le (Nat.le_refl _) (by omega)) (K1 M hN hM)
  | succ d ih =>
    intro i f M h1 h2 hN hM
    obtain ⟨f, rfl⟩ : ∃ m, f = m + 1 := ⟨f - 1, by omega⟩
    have him : i < m := by omega
    have w8 : vp_in (nI i) 8 := vp_in_nI (by omega) (by decide)
    have ec : (nI i).toNatClampNeg = i := nI_clamp (by omega)
    obtain ⟨_, _, g3, g4, _⟩ := hX i him
    obtain ⟨_, _, _, _, b5, _, b7⟩ := hH i him
    have hsl : cc_se ce wr ea i i < 256 := cc_se_lt (by omega)
    have nstep : (¬ wr i → so i = 7 → cc_se ce wr ea i i = 0) → cc_N (i + 1) ce wr so ea := by
      intro h r hr hw h7
      rcases Nat.lt_or_ge r i with z | z
      · exact hN r z hw h7
      · have : r = i := by omega
        subst this
        exact h hw h7
    have mskip : ¬ (¬ wr i ∧ so i ≠ 7) → ∀ w, w < m → M w = nI (cc_mq WW ce wr so ea (i + 1) w) := by
      intro c w hw
      have e : cc_mq WW ce wr so ea (i + 1) w = cc_mq WW ce wr so ea i w := if_neg (fun z => c ⟨z.1, z.2.2⟩)
      rw [e]
      exact hM w hw
    refine br_f (nI_ge (by omega) (by omega)) ⟨w8, cc_bw (by rw [ec]; exact g3) (fun hw => ?_) (fun hw => nm_r (nI_1 i) (ih (i + 1) f M (by omega) (by omega) (nstep (fun z => absurd hw z)) (mskip (fun z => z.1 hw))))⟩
    refine cc_xwip hX hH hm him ⟨w8, nm_r (e' := nI (so i)) (by rw [ec]; exact g4) (pk_eq (so i) 7 (fun h7 => ?_) (fun h7 => ?_) rfl rfl (by omega) (by decide))⟩
    · refine pk_eq (cc_se ce wr ea i i) 0 (fun z => nm_r (nI_1 i) (ih (i + 1) f M (by omega) (by omega) (nstep (fun _ _ => z)) (mskip (fun z => z.2 h7)))) (fun z => K0 M (fun y => z (y i him hw h7))) rfl rfl (by omega) (by decide)
    · have hso : so i < i := (b7 hw).elim (fun z => absurd z h7) (fun z => z.1)
      have w8s : vp_in (nI (so i)) 8 := vp_in_nI (by omega) (by decide)
      have ecs : (nI (so i)).toNatClampNeg = so i := nI_clamp (by omega)
      refine ⟨w8s, w8s, nm_r (e' := upd M (so i) (nI (cc_mq WW ce wr so ea (i + 1) (so i)))) ?_ (nm_r (nI_1 i) (ih (i + 1) f _ (by omega) (by omega) (nstep (fun _ z => absurd z h7)) (fun w hw' => ?_)))⟩
      · have e : cc_mq WW ce wr so ea (i + 1) (so i) = cc_mq WW ce wr so ea i (so i) ||| cc_d (cc_se ce wr ea i i) (2 ^ so i) := if_pos ⟨hw, rfl, h7⟩
        rw [ecs, hM (so i) (by omega), cc_bit (so i) (by omega), cc_dif, cc_or, e]
      · by_cases ew : w = so i
        · rw [ew, pk_us]
        · have e : cc_mq WW ce wr so ea (i + 1) w = cc_mq WW ce wr so ea i w := if_neg (fun z => ew z.2.1.symm)
          rw [pk_un ew, e]
          exact hM w hw'
theorem cc_xcbl13 {post : Int32 → Prop} {J4 : Int32 → Int32 → Prop} {MQ : Nat → Nat} {x1 x3 : Int32} {pl : Nat} (hX : cc_X m us ce wr so ea U C W S A) (hm : m ≤ 8) (hpl : pl < 256)
    (hMl : ∀ w, w < m → MQ w < 256) (hM : ∀ w, w < m → M w = nI (MQ w)) (K : ∀ y, y = x3 + 1 → J4 (nI (cc_g wr MQ pl m)) y) :
    ∀ d i f, i + d = m → d < f → wX_canBeLaid_13 post J4 x1 x3 (nI m) U C W S A M R f (nI (cc_g wr MQ pl i)) (nI i) := by
  intro d
  induction d with
  | zero =>
    intro i f h1 h2
    obtain ⟨f, rfl⟩ : ∃ m, f = m + 1 := ⟨f - 1, by omega⟩
    have hi : i = m := by omega
    subst hi
    exact br_t (nI_le (Nat.le_refl _) (by omega)) K
  | succ d ih =>
    intro i f h1 h2
    obtain ⟨f, rfl⟩ : ∃ m, f = m + 1 := ⟨f - 1, by omega⟩
    have him : i < m := by omega
    have w8 : vp_in (nI i) 8 := vp_in_nI (by omega) (by decide)
    have ec : (nI i).toNatClampNeg = i := nI_clamp (by omega)
    obtain ⟨_, _, g3, _, _⟩ := hX i him
    have t := ih (i + 1) f (by omega) (by omega)
    have hl := hMl i him
    have hdl := cc_dle (MQ i) (cc_g wr MQ pl i)
    have skip : ¬ (wr i ∧ cc_d (MQ i) (cc_g wr MQ pl i) = 0) → wX_canBeLaid_13 post J4 x1 x3 (nI m) U C W S A M R f (nI (cc_g wr MQ pl i)) (nI (i + 1)) := by
      intro c
      rw [cc_g_n c] at t
      exact t
    refine br_f (nI_ge (by omega) (by omega)) ⟨w8, cc_bw (by rw [ec]; exact g3) (fun hw => nm_r (nI_1 i) (skip (fun z => hw z.1))) (fun hw => ⟨w8, pk_eq (cc_d (MQ i) (cc_g wr MQ pl i)) 0 (fun z => ?_) (fun z => nm_r (nI_1 i) (skip (fun y => z y.2))) (by rw [ec, hM i him, cc_dif]) rfl (by omega) (by decide)⟩)⟩
    rw [cc_g_y ⟨hw, z⟩] at t
    exact nm_r (by rw [cc_bit i (by omega), cc_or]) (nm_r (nI_1 i) t)
theorem cc_xcbl4 {post : Int32 → Prop} {MQ : Nat → Nat} {WW : Nat} (hX : cc_X m us ce wr so ea U C W S A) (hm : m ≤ 8) (hWW : WW < 256)
    (hMl : ∀ w, w < m → MQ w < 256) (hM : ∀ w, w < m → M w = nI (MQ w)) (K : post (cc_b (cc_G wr MQ m 7 = WW))) :
    ∀ d i f, i + d = 7 → d < f → wX_canBeLaid_4 post (nI WW) (nI m) U C W S A M R f (nI (cc_G wr MQ m i)) (nI i) := by
  intro d
  induction d with
  | zero =>
    intro i f h1 h2
    obtain ⟨f, rfl⟩ : ∃ m, f = m + 1 := ⟨f - 1, by omega⟩
    have hi : i = 7 := by omega
    subst hi
    have hl := cc_G_lt (wr := wr) (M := MQ) hm 7
    refine br_t (nI_le (a := 7) (Nat.le_refl _) (by decide)) (pk_eq (cc_G wr MQ m 7) WW (fun z => ?_) (fun z => ?_) rfl rfl (by omega) (by omega))
    · rw [cc_bt z] at K
      exact K
    · rw [cc_bf z] at K
      exact K
  | succ d ih =>
    intro i f h1 h2
    obtain ⟨f, rfl⟩ : ∃ m, f = m + 1 := ⟨f - 1, by omega⟩
    have t := ih (i + 1) f (by omega) (by omega)
    exact br_f (nI_ge (b := 7) (by omega) (by decide)) ⟨m + 1, cc_xcbl13 hX hm (cc_G_lt hm i) hMl hM (nm_r (nI_1 i) t) m 0 (m + 1) (by omega) (by omega)⟩
theorem cc_xcbl {post : Int32 → Prop} {MQ : Nat → Nat} {WW : Nat} (hX : cc_X m us ce wr so ea U C W S A) (hm : m ≤ 8) (hWW : WW < 256)
    (hMl : ∀ w, w < m → MQ w < 256) (hM : ∀ w, w < m → M w = nI (MQ w)) (K : post (cc_b (cc_G wr MQ m 7 = WW))) :
    wpX_canBeLaid post (nI m, U, C, W, S, A, M, R) (nI WW) :=
  ⟨8, cc_xcbl4 hX hm hWW hMl hM K 7 0 8 (by omega) (by omega)⟩
theorem cc_mw {w WW : Nat} (hl : ea w < 2 ^ w) (hW : WW < 256) : cc_d ((ea w ||| 2 ^ w) &&& WW) (2 ^ w) = ea w &&& WW := by
  apply cc_ext
  intro v
  have hb : (ea w ||| 2 ^ w) &&& WW < 2 ^ 32 := Nat.lt_of_le_of_lt Nat.and_le_right (by omega)
  rw [cc_dm hb, cc_at, cc_at, cc_o2]
  constructor
  · rintro ⟨⟨a, b⟩, c⟩
    exact ⟨a.elim id (fun z => absurd z c), b⟩
  · rintro ⟨a, b⟩
    have := cc_tl hl a
    exact ⟨⟨Or.inl a, b⟩, by omega⟩
theorem cc_xcv35 {post : Int32 → SX → Prop} (hX : cc_X m us ce wr so ea U C W S A) (hH : cc_H m us ce wr so ea) (hm : m ≤ 8)
    (K : ∀ M', post (cc_b (cc_CV m ce wr so ea)) (nI m, U, C, W, S, A, M', R)) :
    ∀ d i f M, i + d = m → d < f → (∀ w, w < i → M w = nI (cc_mq (cc_W wr m) ce wr so ea 0 w)) → wX_converges_35 post (nI (cc_W wr m)) (nI m) f (nI i) U C W S A M R := by
  have hWW := cc_W_256 (wr := wr) hm
  intro d
  induction d with
  | zero =>
    intro i f M h1 h2 hM
    obtain ⟨f, rfl⟩ : ∃ m, f = m + 1 := ⟨f - 1, by omega⟩
    have hi : i = m := by omega
    subst hi
    refine br_t (nI_le (Nat.le_refl _) (by omega)) ⟨i + 1, cc_xrca2 hX hH hm hWW (fun M' hN hM' => ?_) (fun M' hN => ?_) i 0 (i + 1) M (by omega) (by omega) (fun r hr => absurd hr (Nat.not_lt_zero _)) hM⟩
    · refine br_f (by decide) (cc_xcbl hX hm hWW (fun w hw => cc_mq_lt hWW i (by omega)) hM' (cc_br (fun z => ?_) (fun z => ?_)))
      · have k := K M'
        rw [cc_bf (p := cc_CV i ce wr so ea) (fun y => z y.2)] at k
        exact k
      · have k := K M'
        rw [cc_bt (p := cc_CV i ce wr so ea) ⟨hN, z⟩] at k
        exact k
    · have k := K M'
      rw [cc_bf (p := cc_CV i ce wr so ea) (fun y => hN y.1)] at k
      exact br_t rfl k
  | succ d ih =>
    intro i f M h1 h2 hM
    obtain ⟨f, rfl⟩ : ∃ m, f = m + 1 := ⟨f - 1, by omega⟩
    have him : i < m := by omega
    have w8 : vp_in (nI i) 8 := vp_in_nI (by omega) (by decide)
    have ec : (nI i).toNatClampNeg = i := nI_clamp (by omega)
    obtain ⟨_, _, _, _, g5⟩ := hX i him
    have b3 := (hH i him).2.2.1
    refine br_f (nI_ge (by omega) (by omega)) ⟨w8, w8, nm_r (e' := upd M i (nI (ea i &&& cc_W wr m))) (by rw [ec, g5, cc_and, cc_bit i (by omega), cc_dif, cc_mw b3 hWW]) (nm_r (nI_1 i) (ih (i + 1) f _ (by omega) (by omega) (fun w hw => ?_)))⟩
    by_cases e : w = i
    · rw [e, pk_us]
      rfl
    · rw [pk_un e]
      exact hM w (by omega)
theorem cc_xcv4 {post : Int32 → SX → Prop} (hX : cc_X m us ce wr so ea U C W S A) (hH : cc_H m us ce wr so ea) (hm : m ≤ 8)
    (K : ∀ M', post (cc_b (cc_CV m ce wr so ea)) (nI m, U, C, W, S, A, M', R)) :
    ∀ d i f, i + d = m → d < f → wX_converges_4 post (nI m) U C W S A M R f (nI (cc_W wr i)) (nI i) := by
  intro d
  induction d with
  | zero =>
    intro i f h1 h2
    obtain ⟨f, rfl⟩ : ∃ m, f = m + 1 := ⟨f - 1, by omega⟩
    have hi : i = m := by omega
    subst hi
    exact br_t (nI_le (Nat.le_refl _) (by omega)) ⟨i + 1, cc_xcv35 hX hH hm K i 0 (i + 1) M (by omega) (by omega) (fun w hw => absurd hw (Nat.not_lt_zero _))⟩
  | succ d ih =>
    intro i f h1 h2
    obtain ⟨f, rfl⟩ : ∃ m, f = m + 1 := ⟨f - 1, by omega⟩
    have him : i < m := by omega
    have w8 : vp_in (nI i) 8 := vp_in_nI (by omega) (by decide)
    have ec : (nI i).toNatClampNeg = i := nI_clamp (by omega)
    obtain ⟨_, _, g3, _, _⟩ := hX i him
    have t := ih (i + 1) f (by omega) (by omega)
    refine br_f (nI_ge (by omega) (by omega)) ⟨w8, cc_bw (by rw [ec]; exact g3) (fun hw => ?_) (fun hw => ?_)⟩
    · have e : cc_W wr (i + 1) = cc_W wr i := if_neg hw
      rw [e] at t
      exact nm_r (nI_1 i) t
    · have e : cc_W wr (i + 1) = cc_W wr i ||| 2 ^ i := if_pos hw
      rw [e] at t
      exact nm_r (by rw [cc_bit i (by omega), cc_or]) (nm_r (nI_1 i) t)
theorem cc_xcv {post : Int32 → SX → Prop} (hX : cc_X m us ce wr so ea U C W S A) (hH : cc_H m us ce wr so ea) (hm : m ≤ 8)
    (K : ∀ M', post (cc_b (cc_CV m ce wr so ea)) (nI m, U, C, W, S, A, M', R)) : wpX_converges post (nI m, U, C, W, S, A, M, R) :=
  ⟨m + 1, cc_xcv4 hX hH hm K m 0 (m + 1) (by omega) (by omega)⟩
end
