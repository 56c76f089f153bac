/-! the reference's isRow, fits, arrange, converges -/
section
variable {us ce : Nat → Nat} {wr : Nat → Prop} {so ea : Nat → Nat} {n m nw : Nat} {U C W S E R O : Nat → Int32} {σ : Nat → Nat}
theorem cc_yir9 {post : Int32 → Prop} {J2 : Int32 → Prop} {x1 : Int32} {i : Nat} (hO : ∀ i, i < nw → O i = nI (σ i)) (hσ : ∀ i, i < nw → σ i < 7)
    (hE : ∀ i, i < nw → E (σ i) = nI (ea (σ i)) ∧ ea (σ i) < 2 ^ 31) (hw : nw ≤ 7) (hi : i < nw)
    (K0 : ¬ cc_Row ea σ nw → post 0) (K1 : (∀ j, j < i → σ i ≠ σ j ∧ (ea (σ j)).testBit (σ i) = false) → J2 (nI (i + 1))) :
    ∀ d j f, j + d = i → d < f → (∀ k, k < j → σ i ≠ σ k ∧ (ea (σ k)).testBit (σ i) = false) → wY_isRow_9 post J2 x1 (nI i) (nI n) U C W S E R O f (nI j) := by
  have w8i : vp_in (nI i) 8 := vp_in_nI (by omega) (by decide)
  have eci : (nI i).toNatClampNeg = i := nI_clamp (by omega)
  have si := hσ i hi
  intro d
  induction d with
  | zero =>
    intro j f h1 h2 h
    obtain ⟨f, rfl⟩ : ∃ m, f = m + 1 := ⟨f - 1, by omega⟩
    have hj : j = i := by omega
    subst hj
    exact br_t (nI_le (Nat.le_refl _) (by omega)) (nm_r (nI_1 j) (K1 h))
  | succ d ih =>
    intro j f h1 h2 h
    obtain ⟨f, rfl⟩ : ∃ m, f = m + 1 := ⟨f - 1, by omega⟩
    have hj : j < i := by omega
    have w8 : vp_in (nI j) 8 := vp_in_nI (by omega) (by decide)
    have ec : (nI j).toNatClampNeg = j := nI_clamp (by omega)
    have sj := hσ j (by omega)
    have oj : O (nI j).toNatClampNeg = nI (σ j) := by rw [ec]; exact hO j (by omega)
    have oi : O (nI i).toNatClampNeg = nI (σ i) := by rw [eci]; exact hO i hi
    have ecs : (nI (σ j)).toNatClampNeg = σ j := nI_clamp (by omega)
    obtain ⟨e1, e2⟩ := hE j (by omega)
    refine br_f (nI_ge (by omega) (by omega)) ⟨w8i, w8, ?_⟩
    rw [oj, oi, ecs, e1]
    refine pk_eq (σ i) (σ j) (fun z => K0 (fun y => (y i hi j hj).1 z)) (fun z => ⟨w8, vp_in_nI (by omega) (by decide), w8i, cc_b1w (cc_sh1 e2 (by omega)) (fun y => K0 (fun v => by rw [(v i hi j hj).2] at y; exact absurd y (by decide))) (fun y => nm_r (nI_1 j) (ih (j + 1) f (by omega) (by omega) (fun k hk => ?_)))⟩) rfl rfl (by omega) (by omega)
    rcases Nat.lt_or_ge k j with v | v
    · exact h k v
    · have : k = j := by omega
      subst this
      exact ⟨z, cc_f y⟩
theorem cc_yir2 {post : Int32 → Prop} (hO : ∀ i, i < nw → O i = nI (σ i)) (hσ : ∀ i, i < nw → σ i < 7)
    (hE : ∀ i, i < nw → E (σ i) = nI (ea (σ i)) ∧ ea (σ i) < 2 ^ 31) (hw : nw ≤ 7) (K : post (cc_b (cc_Row ea σ nw))) :
    ∀ d i f, i + d = nw → d < f → (∀ k, k < i → ∀ j, j < k → σ k ≠ σ j ∧ (ea (σ j)).testBit (σ k) = false) → wY_isRow_2 post (nI nw) (nI n) U C W S E R O f (nI i) := by
  intro d
  induction d with
  | zero =>
    intro i f h1 h2 h
    obtain ⟨f, rfl⟩ : ∃ m, f = m + 1 := ⟨f - 1, by omega⟩
    have hi : i = nw := by omega
    subst hi
    rw [cc_bt (p := cc_Row ea σ i) h] at K
    exact br_t (nI_le (Nat.le_refl _) (by omega)) K
  | succ d ih =>
    intro i f h1 h2 h
    obtain ⟨f, rfl⟩ : ∃ m, f = m + 1 := ⟨f - 1, by omega⟩
    refine br_f (nI_ge (by omega) (by omega)) ⟨i + 1, cc_yir9 hO hσ hE hw (by omega) (fun z => ?_) (fun z => ih (i + 1) f (by omega) (by omega) (fun k hk => ?_)) i 0 (i + 1) (by omega) (by omega) (fun k hk => absurd hk (Nat.not_lt_zero _))⟩
    · rw [cc_bf z] at K
      exact K
    · rcases Nat.lt_or_ge k i with v | v
      · exact h k v
      · have : k = i := by omega
        subst this
        exact z
theorem cc_yir {post : Int32 → Prop} (hO : ∀ i, i < nw → O i = nI (σ i)) (hσ : ∀ i, i < nw → σ i < 7)
    (hE : ∀ i, i < nw → E (σ i) = nI (ea (σ i)) ∧ ea (σ i) < 2 ^ 31) (hw : nw ≤ 7) (K : post (cc_b (cc_Row ea σ nw))) :
    wpY_isRow post (nI n, U, C, W, S, E, R, O) (nI nw) :=
  ⟨nw + 1, cc_yir2 hO hσ hE hw K nw 0 (nw + 1) (by omega) (by omega) (fun k hk => absurd hk (Nat.not_lt_zero _))⟩
theorem cc_last_le {r : Nat} (hσ : ∀ i, i < nw → σ i < 7) : ∀ i, i ≤ nw → cc_last ce ea σ r i ≤ 7
  | 0, _ => Nat.le_refl _
  | i + 1, hi => by
    have ih := cc_last_le (r := r) hσ i (by omega)
    by_cases c : ce (σ i) = ce r ∧ (ea r).testBit (σ i) = true
    · have e : cc_last ce ea σ r (i + 1) = σ i := if_pos c
      have := hσ i (by omega)
      omega
    · have e : cc_last ce ea σ r (i + 1) = cc_last ce ea σ r i := if_neg c
      omega
theorem cc_yft13 {post : Int32 → Prop} {J2 : Int32 → Prop} {x2 : Int32} {r : Nat} (hY : cc_Y m us ce wr so ea U C W S E) (hH : cc_H m us ce wr so ea) (hm : m ≤ 8)
    (hO : ∀ i, i < nw → O i = nI (σ i)) (hσ : ∀ i, i < nw → σ i < 7 ∧ σ i < m) (hw : nw ≤ 7) (hr : r < m)
    (K0 : (¬ wr r ∧ cc_last ce ea σ r nw ≠ so r) → post 0) (K1 : (¬ wr r → cc_last ce ea σ r nw = so r) → J2 (nI (r + 1))) :
    ∀ d i f, i + d = nw → d < f → wY_fits_13 post J2 (nI nw) x2 (nI r) (nI n) U C W S E R O f (cc_s (cc_last ce ea σ r i)) (nI i) := by
  have w8r : vp_in (nI r) 8 := vp_in_nI (by omega) (by decide)
  have ecr : (nI r).toNatClampNeg = r := nI_clamp (by omega)
  obtain ⟨_, r2, r3, r4, r5⟩ := hY r hr
  obtain ⟨_, b2, b3, _, b5, _, _⟩ := hH r hr
  have el : ea r < 2 ^ 8 := Nat.lt_trans b3 (cc_p2 (by omega))
  intro d
  induction d with
  | zero =>
    intro i f h1 h2
    obtain ⟨f, rfl⟩ : ∃ m, f = m + 1 := ⟨f - 1, by omega⟩
    have hi : i = nw := by omega
    subst hi
    have ll := cc_last_le (ce := ce) (ea := ea) (r := r) (fun j hj => (hσ j hj).1) i (Nat.le_refl _)
    refine br_t (nI_le (Nat.le_refl _) (by omega)) ⟨w8r, cc_bw (by rw [ecr]; exact r3) (fun nw' => ⟨w8r, cc_if (d := cc_last ce ea σ r i = so r) (by rw [ecr, r4]; exact cc_s_eq ll b5) (fun z => nm_r (nI_1 r) (K1 (fun _ => z))) (fun z => K0 ⟨nw', z⟩)⟩) (fun hw' => nm_r (nI_1 r) (K1 (fun z => absurd hw' z)))⟩
  | succ d ih =>
    intro i f h1 h2
    obtain ⟨f, rfl⟩ : ∃ m, f = m + 1 := ⟨f - 1, by omega⟩
    have hi : i < nw := by omega
    have w8 : vp_in (nI i) 8 := vp_in_nI (by omega) (by decide)
    have ec : (nI i).toNatClampNeg = i := nI_clamp (by omega)
    obtain ⟨s7, sm⟩ := hσ i hi
    have w8s : vp_in (nI (σ i)) 8 := vp_in_nI (by omega) (by decide)
    have ecs : (nI (σ i)).toNatClampNeg = σ i := nI_clamp (by omega)
    have c2 := (hH (σ i) sm).2.1
    have t := ih (i + 1) f (by omega) (by omega)
    have skip : ¬ (ce (σ i) = ce r ∧ (ea r).testBit (σ i) = true) → wY_fits_13 post J2 (nI nw) x2 (nI r) (nI n) U C W S E R O f (cc_s (cc_last ce ea σ r i)) (nI (i + 1)) := by
      intro c
      have e : cc_last ce ea σ r (i + 1) = cc_last ce ea σ r i := if_neg c
      rw [e] at t
      exact t
    refine br_f (nI_ge (by omega) (by omega)) ⟨w8, nm_r (e' := nI (σ i)) (by rw [ec]; exact hO i hi) ⟨w8s, w8r, pk_eq (ce (σ i)) (ce r) (fun y => ⟨w8r, cc_b1w (p := (ea r).testBit (σ i) = true) (by rw [ecr, r5]; exact cc_sh1 (by omega) (by omega)) (fun z => ?_) (fun z => nm_r (nI_1 i) (skip (fun v => z v.2)))⟩) (fun y => nm_r (nI_1 i) (skip (fun v => y v.1))) (by rw [ecs]; exact (hY (σ i) sm).2.1) (by rw [ecr]; exact r2) (by omega) (by omega)⟩⟩
    have e : cc_last ce ea σ r (i + 1) = σ i := if_pos ⟨y, z⟩
    rw [e, cc_sn (by omega)] at t
    exact nm_r (nI_1 i) t
theorem cc_yft2 {post : Int32 → Prop} (hY : cc_Y m us ce wr so ea U C W S E) (hH : cc_H m us ce wr so ea) (hm : m ≤ 8)
    (hO : ∀ i, i < nw → O i = nI (σ i)) (hσ : ∀ i, i < nw → σ i < 7 ∧ σ i < m) (hw : nw ≤ 7) (K : post (cc_b (cc_Fit m ce wr so ea σ nw))) :
    ∀ d i f, i + d = m → d < f → cc_Fit i ce wr so ea σ nw → wY_fits_2 post (nI nw) (nI m) (nI n) U C W S E R O f (nI i) := by
  intro d
  induction d with
  | zero =>
    intro i f h1 h2 h
    obtain ⟨f, rfl⟩ : ∃ m, f = m + 1 := ⟨f - 1, by omega⟩
    have hi : i = m := by omega
    subst hi
    rw [cc_bt h] at K
    exact br_t (nI_le (Nat.le_refl _) (by omega)) K
  | succ d ih =>
    intro i f h1 h2 h
    obtain ⟨f, rfl⟩ : ∃ m, f = m + 1 := ⟨f - 1, by omega⟩
    refine br_f (nI_ge (by omega) (by omega)) ⟨nw + 1, cc_yft13 hY hH hm hO hσ hw (by omega) (fun z => ?_) (fun z => ih (i + 1) f (by omega) (by omega) (fun r hr hwr => ?_)) nw 0 (nw + 1) (by omega) (by omega)⟩
    · rw [cc_bf (p := cc_Fit m ce wr so ea σ nw) (fun y => z.2 (y i (by omega) z.1))] at K
      exact K
    · rcases Nat.lt_or_ge r i with v | v
      · exact h r v hwr
      · have : r = i := by omega
        subst this
        exact z hwr
theorem cc_yft {post : Int32 → Prop} (hY : cc_Y m us ce wr so ea U C W S E) (hH : cc_H m us ce wr so ea) (hm : m ≤ 8)
    (hO : ∀ i, i < nw → O i = nI (σ i)) (hσ : ∀ i, i < nw → σ i < 7 ∧ σ i < m) (hw : nw ≤ 7) (K : post (cc_b (cc_Fit m ce wr so ea σ nw))) :
    wpY_fits post (nI n, U, C, W, S, E, R, O) (nI nw) (nI m) :=
  ⟨m + 1, cc_yft2 hY hH hm hO hσ hw K m 0 (m + 1) (by omega) (by omega) (fun r hr => absurd hr (Nat.not_lt_zero _))⟩
end
section
variable {wr : Nat → Prop} {n nw : Nat} {U C W S E R : Nat → Int32}
theorem cc_yar74 {post : SY → Prop} {J47 : Int32 → Int32 → Int32 → (Nat → Int32) → (Nat → Int32) → (Nat → Int32) → (Nat → Int32) → (Nat → Int32) → (Nat → Int32) → (Nat → Int32) → Prop}
    {x1 x4 x5 : Int32} {L s0 : Nat} {O : Nat → Int32} (hL : L < 256) (hs : s0 < cc_n L 8)
    (K : ∀ w, w < 8 → L.testBit w = true → cc_n L w = s0 → wY_arrange_114 post J47 x1 (nI L) x4 x5 (nI w) (nI n) U C W S E R O) :
    ∀ d w f sk, w + d = 8 → d < f → sk + cc_n L w = s0 → wY_arrange_74 post J47 x1 (nI L) x4 x5 (nI n) U C W S E R O f (nI sk) (nI w) := by
  have c8 : cc_n L 8 ≤ 8 := by
    have : ∀ k, cc_n L k ≤ k := by
      intro k
      induction k with
      | zero => exact Nat.le_refl _
      | succ k ih =>
        show cc_n L k + (L.testBit k).toNat ≤ k + 1
        have := Bool.toNat_le (L.testBit k)
        omega
    exact this 8
  intro d
  induction d with
  | zero =>
    intro w f sk h1 h2 h
    have hw : w = 8 := by omega
    subst hw
    omega
  | succ d ih =>
    intro w f sk h1 h2 h
    obtain ⟨f, rfl⟩ : ∃ m, f = m + 1 := ⟨f - 1, by omega⟩
    have es : cc_n L (w + 1) = cc_n L w + (L.testBit w).toNat := rfl
    refine br_f (nI_ge (b := 8) (by omega) (by decide)) (cc_bw (cc_sh1 (by omega) (by omega)) (fun z => ?_) (fun z => ?_))
    · refine br_f (by rw [cc_sh1 (by omega) (by omega), cc_bf z]; decide) (nm_r (nI_1 w) (ih (w + 1) f sk (by omega) (by omega) ?_))
      rw [es, cc_f z]
      exact h
    · refine pk_le sk 0 (fun y => K w (by omega) z (by omega)) (fun y => ?_) rfl rfl (by omega) (by decide)
      refine br_t (by rw [cc_sh1 (by omega) (by omega), cc_bt z]) (nm_r (e' := nI (sk - 1)) ?_ (nm_r (nI_1 w) (ih (w + 1) f (sk - 1) (by omega) (by omega) ?_)))
      · obtain ⟨k, rfl⟩ : ∃ k, sk = k + 1 := ⟨sk - 1, by omega⟩
        exact pk_m1 k
      · rw [es, z]
        show sk - 1 + (cc_n L w + 1) = s0
        omega
theorem cc_r_le (n num : Nat) : ∀ j, cc_r n num j ≤ num
  | 0 => Nat.le_refl _
  | j + 1 => Nat.le_trans (Nat.div_le_self _ _) (cc_r_le n num j)
theorem cc_yar47 {post : SY → Prop} {WW num : Nat} (hWW : WW < 256) (hnw : cc_n WW 8 = nw) (hn7 : nw ≤ 7) (hnum : num < 2 ^ 30)
    (K : ∀ O' σ, (∀ i, i < nw → O' i = nI (σ i)) → cc_S WW nw num σ → post (nI n, U, C, W, S, E, R, O')) :
    ∀ d i f O σ, i + d = nw → d < f → (∀ j, j < i → O j = nI (σ j)) → (∀ j, j < i → (cc_L WW σ j).testBit (σ j) = true ∧ cc_n (cc_L WW σ j) (σ j) = cc_r nw num j % (nw - j)) →
    wY_arrange_47 post (nI nw) (nI n) f (nI (cc_L WW σ i)) (nI (cc_r nw num i)) (nI i) U C W S E R O := by
  intro d
  induction d with
  | zero =>
    intro i f O σ h1 h2 hO hS
    obtain ⟨f, rfl⟩ : ∃ m, f = m + 1 := ⟨f - 1, by omega⟩
    have hi : i = nw := by omega
    subst hi
    exact br_t (nI_le (Nat.le_refl _) (by omega)) (K O σ hO hS)
  | succ d ih =>
    intro i f O σ h1 h2 hO hS
    obtain ⟨f, rfl⟩ : ∃ m, f = m + 1 := ⟨f - 1, by omega⟩
    have hi : i < nw := by omega
    have esub : nI nw - nI i = nI (nw - i) := pk_sub (by omega)
    have n0 : ¬ nI (nw - i) = 0 := nI_ne0 (by omega) (by omega)
    have rl := cc_r_le nw num i
    have hl := cc_L_le WW σ i
    have cnt := cc_E_cnt (n := i) hWW (fun j hj => (hS j hj).1) i (Nat.le_refl _)
    have hmod := Nat.mod_lt (cc_r nw num i) (show 0 < nw - i by omega)
    refine br_f (nI_ge (by omega) (by omega)) ?_
    rw [esub]
    refine ⟨n0, nm_r (e' := nI (cc_r nw num i % (nw - i))) (pk_rem (by omega) (by omega) (by omega)) ⟨n0, nm_r (e' := nI (cc_r nw num (i + 1))) (pk_div (by omega) (by omega) (by omega)) ⟨9, ?_⟩⟩⟩
    refine cc_yar74 (s0 := cc_r nw num i % (nw - i)) (by omega) (by omega) (fun w hw8 hw hc => ?_) 8 0 9 (cc_r nw num i % (nw - i)) (by omega) (by omega) rfl
    have w8 : vp_in (nI i) 8 := vp_in_nI (by omega) (by decide)
    have ec : (nI i).toNatClampNeg = i := nI_clamp (by omega)
    have same : ∀ j, j ≤ i → cc_L WW (cc_u σ i w) j = cc_L WW σ j := fun j hj => cc_L_congr (fun k hk => cc_un σ w (by omega))
    have next : cc_L WW (cc_u σ i w) (i + 1) = cc_d (cc_L WW σ i) (2 ^ w) := by
      show cc_d (cc_L WW (cc_u σ i w) i) (2 ^ cc_u σ i w i) = _
      rw [same i (Nat.le_refl _), cc_us]
    refine ⟨w8, nm_r (e' := upd O i (nI w)) (by rw [ec]) (nm_r (e' := nI (cc_L WW (cc_u σ i w) (i + 1))) (by rw [cc_bit w (by omega), cc_dif, next]) (nm_r (nI_1 i) (ih (i + 1) f _ (cc_u σ i w) (by omega) (by omega) (fun j hj => ?_) (fun j hj => ?_))))⟩
    · by_cases e : j = i
      · rw [e, pk_us, cc_us]
      · rw [pk_un e, cc_un σ w e]
        exact hO j (by omega)
    · rw [same j (by omega)]
      by_cases e : j = i
      · rw [e, cc_us]
        exact ⟨hw, hc⟩
      · rw [cc_un σ w e]
        exact hS j (by omega)
theorem cc_yar8 {post : SY → Prop} {num : Nat} {O : Nat → Int32} (hW : ∀ i, i < n → W i = cc_b (wr i)) (hn : n ≤ 8) (hnw : cc_n (cc_W wr n) 8 = nw) (hn7 : nw ≤ 7) (hnum : num < 2 ^ 30)
    (K : ∀ O' σ, (∀ i, i < nw → O' i = nI (σ i)) → cc_S (cc_W wr n) nw num σ → post (nI n, U, C, W, S, E, R, O')) :
    ∀ d i f, i + d = n → d < f → wY_arrange_8 post (nI nw) (nI num) (nI n) U C W S E R O f (nI (cc_W wr i)) (nI i) := by
  intro d
  induction d with
  | zero =>
    intro i f h1 h2
    obtain ⟨f, rfl⟩ : ∃ m, f = m + 1 := ⟨f - 1, by omega⟩
    have hi : i = n := by omega
    subst hi
    exact br_t (nI_le (Nat.le_refl _) (by omega)) ⟨nw + 1, cc_yar47 (cc_W_256 hn) hnw hn7 hnum K nw 0 (nw + 1) O (fun _ => 0) (by omega) (by omega) (fun j hj => absurd hj (Nat.not_lt_zero _)) (fun j hj => absurd hj (Nat.not_lt_zero _))⟩
  | succ d ih =>
    intro i f h1 h2
    obtain ⟨f, rfl⟩ : ∃ m, f = m + 1 := ⟨f - 1, by omega⟩
    have him : i < n := by omega
    have w8 : vp_in (nI i) 8 := vp_in_nI (by omega) (by decide)
    have ec : (nI i).toNatClampNeg = i := nI_clamp (by omega)
    have t := ih (i + 1) f (by omega) (by omega)
    refine br_f (nI_ge (by omega) (by omega)) ⟨w8, cc_bw (by rw [ec]; exact hW i him) (fun hw => ?_) (fun hw => ?_)⟩
    · have e : cc_W wr (i + 1) = cc_W wr i := if_neg hw
      rw [e] at t
      refine nm_r (e' := nI (cc_W wr i)) ?_ (nm_r (nI_1 i) t)
      rw [← nI_0, cc_or, Nat.or_zero]
    · have e : cc_W wr (i + 1) = cc_W wr i ||| 2 ^ i := if_pos hw
      rw [e] at t
      exact nm_r (by rw [cc_bit i (by omega), cc_or]) (nm_r (nI_1 i) t)
theorem cc_yar {post : SY → Prop} {num : Nat} {O : Nat → Int32} (hW : ∀ i, i < n → W i = cc_b (wr i)) (hn : n ≤ 8) (hnw : cc_n (cc_W wr n) 8 = nw) (hn7 : nw ≤ 7) (hnum : num < 2 ^ 30)
    (K : ∀ O' σ, (∀ i, i < nw → O' i = nI (σ i)) → cc_S (cc_W wr n) nw num σ → post (nI n, U, C, W, S, E, R, O')) :
    wpY_arrange post (nI n, U, C, W, S, E, R, O) (nI nw) (nI num) :=
  ⟨n + 1, cc_yar8 hW hn hnw hn7 hnum K n 0 (n + 1) (by omega) (by omega)⟩
end
section
variable {us ce : Nat → Nat} {wr : Nat → Prop} {so ea : Nat → Nat} {n m : Nat} {U C W S E R : Nat → Int32}
theorem cc_fa7 {k : Nat} (h : k ≤ 7) : cc_fa k ≤ 5040 := (by decide +kernel : ∀ k : Fin 8, cc_fa k.val ≤ 5040) ⟨k, by omega⟩
theorem cc_ycv39 {post : Int32 → SY → Prop} (hY : cc_Y m us ce wr so ea U C W S E) (hH : cc_H m us ce wr so ea) (hm : m ≤ 8) (hn : n ≤ m) (hWn : cc_W wr m = cc_W wr n)
    (K : ∀ O', post (cc_b (cc_CV m ce wr so ea)) (nI n, U, C, W, S, E, R, O')) :
    ∀ d i f O, i + d = cc_fa (cc_wc wr m) → d < f → (∀ num, num < i → ∃ σ, cc_S (cc_W wr m) (cc_wc wr m) num σ ∧ ¬ (cc_Row ea σ (cc_wc wr m) ∧ cc_Fit m ce wr so ea σ (cc_wc wr m))) →
    wY_converges_39 post (nI m) (nI (cc_wc wr m)) (nI (cc_fa (cc_wc wr m))) f (nI i) (nI n) U C W S E R O := by
  have w7 := cc_wc7 hH hm
  have f7 := cc_fa7 w7
  have hWW := cc_W_256 (wr := wr) hm
  intro d
  induction d with
  | zero =>
    intro i f O h1 h2 h
    obtain ⟨f, rfl⟩ : ∃ m, f = m + 1 := ⟨f - 1, by omega⟩
    have hi : i = cc_fa (cc_wc wr m) := by omega
    subst hi
    have k := K O
    rw [cc_bf (cc_CVn hH hm h)] at k
    exact br_t (nI_le (Nat.le_refl _) (by omega)) k
  | succ d ih =>
    intro i f O h1 h2 h
    obtain ⟨f, rfl⟩ : ∃ m, f = m + 1 := ⟨f - 1, by omega⟩
    refine br_f (nI_ge (by omega) (by omega)) (cc_yar (wr := wr) (fun j hj => (hY j (by omega)).2.2.1) (by omega) (by rw [← hWn]; exact cc_wn hm) w7 (by omega) (fun O' σ hO hS => ?_))
    rw [← hWn] at hS
    have hE := cc_S_E hS
    have hσ : ∀ j, j < cc_wc wr m → σ j < 7 ∧ σ j < m := fun j hj => by
      have a := (cc_W_t (σ j) m).mp (cc_E_in hWW hE hj)
      exact ⟨(hH _ a.1).2.2.2.2.2.1 a.2, a.1⟩
    have next : ¬ (cc_Row ea σ (cc_wc wr m) ∧ cc_Fit m ce wr so ea σ (cc_wc wr m)) → wY_converges_39 post (nI m) (nI (cc_wc wr m)) (nI (cc_fa (cc_wc wr m))) f (nI (i + 1)) (nI n) U C W S E R O' := by
      intro z
      refine ih (i + 1) f O' (by omega) (by omega) (fun num hnum => ?_)
      rcases Nat.lt_or_ge num i with v | v
      · exact h num v
      · have : num = i := by omega
        subst this
        exact ⟨σ, hS, z⟩
    refine cc_yir (ea := ea) hO (fun j hj => (hσ j hj).1) (fun j hj => ⟨(hY _ (hσ j hj).2).2.2.2.2, ?_⟩) w7 (cc_br (fun z => nm_r (nI_1 i) (next (fun y => z y.1))) (fun z => ?_))
    · have a := (hH _ (hσ j hj).2).2.2.1
      have b : 2 ^ σ j < 2 ^ 31 := cc_p2 (by have := (hσ j hj).1; omega)
      omega
    · refine cc_yft hY hH hm hO hσ w7 (cc_br (fun y => nm_r (nI_1 i) (next (fun v => y v.2))) (fun y => ?_))
      have k := K O'
      rw [cc_bt (cc_CVy hH hm hS z y)] at k
      exact k
theorem cc_ycv7 {post : Int32 → SY → Prop} {O : Nat → Int32} (hY : cc_Y m us ce wr so ea U C W S E) (hH : cc_H m us ce wr so ea) (hm : m ≤ 8) (hn : n ≤ m) (hWn : cc_W wr m = cc_W wr n)
    (K : ∀ O', post (cc_b (cc_CV m ce wr so ea)) (nI n, U, C, W, S, E, R, O')) :
    ∀ d i f, i + d = m → d < f → wY_converges_7 post (nI m) (nI n) U C W S E R O f (nI (cc_wc wr i)) (nI (cc_fa (cc_wc wr i))) (nI i) := by
  intro d
  induction d with
  | zero =>
    intro i f h1 h2
    obtain ⟨f, rfl⟩ : ∃ m, f = m + 1 := ⟨f - 1, by omega⟩
    have hi : i = m := by omega
    subst hi
    exact br_t (nI_le (Nat.le_refl _) (by omega)) ⟨cc_fa (cc_wc wr i) + 1, cc_ycv39 hY hH hm hn hWn K (cc_fa (cc_wc wr i)) 0 (cc_fa (cc_wc wr i) + 1) O (by omega) (by omega) (fun j hj => absurd hj (Nat.not_lt_zero _))⟩
  | succ d ih =>
    intro i f h1 h2
    obtain ⟨f, rfl⟩ : ∃ m, f = m + 1 := ⟨f - 1, by omega⟩
    have him : i < m := by omega
    have w8 : vp_in (nI i) 8 := vp_in_nI (by omega) (by decide)
    have ec : (nI i).toNatClampNeg = i := nI_clamp (by omega)
    have t := ih (i + 1) f (by omega) (by omega)
    refine br_f (nI_ge (by omega) (by omega)) ⟨w8, cc_bw (by rw [ec]; exact (hY i him).2.2.1) (fun hw => ?_) (fun hw => ?_)⟩
    · have e : cc_wc wr (i + 1) = cc_wc wr i := if_neg hw
      rw [e] at t
      exact nm_r (nI_1 i) t
    · have e : cc_wc wr (i + 1) = cc_wc wr i + 1 := if_pos hw
      rw [e] at t
      exact nm_r (nI_1 _) (nm_r (e' := nI (cc_fa (cc_wc wr i + 1))) (pk_mul _ _) (nm_r (nI_1 i) t))
theorem cc_ycv {post : Int32 → SY → Prop} {O : Nat → Int32} (hY : cc_Y m us ce wr so ea U C W S E) (hH : cc_H m us ce wr so ea) (hm : m ≤ 8) (hn : n ≤ m) (hWn : cc_W wr m = cc_W wr n)
    (K : ∀ O', post (cc_b (cc_CV m ce wr so ea)) (nI n, U, C, W, S, E, R, O')) : wpY_converges post (nI n, U, C, W, S, E, R, O) (nI m) :=
  ⟨m + 1, cc_ycv7 hY hH hm hn hWn K m 0 (m + 1) (by omega) (by omega)⟩
end
