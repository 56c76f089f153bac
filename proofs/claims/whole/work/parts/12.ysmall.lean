/-! the reference's small methods, put and after -/
theorem cc_yBad {post : Int32 → Prop} {x y : Int32} (h : post (cc_b (¬ (cc_ok 3 x ∧ cc_ok 2 y)))) : wpY_badPlace post x y := by
  by_cases a : x < 0
  · rw [cc_bt (fun z => cc_ok0 (by decide) a z.1)] at h
    exact br_t a h
  · obtain ⟨j, hj, rfl⟩ := nI_of a
    refine br_f a (pk_lt 2 j (fun z => ?_) (fun z => ?_) rfl rfl (by decide) hj)
    · rw [cc_bt (fun w => by have := (cc_okI (by decide) hj).mp w.1; omega)] at h
      exact h
    · by_cases b : y < 0
      · rw [cc_bt (fun z => cc_ok0 (by decide) b z.2)] at h
        exact br_t b h
      · obtain ⟨i, hi, rfl⟩ := nI_of b
        refine br_f b (pk_le i 1 (fun w => ?_) (fun w => ?_) rfl rfl hi (by decide))
        · rw [cc_bf (fun v => v ⟨(cc_okI (by decide) hj).mpr (by omega), (cc_okI (by decide) hi).mpr (by omega)⟩)] at h
          exact h
        · rw [cc_bt (fun v => by have := (cc_okI (by decide) hi).mp v.2; omega)] at h
          exact h
theorem cc_sm {a s : Nat} (ha : a < 7) (hs : s ≤ 7) : nI a = cc_s s ↔ a = s := by
  rw [← cc_sn (x := a) (by omega)]
  exact cc_s_eq (by omega) hs
section
variable {us ce : Nat → Nat} {wr : Nat → Prop} {so ea : Nat → Nat} {n : Nat} {U C W S E R O : Nat → Int32}
theorem cc_yMiss {post : Int32 → Prop} {x : Int32} (hn : n ≤ 8) (h : post (cc_b (¬ cc_ok n x))) : wpY_missing post (nI n, U, C, W, S, E, R, O) x := by
  by_cases a : x < 0
  · rw [cc_bt (cc_ok0 (by omega) a)] at h
    exact br_t a h
  · obtain ⟨j, hj, rfl⟩ := nI_of a
    refine br_f a (pk_lt j n (fun z => ?_) (fun z => ?_) rfl rfl hj (by omega))
    · rw [cc_bf (fun w => w ((cc_okI (by omega) hj).mpr z))] at h
      exact h
    · rw [cc_bt (fun w => by have := (cc_okI (by omega) hj).mp w; omega)] at h
      exact h
theorem cc_yNo {post : Int32 → Prop} {x : Int32} {cell : Nat} (hY : cc_Y n us ce wr so ea U C W S E) (hH : cc_H n us ce wr so ea) (hn : n ≤ 8) (hc : cell < 2)
    (h : post (cc_b (¬ (x = -1 ∨ cc_src n ce wr x cell)))) : wpY_noSource post (nI n, U, C, W, S, E, R, O) (nI cell) x := by
  by_cases e1 : x = -1
  · rw [cc_bf (fun z => z (Or.inl e1))] at h
    exact br_t e1 h
  · have h : post (cc_b (¬ cc_src n ce wr x cell)) := by
      rw [cc_bq (q := ¬ cc_src n ce wr x cell) ⟨fun z y => z (Or.inr y), fun z y => y.elim e1 z⟩] at h
      exact h
    by_cases a : x < 0
    · rw [cc_bt (fun ⟨j, hj, e, _⟩ => cc_ok0 (k := n) (by omega) a ⟨j, hj, e⟩)] at h
      exact br_f e1 (br_t a h)
    · obtain ⟨j, hj, rfl⟩ := nI_of a
      refine br_f e1 (br_f a (pk_le n j (fun z => ?_) (fun z => ?_) rfl rfl (by omega) hj))
      · rw [cc_bt (fun ⟨i, hi, e, _⟩ => by have := (nI_eq hj (by omega)).mp e; omega)] at h
        exact h
      · have w8 : vp_in (nI j) 8 := vp_in_nI (by omega) (by decide)
        have ec : (nI j).toNatClampNeg = j := nI_clamp (by omega)
        obtain ⟨_, h2, h3, _, _⟩ := hY j z
        have hcj := (hH j z).2.1
        refine ⟨w8, cc_bw (by rw [ec]; exact h3) (fun y => ?_) (fun y => ⟨w8, pk_eq (ce j) cell (fun v => ?_) (fun v => ?_) (by rw [ec]; exact h2) rfl (by omega) (by omega)⟩)⟩
        · rw [cc_bt (fun ⟨i, hi, e, w, _⟩ => by
            have : j = i := (nI_eq hj (by omega)).mp e
            subst this
            exact y w)] at h
          exact h
        · rw [cc_bf (fun w => w ⟨j, z, rfl, y, v⟩)] at h
          exact h
        · rw [cc_bt (fun ⟨i, hi, e, _, w⟩ => by
            have : j = i := (nI_eq hj (by omega)).mp e
            subst this
            exact v w)] at h
          exact h
theorem cc_yput47 {post : SY → Prop} {user s : Nat} {w : Prop} {x3 : Int32} (hU : ∀ a, a < n → U a = nI (us a)) (hE : ∀ a, a < n → E a = nI (ea a)) (hus : ∀ a, a < n → us a < 3)
    (hn : n ≤ 7) (hu : user < 3) (hs : s ≤ 7) (h3 : x3 = cc_b w) (hw : w → s = 7)
    (K : post (nI n, U, C, W, S, upd E n (nI (cc_en us ea user s n)), R, O)) :
    ∀ d i f, i + d = n → d < f → wY_put_47 post (nI user) x3 (cc_s s) (nI n) U C W S E R O f (nI (cc_en us ea user s i)) (nI i) := by
  intro d
  induction d with
  | zero =>
    intro i f h1 h2
    obtain ⟨f, rfl⟩ : ∃ m, f = m + 1 := ⟨f - 1, by omega⟩
    have hi : i = n := by omega
    subst hi
    have w8 : vp_in (nI i) 8 := vp_in_nI (by omega) (by decide)
    have e : (nI i).toNatClampNeg = i := nI_clamp (by omega)
    exact br_t (nI_le (Nat.le_refl _) (by omega)) ⟨w8, nm_r (e' := upd E i (nI (cc_en us ea user s i))) (by rw [e]) K⟩
  | succ d ih =>
    intro i f h1 h2
    obtain ⟨f, rfl⟩ : ∃ m, f = m + 1 := ⟨f - 1, by omega⟩
    have hi : i < n := by omega
    have w8 : vp_in (nI i) 8 := vp_in_nI (by omega) (by decide)
    have e : (nI i).toNatClampNeg = i := nI_clamp (by omega)
    have g1 := hU i hi
    have g5 := hE i hi
    have hui := hus i hi
    have t := ih (i + 1) f (by omega) (by omega)
    have step : (us i = user ∨ i = s) → wY_put_78 post (wY_put_47 post (nI user) x3 (cc_s s) (nI n) U C W S E R O f) (nI user) x3 (cc_s s) (nI (cc_en us ea user s i)) (nI i) (nI n) U C W S E R O := by
      intro c
      have ee : cc_en us ea user s (i + 1) = cc_en us ea user s i ||| (ea i ||| 2 ^ i) := if_pos c
      refine ⟨w8, nm_r (e' := nI (cc_en us ea user s (i + 1))) ?_ (nm_r (nI_1 i) t)⟩
      rw [e, g5, cc_bit i (by omega), cc_or, cc_or, ee]
    have skip : ¬ (us i = user ∨ i = s) → wY_put_47 post (nI user) x3 (cc_s s) (nI n) U C W S E R O f (nI (cc_en us ea user s i)) (nI (i + 1)) := by
      intro c
      have ee : cc_en us ea user s (i + 1) = cc_en us ea user s i := if_neg c
      rw [ee] at t
      exact t
    exact br_f (nI_ge (by omega) (by omega)) ⟨w8, pk_eq (us i) user (fun c => step (Or.inl c))
      (fun c => cc_bw h3 (fun nw => cc_if (cc_sm (by omega) hs) (fun c' => step (Or.inr c')) (fun c' => nm_r (nI_1 i) (skip (fun z => z.elim c c'))))
        (fun hw' => nm_r (nI_1 i) (skip (fun z => z.elim c (fun z => by have := hw hw'; omega)))))
      (by rw [e]; exact g1) rfl (by omega) (by omega)⟩
theorem cc_yput {post : SY → Prop} {user cell s : Nat} {w : Prop} {x3 x4 : Int32} (hY : cc_Y n us ce wr so ea U C W S E) (hH : cc_H n us ce wr so ea)
    (hn : n ≤ 7) (hu : user < 3) (hs : s ≤ 7) (h3 : x3 = cc_b w) (h4 : x4 = cc_s s) (hw : w → s = 7)
    (K : post (nI n, upd U n (nI user), upd C n (nI cell), upd W n x3, upd S n x4, upd E n (nI (cc_en us ea user s n)), R, O)) :
    wpY_put post (nI n, U, C, W, S, E, R, O) (nI user) (nI cell) x3 x4 := by
  have w8 : vp_in (nI n) 8 := vp_in_nI (by omega) (by decide)
  have e : (nI n).toNatClampNeg = n := nI_clamp (by omega)
  refine ⟨w8, nm_r (e' := upd U n (nI user)) (by rw [e]) ⟨w8, nm_r (e' := upd C n (nI cell)) (by rw [e]) ⟨w8, nm_r (e' := upd W n x3) (by rw [e, h3, cc_nar]) ⟨w8, nm_r (e' := upd S n x4) (by rw [e]) ⟨n + 1, ?_⟩⟩⟩⟩⟩
  rw [h4]
  rw [h4] at K
  exact cc_yput47 (us := us) (ea := ea) (fun a ha => by rw [pk_un (by omega)]; exact (hY a ha).1) (fun a ha => (hY a ha).2.2.2.2) (fun a ha => (hH a ha).1) hn hu hs h3 hw K n 0 (n + 1) (by omega) (by omega)
theorem cc_yaft {post : Int32 → Prop} {p q k : Nat} {J' : Prop} {x3 : Int32} (hY : cc_Y n us ce wr so ea U C W S E) (hH : cc_H n us ce wr so ea) (hn : n ≤ 7) (hk : k < n) (hp : p ≤ 7) (hq : q ≤ 7) (h3 : x3 = cc_b J')
    (Kw : wr k → post (nI (9 * cc_y (if ce k = 0 then k else p) + cc_y (if ce k = 0 then q else k))))
    (Kr : ¬ wr k → (J' → (if ce k = 0 then p else q) = so k) → post (nI (9 * cc_y p + cc_y q)))
    (Kx : ¬ wr k → J' → (if ce k = 0 then p else q) ≠ so k → post (-1)) :
    wpY_after post (nI n, U, C, W, S, E, R, O) (nI (9 * cc_y p + cc_y q)) (nI k) x3 := by
  have w8 : vp_in (nI k) 8 := vp_in_nI (by omega) (by decide)
  have ec : (nI k).toNatClampNeg = k := nI_clamp (by omega)
  obtain ⟨_, g2, g3, g4, _⟩ := hY k hk
  obtain ⟨_, b2, _, _, b5, _, _⟩ := hH k hk
  have hyp := cc_yb hp
  have hyq := cc_yb hq
  have hyk : cc_y k = k := if_neg (by omega)
  have ed : nI (9 * cc_y p + cc_y q) / 9 = nI (cc_y p) := by
    have t : nI (9 * cc_y p + cc_y q) / 9 = nI ((9 * cc_y p + cc_y q) / 9) := pk_div (by omega) (by decide) (by decide)
    rw [t]
    congr 1
    omega
  have er : nI (9 * cc_y p + cc_y q) - nI (9 * cc_y p + cc_y q) / 9 * 9 = nI (cc_y q) := by
    have t : nI (9 * cc_y p + cc_y q) - nI (9 * cc_y p + cc_y q) / 9 * 9 = nI ((9 * cc_y p + cc_y q) % 9) := pk_rem (by omega) (by decide) (by decide)
    rw [t]
    congr 1
    omega
  have m9 : ∀ a, (9 : Int32) * nI a = nI (9 * a) := fun a => pk_mul 9 a
  have n9 : ∀ a, nI a * 9 = nI (a * 9) := fun a => pk_mul a 9
  have n90 : ¬ (9 : Int32) = 0 := by decide
  have sy : (0 ≤ S (nI k).toNatClampNeg) ↔ so k ≠ 7 := by
    rw [ec, g4]
    by_cases e7 : so k = 7
    · rw [e7, cc_s7]; exact ⟨fun z => absurd z (by decide), fun z => absurd rfl z⟩
    · rw [cc_sn e7]; exact ⟨fun _ => e7, fun _ => nI_pos' (by omega)⟩
  have a20 : ∀ mine, mine ≤ 7 → mine = (if ce k = 0 then p else q) → wY_after_20 post (nI (9 * cc_y p + cc_y q)) (nI k) x3 (nI (cc_y mine)) (nI n) U C W S E R O := by
    intro mine hm em
    have hym := cc_yb hm
    refine ⟨w8, cc_bw (by rw [ec]; exact g3) (fun hw => cc_bw h3 (fun nj => Kr hw (fun z => absurd z nj)) (fun hj => ⟨w8, cc_if sy (fun s7 => ⟨w8, ?_⟩) (fun s7 => ?_)⟩)) (fun hw => ⟨w8, ?_⟩)⟩
    · have es : S (nI k).toNatClampNeg = nI (cc_y (so k)) := by rw [ec, g4, cc_sn s7]; congr 1; exact (if_neg s7).symm
      rw [es]
      have hys := cc_yb b5
      exact pk_eq (cc_y mine) (cc_y (so k)) (fun z => Kr hw (fun _ => by rw [← em]; exact cc_yi hm b5 z)) (fun z => Kx hw hj (fun y => z (by rw [em, y]))) rfl rfl (by omega) (by omega)
    · have s7 : so k = 7 := Classical.byContradiction s7
      exact pk_eq (cc_y mine) 8 (fun z => Kr hw (fun _ => by rw [← em, s7]; exact cc_yi hm (by decide) z)) (fun z => Kx hw hj (fun y => z (by rw [em, y, s7]; rfl))) rfl rfl (by omega) (by decide)
    · have kw := Kw hw
      refine pk_eq (ce k) 0 (fun c0 => ⟨n90, ?_⟩) (fun c0 => ⟨n90, ?_⟩) (by rw [ec]; exact g2) rfl (by omega) (by decide)
      · rw [if_pos c0, if_pos c0, hyk] at kw
        rw [er, m9, nI_add]
        exact kw
      · rw [if_neg c0, if_neg c0, hyk, Nat.mul_comm] at kw
        rw [ed, n9, nI_add]
        exact kw
  refine ⟨w8, pk_eq (ce k) 0 (fun c0 => ⟨n90, ?_⟩) (fun c0 => ⟨n90, ?_⟩) (by rw [ec]; exact g2) rfl (by omega) (by decide)⟩
  · rw [ed]
    exact a20 p hp (by rw [if_pos c0])
  · rw [er]
    exact a20 q hq (by rw [if_neg c0])
end
