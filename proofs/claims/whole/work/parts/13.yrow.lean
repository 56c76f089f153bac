/-! the reference's hasRow -/
section
variable {us ce : Nat → Nat} {wr : Nat → Prop} {so ea : Nat → Nat} {n : Nat} {U C W S E O : Nat → Int32} {PS : Nat} {J : Nat → Prop} {al : Prop}
theorem cc_y181n {post : Int32 → SY → Prop} {J47 J65 : Int32 → (Nat → Int32) → (Nat → Int32) → (Nat → Int32) → (Nat → Int32) → (Nat → Int32) → (Nat → Int32) → (Nat → Int32) → Prop}
    {x1 x2 x3 x4 x5 : Int32} {j : Nat} {R : Nat → Int32} (K : J65 (nI (j + 1)) U C W S E R O) :
    wY_hasRow_181 post J47 J65 x1 x2 x3 x4 x5 (nI j) (-1) (nI n) U C W S E R O :=
  br_t (by decide) (nm_r (nI_1 j) K)
theorem cc_y181p {post : Int32 → SY → Prop} {J47 J65 : Int32 → (Nat → Int32) → (Nat → Int32) → (Nat → Int32) → (Nat → Int32) → (Nat → Int32) → (Nat → Int32) → (Nat → Int32) → Prop}
    {x1 x2 x3 x4 : Int32} {j St p q : Nat} {R : Nat → Int32} (hj : j < 7) (hS : St ||| 2 ^ j < 128) (hp : p ≤ 7) (hq : q ≤ 7)
    (K : J65 (nI (j + 1)) U C W S E (upd R (cc_EY (St ||| 2 ^ j) p q) 1) O) :
    wY_hasRow_181 post J47 J65 x1 x2 x3 x4 (nI St) (nI j) (nI (9 * cc_y p + cc_y q)) (nI n) U C W S E R O := by
  have b1 := cc_yb hp
  have b2 := cc_yb hq
  have hl := cc_EYlt hS hp hq
  have e : ((81 : Int32) * (nI St ||| ((1 : Int32) <<< (nI j &&& 31)))) + nI (9 * cc_y p + cc_y q) = nI (cc_EY (St ||| 2 ^ j) p q) := by
    have m81 : ∀ a, (81 : Int32) * nI a = nI (81 * a) := fun a => pk_mul 81 a
    rw [cc_bit j (by omega), cc_or, m81, nI_add]
    rfl
  have ec : (((81 : Int32) * (nI St ||| ((1 : Int32) <<< (nI j &&& 31)))) + nI (9 * cc_y p + cc_y q)).toNatClampNeg = cc_EY (St ||| 2 ^ j) p q := by rw [e]; exact nI_clamp (by omega)
  exact br_f (nI_pos (by omega)) ⟨by rw [e]; exact vp_in_nI hl (by decide), nm_r (e' := upd R (cc_EY (St ||| 2 ^ j) p q) 1) (by rw [ec, cc_nar1]) (nm_r (nI_1 j) K)⟩
theorem cc_y124 {post : Int32 → SY → Prop} {J47 J65 : Int32 → (Nat → Int32) → (Nat → Int32) → (Nat → Int32) → (Nat → Int32) → (Nat → Int32) → (Nat → Int32) → (Nat → Int32) → Prop}
    {x2 x3 x4 x5 z0 : Int32} {j b : Nat} {R : Nat → Int32} (hY : cc_Y n us ce wr so ea U C W S E) (hH : cc_H n us ce wr so ea) (hn : n ≤ 7) (hj : j < n) (hb : b < n) (h2 : x2 = cc_b al)
    (K : ∀ x : Int32, x = cc_b (j = b ∨ (al ∧ us j = us b)) → wY_hasRow_157 post J47 J65 (nI b) x2 x3 x4 x5 (nI j) z0 x (nI n) U C W S E R O) :
    wY_hasRow_124 post J47 J65 (nI b) x2 x3 x4 x5 (nI j) z0 (nI n) U C W S E R O := by
  have w8 : vp_in (nI j) 8 := vp_in_nI (by omega) (by decide)
  have w8b : vp_in (nI b) 8 := vp_in_nI (by omega) (by decide)
  have ec : (nI j).toNatClampNeg = j := nI_clamp (by omega)
  have ecb : (nI b).toNatClampNeg = b := nI_clamp (by omega)
  have u1 := (hH j hj).1
  have u2 := (hH b hb).1
  refine pk_eq j b (fun e => K 1 (cc_bt (Or.inl e)).symm) (fun e => cc_bw h2 (fun a => K 0 (cc_bf (fun z => z.elim e (fun y => a y.1))).symm) (fun a => ⟨w8, w8b, pk_eq (us j) (us b) (fun y => K 1 (cc_bt (Or.inr ⟨a, y⟩)).symm) (fun y => K 0 (cc_bf (fun z => z.elim e (fun v => y v.2))).symm) (by rw [ec]; exact (hY j hj).1) (by rw [ecb]; exact (hY b hb).1) (by omega) (by omega)⟩)) rfl rfl (by omega) (by omega)
theorem cc_yrow65 {post : Int32 → SY → Prop} {J47 : Int32 → (Nat → Int32) → (Nat → Int32) → (Nat → Int32) → (Nat → Int32) → (Nat → Int32) → (Nat → Int32) → (Nat → Int32) → Prop}
    {x2 : Int32} {b St p q : Nat} {R0 : Nat → Int32} (hY : cc_Y n us ce wr so ea U C W S E) (hH : cc_H n us ce wr so ea) (hn : n ≤ 7) (hP : PS < 128) (hb : b < n) (h2 : x2 = cc_b al)
    (hJ : ∀ k, PS.testBit k = true → ((k = b ∨ (al ∧ us k = us b)) ↔ J k)) (hp : p ≤ 7) (hq : q ≤ 7) (hS : ∀ j, St.testBit j = true → PS.testBit j = true)
    (hR0 : R0 (cc_EY St p q) ≠ 0)
    (K : ∀ R', (∀ c, R' c ≠ 0 ↔ R0 c ≠ 0 ∨ ∃ k, k < n ∧ cc_BX ce wr so ea PS J cc_EY St p q k c) → J47 (nI (cc_EY St p q + 1)) U C W S E R' O) :
    ∀ d i f R, i + d = n → d < f → (∀ c, R c ≠ 0 ↔ R0 c ≠ 0 ∨ ∃ k, k < i ∧ cc_BX ce wr so ea PS J cc_EY St p q k c) →
    wY_hasRow_65 post J47 (nI b) x2 (nI PS) (nI (cc_EY St p q)) (nI St) (nI n) f (nI i) U C W S E R O := by
  have hSt : St < 128 := Nat.lt_of_le_of_lt (Nat.le_of_testBit hS) hP
  have hl := cc_EYlt hSt hp hq
  intro d
  induction d with
  | zero =>
    intro i f R h1 h2 hR
    obtain ⟨f, rfl⟩ : ∃ m, f = m + 1 := ⟨f - 1, by omega⟩
    have hi : i = n := by omega
    subst hi
    exact br_t (nI_le (Nat.le_refl _) (by omega)) (nm_r (nI_1 _) (K R hR))
  | succ d ih =>
    intro i f R h1 h2' hR
    obtain ⟨f, rfl⟩ : ∃ m, f = m + 1 := ⟨f - 1, by omega⟩
    have hin : i < n := by omega
    have w8 : vp_in (nI i) 8 := vp_in_nI (by omega) (by decide)
    have ec : (nI i).toNatClampNeg = i := nI_clamp (by omega)
    have ecs : (nI (cc_EY St p q)).toNatClampNeg = cc_EY St p q := nI_clamp (by omega)
    have h2i : 2 ^ i < 2 ^ 7 := cc_p2 (by omega)
    obtain ⟨_, _, _, _, g5⟩ := hY i hin
    obtain ⟨_, b2, b3, _, b5, _, _⟩ := hH i hin
    have eS : St ||| 2 ^ i < 128 := Nat.or_lt_two_pow (n := 7) hSt h2i
    have eal : ea i < 2 ^ 7 := Nat.lt_trans b3 h2i
    have skip : (∀ c, ¬ cc_BX ce wr so ea PS J cc_EY St p q i c) → wY_hasRow_65 post J47 (nI b) x2 (nI PS) (nI (cc_EY St p q)) (nI St) (nI n) f (nI (i + 1)) U C W S E R O :=
      fun hB => ih (i + 1) f R (by omega) (by omega) (cc_inv_skip hR hB)
    have add : ∀ p' q', p' ≤ 7 → q' ≤ 7 → (∀ c, cc_BX ce wr so ea PS J cc_EY St p q i c ↔ c = cc_EY (St ||| 2 ^ i) p' q') →
        wY_hasRow_65 post J47 (nI b) x2 (nI PS) (nI (cc_EY St p q)) (nI St) (nI n) f (nI (i + 1)) U C W S E (upd R (cc_EY (St ||| 2 ^ i) p' q') 1) O :=
      fun p' q' _ _ hB => ih (i + 1) f _ (by omega) (by omega) (cc_inv_add hR hB)
    have no : ¬ (PS.testBit i = true ∧ St.testBit i = false ∧ ∀ j, (ea i).testBit j = true → St.testBit j = true) →
        wY_hasRow_123 post J47 (wY_hasRow_65 post J47 (nI b) x2 (nI PS) (nI (cc_EY St p q)) (nI St) (nI n) f) (nI b) x2 (nI PS) (nI (cc_EY St p q)) (nI St) (nI i) (nI n) U C W S E R O := by
      intro c
      unfold wY_hasRow_123
      exact cc_y124 hY hH hn hin hb h2 (fun x _ => br_t rfl (cc_y181n (skip (cc_BX_n c))))
    refine br_f (nI_ge (by omega) (by omega)) ⟨vp_in_nI hl (by decide), br_f (by rw [ecs]; exact (hR _).mpr (Or.inl hR0)) (cc_b1w (cc_sh1 (by omega) (by omega)) (fun c1 => cc_bw (cc_sh1 (by omega) (by omega)) (fun c2 => ⟨w8, ?_⟩) (fun c2 => no (fun z => by rw [z.2.1] at c2; exact absurd c2 (by decide)))) (fun c1 => no (fun z => c1 z.1)))⟩
    have hdl := cc_dle (ea i) St
    refine pk_eq (cc_d (ea i) St) 0 (fun c3 => ?_) (fun c3 => no (fun z => c3 ((cc_d0 (by omega)).mpr z.2.2))) (by rw [ec, g5, cc_dif]) rfl (by omega) (by decide)
    have c2 := cc_f c2
    have c3 := (cc_d0 (show ea i < 2 ^ 32 by omega)).mp c3
    refine cc_y124 hY hH hn hin hb h2 (fun x hx => br_f (by decide) ⟨by decide, ?_⟩)
    have er : nI (cc_EY St p q) - nI (cc_EY St p q) / 81 * 81 = nI (9 * cc_y p + cc_y q) := by
      have t : nI (cc_EY St p q) - nI (cc_EY St p q) / 81 * 81 = nI (cc_EY St p q % 81) := pk_rem (by omega) (by decide) (by decide)
      rw [t, cc_EYr hp hq]
    rw [er]
    refine cc_yaft hY hH hn hin hp hq hx (fun hw => ?_) (fun hw hj => ?_) (fun hw hj hne => ?_)
    · have q1 : (if ce i = 0 then i else p) ≤ 7 := by split <;> omega
      have q2 : (if ce i = 0 then q else i) ≤ 7 := by split <;> omega
      exact cc_y181p (by omega) eS q1 q2 (add _ _ q1 q2 (cc_BX_w c1 c2 c3 hw))
    · exact cc_y181p (by omega) eS hp hq (add _ _ hp hq (cc_BX_r c1 c2 c3 hw (fun jk => hj ((hJ i c1).mpr jk))))
    · exact cc_y181n (skip (cc_BX_x hw ((hJ i c1).mp hj) hne))
theorem cc_yrow222 {post : Int32 → SY → Prop} {R : Nat → Int32} {Q : Prop} (hP : PS < 128) (hQ : Q ↔ ∃ c, c < 81 ∧ R (81 * PS + c) ≠ 0) (K : post (cc_b Q) (nI n, U, C, W, S, E, R, O)) :
    ∀ d j f, j + d = 81 → d < f → (∀ c, c < j → R (81 * PS + c) = 0) → wY_hasRow_222 post (nI PS) (nI n) U C W S E R O f (nI j) := by
  intro d
  induction d with
  | zero =>
    intro j f h1 h2 h
    obtain ⟨f, rfl⟩ : ∃ m, f = m + 1 := ⟨f - 1, by omega⟩
    have hj : j = 81 := by omega
    subst hj
    rw [cc_bf (fun z => by obtain ⟨c, hc, y⟩ := hQ.mp z; exact y (h c hc))] at K
    exact br_t (nI_le (a := 81) (Nat.le_refl _) (by decide)) K
  | succ d ih =>
    intro j f h1 h2 h
    obtain ⟨f, rfl⟩ : ∃ m, f = m + 1 := ⟨f - 1, by omega⟩
    have e : (81 : Int32) * nI PS + nI j = nI (81 * PS + j) := by
      have m81 : (81 : Int32) * nI PS = nI (81 * PS) := pk_mul 81 PS
      rw [m81, nI_add]
    have ec : ((81 : Int32) * nI PS + nI j).toNatClampNeg = 81 * PS + j := by rw [e]; exact nI_clamp (by omega)
    refine br_f (nI_ge (b := 81) (by omega) (by decide)) ⟨by rw [e]; exact vp_in_nI (by omega) (by decide), cc_if (d := R (81 * PS + j) = 0) (by rw [ec]) (fun z => nm_r (nI_1 j) (ih (j + 1) f (by omega) (by omega) (fun c hc => ?_))) (fun z => ?_)⟩
    · rcases Nat.lt_or_ge c j with y | y
      · exact h c y
      · have : c = j := by omega
        rw [this]; exact z
    · rw [cc_bt (hQ.mpr ⟨j, by omega, z⟩)] at K
      exact K
theorem cc_yrow47 {post : Int32 → SY → Prop} {x2 : Int32} {b : Nat} (hY : cc_Y n us ce wr so ea U C W S E) (hH : cc_H n us ce wr so ea) (hn : n ≤ 7) (hP : PS < 128) (hP0 : PS ≠ 0)
    (hPn : ∀ k, PS.testBit k = true → k < n) (hb : b < n) (h2 : x2 = cc_b al) (hJ : ∀ k, PS.testBit k = true → ((k = b ∨ (al ∧ us k = us b)) ↔ J k))
    (K : ∀ R', post (cc_b (cc_HR ce wr so ea PS J)) (nI n, U, C, W, S, E, R', O)) :
    ∀ d i f R, i + d = 10368 → d < f → cc_I (cc_T ce wr so ea PS J) cc_EY i (fun c => c < 10368 ∧ R c ≠ 0) →
    wY_hasRow_47 post (nI b) x2 (nI PS) (nI n) f (nI i) U C W S E R O := by
  intro d
  induction d with
  | zero =>
    intro i f R h1 h2 I
    obtain ⟨f, rfl⟩ : ∃ m, f = m + 1 := ⟨f - 1, by omega⟩
    have hi : i = 10368 := by omega
    subst hi
    refine br_t (nI_le (a := 10368) (Nat.le_refl _) (by decide)) ⟨82, cc_yrow222 hP ((cc_YF hP hP0 I).trans ?_) (K R) 81 0 82 (by omega) (by omega) (fun c hc => absurd hc (Nat.not_lt_zero _))⟩
    exact ⟨fun ⟨c, hc, _, y⟩ => ⟨c, hc, y⟩, fun ⟨c, hc, y⟩ => ⟨c, hc, by omega, y⟩⟩
  | succ d ih =>
    intro i f R h1 h2' I
    obtain ⟨f, rfl⟩ : ∃ m, f = m + 1 := ⟨f - 1, by omega⟩
    have hi : i < 10368 := by omega
    have ec : (nI i).toNatClampNeg = i := nI_clamp (by omega)
    have ed : nI i / 81 = nI (i / 81) := pk_div (by omega) (by decide) (by decide)
    refine br_f (nI_ge (b := 10368) hi (by decide)) ⟨by decide, nm_r ed ?_⟩
    by_cases z : R i = 0
    · have t := ih (i + 1) f R (by omega) (by omega) (cc_In (cc_EYm hP) I (fun y => y.2 z))
      exact ⟨1, br_c (fun _ => nm_r (nI_1 i) t) (fun _ => ⟨vp_in_nI hi (by decide), br_t (by rw [ec]; exact z) (nm_r (nI_1 i) t)⟩)⟩
    · obtain ⟨St, p, q, e, hR⟩ := I.1 i ⟨hi, z⟩
      have bb := cc_Tb hP hR
      rw [e] at z ⊢
      rw [cc_EYd bb.1.1 bb.1.2]
      refine ⟨n + 1, cc_yrow65 (R0 := R) hY hH hn hP hb h2 hJ bb.1.1 bb.1.2 bb.2 z (fun R' hR' => ?_) n 0 (n + 1) R (by omega) (by omega) (fun c => ⟨Or.inl, fun h => h.elim id (fun ⟨k, hk, _⟩ => absurd hk (Nat.not_lt_zero _))⟩)⟩
      rw [← e]
      refine ih (i + 1) f R' (by omega) (by omega) (cc_Iy cc_EYi (cc_Tbd hP) I e hR (fun c => ?_))
      constructor
      · rintro ⟨hc, y⟩
        rcases (hR' c).mp y with y | ⟨k, _, S', p', q', t, e'⟩
        · exact Or.inl ⟨hc, y⟩
        · exact Or.inr ⟨S', p', q', ⟨k, t⟩, e'⟩
      · rintro (⟨hc, y⟩ | ⟨S', p', q', ⟨k, t⟩, e'⟩)
        · exact ⟨hc, (hR' c).mpr (Or.inl y)⟩
        · have hR2 := cc_Rs hR (S' := S') (p' := p') (q' := q') ⟨k, t⟩
          have b2 := cc_Tb hP hR2
          have hS' : S' < 128 := Nat.lt_of_le_of_lt (cc_Tle hP hR2) hP
          exact ⟨by rw [e']; exact cc_EYlt hS' b2.1.1 b2.1.2, (hR' c).mpr (Or.inr ⟨k, hPn k t.1, S', p', q', t, e'⟩)⟩
theorem cc_yrow14 {post : Int32 → SY → Prop} {x2 : Int32} {b : Nat} (hY : cc_Y n us ce wr so ea U C W S E) (hH : cc_H n us ce wr so ea) (hn : n ≤ 7) (hP : PS < 128) (hP0 : PS ≠ 0)
    (hPn : ∀ k, PS.testBit k = true → k < n) (hb : b < n) (h2 : x2 = cc_b al) (hJ : ∀ k, PS.testBit k = true → ((k = b ∨ (al ∧ us k = us b)) ↔ J k))
    (K : ∀ R', post (cc_b (cc_HR ce wr so ea PS J)) (nI n, U, C, W, S, E, R', O)) :
    ∀ d i f R, i + d = 10368 → d < f → (∀ c, c < i → R c = 0) → wY_hasRow_14 post (nI b) x2 (nI PS) (nI n) f (nI i) U C W S E R O := by
  intro d
  induction d with
  | zero =>
    intro i f R h1 h2' h
    obtain ⟨f, rfl⟩ : ∃ m, f = m + 1 := ⟨f - 1, by omega⟩
    have hi : i = 10368 := by omega
    subst hi
    refine br_t (nI_le (a := 10368) (Nat.le_refl _) (by decide)) (nm_r (e' := upd R 80 1) rfl ⟨10369, ?_⟩)
    refine cc_yrow47 hY hH hn hP hP0 hPn hb h2 hJ K 10368 0 10369 (upd R 80 1) (by omega) (by omega) (cc_I80 (fun c => ?_))
    constructor
    · rintro ⟨hc, y⟩
      apply Classical.byContradiction
      intro z
      rw [pk_un z] at y
      exact y (h c hc)
    · rintro rfl
      exact ⟨by decide, by rw [pk_us]; decide⟩
  | succ d ih =>
    intro i f R h1 h2' h
    obtain ⟨f, rfl⟩ : ∃ m, f = m + 1 := ⟨f - 1, by omega⟩
    have ec : (nI i).toNatClampNeg = i := nI_clamp (by omega)
    refine br_f (nI_ge (b := 10368) (by omega) (by decide)) ⟨vp_in_nI (by omega) (by decide), nm_r (e' := upd R i 0) (by rw [ec, cc_nar0]) (nm_r (nI_1 i) (ih (i + 1) f _ (by omega) (by omega) (fun c hc => ?_)))⟩
    by_cases y : c = i
    · rw [y, pk_us]
    · rw [pk_un y]
      exact h c (by omega)
theorem cc_yrow {post : Int32 → SY → Prop} {x2 : Int32} {b : Nat} {R : Nat → Int32} (hY : cc_Y n us ce wr so ea U C W S E) (hH : cc_H n us ce wr so ea) (hn : n ≤ 7) (hb : b < n) (h2 : x2 = cc_b al)
    (hJ : ∀ k, (ea b ||| 2 ^ b).testBit k = true → ((k = b ∨ (al ∧ us k = us b)) ↔ J k))
    (K : ∀ R', post (cc_b (cc_HR ce wr so ea (ea b ||| 2 ^ b) J)) (nI n, U, C, W, S, E, R', O)) :
    wpY_hasRow post (nI n, U, C, W, S, E, R, O) (nI b) x2 := by
  have w8 : vp_in (nI b) 8 := vp_in_nI (by omega) (by decide)
  have ec : (nI b).toNatClampNeg = b := nI_clamp (by omega)
  obtain ⟨p1, p2, p3, p4⟩ := cc_past hH hn hb
  exact ⟨w8, nm_r (e' := nI (ea b ||| 2 ^ b)) (by rw [ec, (hY b hb).2.2.2.2, cc_bit b (by omega), cc_or]) ⟨10369, cc_yrow14 hY hH hn p1 p2 (fun k hk => by have := p3 k hk; omega) hb h2 hJ K 10368 0 10369 R (by omega) (by omega) (fun c hc => absurd hc (Nat.not_lt_zero _))⟩⟩
theorem cc_ywk {post : Int32 → SY → Prop} {b : Nat} {R : Nat → Int32} (hY : cc_Y n us ce wr so ea U C W S E) (hH : cc_H n us ce wr so ea) (hn : n ≤ 7) (hb : b < n)
    (K : ∀ R', post (cc_b (cc_WK ce wr so ea b)) (nI n, U, C, W, S, E, R', O)) : wpY_weak post (nI n, U, C, W, S, E, R, O) (nI b) := by
  have w8 : vp_in (nI b) 8 := vp_in_nI (by omega) (by decide)
  have ec : (nI b).toNatClampNeg = b := nI_clamp (by omega)
  unfold wpY_weak
  dsimp only
  refine cc_yMiss (by omega) (cc_br (fun z => ⟨w8, cc_bw (by rw [ec]; exact (hY b hb).2.2.1) (fun hw => ?_) (fun hw => ?_)⟩) (fun z => absurd ⟨b, hb, rfl⟩ z))
  · refine cc_yrow (al := False) (J := fun k => k = b) hY hH hn hb (cc_bf id).symm (fun k _ => ⟨fun z => z.elim id (fun y => y.1.elim), Or.inl⟩) (fun R' => cc_br (fun y => ?_) (fun y => ?_))
    · have k := K R'
      rw [cc_bf (p := cc_WK ce wr so ea b) (fun v => v.elim hw y)] at k
      exact k
    · have k := K R'
      rw [cc_bt (p := cc_WK ce wr so ea b) (Or.inr y)] at k
      exact k
  · have k := K R
    rw [cc_bt (p := cc_WK ce wr so ea b) (Or.inl hw)] at k
    exact k
theorem cc_ysk {post : Int32 → SY → Prop} {b : Nat} {R : Nat → Int32} (hY : cc_Y n us ce wr so ea U C W S E) (hH : cc_H n us ce wr so ea) (hn : n ≤ 7) (hb : b < n)
    (K : ∀ R', post (cc_b (cc_SK us ce wr so ea b)) (nI n, U, C, W, S, E, R', O)) : wpY_strong post (nI n, U, C, W, S, E, R, O) (nI b) := by
  unfold wpY_strong
  dsimp only
  refine cc_yMiss (by omega) (cc_br (fun z => ?_) (fun z => absurd ⟨b, hb, rfl⟩ z))
  refine cc_yrow (al := True) (J := fun k => us k = us b) hY hH hn hb (cc_bt trivial).symm (fun k _ => ⟨fun z => z.elim (fun e => by rw [e]) (fun y => y.2), fun z => Or.inr ⟨trivial, z⟩⟩) (fun R' => cc_br (fun y => ?_) (fun y => ?_))
  · have k := K R'
    rw [cc_bf (p := cc_SK us ce wr so ea b) y] at k
    exact k
  · have k := K R'
    rw [cc_bt (p := cc_SK us ce wr so ea b) y] at k
    exact k
end
