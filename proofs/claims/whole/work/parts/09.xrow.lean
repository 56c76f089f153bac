/-! the component's extendRow and hasRow -/
theorem cc_i8 {S p q c : Nat} (hS : S < 128) (hp : p ≤ 7) (hq : q ≤ 7) (hc : c < 2) :
    (nI (cc_EX S p q) >>> ((nI c * 3) &&& 31)) &&& 7 = nI (if c = 0 then p else q) := by
  have hl := cc_EXlt hS hp hq
  have e0 : c = 0 ∨ c = 1 := by omega
  rcases e0 with rfl | rfl
  · rw [show nI 0 * 3 = nI 0 by decide +kernel, cc_sh (by omega) (by decide), pk_andN (Nat.lt_of_le_of_lt (Nat.div_le_self _ _) (by omega)) 3 (by decide +kernel)]
    show nI (cc_EX S p q / 1 % 8) = nI p
    rw [Nat.div_one, cc_EXp hp]
  · rw [show nI 1 * 3 = nI 3 by decide +kernel, cc_sh (by omega) (by decide), pk_andN (Nat.lt_of_le_of_lt (Nat.div_le_self _ _) (by omega)) 3 (by decide +kernel)]
    show nI (cc_EX S p q / 8 % 8) = nI q
    rw [cc_EXq hp hq]
theorem cc_i9 {S p q k : Nat} (hp : p ≤ 7) (hq : q ≤ 7) (hk : k < 7) :
    nI (cc_EX S p q) ||| (nI (2 ^ k) <<< ((6 : Int32) &&& 31)) = nI (cc_EX (S ||| 2 ^ k) p q) := by
  have h2 : 2 ^ k < 2 ^ 7 := cc_p2 hk
  have e : nI (2 ^ k) <<< ((6 : Int32) &&& 31) = nI (2 ^ k * 64) := cc_shl (s := 2 ^ k) (w := 6) (by decide) (by omega)
  rw [e, cc_or]
  unfold cc_EX
  rw [cc_long (by omega)]
theorem cc_iw {S p q k c : Nat} (hS : S < 128) (hp : p ≤ 7) (hq : q ≤ 7) (hk : k ≤ 7) (hc : c < 2) :
    (nI (cc_EX S p q) &&& (((7 : Int32) <<< ((nI c * 3) &&& 31)) ^^^ (-1))) ||| (nI k <<< ((nI c * 3) &&& 31)) = nI (cc_EX S (if c = 0 then k else p) (if c = 0 then q else k)) := by
  have e0 : c = 0 ∨ c = 1 := by omega
  rcases e0 with rfl | rfl
  · have e : nI k <<< (nI 0 &&& 31) = nI (k * 1) := cc_shl (s := k) (w := 0) (by decide) (by omega)
    rw [show nI 0 * 3 = nI 0 by decide +kernel, show (7 : Int32) <<< (nI 0 &&& 31) = nI 7 by decide +kernel, e, cc_dif, cc_or, Nat.mul_one]
    exact congrArg nI (cc_w0 hS hq hp hk)
  · have e : nI k <<< (nI 3 &&& 31) = nI (k * 8) := cc_shl (s := k) (w := 3) (by decide) (by omega)
    rw [show nI 1 * 3 = nI 3 by decide +kernel, show (7 : Int32) <<< (nI 3 &&& 31) = nI 56 by decide +kernel, e, cc_dif, cc_or]
    exact congrArg nI (cc_w3 hS hq hp hk)
theorem cc_inv_add {R0 R : Nat → Int32} {B : Nat → Nat → Prop} {i c0 : Nat} (h : ∀ c, R c ≠ 0 ↔ R0 c ≠ 0 ∨ ∃ k, k < i ∧ B k c) (hB : ∀ c, B i c ↔ c = c0) :
    ∀ c, upd R c0 1 c ≠ 0 ↔ R0 c ≠ 0 ∨ ∃ k, k < i + 1 ∧ B k c := by
  intro c
  by_cases e : c = c0
  · subst e
    rw [pk_us]
    exact ⟨fun _ => Or.inr ⟨i, by omega, (hB c).mpr rfl⟩, fun _ => by decide⟩
  · rw [pk_un e, h c]
    constructor
    · rintro (a | ⟨k, hk, b⟩)
      · exact Or.inl a
      · exact Or.inr ⟨k, by omega, b⟩
    · rintro (a | ⟨k, hk, b⟩)
      · exact Or.inl a
      · rcases Nat.lt_or_ge k i with z | z
        · exact Or.inr ⟨k, z, b⟩
        · have : k = i := by omega
          subst this
          exact absurd ((hB c).mp b) e
theorem cc_inv_skip {R0 R : Nat → Int32} {B : Nat → Nat → Prop} {i : Nat} (h : ∀ c, R c ≠ 0 ↔ R0 c ≠ 0 ∨ ∃ k, k < i ∧ B k c) (hB : ∀ c, ¬ B i c) :
    ∀ c, R c ≠ 0 ↔ R0 c ≠ 0 ∨ ∃ k, k < i + 1 ∧ B k c := by
  intro c
  rw [h c]
  constructor
  · rintro (a | ⟨k, hk, b⟩)
    · exact Or.inl a
    · exact Or.inr ⟨k, by omega, b⟩
  · rintro (a | ⟨k, hk, b⟩)
    · exact Or.inl a
    · rcases Nat.lt_or_ge k i with z | z
      · exact Or.inr ⟨k, z, b⟩
      · have : k = i := by omega
        subst this
        exact absurd b (hB c)
section
variable {us ce : Nat → Nat} {wr : Nat → Prop} {so ea : Nat → Nat} {PS : Nat} {J : Nat → Prop}
/-- what k makes of the state, as a code -/
def cc_BX (ce : Nat → Nat) (wr : Nat → Prop) (so ea : Nat → Nat) (PS : Nat) (J : Nat → Prop) (E : Nat → Nat → Nat → Nat) (St p q k c : Nat) : Prop :=
  ∃ S' p' q', cc_T1 ce wr so ea PS J k St p q S' p' q' ∧ c = E S' p' q'
theorem cc_BX_w {E : Nat → Nat → Nat → Nat} {St p q k : Nat} (h1 : PS.testBit k = true) (h2 : St.testBit k = false) (h3 : ∀ j, (ea k).testBit j = true → St.testBit j = true) (hw : wr k) (c : Nat) :
    cc_BX ce wr so ea PS J E St p q k c ↔ c = E (St ||| 2 ^ k) (if ce k = 0 then k else p) (if ce k = 0 then q else k) := by
  constructor
  · rintro ⟨S', p', q', ⟨_, _, _, rfl, h4⟩, rfl⟩
    rcases h4 with ⟨_, rfl, rfl⟩ | ⟨z, _⟩
    · rfl
    · exact absurd hw z
  · intro e
    exact ⟨_, _, _, ⟨h1, h2, h3, rfl, Or.inl ⟨hw, rfl, rfl⟩⟩, e⟩
theorem cc_BX_r {E : Nat → Nat → Nat → Nat} {St p q k : Nat} (h1 : PS.testBit k = true) (h2 : St.testBit k = false) (h3 : ∀ j, (ea k).testBit j = true → St.testBit j = true) (hw : ¬ wr k)
    (hJ : J k → (if ce k = 0 then p else q) = so k) (c : Nat) :
    cc_BX ce wr so ea PS J E St p q k c ↔ c = E (St ||| 2 ^ k) p q := by
  constructor
  · rintro ⟨S', p', q', ⟨_, _, _, rfl, h4⟩, rfl⟩
    rcases h4 with ⟨z, _⟩ | ⟨_, _, rfl, rfl⟩
    · exact absurd z hw
    · rfl
  · intro e
    exact ⟨_, _, _, ⟨h1, h2, h3, rfl, Or.inr ⟨hw, hJ, rfl, rfl⟩⟩, e⟩
theorem cc_BX_n {E : Nat → Nat → Nat → Nat} {St p q k : Nat} (h : ¬ (PS.testBit k = true ∧ St.testBit k = false ∧ ∀ j, (ea k).testBit j = true → St.testBit j = true)) (c : Nat) :
    ¬ cc_BX ce wr so ea PS J E St p q k c := by
  rintro ⟨S', p', q', ⟨a, b, d, _⟩, _⟩
  exact h ⟨a, b, d⟩
theorem cc_BX_x {E : Nat → Nat → Nat → Nat} {St p q k : Nat} (hw : ¬ wr k) (hJ : J k) (hne : (if ce k = 0 then p else q) ≠ so k) (c : Nat) :
    ¬ cc_BX ce wr so ea PS J E St p q k c := by
  rintro ⟨S', p', q', ⟨_, _, _, _, h4⟩, _⟩
  rcases h4 with ⟨z, _⟩ | ⟨_, z, _⟩
  · exact hw z
  · exact hne (z hJ)
end
section
variable {us ce : Nat → Nat} {wr : Nat → Prop} {so ea : Nat → Nat} {n : Nat} {U C W S A M : Nat → Int32} {PS jd : Nat} {J : Nat → Prop}
theorem cc_xext13 {post : SX → Prop} {R0 : Nat → Int32} {St p q : Nat} (hX : cc_X n us ce wr so ea U C W S A) (hH : cc_H n us ce wr so ea) (hn : n ≤ 7) (hP : PS < 128)
    (hPn : ∀ k, PS.testBit k = true → k < n) (hPd : ∀ k, PS.testBit k = true → ∀ j, (ea k).testBit j = true → PS.testBit j = true)
    (hj : jd < 2 ^ 31) (hJ : ∀ k, PS.testBit k = true → ¬ wr k → (jd.testBit k = true ↔ J k)) (hp : p ≤ 7) (hq : q ≤ 7) (hS : ∀ j, St.testBit j = true → PS.testBit j = true)
    (K : ∀ R', (∀ c, R' c ≠ 0 ↔ R0 c ≠ 0 ∨ ∃ k, k < 7 ∧ cc_BX ce wr so ea PS J cc_EX St p q k c) → post (nI n, U, C, W, S, A, M, R')) :
    ∀ d i f R, i + d = 7 → d < f → (∀ c, R c ≠ 0 ↔ R0 c ≠ 0 ∨ ∃ k, k < i ∧ cc_BX ce wr so ea PS J cc_EX St p q k c) →
    wX_extendRow_13 post (nI (cc_EX St p q)) (nI jd) (nI (cc_d PS St)) (nI n) f (nI i) U C W S A M R := by
  have hSt : St < 128 := Nat.lt_of_le_of_lt (Nat.le_of_testBit hS) hP
  have hd : cc_d PS St < 2 ^ 31 := Nat.lt_of_le_of_lt (cc_dle _ _) (by omega)
  intro d
  induction d with
  | zero =>
    intro i f R h1 h2 hR
    obtain ⟨f, rfl⟩ : ∃ m, f = m + 1 := ⟨f - 1, by omega⟩
    have hi : i = 7 := by omega
    subst hi
    exact br_t (nI_le (a := 7) (Nat.le_refl _) (by decide)) (K R hR)
  | succ d ih =>
    intro i f R h1 h2 hR
    obtain ⟨f, rfl⟩ : ∃ m, f = m + 1 := ⟨f - 1, by omega⟩
    have hi7 : i < 7 := by omega
    have w8 : vp_in (nI i) 8 := vp_in_nI (by omega) (by decide)
    have ec : (nI i).toNatClampNeg = i := nI_clamp (by omega)
    have h2i : 2 ^ i < 2 ^ 7 := cc_p2 hi7
    have skip : (∀ c, ¬ cc_BX ce wr so ea PS J cc_EX St p q i c) → wX_extendRow_13 post (nI (cc_EX St p q)) (nI jd) (nI (cc_d PS St)) (nI n) f (nI (i + 1)) U C W S A M R :=
      fun hB => ih (i + 1) f R (by omega) (by omega) (cc_inv_skip hR hB)
    have add : ∀ c0, c0 < 8192 → (∀ c, cc_BX ce wr so ea PS J cc_EX St p q i c ↔ c = c0) →
        vp_in (nI c0) 8192 ∧ ∀ y, y = upd R (nI c0).toNatClampNeg (vp_nar .boolean 1) → ∀ x, x = nI i + 1 → wX_extendRow_13 post (nI (cc_EX St p q)) (nI jd) (nI (cc_d PS St)) (nI n) f x U C W S A M y :=
      fun c0 h0 hB => ⟨vp_in_nI h0 (by decide), nm_r (e' := upd R c0 1) (by rw [nI_clamp (by omega), cc_nar1]) (nm_r (nI_1 i) (ih (i + 1) f _ (by omega) (by omega) (cc_inv_add hR hB)))⟩
    refine br_f (nI_ge (b := 7) hi7 (by decide)) (nm_r (cc_bit i (by omega)) (cc_xHas hd (by omega) (cc_br (fun z => ?_) (fun z => ?_))))
    · refine nm_r (nI_1 i) (skip (cc_BX_n (fun y => z ?_)))
      rw [cc_dt (by omega), y.1, y.2.1]
      rfl
    · have z' : PS.testBit i = true ∧ St.testBit i = false := by
        rw [cc_dt (by omega), Bool.and_eq_true] at z
        refine ⟨z.1, ?_⟩
        cases e : St.testBit i with
        | false => rfl
        | true => rw [e] at z; exact absurd z.2 (by decide)
      have hin : i < n := hPn i z'.1
      obtain ⟨_, g2, g3, g4, g5⟩ := hX i hin
      obtain ⟨_, b2, b3, _, b5, _, _⟩ := hH i hin
      have eS : St ||| 2 ^ i < 128 := Nat.or_lt_two_pow (n := 7) hSt h2i
      refine ⟨w8, cc_if (d := ∀ j, (ea i).testBit j = true → St.testBit j = true) ?_ (fun hsub => ?_) (fun hns => nm_r (nI_1 i) (skip (cc_BX_n (fun y => hns y.2.2))))⟩
      · rw [ec, g5, cc_and, nI_eq (Nat.lt_of_le_of_lt Nat.and_le_right (by omega)) (by omega)]
        exact cc_x1 hP z'.1 z'.2 (hPd i z'.1) b3
      · refine ⟨w8, nm_r (e' := nI (ce i) * 3) (by rw [ec, g2]) (nm_r (cc_i8 hSt hp hq b2) (nm_r (cc_i9 hp hq hi7) ⟨w8, cc_bw (by rw [ec]; exact g3) (fun hw => ?_) (fun hw => ?_)⟩))⟩
        · refine cc_xHas hj (by omega) (cc_br (fun y => ?_) (fun y => ⟨w8, pk_eq (if ce i = 0 then p else q) (so i) (fun eq => ?_) (fun ne => ?_) rfl (by rw [ec]; exact g4) (by split <;> omega) (by omega)⟩))
          · exact add _ (cc_EXlt eS hp hq) (cc_BX_r z'.1 z'.2 hsub hw (fun jk => absurd ((hJ i z'.1 hw).mpr jk) y))
          · exact add _ (cc_EXlt eS hp hq) (cc_BX_r z'.1 z'.2 hsub hw (fun _ => eq))
          · exact nm_r (nI_1 i) (skip (cc_BX_x hw ((hJ i z'.1 hw).mp y) ne))
        · rw [cc_iw eS hp hq (by omega) b2]
          exact add _ (cc_EXlt eS (by split <;> omega) (by split <;> omega)) (cc_BX_w z'.1 z'.2 hsub hw)
theorem cc_xext {post : SX → Prop} {R : Nat → Int32} {St p q : Nat} (hX : cc_X n us ce wr so ea U C W S A) (hH : cc_H n us ce wr so ea) (hn : n ≤ 7) (hP : PS < 128)
    (hPn : ∀ k, PS.testBit k = true → k < n) (hPd : ∀ k, PS.testBit k = true → ∀ j, (ea k).testBit j = true → PS.testBit j = true)
    (hj : jd < 2 ^ 31) (hJ : ∀ k, PS.testBit k = true → ¬ wr k → (jd.testBit k = true ↔ J k)) (hp : p ≤ 7) (hq : q ≤ 7) (hS : ∀ j, St.testBit j = true → PS.testBit j = true)
    (K : ∀ R', (∀ c, R' c ≠ 0 ↔ R c ≠ 0 ∨ ∃ k, k < 7 ∧ cc_BX ce wr so ea PS J cc_EX St p q k c) → post (nI n, U, C, W, S, A, M, R')) :
    wpX_extendRow post (nI n, U, C, W, S, A, M, R) (nI (cc_EX St p q)) (nI PS) (nI jd) := by
  have hSt : St < 128 := Nat.lt_of_le_of_lt (Nat.le_of_testBit hS) hP
  have hl := cc_EXlt hSt hp hq
  refine nm_r (e' := nI (cc_d PS St)) ?_ ⟨8, cc_xext13 (R0 := R) hX hH hn hP hPn hPd hj hJ hp hq hS K 7 0 8 R (by omega) (by omega) (fun c => ⟨Or.inl, fun h => h.elim id (fun ⟨k, hk, _⟩ => absurd hk (Nat.not_lt_zero _))⟩)⟩
  have e : nI (cc_EX St p q) >>> ((6 : Int32) &&& 31) = nI (cc_EX St p q / 64) := cc_sh (w := 6) (by omega) (by decide)
  rw [e, cc_EX6 hp hq, cc_dif]
theorem cc_xrow72 {post : Int32 → SX → Prop} {R : Nat → Int32} {Q : Prop} (hP : PS < 128) (hQ : Q ↔ ∃ c, c < 64 ∧ R (PS * 64 + c) ≠ 0) (K : post (cc_b Q) (nI n, U, C, W, S, A, M, R)) :
    ∀ d j f, j + d = 64 → d < f → (∀ c, c < j → R (PS * 64 + c) = 0) → wX_hasRow_72 post (nI (PS * 64)) (nI n) U C W S A M R f (nI j) := by
  intro d
  induction d with
  | zero =>
    intro j f h1 h2 h
    obtain ⟨f, rfl⟩ : ∃ m, f = m + 1 := ⟨f - 1, by omega⟩
    have hj : j = 64 := by omega
    subst hj
    rw [cc_bf (fun z => by obtain ⟨c, hc, y⟩ := hQ.mp z; exact y (h c hc))] at K
    exact br_t (nI_le (a := 64) (Nat.le_refl _) (by decide)) K
  | succ d ih =>
    intro j f h1 h2 h
    obtain ⟨f, rfl⟩ : ∃ m, f = m + 1 := ⟨f - 1, by omega⟩
    have e : nI (PS * 64) + nI j = nI (PS * 64 + j) := nI_add _ _
    have ec : (nI (PS * 64) + nI j).toNatClampNeg = PS * 64 + j := by rw [e]; exact nI_clamp (by omega)
    refine br_f (nI_ge (b := 64) (by omega) (by decide)) ⟨by rw [e]; exact vp_in_nI (by omega) (by decide), cc_if (d := R (PS * 64 + j) = 0) (by rw [ec]) (fun z => nm_r (nI_1 j) (ih (j + 1) f (by omega) (by omega) (fun c hc => ?_))) (fun z => ?_)⟩
    · rcases Nat.lt_or_ge c j with y | y
      · exact h c y
      · have : c = j := by omega
        rw [this]; exact z
    · rw [cc_bt (hQ.mpr ⟨j, by omega, z⟩)] at K
      exact K
theorem cc_xrow39 {post : Int32 → SX → Prop} (hX : cc_X n us ce wr so ea U C W S A) (hH : cc_H n us ce wr so ea) (hn : n ≤ 7) (hP : PS < 128) (hP0 : PS ≠ 0)
    (hPn : ∀ k, PS.testBit k = true → k < n) (hPd : ∀ k, PS.testBit k = true → ∀ j, (ea k).testBit j = true → PS.testBit j = true)
    (hj : jd < 2 ^ 31) (hJ : ∀ k, PS.testBit k = true → ¬ wr k → (jd.testBit k = true ↔ J k))
    (K : ∀ R', post (cc_b (cc_HR ce wr so ea PS J)) (nI n, U, C, W, S, A, M, R')) :
    ∀ d i f R, i + d = PS * 64 → d < f → cc_I (cc_T ce wr so ea PS J) cc_EX i (fun c => c < 8192 ∧ R c ≠ 0) →
    wX_hasRow_39 post (nI PS) (nI jd) (nI (PS * 64)) f (nI i) (nI n) U C W S A M R := by
  intro d
  induction d with
  | zero =>
    intro i f R h1 h2 I
    obtain ⟨f, rfl⟩ : ∃ m, f = m + 1 := ⟨f - 1, by omega⟩
    have hi : i = PS * 64 := by omega
    subst hi
    refine br_t (nI_le (Nat.le_refl _) (by omega)) ⟨65, cc_xrow72 hP ((cc_XF hP hP0 I).trans ?_) (K R) 64 0 65 (by omega) (by omega) (fun c hc => absurd hc (Nat.not_lt_zero _))⟩
    exact ⟨fun ⟨c, hc, _, y⟩ => ⟨c, hc, y⟩, fun ⟨c, hc, y⟩ => ⟨c, hc, by omega, y⟩⟩
  | succ d ih =>
    intro i f R h1 h2 I
    obtain ⟨f, rfl⟩ : ∃ m, f = m + 1 := ⟨f - 1, by omega⟩
    have hi : i < 8192 := by omega
    have ec : (nI i).toNatClampNeg = i := nI_clamp (by omega)
    refine br_f (nI_ge (by omega) (by omega)) ⟨vp_in_nI hi (by decide), cc_if (d := R i = 0) (by rw [ec]) (fun z => nm_r (nI_1 i) (ih (i + 1) f R (by omega) (by omega) (cc_In (cc_EXm hP) I (fun y => y.2 z)))) (fun z => ?_)⟩
    obtain ⟨St, p, q, e, hR⟩ := I.1 i ⟨hi, z⟩
    have b := cc_Tb hP hR
    have main : wpX_extendRow (fun u => match u with | (f_held_14, a_userOf_15, a_cellOf_16, a_isWrite_17, a_sourceOf_18, a_past_19, a_mustPrecede_20, a_reached_21) => (∀ x4_22 : Int32, x4_22 = nI i + 1 → (wX_hasRow_39 post (nI PS) (nI jd) (nI (PS * 64)) f x4_22 f_held_14 a_userOf_15 a_cellOf_16 a_isWrite_17 a_sourceOf_18 a_past_19 a_mustPrecede_20 a_reached_21))) (nI n, U, C, W, S, A, M, R) (nI (cc_EX St p q)) (nI PS) (nI jd) := by
      refine cc_xext hX hH hn hP hPn hPd hj hJ b.1.1 b.1.2 b.2 (fun R' hR' => nm_r (nI_1 i) (ih (i + 1) f R' (by omega) (by omega) (cc_Iy cc_EXi (cc_Tbd hP) I e hR (fun c => ?_))))
      constructor
      · rintro ⟨hc, y⟩
        rcases (hR' c).mp y with y | ⟨k, _, S', p', q', t, e'⟩
        · exact Or.inl ⟨hc, y⟩
        · exact Or.inr ⟨S', p', q', ⟨k, t⟩, e'⟩
      · rintro (⟨hc, y⟩ | ⟨S', p', q', ⟨k, t⟩, e'⟩)
        · exact ⟨hc, (hR' c).mpr (Or.inl y)⟩
        · have hR2 := cc_Rs hR (S' := S') (p' := p') (q' := q') ⟨k, t⟩
          have b2 := cc_Tb hP hR2
          have hS' : S' < 128 := Nat.lt_of_le_of_lt (cc_Tle hP hR2) hP
          exact ⟨by rw [e']; exact cc_EXlt hS' b2.1.1 b2.1.2, (hR' c).mpr (Or.inr ⟨k, cc_tl (n := 7) hP t.1, S', p', q', t, e'⟩)⟩
    rw [← e] at main
    exact main
theorem cc_xrow2 {post : Int32 → SX → Prop} (hX : cc_X n us ce wr so ea U C W S A) (hH : cc_H n us ce wr so ea) (hn : n ≤ 7) (hP : PS < 128) (hP0 : PS ≠ 0)
    (hPn : ∀ k, PS.testBit k = true → k < n) (hPd : ∀ k, PS.testBit k = true → ∀ j, (ea k).testBit j = true → PS.testBit j = true)
    (hj : jd < 2 ^ 31) (hJ : ∀ k, PS.testBit k = true → ¬ wr k → (jd.testBit k = true ↔ J k))
    (K : ∀ R', post (cc_b (cc_HR ce wr so ea PS J)) (nI n, U, C, W, S, A, M, R')) :
    ∀ d i f R, i + d = 8192 → d < f → (∀ c, c < i → R c = 0) → wX_hasRow_2 post (nI PS) (nI jd) (nI n) f (nI i) U C W S A M R := by
  intro d
  induction d with
  | zero =>
    intro i f R h1 h2 h
    obtain ⟨f, rfl⟩ : ∃ m, f = m + 1 := ⟨f - 1, by omega⟩
    have hi : i = 8192 := by omega
    subst hi
    have e : nI PS <<< ((6 : Int32) &&& 31) = nI (PS * 64) := cc_shl (s := PS) (w := 6) (by decide) (by omega)
    refine br_t (nI_le (a := 8192) (Nat.le_refl _) (by decide)) (nm_r (e' := upd R 63 1) rfl (nm_r e ⟨PS * 64 + 1, ?_⟩))
    refine cc_xrow39 hX hH hn hP hP0 hPn hPd hj hJ K (PS * 64 - 63) 63 (PS * 64 + 1) (upd R 63 1) (by omega) (by omega) (cc_I63 (fun c => ?_))
    constructor
    · rintro ⟨hc, y⟩
      apply Classical.byContradiction
      intro z
      rw [pk_un z] at y
      exact y (h c hc)
    · rintro rfl
      exact ⟨by decide, by rw [pk_us]; decide⟩
  | succ d ih =>
    intro i f R h1 h2 h
    obtain ⟨f, rfl⟩ : ∃ m, f = m + 1 := ⟨f - 1, by omega⟩
    have ec : (nI i).toNatClampNeg = i := nI_clamp (by omega)
    refine br_f (nI_ge (b := 8192) (by omega) (by decide)) ⟨vp_in_nI (by omega) (by decide), nm_r (e' := upd R i 0) (by rw [ec, cc_nar0]) (nm_r (nI_1 i) (ih (i + 1) f _ (by omega) (by omega) (fun c hc => ?_)))⟩
    by_cases y : c = i
    · rw [y, pk_us]
    · rw [pk_un y]
      exact h c (by omega)
theorem cc_xrow {post : Int32 → SX → Prop} {R : Nat → Int32} (hX : cc_X n us ce wr so ea U C W S A) (hH : cc_H n us ce wr so ea) (hn : n ≤ 7) (hP : PS < 128) (hP0 : PS ≠ 0)
    (hPn : ∀ k, PS.testBit k = true → k < n) (hPd : ∀ k, PS.testBit k = true → ∀ j, (ea k).testBit j = true → PS.testBit j = true)
    (hj : jd < 2 ^ 31) (hJ : ∀ k, PS.testBit k = true → ¬ wr k → (jd.testBit k = true ↔ J k))
    (K : ∀ R', post (cc_b (cc_HR ce wr so ea PS J)) (nI n, U, C, W, S, A, M, R')) :
    wpX_hasRow post (nI n, U, C, W, S, A, M, R) (nI PS) (nI jd) :=
  ⟨8193, cc_xrow2 hX hH hn hP hP0 hPn hPd hj hJ K 8192 0 8193 R (by omega) (by omega) (fun c hc => absurd hc (Nat.not_lt_zero _))⟩
end
