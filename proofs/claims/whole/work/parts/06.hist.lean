/-! adding an operation; the two pictures of a history -/
def cc_en (us ea : Nat → Nat) (user s : Nat) : Nat → Nat
  | 0 => 0
  | a + 1 => if us a = user ∨ a = s then cc_en us ea user s a ||| (ea a ||| 2 ^ a) else cc_en us ea user s a
def cc_u {α : Type} (f : Nat → α) (n : Nat) (x : α) : Nat → α := fun i => if i = n then x else f i
theorem cc_us {α : Type} (f : Nat → α) (n : Nat) (x : α) : cc_u f n x n = x := if_pos rfl
theorem cc_un {α : Type} (f : Nat → α) {n i : Nat} (x : α) (h : i ≠ n) : cc_u f n x i = f i := if_neg h
def cc_s (x : Nat) : Int32 := if x = 7 then -1 else nI x
theorem cc_s7 : cc_s 7 = -1 := rfl
theorem cc_sn {x : Nat} (h : x ≠ 7) : cc_s x = nI x := if_neg h
theorem cc_s_lt0 {x : Nat} (h : x ≤ 7) : cc_s x < 0 ↔ x = 7 := by
  by_cases e : x = 7
  · subst e; exact ⟨fun _ => rfl, fun _ => by decide⟩
  · rw [cc_sn e]; exact ⟨fun z => absurd z (nI_pos (by omega)), fun z => absurd z e⟩
theorem cc_s_eq {x y : Nat} (hx : x ≤ 7) (hy : y ≤ 7) : cc_s x = cc_s y ↔ x = y :=
  (by decide +kernel : ∀ x : Fin 8, ∀ y : Fin 8, cc_s x.val = cc_s y.val ↔ x.val = y.val) ⟨x, by omega⟩ ⟨y, by omega⟩
section
variable {us ce : Nat → Nat} {wr : Nat → Prop} {so ea : Nat → Nat} {n : Nat}
theorem cc_en_t {user s k : Nat} : ∀ i, (cc_en us ea user s i).testBit k = true ↔ ∃ a, a < i ∧ (us a = user ∨ a = s) ∧ ((ea a).testBit k = true ∨ a = k)
  | 0 => by
    show (0 : Nat).testBit k = true ↔ _
    rw [Nat.zero_testBit]
    exact ⟨fun h => absurd h (by decide), fun ⟨a, ha, _⟩ => absurd ha (Nat.not_lt_zero _)⟩
  | i + 1 => by
    have ih := cc_en_t (user := user) (s := s) (k := k) i
    by_cases c : us i = user ∨ i = s
    · have e : cc_en us ea user s (i + 1) = cc_en us ea user s i ||| (ea i ||| 2 ^ i) := if_pos c
      rw [e, cc_ot, cc_o2, ih]
      constructor
      · rintro (⟨a, h1, h2⟩ | h)
        · exact ⟨a, by omega, h2⟩
        · exact ⟨i, by omega, c, h⟩
      · rintro ⟨a, h1, h2, h3⟩
        rcases Nat.lt_or_ge a i with z | z
        · exact Or.inl ⟨a, z, h2, h3⟩
        · have : a = i := by omega
          subst this
          exact Or.inr h3
    · have e : cc_en us ea user s (i + 1) = cc_en us ea user s i := if_neg c
      rw [e, ih]
      constructor
      · rintro ⟨a, h1, h2⟩; exact ⟨a, by omega, h2⟩
      · rintro ⟨a, h1, h2, h3⟩
        rcases Nat.lt_or_ge a i with z | z
        · exact ⟨a, z, h2, h3⟩
        · have : a = i := by omega
          subst this
          exact absurd h2 c
theorem cc_en_lt (H : cc_H n us ce wr so ea) {user s : Nat} : ∀ i, i ≤ n → cc_en us ea user s i < 2 ^ i := fun i hi =>
  Nat.lt_pow_two_of_testBit _ (fun k hk => cc_f (fun z => by
    obtain ⟨a, h1, _, h3⟩ := (cc_en_t i).mp z
    rcases h3 with h3 | h3
    · have := cc_tl (H a (by omega)).2.2.1 h3
      omega
    · omega))
theorem cc_Hle {n' : Nat} (H : cc_H n us ce wr so ea) (h : n' ≤ n) : cc_H n' us ce wr so ea := fun i hi => H i (by omega)
theorem cc_Hadd (H : cc_H n us ce wr so ea) (hn : n ≤ 7) {user cell s : Nat} {w : Prop} (hu : user < 3) (hc : cell < 2) (hw : w → n < 7) (hs : s ≤ 7)
    (hr : ¬ w → s = 7 ∨ (s < n ∧ wr s ∧ ce s = cell)) :
    cc_H (n + 1) (cc_u us n user) (cc_u ce n cell) (cc_u wr n w) (cc_u so n s) (cc_u ea n (cc_en us ea user s n)) := by
  intro i hi
  rcases Nat.lt_or_ge i n with z | z
  · have ne : i ≠ n := by omega
    obtain ⟨h1, h2, h3, h4, h5, h6, h7⟩ := H i z
    rw [cc_un us _ ne, cc_un ce _ ne, cc_un wr _ ne, cc_un so _ ne, cc_un ea _ ne]
    refine ⟨h1, h2, h3, ?_, h5, h6, ?_⟩
    · intro j hj k hk
      have jl := cc_tl h3 hj
      rw [cc_un ea _ (by omega)] at hk
      exact h4 j hj k hk
    · intro hwi
      rcases h7 hwi with a | ⟨a, b, c, d, e⟩
      · exact Or.inl a
      · rw [cc_un wr _ (by omega), cc_un ce _ (by omega)]
        exact Or.inr ⟨a, b, c, d, e⟩
  · have e : i = n := by omega
    subst e
    rw [cc_us, cc_us, cc_us, cc_us, cc_us]
    refine ⟨hu, hc, cc_en_lt H i (Nat.le_refl _), ?_, hs, hw, ?_⟩
    · intro j hj k hk
      have jl := cc_tl (cc_en_lt H i (Nat.le_refl _)) hj
      rw [cc_un ea _ (by omega)] at hk
      obtain ⟨a, h1, h2, h3⟩ := (cc_en_t i).mp hj
      refine (cc_en_t i).mpr ⟨a, h1, h2, Or.inl ?_⟩
      rcases h3 with h3 | h3
      · exact (H a h1).2.2.2.1 j h3 k hk
      · rw [h3]; exact hk
    · intro hwi
      rcases hr hwi with a | ⟨a, b, c⟩
      · exact Or.inl a
      · rw [cc_un wr _ (by omega), cc_un ce _ (by omega)]
        exact Or.inr ⟨a, by omega, b, c, (cc_en_t i).mpr ⟨s, a, Or.inr rfl, Or.inr rfl⟩⟩
end
def cc_X (n : Nat) (us ce : Nat → Nat) (wr : Nat → Prop) (so ea : Nat → Nat) (aU aC aW aS aP : Nat → Int32) : Prop :=
  ∀ i, i < n → aU i = nI (us i) ∧ aC i = nI (ce i) ∧ aW i = cc_b (wr i) ∧ aS i = nI (so i) ∧ aP i = nI (ea i ||| 2 ^ i)
def cc_Y (n : Nat) (us ce : Nat → Nat) (wr : Nat → Prop) (so ea : Nat → Nat) (aU aC aW aS aE : Nat → Int32) : Prop :=
  ∀ i, i < n → aU i = nI (us i) ∧ aC i = nI (ce i) ∧ aW i = cc_b (wr i) ∧ aS i = cc_s (so i) ∧ aE i = nI (ea i)
section
variable {us ce : Nat → Nat} {wr : Nat → Prop} {so ea : Nat → Nat} {n : Nat} {aU aC aW aS aP : Nat → Int32}
theorem cc_Xle {n' : Nat} (h : cc_X n us ce wr so ea aU aC aW aS aP) (hn : n' ≤ n) : cc_X n' us ce wr so ea aU aC aW aS aP := fun i hi => h i (by omega)
theorem cc_Yle {n' : Nat} (h : cc_Y n us ce wr so ea aU aC aW aS aP) (hn : n' ≤ n) : cc_Y n' us ce wr so ea aU aC aW aS aP := fun i hi => h i (by omega)
theorem cc_Xadd (h : cc_X n us ce wr so ea aU aC aW aS aP) (user cell s e : Nat) (w : Prop) {x1 x2 x3 x4 x5 : Int32}
    (e1 : x1 = nI user) (e2 : x2 = nI cell) (e3 : x3 = cc_b w) (e4 : x4 = nI s) (e5 : x5 = nI (e ||| 2 ^ n)) :
    cc_X (n + 1) (cc_u us n user) (cc_u ce n cell) (cc_u wr n w) (cc_u so n s) (cc_u ea n e) (upd aU n x1) (upd aC n x2) (upd aW n x3) (upd aS n x4) (upd aP n x5) := by
  intro i hi
  rcases Nat.lt_or_ge i n with z | z
  · have ne : i ≠ n := by omega
    rw [cc_un us _ ne, cc_un ce _ ne, cc_un wr _ ne, cc_un so _ ne, cc_un ea _ ne, pk_un ne, pk_un ne, pk_un ne, pk_un ne, pk_un ne]
    exact h i z
  · have e : i = n := by omega
    subst e
    rw [cc_us, cc_us, cc_us, cc_us, cc_us, pk_us, pk_us, pk_us, pk_us, pk_us]
    exact ⟨e1, e2, e3, e4, e5⟩
theorem cc_Yadd (h : cc_Y n us ce wr so ea aU aC aW aS aP) (user cell s e : Nat) (w : Prop) {x1 x2 x3 x4 x5 : Int32}
    (e1 : x1 = nI user) (e2 : x2 = nI cell) (e3 : x3 = cc_b w) (e4 : x4 = cc_s s) (e5 : x5 = nI e) :
    cc_Y (n + 1) (cc_u us n user) (cc_u ce n cell) (cc_u wr n w) (cc_u so n s) (cc_u ea n e) (upd aU n x1) (upd aC n x2) (upd aW n x3) (upd aS n x4) (upd aP n x5) := by
  intro i hi
  rcases Nat.lt_or_ge i n with z | z
  · have ne : i ≠ n := by omega
    rw [cc_un us _ ne, cc_un ce _ ne, cc_un wr _ ne, cc_un so _ ne, cc_un ea _ ne, pk_un ne, pk_un ne, pk_un ne, pk_un ne, pk_un ne]
    exact h i z
  · have e : i = n := by omega
    subst e
    rw [cc_us, cc_us, cc_us, cc_us, cc_us, pk_us, pk_us, pk_us, pk_us, pk_us]
    exact ⟨e1, e2, e3, e4, e5⟩
theorem cc_Xup (h : cc_X n us ce wr so ea aU aC aW aS aP) {x1 x2 x3 x4 x5 : Int32} :
    cc_X n us ce wr so ea (upd aU n x1) (upd aC n x2) (upd aW n x3) (upd aS n x4) (upd aP n x5) := by
  intro i hi
  have ne : i ≠ n := by omega
  rw [pk_un ne, pk_un ne, pk_un ne, pk_un ne, pk_un ne]
  exact h i hi
theorem cc_Yup (h : cc_Y n us ce wr so ea aU aC aW aS aP) {x1 x2 x3 x4 x5 : Int32} :
    cc_Y n us ce wr so ea (upd aU n x1) (upd aC n x2) (upd aW n x3) (upd aS n x4) (upd aP n x5) := by
  intro i hi
  have ne : i ≠ n := by omega
  rw [pk_un ne, pk_un ne, pk_un ne, pk_un ne, pk_un ne]
  exact h i hi
end
