/-! counting bits, enumerations of a set, numbers of enumerations -/
def cc_n (L : Nat) : Nat → Nat
  | 0 => 0
  | k + 1 => cc_n L k + (L.testBit k).toNat
theorem cc_n_mono (L : Nat) {a b : Nat} (h : a ≤ b) : cc_n L a ≤ cc_n L b := by
  induction h with
  | refl => exact Nat.le_refl _
  | step _ ih => exact Nat.le_trans ih (Nat.le_add_right _ _)
theorem cc_n_lt {L w k : Nat} (h : L.testBit w = true) (hk : w < k) : cc_n L w < cc_n L k := by
  have a : cc_n L (w + 1) ≤ cc_n L k := cc_n_mono L hk
  have b : cc_n L (w + 1) = cc_n L w + 1 := by show cc_n L w + (L.testBit w).toNat = _; rw [h]; rfl
  omega
theorem cc_n_uniq {L w w' : Nat} (h : L.testBit w = true) (h' : L.testBit w' = true) (e : cc_n L w = cc_n L w') : w = w' := by
  rcases Nat.lt_trichotomy w w' with z | z | z
  · have := cc_n_lt h z; omega
  · exact z
  · have := cc_n_lt h' z; omega
theorem cc_n_0 {L k v : Nat} (h : cc_n L k = 0) (hv : v < k) : L.testBit v = false := by
  apply cc_f
  intro z
  have := cc_n_lt z hv
  omega
theorem cc_n_del {L w : Nat} (hL : L < 2 ^ 32) (h : L.testBit w = true) : ∀ k, cc_n (cc_d L (2 ^ w)) k + (if w < k then 1 else 0) = cc_n L k
  | 0 => by show 0 + _ = 0; rw [if_neg (Nat.not_lt_zero _)]
  | k + 1 => by
    have ih := cc_n_del hL h k
    show cc_n (cc_d L (2 ^ w)) k + ((cc_d L (2 ^ w)).testBit k).toNat + _ = cc_n L k + (L.testBit k).toNat
    rcases Nat.lt_trichotomy w k with z | z | z
    · have e : (cc_d L (2 ^ w)).testBit k = L.testBit k := by
        rw [cc_dt hL, Nat.testBit_two_pow_of_ne (by omega)]; simp
      rw [e, if_pos (by omega)]
      rw [if_pos z] at ih
      omega
    · subst z
      have e : (cc_d L (2 ^ w)).testBit w = false := by
        rw [cc_dt hL, Nat.testBit_two_pow_self]; simp
      rw [e, h, if_pos (by omega)]
      rw [if_neg (by omega)] at ih
      show _ + 0 + 1 = _ + 1
      omega
    · have e : (cc_d L (2 ^ w)).testBit k = L.testBit k := by
        rw [cc_dt hL, Nat.testBit_two_pow_of_ne (by omega)]; simp
      rw [e, if_neg (by omega)]
      rw [if_neg (by omega)] at ih
      omega
theorem cc_n_del8 {L w : Nat} (hL : L < 256) (h : L.testBit w = true) : cc_n (cc_d L (2 ^ w)) 8 + 1 = cc_n L 8 := by
  have := cc_n_del (by omega) h 8
  rw [if_pos (cc_tl (n := 8) hL h)] at this
  exact this
/-- what is left of W when the first j of σ have been taken out -/
def cc_L (W : Nat) (σ : Nat → Nat) : Nat → Nat
  | 0 => W
  | j + 1 => cc_d (cc_L W σ j) (2 ^ σ j)
theorem cc_L_le (W : Nat) (σ : Nat → Nat) : ∀ j, cc_L W σ j ≤ W
  | 0 => Nat.le_refl _
  | j + 1 => Nat.le_trans (cc_dle _ _) (cc_L_le W σ j)
theorem cc_L_t {W : Nat} (hW : W < 256) (σ : Nat → Nat) (v : Nat) : ∀ j, (cc_L W σ j).testBit v = true ↔ W.testBit v = true ∧ ∀ i, i < j → σ i ≠ v
  | 0 => ⟨fun h => ⟨h, fun i hi => absurd hi (Nat.not_lt_zero _)⟩, fun h => h.1⟩
  | j + 1 => by
    have hl := cc_L_le W σ j
    show (cc_d (cc_L W σ j) (2 ^ σ j)).testBit v = true ↔ _
    rw [cc_dm (by omega), cc_L_t hW σ v j]
    constructor
    · rintro ⟨⟨a, b⟩, c⟩
      refine ⟨a, fun i hi => ?_⟩
      rcases Nat.lt_or_ge i j with z | z
      · exact b i z
      · have e : i = j := by omega
        rw [e]; exact c
    · rintro ⟨a, b⟩
      exact ⟨⟨a, fun i hi => b i (by omega)⟩, b j (by omega)⟩
theorem cc_L_congr {W : Nat} {σ τ : Nat → Nat} : ∀ {j : Nat}, (∀ i, i < j → σ i = τ i) → cc_L W σ j = cc_L W τ j
  | 0, _ => rfl
  | j + 1, h => by
    show cc_d (cc_L W σ j) (2 ^ σ j) = cc_d (cc_L W τ j) (2 ^ τ j)
    rw [cc_L_congr (fun i hi => h i (by omega)), h j (by omega)]
theorem cc_L_shift {W w : Nat} {σ τ : Nat → Nat} (h0 : σ 0 = w) (hs : ∀ i, σ (i + 1) = τ i) : ∀ j, cc_L W σ (j + 1) = cc_L (cc_d W (2 ^ w)) τ j
  | 0 => by show cc_d W (2 ^ σ 0) = _; rw [h0]; rfl
  | j + 1 => by
    show cc_d (cc_L W σ (j + 1)) (2 ^ σ (j + 1)) = cc_d (cc_L (cc_d W (2 ^ w)) τ j) (2 ^ τ j)
    rw [cc_L_shift h0 hs j, hs]
/-- the first n of σ go through W -/
def cc_E (W : Nat) (σ : Nat → Nat) (n : Nat) : Prop := ∀ j, j < n → (cc_L W σ j).testBit (σ j) = true
theorem cc_E_cnt {W n : Nat} {σ : Nat → Nat} (hW : W < 256) (h : cc_E W σ n) : ∀ j, j ≤ n → cc_n (cc_L W σ j) 8 + j = cc_n W 8
  | 0, _ => rfl
  | j + 1, hj => by
    have ih := cc_E_cnt hW h j (by omega)
    have hl := cc_L_le W σ j
    have d := cc_n_del8 (by omega) (h j (by omega))
    show cc_n (cc_d (cc_L W σ j) (2 ^ σ j)) 8 + (j + 1) = _
    omega
theorem cc_E_in {W n : Nat} {σ : Nat → Nat} (hW : W < 256) (h : cc_E W σ n) {j : Nat} (hj : j < n) : W.testBit (σ j) = true :=
  ((cc_L_t hW σ _ j).mp (h j hj)).1
theorem cc_E_ne {W n : Nat} {σ : Nat → Nat} (hW : W < 256) (h : cc_E W σ n) {i j : Nat} (hi : i < j) (hj : j < n) : σ i ≠ σ j :=
  ((cc_L_t hW σ _ j).mp (h j hj)).2 i hi
theorem cc_E_inj {W n : Nat} {σ : Nat → Nat} (hW : W < 256) (h : cc_E W σ n) {i j : Nat} (hi : i < n) (hj : j < n) (e : σ i = σ j) : i = j := by
  rcases Nat.lt_trichotomy i j with z | z | z
  · exact absurd e (cc_E_ne hW h z hj)
  · exact z
  · exact absurd e.symm (cc_E_ne hW h z hi)
theorem cc_E_all {W n : Nat} {σ : Nat → Nat} (hW : W < 256) (h : cc_E W σ n) (hn : cc_n W 8 = n) {v : Nat} (hv : W.testBit v = true) : ∃ i, i < n ∧ σ i = v := by
  apply Classical.byContradiction
  intro z
  have c := cc_E_cnt hW h n (Nat.le_refl _)
  have c0 : cc_n (cc_L W σ n) 8 = 0 := by omega
  have t := cc_n_0 c0 (cc_tl (n := 8) hW hv)
  have u : (cc_L W σ n).testBit v = true := (cc_L_t hW σ v n).mpr ⟨hv, fun i hi e => z ⟨i, hi, e⟩⟩
  rw [t] at u
  exact absurd u (by decide)
def cc_r (n num : Nat) : Nat → Nat
  | 0 => num
  | j + 1 => cc_r n num j / (n - j)
def cc_fa : Nat → Nat
  | 0 => 1
  | n + 1 => cc_fa n * (n + 1)
theorem cc_r_shift (n num : Nat) : ∀ j, cc_r (n + 1) num (j + 1) = cc_r n (num / (n + 1)) j
  | 0 => rfl
  | j + 1 => by
    show cc_r (n + 1) num (j + 1) / (n + 1 - (j + 1)) = cc_r n (num / (n + 1)) j / (n - j)
    rw [cc_r_shift n num j, Nat.add_sub_add_right]
theorem cc_r_ex : ∀ (n : Nat) (d : Nat → Nat), (∀ j, j < n → d j < n - j) → ∃ num, num < cc_fa n ∧ ∀ j, j < n → cc_r n num j % (n - j) = d j
  | 0, _, _ => ⟨0, by decide, fun j hj => absurd hj (Nat.not_lt_zero _)⟩
  | n + 1, d, h => by
    obtain ⟨x, hx, hd⟩ := cc_r_ex n (fun j => d (j + 1)) (fun j hj => by have := h (j + 1) (by omega); show d (j + 1) < n - j; omega)
    have h0 := h 0 (by omega)
    have h0' : d 0 < n + 1 := by omega
    refine ⟨d 0 + (n + 1) * x, ?_, ?_⟩
    · show _ < cc_fa n * (n + 1)
      have a : (n + 1) * (x + 1) ≤ (n + 1) * cc_fa n := Nat.mul_le_mul_left _ hx
      have b : (n + 1) * (x + 1) = (n + 1) * x + (n + 1) := Nat.mul_succ _ _
      have c : (n + 1) * cc_fa n = cc_fa n * (n + 1) := Nat.mul_comm _ _
      omega
    · intro j hj
      cases j with
      | zero =>
        show (d 0 + (n + 1) * x) % (n + 1 - 0) = d 0
        rw [Nat.sub_zero, Nat.add_mul_mod_self_left, Nat.mod_eq_of_lt h0']
      | succ j =>
        rw [cc_r_shift, Nat.add_mul_div_left _ _ (Nat.succ_pos n), Nat.div_eq_of_lt h0', Nat.zero_add, Nat.add_sub_add_right]
        exact hd j (by omega)
/-- σ is what the number num stands for -/
def cc_S (W n num : Nat) (σ : Nat → Nat) : Prop :=
  ∀ j, j < n → (cc_L W σ j).testBit (σ j) = true ∧ cc_n (cc_L W σ j) (σ j) = cc_r n num j % (n - j)
theorem cc_S_E {W n num : Nat} {σ : Nat → Nat} (h : cc_S W n num σ) : cc_E W σ n := fun j hj => (h j hj).1
theorem cc_S_ex {W n : Nat} {τ : Nat → Nat} (hW : W < 256) (hn : cc_n W 8 = n) (h : cc_E W τ n) :
    ∃ num, num < cc_fa n ∧ ∀ σ, cc_S W n num σ → ∀ j, j < n → σ j = τ j := by
  obtain ⟨num, h1, h2⟩ := cc_r_ex n (fun j => cc_n (cc_L W τ j) (τ j)) (fun j hj => by
    have c := cc_E_cnt hW h j (by omega)
    have hl := cc_L_le W τ j
    have l := cc_n_lt (h j hj) (cc_tl (n := 8) (by omega) (h j hj))
    show cc_n (cc_L W τ j) (τ j) < n - j
    omega)
  refine ⟨num, h1, fun σ hσ => ?_⟩
  have key : ∀ k j, j < k → j < n → σ j = τ j := by
    intro k
    induction k with
    | zero => intro j hj; omega
    | succ k ih =>
      intro j hj hjn
      rcases Nat.lt_or_ge j k with z | z
      · exact ih j z hjn
      · have e : cc_L W σ j = cc_L W τ j := cc_L_congr (fun i hi => ih i (by omega) (by omega))
        have a := hσ j hjn
        rw [e, h2 j hjn] at a
        exact cc_n_uniq a.1 (h j hjn) a.2
  exact fun j hj => key (j + 1) j (by omega) hj
def cc_cons (w : Nat) (τ : Nat → Nat) : Nat → Nat
  | 0 => w
  | i + 1 => τ i
/-- where no part of W goes round in a ring, W has an order -/
theorem cc_ord {M : Nat → Nat → Prop} : ∀ (n L : Nat), L < 256 → cc_n L 8 = n →
    (∀ B : Nat → Prop, (∀ w, B w → L.testBit w = true) → (∀ w, B w → ∃ v, B v ∧ M w v) → ∀ w, ¬ B w) →
    ∃ τ, cc_E L τ n ∧ ∀ j, j < n → ∀ v, M (τ j) v → L.testBit v = true → ∃ i, i < j ∧ τ i = v
  | 0, L, _, _, _ => ⟨fun _ => 0, fun j hj => absurd hj (Nat.not_lt_zero _), fun j hj => absurd hj (Nat.not_lt_zero _)⟩
  | n + 1, L, hL, hn, hB => by
    have ex : ∃ w, L.testBit w = true ∧ ∀ v, L.testBit v = true → ¬ M w v := by
      apply Classical.byContradiction
      intro z
      have b := hB (fun w => L.testBit w = true) (fun w h => h) (fun w hw => by
        apply Classical.byContradiction
        intro y
        exact z ⟨w, hw, fun v hv hm => y ⟨v, hv, hm⟩⟩)
      have e : cc_n L 8 = 0 := by
        have : ∀ k, cc_n L k = 0 := by
          intro k
          induction k with
          | zero => rfl
          | succ k ih => show cc_n L k + (L.testBit k).toNat = 0; rw [ih, cc_f (b k)]; rfl
        exact this 8
      omega
    obtain ⟨w, hw, hm⟩ := ex
    have d := cc_n_del8 hL hw
    have hle := cc_dle L (2 ^ w)
    obtain ⟨τ, h1, h2⟩ := cc_ord n (cc_d L (2 ^ w)) (by omega) (by omega) (fun B b1 b2 => hB B (fun x hx => ((cc_dm (by omega)).mp (b1 x hx)).1) b2)
    refine ⟨cc_cons w τ, ?_, ?_⟩
    · intro j hj
      cases j with
      | zero => exact hw
      | succ j =>
        rw [cc_L_shift (σ := cc_cons w τ) (w := w) (τ := τ) rfl (fun _ => rfl)]
        exact h1 j (by omega)
    · intro j hj v hv hLv
      cases j with
      | zero => exact absurd hv (hm v hLv)
      | succ j =>
        by_cases e : w = v
        · exact ⟨0, by omega, e⟩
        · obtain ⟨i, hi, ei⟩ := h2 j (by omega) v hv ((cc_dm (by omega)).mpr ⟨hLv, e⟩)
          exact ⟨i + 1, by omega, ei⟩
/-! laying greedily -/
noncomputable def cc_g (wr : Nat → Prop) (M : Nat → Nat) (pl : Nat) : Nat → Nat
  | 0 => pl
  | i + 1 => @ite Nat (wr i ∧ cc_d (M i) (cc_g wr M pl i) = 0) (Classical.propDecidable _) (cc_g wr M pl i ||| 2 ^ i) (cc_g wr M pl i)
noncomputable def cc_G (wr : Nat → Prop) (M : Nat → Nat) (m : Nat) : Nat → Nat
  | 0 => 0
  | t + 1 => cc_g wr M (cc_G wr M m t) m
section
variable {wr : Nat → Prop} {M : Nat → Nat}
theorem cc_g_y {pl i : Nat} (h : wr i ∧ cc_d (M i) (cc_g wr M pl i) = 0) : cc_g wr M pl (i + 1) = cc_g wr M pl i ||| 2 ^ i := if_pos h
theorem cc_g_n {pl i : Nat} (h : ¬ (wr i ∧ cc_d (M i) (cc_g wr M pl i) = 0)) : cc_g wr M pl (i + 1) = cc_g wr M pl i := if_neg h
theorem cc_g_lt {pl : Nat} (hp : pl < 256) : ∀ i, i ≤ 8 → cc_g wr M pl i < 256
  | 0, _ => hp
  | i + 1, hi => by
    have ih := cc_g_lt hp i (by omega)
    by_cases h : wr i ∧ cc_d (M i) (cc_g wr M pl i) = 0
    · rw [cc_g_y h]
      exact Nat.or_lt_two_pow (n := 8) ih (cc_p2 (by omega))
    · rw [cc_g_n h]; exact ih
theorem cc_G_lt {m : Nat} (hm : m ≤ 8) : ∀ t, cc_G wr M m t < 256
  | 0 => by show 0 < 256; decide
  | t + 1 => cc_g_lt (cc_G_lt hm t) m hm
theorem cc_g_up {pl v : Nat} (h : pl.testBit v = true) : ∀ i, (cc_g wr M pl i).testBit v = true
  | 0 => h
  | i + 1 => by
    have ih := cc_g_up h i
    by_cases c : wr i ∧ cc_d (M i) (cc_g wr M pl i) = 0
    · rw [cc_g_y c]; exact cc_o2.mpr (Or.inl ih)
    · rw [cc_g_n c]; exact ih
theorem cc_g_add {pl w : Nat} (hM : M w < 2 ^ 32) (hw : wr w) (h : ∀ v, (M w).testBit v = true → pl.testBit v = true) :
    ∀ i, w < i → (cc_g wr M pl i).testBit w = true
  | 0, z => absurd z (Nat.not_lt_zero _)
  | i + 1, z => by
    rcases Nat.lt_or_ge w i with y | y
    · have ih := cc_g_add hM hw h i y
      by_cases c : wr i ∧ cc_d (M i) (cc_g wr M pl i) = 0
      · rw [cc_g_y c]; exact cc_o2.mpr (Or.inl ih)
      · rw [cc_g_n c]; exact ih
    · have e : w = i := by omega
      subst e
      rw [cc_g_y ⟨hw, (cc_d0 hM).mpr (fun v hv => cc_g_up (h v hv) w)⟩]
      exact cc_o2.mpr (Or.inr rfl)
theorem cc_g_bad {B : Nat → Prop} (hM : ∀ w, B w → M w < 2 ^ 32) (hB : ∀ w, B w → ∃ v, B v ∧ (M w).testBit v = true) {pl : Nat} (h : ∀ w, B w → ¬ pl.testBit w = true) :
    ∀ i w, B w → ¬ (cc_g wr M pl i).testBit w = true
  | 0, w, hw => h w hw
  | i + 1, w, hw => by
    have ih := cc_g_bad hM hB h i
    by_cases c : wr i ∧ cc_d (M i) (cc_g wr M pl i) = 0
    · rw [cc_g_y c]
      intro z
      rcases cc_o2.mp z with y | y
      · exact ih w hw y
      · subst y
        obtain ⟨v, hv, hm⟩ := hB i hw
        exact ih v hv ((cc_d0 (hM i hw)).mp c.2 v hm)
    · rw [cc_g_n c]; exact ih w hw
theorem cc_g_in {m : Nat} {pl : Nat} (h : ∀ v, pl.testBit v = true → v < m ∧ wr v) : ∀ i, i ≤ m → ∀ v, (cc_g wr M pl i).testBit v = true → v < m ∧ wr v
  | 0, _, v, hv => h v hv
  | i + 1, hi, v, hv => by
    have ih := cc_g_in h i (by omega)
    by_cases c : wr i ∧ cc_d (M i) (cc_g wr M pl i) = 0
    · rw [cc_g_y c] at hv
      rcases cc_o2.mp hv with y | y
      · exact ih v y
      · subst y; exact ⟨by omega, c.1⟩
    · rw [cc_g_n c] at hv; exact ih v hv
theorem cc_G_in {m : Nat} : ∀ t v, (cc_G wr M m t).testBit v = true → v < m ∧ wr v
  | 0, v, h => by
    have z : (0 : Nat).testBit v = true := h
    rw [Nat.zero_testBit] at z
    exact absurd z (by decide)
  | t + 1, v, h => cc_g_in (cc_G_in t) m (Nat.le_refl _) v h
theorem cc_G_bad {m : Nat} {B : Nat → Prop} (hM : ∀ w, B w → M w < 2 ^ 32) (hB : ∀ w, B w → ∃ v, B v ∧ (M w).testBit v = true) : ∀ t w, B w → ¬ (cc_G wr M m t).testBit w = true
  | 0, w, _ => by
    show ¬ (0 : Nat).testBit w = true
    rw [Nat.zero_testBit]
    decide
  | t + 1, w, hw => cc_g_bad hM hB (cc_G_bad hM hB t) m w hw
theorem cc_G_all {m n : Nat} {σ : Nat → Nat} (hw : ∀ j, j < n → σ j < m ∧ wr (σ j) ∧ M (σ j) < 2 ^ 32)
    (hc : ∀ j, j < n → ∀ v, (M (σ j)).testBit v = true → ∃ i, i < j ∧ σ i = v) : ∀ t j, j < t → j < n → (cc_G wr M m t).testBit (σ j) = true
  | 0, j, hj, _ => absurd hj (Nat.not_lt_zero _)
  | t + 1, j, hj, hn => by
    have ih := cc_G_all hw hc t
    refine cc_g_add (hw j hn).2.2 (hw j hn).2.1 (fun v hv => ?_) m (hw j hn).1
    obtain ⟨i, hi, e⟩ := hc j hn v hv
    rw [← e]
    exact ih i (by omega) (by omega)
end
