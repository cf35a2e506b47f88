def fa3 (a b c : Int32) : Nat → Int32 := fun j => if j = 0 then a else if j = 1 then b else c
theorem evl_congr {fa fb f : Nat → Int32} {b m ln : Nat} (h : CdOk f b m ln) (hm : m ≤ 4) (he : ∀ j, j < m → fa j = fb j) : ∀ k, k ≤ ln → evl fa f b k = evl fb f b k
  | 0, _ => rfl
  | k + 1, hk => by
    have ih := evl_congr h hm he k (by omega)
    obtain ⟨h1, -, -⟩ := h.2.2 k (by omega)
    rw [evl, evl, ih]
    unfold ev1
    by_cases c1 : 0 ≤ f (b + k)
    · rw [if_pos c1, if_pos c1]
      by_cases c2 : f (b + k) < 10000
      · rw [if_pos c2, if_pos c2]
      · rw [if_neg c2, if_neg c2]
        obtain ⟨j, hj1, hj2, hj3⟩ := nI_of_range (a := 10000) (b := 10000 + m) (by omega) (by omega) (Int32.not_lt.mp c2) (h1 c1)
        have ej : f (b + k) - 10000 = nI (j - 10000) := by rw [hj3]; exact pk_sub hj1
        rw [ej, nI_clamp (by omega), he (j - 10000) (by omega)]
    · rw [if_neg c1, if_neg c1]
theorem evl_congr2 {fa f g : Nat → Int32} {b : Nat} : ∀ k, (∀ j, j < k → g (b + j) = f (b + j)) → evl fa g b k = evl fa f b k
  | 0, _ => rfl
  | k + 1, h => by rw [evl, evl, h k (by omega), evl_congr2 k (fun j hj => h j (by omega))]
theorem dpth_congr {f g : Nat → Int32} {b : Nat} : ∀ k, (∀ j, j < k → g (b + j) = f (b + j)) → dpth g b k = dpth f b k
  | 0, _ => rfl
  | k + 1, h => by rw [dpth, dpth, h k (by omega), dpth_congr k (fun j hj => h j (by omega))]
theorem CdOk_congr {f g : Nat → Int32} {b m ln : Nat} (h : CdOk f b m ln) (he : ∀ j, j < ln → g (b + j) = f (b + j)) : CdOk g b m ln := by
  obtain ⟨h1, h2, h3⟩ := h
  refine ⟨h1, by rw [dpth_congr ln he]; exact h2, fun k hk => ?_⟩
  rw [he k hk, dpth_congr k (fun j hj => he j (by omega))]
  exact h3 k hk
theorem TxOk_congr {f g : Nat → Int32} {i ky ln : Nat} (h : TxOk f i ky ln) (he : ∀ j, 58 ≤ j → g j = f j) : TxOk g i ky ln := by
  obtain ⟨h1, h2, h3⟩ := h
  exact ⟨by rw [he _ (by omega)]; exact h1, h2, CdOk_congr h3 (fun j _ => he _ (by omega))⟩
def TxsOk (f : Nat → Int32) (t : Nat) : Prop := ∀ i, i < t → ∃ ky ln, TxOk f i ky ln
theorem TxsOk_congr {f g : Nat → Int32} {t : Nat} (h : TxsOk f t) (he : ∀ j, 58 ≤ j → g j = f j) : TxsOk g t := fun i hi => by
  obtain ⟨ky, ln, h1⟩ := h i hi
  exact ⟨ky, ln, TxOk_congr h1 he⟩
theorem TxOk_key {f : Nat → Int32} {i ky ln : Nat} (h : TxOk f i ky ln) : f (58 + 2 * i) / 1000 = nI ky := by
  obtain ⟨h1, h2, h3⟩ := h
  have := h3.1
  rw [h1]
  have e := pk_div (a := 1000 * ky + ln) (d := 1000) (by omega) (by omega) (by omega)
  rw [show (1000 * ky + ln) / 1000 = ky by omega] at e
  exact e
theorem evT_eq {f fa : Nat → Int32} {i ky ln : Nat} (h : TxOk f i ky ln) : evT f i fa = (evl fa f (86 + 96 * i) ln).headD 0 := by
  obtain ⟨h1, h2, h3⟩ := h
  have := h3.1
  rw [evT, h1, nI_clamp (by omega), show (1000 * ky + ln) % 1000 = ln by omega]
theorem evT_congr {f g fa : Nat → Int32} {i ky ln : Nat} (h : TxOk f i ky ln) (he : ∀ j, 58 ≤ j → g j = f j) : evT g i fa = evT f i fa := by
  rw [evT_eq h, evT_eq (TxOk_congr h he), evl_congr2 ln (fun j _ => he _ (by omega))]
/-- the text that counts for a key has that key -/
theorem cntO_ok {f : Nat → Int32} {t i k : Nat} (ht : TxsOk f t) (hk : k < 3) (h : cntO f (nI k) t = some i) : i < t ∧ ∃ ln, TxOk f i k ln := by
  obtain ⟨h1, h2⟩ := cntO_lt h
  obtain ⟨ky, ln, h3⟩ := ht i h1
  rw [TxOk_key h3] at h2
  have h4 := h3.2.1
  have e : ky = k := (nI_eq (by omega) (by omega)).mp h2
  subst e
  exact ⟨h1, ln, h3⟩
def nearT (f : Nat → Int32) (t k : Nat) : Bool := match cntO f 0 t with
  | none => decide (k / 4 = 0)
  | some i => decide (¬ evT f i (fa3 (nI (k / 4)) (nI (k / 2 % 2)) (nI (k % 2))) = 0)
theorem nearT_congr {f g : Nat → Int32} {t : Nat} (ht : TxsOk f t) (he : ∀ j, 58 ≤ j → g j = f j) (k : Nat) : nearT g t k = nearT f t k := by
  unfold nearT
  rw [cntO_congr (f := f) (g := g) t (fun i _ => he _ (by omega))]
  cases h : cntO f 0 t with
  | none => rfl
  | some i =>
    obtain ⟨h1, ln, h2⟩ := cntO_ok (k := 0) ht (by omega) h
    dsimp only
    rw [evT_congr h2 he]
def apN (a b : Int32) : Nat := (if a / 25 = b / 25 then 0 else 1) + (if a / 5 - a / 5 / 5 * 5 = b / 5 - b / 5 / 5 * 5 then 0 else 1) + (if a - a / 5 * 5 = b - b / 5 * 5 then 0 else 1)
def nrIx (a b : Int32) : Nat := 4 * apN a b + (if a / 25 = b / 25 then 2 else 0) + (if a - a / 5 * 5 = b - b / 5 * 5 then 1 else 0)
theorem apN_le (a b : Int32) : apN a b ≤ 3 := by unfold apN; split <;> split <;> split <;> omega
theorem nrIx_lt (a b : Int32) : nrIx a b < 16 := by
  have := apN_le a b
  unfold nrIx; split <;> split <;> omega
theorem allB_s (P : Nat → Bool) (i n : Nat) : allB P i (n + 1) = (P i && allB P (i + 1) n) := rfl
theorem sumB_s (P : Nat → Bool) (i n : Nat) : sumB P i (n + 1) = (if P i then 1 else 0) + sumB P (i + 1) n := rfl
theorem fndB_s (P : Nat → Bool) (i n : Nat) : fndB P i (n + 1) = if P i then some i else fndB P (i + 1) n := rfl
