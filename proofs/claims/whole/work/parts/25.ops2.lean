def rmI (a d : Int32) : Int32 := a - a / d * d
def drawZ (z : Int32) : Int32 := z * 1103515245 + 12345
def drawV (z : Int32) : Int32 := (z.toUInt32 >>> ((8 : Int32).toUInt32 &&& Int32.toUInt32 31)).toInt32
def drawP (f : Nat → Int32) (n : Nat) : Nat → Int32 := comesF (upd f 0 (drawZ (drawZ (drawZ (f 0))))) n (rmI (drawV (drawZ (f 0))) 6) (rmI (drawV (drawZ (drawZ (f 0)))) 125) (f 2 - rmI (drawV (drawZ (drawZ (drawZ (f 0))))) 90)
def dealL (f : Nat → Int32) (n : Nat) : Nat → Nat → Int32
  | 0 => f
  | m + 1 => dealL (drawP f n) (n + 1) m
def dealF (f : Nat → Int32) (n : Nat) (k : Int32) : Int32 × (Nat → Int32) := if inB k 1 10 then (nI (min k.toNatClampNeg (10 - n)), dealL f n (min k.toNatClampNeg (10 - n))) else (-1000000001, f)
def diesF (f : Nat → Int32) (t p : Nat) : Int32 := match cntO f 1 t with
  | none => (f 2 - f (18 + 4 * p + 2)) / 2
  | some i => withinF (evT f i (fa3 (f 2 - f (18 + 4 * p + 2)) (f (18 + 4 * p)) 0)) 0 100
def yrS (f : Nat → Int32) (t p d : Nat) : (Nat → Int32) × Nat := if aliveF f p then (if rmI (drawV (drawZ (f 0))) 100 < diesF (upd f 0 (drawZ (f 0))) t p then (upd (upd f 0 (drawZ (f 0))) (18 + 4 * p + 3) (f 2), d + 1) else (upd f 0 (drawZ (f 0)), d)) else (f, d)
def yrL (f : Nat → Int32) (t p : Nat) : Nat → Nat → (Nat → Int32) × Nat
  | 0, d => (f, d)
  | m + 1, d => yrL (yrS f t p d).1 t (p + 1) m (yrS f t p d).2
def yearF (f : Nat → Int32) (n t : Nat) : (Nat → Int32) × Nat := (upd (yrL f t 0 n 0).1 2 ((yrL f t 0 n 0).1 2 + 1), (yrL f t 0 n 0).2)
def yrsL (f : Nat → Int32) (n t : Nat) : Nat → (Nat → Int32) × Nat
  | 0 => (f, 0)
  | k + 1 => ((yrsL (yearF f n t).1 n t k).1, (yearF f n t).2 + (yrsL (yearF f n t).1 n t k).2)
def yrsF (f : Nat → Int32) (n t y : Nat) (k : Int32) : Int32 × (Nat → Int32) := if inB k 1 100 then (nI (yrsL f n t (min k.toNatClampNeg (9999 - y))).2, (yrsL f n t (min k.toNatClampNeg (9999 - y))).1) else (-1000000001, f)
def behR (f : Nat → Int32) (n t : Nat) (k w : Int32) : Int32 := if inB k 0 100 && inB w 0 2 then (if w = 0 then manyF (yrsL f n t k.toNatClampNeg).1 n t else if w = 1 then nI (sumB (aliveF (yrsL f n t k.toNatClampNeg).1) 0 n) else leastF (yrsL f n t k.toNatClampNeg).1 n t) else -1000000001
def endsL (f : Nat → Int32) (n t : Nat) : Nat → Nat → Option Nat
  | _, 0 => none
  | k, m + 1 => if leastF f n t = -1000000005 then some k else endsL (yearF f n t).1 n t (k + 1) m
def endsR (f : Nat → Int32) (n t : Nat) : Int32 := optN (-1000000005) (endsL f n t 0 201)
def stayL (f : Nat → Int32) (n t : Nat) (nm : Int32) : Nat → Nat
  | 0 => if freeG (nearT f t) f n nm (f 2) then 1 else 0
  | m + 1 => (if freeG (nearT f t) f n nm (f 2) then 1 else 0) + stayL (yearF f n t).1 n t nm m
def stayR (f : Nat → Int32) (n t : Nat) (nm k : Int32) : Int32 := if inB nm 0 124 && inB k 0 100 then nI (stayL f n t nm k.toNatClampNeg) else -1000000001
def fineR (f : Nat → Int32) (n t : Nat) : Int32 := match cntO f 2 t with
  | none => 0
  | some i => evT f i (fa3 (f 2) (nI (sumB (aliveF f) 0 n)) 0)
def whyR (f : Nat → Int32) (t : Nat) (k : Int32) : Int32 := if inB k 0 2 then optN (-1000000005) (cntO f k t) else -1000000001
def ttlR (f : Nat → Int32) (t : Nat) (x w : Int32) : Int32 := if inB x 0 (nI t - 1) && inB w 0 1 then (if w = 0 then f (58 + 2 * x.toNatClampNeg) / 1000 else f (58 + 2 * x.toNatClampNeg + 1)) else -1000000001
def yldS (P : Nat → Bool) : Nat → Nat → Int32 → Int32
  | _, 0, a => a
  | p, m + 1, a => yldS P (p + 1) m (a ||| if P p then (1 : Int32) <<< (nI p &&& 31) else 0)
def yldR (f : Nat → Int32) (n t : Nat) (p : Int32) : Int32 := if inB p 0 (nI n - 1) then yldS (fun q => decide (¬ q = p.toNatClampNeg) && aliveF f q && nearT f t (nrIx (f (18 + 4 * p.toNatClampNeg + 1)) (f (18 + 4 * q + 1)))) 0 n 0 else -1000000001
-- a year changes only the draw's number, who has died, and the year
theorem yrS_keep {f : Nat → Int32} {t p d j : Nat} (h0 : j ≠ 0) (hp : j ≠ 18 + 4 * p + 3) : (yrS f t p d).1 j = f j := by
  unfold yrS
  split
  · split
    · dsimp only; rw [upd_ne hp, upd_ne h0]
    · dsimp only; rw [upd_ne h0]
  · rfl
theorem yrL_keep {t j : Nat} (h0 : j ≠ 0) : ∀ (m p d : Nat) (f : Nat → Int32), (∀ q, p ≤ q → q < p + m → j ≠ 18 + 4 * q + 3) → (yrL f t p m d).1 j = f j
  | 0, _, _, _, _ => rfl
  | m + 1, p, d, f, h => by
    rw [yrL, yrL_keep h0 m (p + 1) _ _ (fun q h1 h2 => h q (by omega) (by omega)), yrS_keep h0 (h p (by omega) (by omega))]
theorem yrS_le {f : Nat → Int32} {t p d : Nat} : (yrS f t p d).2 ≤ d + 1 := by
  unfold yrS
  split
  · split <;> dsimp only <;> omega
  · dsimp only; omega
theorem yrL_le {t : Nat} : ∀ (m p d : Nat) (f : Nat → Int32), (yrL f t p m d).2 ≤ d + m
  | 0, _, _, _ => Nat.le_refl _
  | m + 1, p, d, f => by
    rw [yrL]
    have h1 := yrL_le (t := t) m (p + 1) (yrS f t p d).2 (yrS f t p d).1
    have h2 := yrS_le (f := f) (t := t) (p := p) (d := d)
    omega
theorem yearF_keep {f : Nat → Int32} {n t j : Nat} (h0 : j ≠ 0) (h2 : j ≠ 2) (hn : n ≤ 10) (hj : j < 18 ∨ 58 ≤ j) : (yearF f n t).1 j = f j := by
  rw [yearF]; dsimp only
  rw [upd_ne h2, yrL_keep h0 n 0 0 f (fun q _ hq => by omega)]
theorem yearF_2 {f : Nat → Int32} {n t : Nat} : (yearF f n t).1 2 = f 2 + 1 := by
  rw [yearF]; dsimp only
  rw [upd_same, yrL_keep (by decide) n 0 0 f (fun q _ hq => by omega)]
theorem yearF_nm {f : Nat → Int32} {n t p : Nat} (k : Nat) (hk : k < 3) : (yearF f n t).1 (18 + 4 * p + k) = f (18 + 4 * p + k) := by
  rw [yearF]; dsimp only
  rw [upd_ne (by omega), yrL_keep (by omega) n 0 0 f (fun q _ hq => by omega)]
theorem yearF_le {f : Nat → Int32} {n t : Nat} : (yearF f n t).2 ≤ n := by
  have := yrL_le (t := t) n 0 0 f
  rw [yearF]; dsimp only; omega
theorem FOk_year {f : Nat → Int32} {n c t y : Nat} (h : FOk f n c t y) (hy : y < 20000) : FOk (yearF f n t).1 n c t (y + 1) := by
  obtain ⟨h1, hn, h4, hc, h5, ht, h2, h2y, hT, hW⟩ := h
  refine ⟨by rw [yearF_keep (by decide) (by decide) hn (by omega)]; exact h1, hn, by rw [yearF_keep (by decide) (by decide) hn (by omega)]; exact h4, hc, by rw [yearF_keep (by decide) (by decide) hn (by omega)]; exact h5, ht, by rw [yearF_2, h2, nI_1], by omega, TxsOk_congr hT (fun j hj => yearF_keep (by omega) (by omega) hn (by omega)), fun i hi => ?_⟩
  rw [yearF_keep (by omega) (by omega) hn (by omega)]
  exact hW i hi
theorem nearT_year {f : Nat → Int32} {n c t y : Nat} (h : FOk f n c t y) : nearT (yearF f n t).1 t = nearT f t := by
  obtain ⟨h1, hn, h4, hc, h5, ht, h2, h2y, hT, hW⟩ := h
  funext k
  exact nearT_congr hT (fun j hj => yearF_keep (by omega) (by omega) hn (by omega)) k
theorem yearF_hi {f : Nat → Int32} {n t j : Nat} (hn : n ≤ 10) (hj : 58 ≤ j) : (yearF f n t).1 j = f j := yearF_keep (by omega) (by omega) hn (by omega)
theorem yrsL_hi {n t j : Nat} (hn : n ≤ 10) (hj : 58 ≤ j) : ∀ (k : Nat) (f : Nat → Int32), (yrsL f n t k).1 j = f j
  | 0, _ => rfl
  | k + 1, f => by rw [yrsL]; dsimp only; rw [yrsL_hi hn hj k, yearF_hi hn hj]
theorem yrsL_le {n t : Nat} : ∀ (k : Nat) (f : Nat → Int32), (yrsL f n t k).2 ≤ k * n
  | 0, _ => by simp [yrsL]
  | k + 1, f => by
    have h1 := yrsL_le (n := n) (t := t) k (yearF f n t).1
    have h2 := yearF_le (f := f) (n := n) (t := t)
    rw [yrsL]; dsimp only
    rw [Nat.succ_mul]; omega
theorem FOk_years {n c t : Nat} : ∀ (k y : Nat) (f : Nat → Int32), FOk f n c t y → y + k ≤ 20000 → FOk (yrsL f n t k).1 n c t (y + k)
  | 0, _, _, h, _ => h
  | k + 1, y, f, h, hy => by
    have := FOk_years k (y + 1) _ (FOk_year h (by omega)) (by omega)
    rw [show y + (k + 1) = y + 1 + k by omega]
    exact this
theorem inB_lt {x : Int32} {n : Nat} (hn : n ≤ 1000) : inB x 0 (nI n - 1) = true ↔ ∃ k, k < n ∧ x = nI k := by
  cases n with
  | zero =>
    constructor
    · intro h
      simp only [inB, Bool.and_eq_true, decide_eq_true_eq] at h
      have h2 : x ≤ (0 : Int32) - 1 := h.2
      exact absurd (Int32.le_trans h.1 h2) (by decide)
    · rintro ⟨k, hk, -⟩; omega
  | succ n =>
    rw [nI_pred, inB_nI (by omega)]
    constructor
    · rintro ⟨k, hk, rfl⟩; exact ⟨k, by omega, rfl⟩
    · rintro ⟨k, hk, rfl⟩; exact ⟨k, by omega, rfl⟩
theorem inB_ab {x : Int32} (a b : Nat) (hb : b < 2 ^ 30) (ha : a < 2 ^ 30) (h : inB x (nI a) (nI b) = true) : ∃ k, a ≤ k ∧ k ≤ b ∧ x = nI k := by
  simp only [inB, Bool.and_eq_true, decide_eq_true_eq] at h
  obtain ⟨k, h1, h2, h3⟩ := nI_of_range (a := a) (b := b + 1) (by omega) (by omega) h.1 (Int32.lt_of_le_of_lt h.2 (nI_lt (by omega) (by omega)))
  exact ⟨k, h1, by omega, h3⟩
section
variable {l : Launch} {θ : Th} {σ : Sg} {n c t y : Nat}
theorem o_M_near (a b : Int32) (hf : FOk (σ 96) n c t y) : Ci l θ 5 m_M_near [.inr 95, .inl a, .inl b] σ (fun r σ' => r = nearR (σ 96) t a b ∧ Sm [99, 109, 110] σ σ') := by
  obtain ⟨h1, hn, h4, hc, h5, ht, h2, h2y, hT, hW⟩ := hf
  refine Ci.of (Or.inl mi_M_near) pk_M_near (nb rfl) (Or.inl rfl) [some (.inr 95), some (.inl a), some (.inl b)] rfl fun Γ hG hR => ?_
  have bad : (inB a 0 124 && inB b 0 124) = false → X Γ 14 [some (.inr 95), some (.inl a), some (.inl b)] [] σ := by
    intro hb
    refine hG.rt hR rfl rfl rfl rfl ?_
    exact ⟨by rw [nearR, hb]; rfl, Sm.rf⟩
  refine hG.cS lk_M_93 mi_M_isCalled rfl rfl (c_M_isCalled a) rfl rfl rfl rfl rfl rfl ?_
  rintro x σ' ⟨rfl, rfl⟩
  refine hG.br rfl rfl rfl rfl (fun k1 => ?_) (fun k1 => ?_)
  · exact bad (by rw [bi_eq0.mp k1]; rfl)
  · refine hG.cS lk_M_93 mi_M_isCalled rfl rfl (c_M_isCalled b) rfl rfl rfl rfl rfl rfl ?_
    rintro x σ' ⟨rfl, rfl⟩
    refine hG.br rfl rfl rfl rfl (fun k2 => ?_) (fun k2 => ?_)
    · refine hG.cVv lk_M_137 mi_M_findNears rfl rfl (c_M_findNears t h5 ht hT) rfl rfl rfl rfl rfl rfl rfl rfl ?_
      rintro τ ⟨hS, hN⟩
      refine hG.cV lk_M_140 mi_M_areNear rfl rfl (c_M_areNear (nearT (σ' 96) t) a b hN) rfl rfl rfl rfl rfl rfl rfl rfl ?_
      rintro x τ ⟨rfl, rfl⟩
      have hg : nearR (σ' 96) t a b = bi (nearT (σ' 96) t (nrIx a b)) := by rw [nearR, bi_ne0.mp k1, bi_ne0.mp k2]; rfl
      refine hG.br rfl rfl rfl rfl (fun k3 => ?_) (fun k3 => ?_)
      · refine hG.rt hR rfl rfl rfl rfl ?_
        exact ⟨by rw [hg, bi_eq0.mp k3]; rfl, hS⟩
      · refine hG.rt hR rfl rfl rfl rfl ?_
        exact ⟨by rw [hg, bi_ne0.mp k3]; rfl, hS⟩
    · exact bad (by rw [bi_eq0.mp k2]; simp)
theorem o_M_free (nm yr : Int32) (hf : FOk (σ 96) n c t y) : Ci l θ 6 m_M_free [.inr 95, .inl nm, .inl yr] σ (fun r σ' => r = freeR (σ 96) n t nm yr ∧ Sm [99, 109, 110] σ σ') := by
  obtain ⟨h1, hn, h4, hc, h5, ht, h2, h2y, hT, hW⟩ := hf
  refine Ci.of (Or.inl mi_M_free) pk_M_free (nb rfl) (Or.inl rfl) [some (.inr 95), some (.inl nm), some (.inl yr)] rfl fun Γ hG hR => ?_
  have bad : (inB nm 0 124 && inB yr (-999) 99999) = false → X Γ 14 [some (.inr 95), some (.inl nm), some (.inl yr)] [] σ := by
    intro hb
    refine hG.rt hR rfl rfl rfl rfl ?_
    exact ⟨by rw [freeR, hb]; rfl, Sm.rf⟩
  refine hG.cS lk_M_93 mi_M_isCalled rfl rfl (c_M_isCalled nm) rfl rfl rfl rfl rfl rfl ?_
  rintro x σ' ⟨rfl, rfl⟩
  refine hG.br rfl rfl rfl rfl (fun k1 => ?_) (fun k1 => ?_)
  · exact bad (by rw [bi_eq0.mp k1]; rfl)
  · refine hG.cS lk_M_125 mi_M_isYear rfl rfl (c_M_isYear yr) rfl rfl rfl rfl rfl rfl ?_
    rintro x σ' ⟨rfl, rfl⟩
    refine hG.br rfl rfl rfl rfl (fun k2 => ?_) (fun k2 => ?_)
    · refine hG.cVv lk_M_137 mi_M_findNears rfl rfl (c_M_findNears t h5 ht hT) rfl rfl rfl rfl rfl rfl rfl rfl ?_
      rintro τ ⟨hS, hN⟩
      have e96 : τ 96 = σ' 96 := hS 96 (by decide)
      refine hG.cV lk_M_148 mi_M_isFree rfl rfl (c_M_isFree (nearT (σ' 96) t) n nm yr hN (by rw [e96]; exact h1) hn) rfl rfl rfl rfl rfl rfl rfl rfl ?_
      rintro x τ ⟨rfl, rfl⟩
      rw [e96]
      have hg : freeR (σ' 96) n t nm yr = bi (freeG (nearT (σ' 96) t) (σ' 96) n nm yr) := by rw [freeR, bi_ne0.mp k1, bi_ne0.mp k2]; rfl
      refine hG.br rfl rfl rfl rfl (fun k3 => ?_) (fun k3 => ?_)
      · refine hG.rt hR rfl rfl rfl rfl ?_
        exact ⟨by rw [hg, bi_eq0.mp k3]; rfl, hS⟩
      · refine hG.rt hR rfl rfl rfl rfl ?_
        exact ⟨by rw [hg, bi_ne0.mp k3]; rfl, hS⟩
    · exact bad (by rw [bi_eq0.mp k2]; simp)
theorem o_M_frees (w : Int32) (hf : FOk (σ 96) n c t y) : Ci l θ 6 m_M_frees [.inr 95, .inl w] σ (fun r σ' => r = freesR (σ 96) n t w ∧ Sm [99, 109, 110] σ σ') := by
  obtain ⟨h1, hn, h4, hc, h5, ht, h2, h2y, hT, hW⟩ := hf
  refine Ci.of (Or.inl mi_M_frees) pk_M_frees (nb rfl) (Or.inl rfl) [some (.inr 95), some (.inl w)] rfl fun Γ hG hR => ?_
  refine hG.cS lk_M_84 mi_M_in rfl rfl (c_M_in w 0 1) rfl rfl rfl rfl rfl rfl ?_
  rintro x σ' ⟨rfl, rfl⟩
  refine hG.br rfl rfl rfl rfl (fun k1 => ?_) (fun k1 => ?_)
  · refine hG.cVv lk_M_137 mi_M_findNears rfl rfl (c_M_findNears t h5 ht hT) rfl rfl rfl rfl rfl rfl rfl rfl ?_
    rintro τ ⟨hS, hN⟩
    have e96 : τ 96 = σ' 96 := hS 96 (by decide)
    refine hG.br rfl rfl rfl rfl (fun k2 => ?_) (fun k2 => ?_)
    · refine hG.cV lk_M_154 mi_M_leastFree rfl rfl (c_M_leastFree (nearT (σ' 96) t) n hN (by rw [e96]; exact h1) hn) rfl rfl rfl rfl rfl rfl rfl rfl ?_
      rintro x τ ⟨rfl, rfl⟩
      refine hG.rt hR rfl rfl rfl rfl ?_
      exact ⟨by rw [freesR, bi_ne0.mp k1, if_pos rfl, if_neg k2, leastF, e96], hS⟩
    · refine hG.cV lk_M_151 mi_M_freeMany rfl rfl (c_M_freeMany (nearT (σ' 96) t) n hN (by rw [e96]; exact h1) hn) rfl rfl rfl rfl rfl rfl rfl rfl ?_
      rintro x τ ⟨rfl, rfl⟩
      refine hG.rt hR rfl rfl rfl rfl ?_
      exact ⟨by rw [freesR, bi_ne0.mp k1, if_pos rfl, if_pos k2, manyF, e96], hS⟩
  · refine hG.rt hR rfl rfl rfl rfl ?_
    exact ⟨by rw [freesR, bi_eq0.mp k1]; rfl, Sm.rf⟩
theorem o_M_soonest (nm : Int32) (hf : FOk (σ 96) n c t y) : Ci l θ 6 m_M_soonest [.inr 95, .inl nm] σ (fun r σ' => r = soonR (σ 96) n t y nm ∧ Sm [99, 109, 110] σ σ') := by
  obtain ⟨h1, hn, h4, hc, h5, ht, h2, h2y, hT, hW⟩ := hf
  refine Ci.of (Or.inl mi_M_soonest) pk_M_soonest (nb rfl) (Or.inl rfl) [some (.inr 95), some (.inl nm), none] rfl fun Γ hG hR => ?_
  refine hG.cS lk_M_93 mi_M_isCalled rfl rfl (c_M_isCalled nm) rfl rfl rfl rfl rfl rfl ?_
  rintro x σ' ⟨rfl, rfl⟩
  refine hG.br rfl rfl rfl rfl (fun k1 => ?_) (fun k1 => ?_)
  · refine hG.cVv lk_M_137 mi_M_findNears rfl rfl (c_M_findNears t h5 ht hT) rfl rfl rfl rfl rfl rfl rfl rfl ?_
    rintro τ ⟨hS, hN⟩
    have e96 : τ 96 = σ' 96 := hS 96 (by decide)
    have hg : soonR (σ' 96) n t y nm = match fndB (fun a => freeG (nearT (σ' 96) t) (σ' 96) n nm (nI (y + a))) 0 301 with
        | none => -1000000005
        | some a => nI (y + a) := by rw [soonR, bi_ne0.mp k1]; rfl
    have loop : ∀ m a, a + m = 301 → fndB (fun a => freeG (nearT (σ' 96) t) (σ' 96) n nm (nI (y + a))) 0 301 = fndB (fun a => freeG (nearT (σ' 96) t) (σ' 96) n nm (nI (y + a))) a m → X Γ 21 [some (.inr 95), some (.inl nm), some (.inl (nI (y + a)))] [] τ := by
      intro m
      induction m with
      | zero =>
        intro a ha he
        refine hG.ld rfl 2 rfl rfl rfl rfl rfl (by decide) ?_
        rw [e96, h2]
        refine hG.br rfl rfl rfl rfl (fun k2 => ?_) (fun k2 => ?_)
        · refine hG.rt hR rfl rfl rfl rfl ?_
          exact ⟨by rw [hg, he]; rfl, hS⟩
        · exact absurd (show nI y + 300 < nI (y + a) by rw [show nI y + 300 = nI (y + 300) from nI_add y 300]; exact nI_lt (show y + 300 < y + a by omega) (by omega)) k2
      | succ m ih =>
        intro a ha he
        rw [fndB_s _ _ m] at he
        refine hG.ld rfl 2 rfl rfl rfl rfl rfl (by decide) ?_
        rw [e96, h2]
        refine hG.br rfl rfl rfl rfl (fun k2 => ?_) (fun k2 => ?_)
        · rw [show nI y + 300 = nI (y + 300) from nI_add y 300] at k2; exact absurd k2 (nI_nlt (show y + a ≤ y + 300 by omega) (by omega))
        · refine hG.cV lk_M_148 mi_M_isFree rfl rfl (c_M_isFree (nearT (σ' 96) t) n nm (nI (y + a)) hN (by rw [e96]; exact h1) hn) rfl rfl rfl rfl rfl rfl rfl rfl ?_
          rintro x τ ⟨rfl, rfl⟩
          rw [e96]
          refine hG.br rfl rfl rfl rfl (fun k3 => ?_) (fun k3 => ?_)
          · refine hG.jp rfl rfl rfl ?_
            rw [nI_1]
            exact ih (a + 1) (by omega) (by rw [he, bi_eq0.mp k3]; rfl)
          · refine hG.rt hR rfl rfl rfl rfl ?_
            exact ⟨by rw [hg, he, bi_ne0.mp k3]; rfl, hS⟩
    refine hG.ld rfl 2 rfl rfl rfl rfl rfl (by decide) ?_
    rw [e96, h2]
    exact hG.go 1 rfl rfl (loop 301 0 rfl rfl)
  · refine hG.rt hR rfl rfl rfl rfl ?_
    exact ⟨by rw [soonR, bi_eq0.mp k1]; rfl, Sm.rf⟩
theorem o_M_child (a b : Int32) (hf : FOk (σ 96) n c t y) : Ci l θ 5 m_M_child [.inr 95, .inl a, .inl b] σ (fun r σ' => r = (chldF (σ 96) c a b).1 ∧ σ' = upc σ 96 (chldF (σ 96) c a b).2) := by
  obtain ⟨h1, hn, h4, hc, h5, ht, h2, h2y, hT, hW⟩ := hf
  refine Ci.of (Or.inl mi_M_child) pk_M_child (nb rfl) (Or.inl rfl) [some (.inr 95), some (.inl a), some (.inl b)] rfl fun Γ hG hR => ?_
  have bad : (inB a 0 124 && inB b 0 124) = false → X Γ 14 [some (.inr 95), some (.inl a), some (.inl b)] [] σ := by
    intro hb
    refine hG.rt hR rfl rfl rfl rfl ?_
    exact ⟨by rw [chldF, hb]; rfl, by rw [chldF, hb]; exact (upc_self σ 96).symm⟩
  refine hG.cS lk_M_93 mi_M_isCalled rfl rfl (c_M_isCalled a) rfl rfl rfl rfl rfl rfl ?_
  rintro x σ' ⟨rfl, rfl⟩
  refine hG.br rfl rfl rfl rfl (fun k1 => ?_) (fun k1 => ?_)
  · exact bad (by rw [bi_eq0.mp k1]; rfl)
  · refine hG.cS lk_M_93 mi_M_isCalled rfl rfl (c_M_isCalled b) rfl rfl rfl rfl rfl rfl ?_
    rintro x σ' ⟨rfl, rfl⟩
    refine hG.br rfl rfl rfl rfl (fun k2 => ?_) (fun k2 => ?_)
    · have hg : chldF (σ' 96) c a b = if c = 6 then (-1000000003, σ' 96) else (nI c, upd (upd (upd (σ' 96) (6 + 2 * c) a) (6 + 2 * c + 1) b) 4 (nI (c + 1))) := by rw [chldF, bi_ne0.mp k1, bi_ne0.mp k2, Bool.and_self, if_pos rfl]
      refine hG.ld rfl 4 rfl rfl rfl rfl rfl (by decide) ?_
      rw [h4]
      refine hG.br rfl rfl rfl rfl (fun k3 => ?_) (fun k3 => ?_)
      · have hc6 : c ≠ 6 := fun e => k3 (by rw [e]; rfl)
        refine hG.ld rfl 4 rfl rfl rfl rfl rfl (by decide) ?_
        rw [h4]
        refine hG.sti rfl (6 + 2 * c) rfl rfl rfl (by simp only [lit_nI, pk_mul, nI_add, nI_1]; first | done | rfl | (congr 1; omega)) (by omega) ?_
        refine hG.ld rfl 4 rfl rfl rfl rfl rfl (by decide) ?_
        rw [up_same, upd_ne (show 4 ≠ 6 + 2 * c by omega), h4]
        refine hG.sti rfl (6 + 2 * c + 1) rfl rfl rfl (by simp only [lit_nI, pk_mul, nI_add, nI_1]; first | done | rfl | (congr 1; omega)) (by omega) ?_
        refine hG.ld rfl 4 rfl rfl rfl rfl rfl (by decide) ?_
        refine hG.sti rfl 4 rfl rfl rfl rfl (by decide) ?_
        refine hG.ld rfl 4 rfl rfl rfl rfl rfl (by decide) ?_
        refine hG.rt hR rfl rfl rfl rfl ?_
        rw [hg, if_neg hc6]
        have e : up (up σ' 96 (6 + 2 * c) a) 96 (6 + 2 * c + 1) b = upc σ' 96 (upd (upd (σ' 96) (6 + 2 * c) a) (6 + 2 * c + 1) b) := by
          rw [show up σ' 96 (6 + 2 * c) a = upc σ' 96 (upd (σ' 96) (6 + 2 * c) a) from rfl, up_upc]
        rw [e, up_upc, upc_same, upc_same, upd_same, upd_ne (show 4 ≠ 6 + 2 * c + 1 by omega), upd_ne (show 4 ≠ 6 + 2 * c by omega), h4, nI_1]
        exact ⟨nI_pred c, rfl⟩
      · have hc6 : c = 6 := (nI_eq (by omega) (by omega)).mp (show nI c = nI 6 from k3)
        refine hG.rt hR rfl rfl rfl rfl ?_
        rw [hg, if_pos hc6]
        exact ⟨rfl, (upc_self σ' 96).symm⟩
    · exact bad (by rw [bi_eq0.mp k2]; simp)
theorem o_M_yields (p : Int32) (hf : FOk (σ 96) n c t y) : Ci l θ 6 m_M_yields [.inr 95, .inl p] σ (fun r σ' => r = yldR (σ 96) n t p ∧ Sm [99, 109, 110] σ σ') := by
  obtain ⟨h1, hn, h4, hc, h5, ht, h2, h2y, hT, hW⟩ := hf
  refine Ci.of (Or.inl mi_M_yields) pk_M_yields (nb rfl) (Or.inl rfl) [some (.inr 95), some (.inl p), none, none] rfl fun Γ hG hR => ?_
  refine hG.cV lk_M_106 mi_M_isOne rfl rfl (c_M_isOne p) rfl rfl rfl rfl rfl rfl rfl rfl ?_
  rintro x σ' ⟨rfl, rfl⟩
  rw [h1]
  refine hG.br rfl rfl rfl rfl (fun k1 => ?_) (fun k1 => ?_)
  · obtain ⟨P, hP, rfl⟩ := (inB_one hn).mp (bi_ne0.mp k1)
    refine hG.cVv lk_M_137 mi_M_findNears rfl rfl (c_M_findNears t h5 ht hT) rfl rfl rfl rfl rfl rfl rfl rfl ?_
    rintro τ ⟨hS, hN⟩
    have e96 : τ 96 = σ' 96 := hS 96 (by decide)
    have hg : yldR (σ' 96) n t (nI P) = yldS (fun q => decide (¬ q = P) && aliveF (σ' 96) q && nearT (σ' 96) t (nrIx (σ' 96 (18 + 4 * P + 1)) (σ' 96 (18 + 4 * q + 1)))) 0 n 0 := by rw [yldR, bi_ne0.mp k1, nI_clamp (by omega)]; rfl
    generalize hPq : (fun q => decide (¬ q = P) && aliveF (σ' 96) q && nearT (σ' 96) t (nrIx (σ' 96 (18 + 4 * P + 1)) (σ' 96 (18 + 4 * q + 1)))) = PB at hg
    have loop : ∀ m q a, q + m = n → yldR (σ' 96) n t (nI P) = yldS PB q m a → X Γ 19 [some (.inr 95), some (.inl (nI P)), some (.inl a), some (.inl (nI q))] [] τ := by
      intro m
      induction m with
      | zero =>
        intro q a hq he
        have hq : q = n := by omega
        subst hq
        refine hG.ld rfl 1 rfl rfl rfl rfl rfl (by decide) ?_
        rw [e96, h1]
        refine hG.br rfl rfl rfl rfl (fun k2 => ?_) (fun k2 => ?_)
        · refine hG.rt hR rfl rfl rfl rfl ?_
          exact ⟨by rw [he]; rfl, hS⟩
        · exact absurd (nI_le (Nat.le_refl _) (by omega)) k2
      | succ m ih =>
        intro q a hq he
        have he : yldR (σ' 96) n t (nI P) = yldS PB (q + 1) m (a ||| if PB q then (1 : Int32) <<< (nI q &&& 31) else 0) := he
        have j69 : X Γ 69 [some (.inr 95), some (.inl (nI P)), some (.inl a), some (.inl (nI q))] [.inl (if PB q then (1 : Int32) <<< (nI q &&& 31) else 0), .inl a] τ := by
          refine hG.jp rfl rfl rfl ?_
          rw [nI_1]
          exact ih (q + 1) _ (by omega) he
        have hPB : PB q = (decide (¬ q = P) && aliveF (σ' 96) q && nearT (σ' 96) t (nrIx (σ' 96 (18 + 4 * P + 1)) (σ' 96 (18 + 4 * q + 1)))) := by rw [← hPq]
        refine hG.ld rfl 1 rfl rfl rfl rfl rfl (by decide) ?_
        rw [e96, h1]
        refine hG.br rfl rfl rfl rfl (fun k2 => ?_) (fun k2 => ?_)
        · exact absurd k2 (nI_ge (by omega) (by omega))
        · refine hG.br rfl rfl rfl rfl (fun k3 => ?_) (fun k3 => ?_)
          · have e : PB q = false := by rw [hPB, decide_eq_false (fun h => h ((nI_eq (by omega) (by omega)).mp k3))]; rfl
            rw [e] at j69
            exact hG.go 1 rfl rfl j69
          · have hne : ¬ q = P := fun e => k3 (by rw [e])
            refine hG.cV lk_M_103 mi_M_isAlive rfl rfl (c_M_isAlive q (by omega)) rfl rfl rfl rfl rfl rfl rfl rfl ?_
            rintro x τ ⟨rfl, rfl⟩
            rw [e96]
            refine hG.br rfl rfl rfl rfl (fun k4 => ?_) (fun k4 => ?_)
            · have e : PB q = false := by rw [hPB, bi_eq0.mp k4]; simp
              rw [e] at j69
              exact hG.go 1 rfl rfl j69
            · refine hG.cV lk_M_88 mi_M_of rfl rfl (c_M_of P 1 (by omega)) rfl rfl rfl rfl rfl rfl rfl rfl ?_
              rintro x τ ⟨rfl, rfl⟩
              refine hG.cV lk_M_88 mi_M_of rfl rfl (c_M_of q 1 (by omega)) rfl rfl rfl rfl rfl rfl rfl rfl ?_
              rintro x τ ⟨rfl, rfl⟩
              rw [e96]
              refine hG.cV lk_M_140 mi_M_areNear rfl rfl (c_M_areNear (nearT (σ' 96) t) _ _ hN) rfl rfl rfl rfl rfl rfl rfl rfl ?_
              rintro x τ ⟨rfl, rfl⟩
              refine hG.br rfl rfl rfl rfl (fun k5 => ?_) (fun k5 => ?_)
              · have e : PB q = false := by rw [hPB, bi_eq0.mp k5]; simp
                rw [e] at j69
                exact hG.go 1 rfl rfl j69
              · have e : PB q = true := by rw [hPB, bi_ne0.mp k5, bi_ne0.mp k4]; simp [hne]
                rw [e] at j69
                exact hG.go 4 rfl rfl j69
    exact hG.go 4 rfl rfl (loop n 0 0 (by omega) hg)
  · refine hG.rt hR rfl rfl rfl rfl ?_
    exact ⟨by rw [yldR, bi_eq0.mp k1]; rfl, Sm.rf⟩
end
