/-! plain functions to which both programs are tied -/
def Sm (cs : List Nat) (σ σ' : Sg) : Prop := ∀ c, c ∉ cs → σ' c = σ c
theorem Sm.rf {cs : List Nat} {σ : Sg} : Sm cs σ σ := fun _ _ => rfl
theorem Sm.tr {cs : List Nat} {σ σ1 σ2 : Sg} (h : Sm cs σ σ1) (h2 : Sm cs σ1 σ2) : Sm cs σ σ2 := fun c hc => (h2 c hc).trans (h c hc)
theorem Sm.up {cs : List Nat} {σ σ1 : Sg} (h : Sm cs σ σ1) {c j : Nat} {v : Int32} (hc : c ∈ cs) : Sm cs σ (up σ1 c j v) := fun x hx => by rw [up_c _ _ _ _ (c' := x) (fun e => hx (by rw [e]; exact hc))]; exact h x hx
theorem Sm.upc {cs : List Nat} {σ σ1 : Sg} (h : Sm cs σ σ1) {c : Nat} {f : Nat → Int32} (hc : c ∈ cs) : Sm cs σ (upc σ1 c f) := fun x hx => by rw [upc_c _ _ _ (c' := x) (fun e => hx (by rw [e]; exact hc))]; exact h x hx
theorem Sm.mono {cs ds : List Nat} {σ σ1 : Sg} (h : Sm cs σ σ1) (hs : ∀ c ∈ cs, c ∈ ds) : Sm ds σ σ1 := fun c hc => h c (fun h1 => hc (hs c h1))
-- loops over Bool functions, from i, n left
def allB (P : Nat → Bool) : Nat → Nat → Bool
  | _, 0 => true
  | i, n + 1 => P i && allB P (i + 1) n
def sumB (P : Nat → Bool) : Nat → Nat → Nat
  | _, 0 => 0
  | i, n + 1 => (if P i then 1 else 0) + sumB P (i + 1) n
def fndB (P : Nat → Bool) : Nat → Nat → Option Nat
  | _, 0 => none
  | i, n + 1 => if P i then some i else fndB P (i + 1) n
theorem allB_congr {P Q : Nat → Bool} : ∀ (n i : Nat), (∀ k, i ≤ k → k < i + n → P k = Q k) → allB P i n = allB Q i n
  | 0, _, _ => rfl
  | n + 1, i, h => by rw [allB, allB, h i (Nat.le_refl _) (by omega), allB_congr n (i + 1) (fun k h1 h2 => h k (by omega) (by omega))]
theorem sumB_congr {P Q : Nat → Bool} : ∀ (n i : Nat), (∀ k, i ≤ k → k < i + n → P k = Q k) → sumB P i n = sumB Q i n
  | 0, _, _ => rfl
  | n + 1, i, h => by rw [sumB, sumB, h i (Nat.le_refl _) (by omega), sumB_congr n (i + 1) (fun k h1 h2 => h k (by omega) (by omega))]
theorem fndB_congr {P Q : Nat → Bool} : ∀ (n i : Nat), (∀ k, i ≤ k → k < i + n → P k = Q k) → fndB P i n = fndB Q i n
  | 0, _, _ => rfl
  | n + 1, i, h => by rw [fndB, fndB, h i (Nat.le_refl _) (by omega), fndB_congr n (i + 1) (fun k h1 h2 => h k (by omega) (by omega))]
theorem sumB_le (P : Nat → Bool) : ∀ (n i : Nat), sumB P i n ≤ n
  | 0, _ => Nat.le_refl _
  | n + 1, i => by
    have := sumB_le P n (i + 1)
    rw [sumB]; split <;> omega
theorem fndB_some {P : Nat → Bool} : ∀ {n i k : Nat}, fndB P i n = some k → i ≤ k ∧ k < i + n ∧ P k = true
  | 0, _, _, h => by simp [fndB] at h
  | n + 1, i, k, h => by
    rw [fndB] at h
    split at h
    · cases h; rename_i hp; exact ⟨Nat.le_refl _, by omega, hp⟩
    · obtain ⟨h1, h2, h3⟩ := fndB_some h
      exact ⟨by omega, by omega, h3⟩
def optN (d : Int32) (o : Option Nat) : Int32 := match o with
  | none => d
  | some k => nI k
-- texts
def cntO (f : Nat → Int32) (key : Int32) : Nat → Option Nat
  | 0 => none
  | t + 1 => if f (58 + 2 * t) / 1000 = key then some t else cntO f key t
theorem cntO_lt {f : Nat → Int32} {key : Int32} : ∀ {t i : Nat}, cntO f key t = some i → i < t ∧ f (58 + 2 * i) / 1000 = key
  | 0, _, h => by simp [cntO] at h
  | t + 1, i, h => by
    rw [cntO] at h
    split at h
    · cases h; rename_i hp; exact ⟨by omega, hp⟩
    · obtain ⟨h1, h2⟩ := cntO_lt h
      exact ⟨by omega, h2⟩
theorem cntO_congr {f g : Nat → Int32} {key : Int32} : ∀ (t : Nat), (∀ i, i < t → g (58 + 2 * i) = f (58 + 2 * i)) → cntO g key t = cntO f key t
  | 0, _ => rfl
  | t + 1, h => by rw [cntO, cntO, h t (by omega), cntO_congr t (fun i hi => h i (by omega))]
def twoK (s a b : Int32) : Int32 := if s = -1 then bi (decide (¬ a = 0) || decide (¬ b = 0)) else if s = -2 then bi (decide (¬ a = 0) && decide (¬ b = 0)) else if s = -3 then bi (decide (a < b)) else if s = -4 then bi (decide (a = b)) else if s = -5 then bi (decide (b < a)) else if s = -6 then a + b else if s = -7 then a - b else if s = -8 then a * b else if b = 0 then 0 else a / b
def ev1 (fa : Nat → Int32) (c : Int32) (s : List Int32) : List Int32 :=
  if 0 ≤ c then (if c < 10000 then c else fa (c - 10000).toNatClampNeg) :: s
  else if c = -10 then (match s with
    | x :: r => bi (decide (x = 0)) :: r
    | [] => [])
  else match s with
    | y :: x :: r => twoK c x y :: r
    | _ => []
def evl (fa f : Nat → Int32) (b : Nat) : Nat → List Int32
  | 0 => []
  | k + 1 => ev1 fa (f (b + k)) (evl fa f b k)
def dpth (f : Nat → Int32) (b : Nat) : Nat → Nat
  | 0 => 0
  | k + 1 => if 0 ≤ f (b + k) then dpth f b k + 1 else if f (b + k) = -10 then dpth f b k else dpth f b k - 1
/-- a code of ln numbers from b on that a stack can work out; names below m -/
def CdOk (f : Nat → Int32) (b m ln : Nat) : Prop := ln ≤ 96 ∧ dpth f b ln = 1 ∧ ∀ k, k < ln → (0 ≤ f (b + k) → f (b + k) < nI (10000 + m)) ∧ (¬ 0 ≤ f (b + k) → f (b + k) = -10 → 1 ≤ dpth f b k) ∧ (¬ 0 ≤ f (b + k) → ¬ f (b + k) = -10 → 2 ≤ dpth f b k ∧ -10 ≤ f (b + k))
def nmK (ky : Nat) : Nat := if ky = 0 then 3 else 2
def TxOk (f : Nat → Int32) (i ky ln : Nat) : Prop := f (58 + 2 * i) = nI (1000 * ky + ln) ∧ ky < 3 ∧ CdOk f (86 + 96 * i) (nmK ky) ln
def evT (f : Nat → Int32) (i : Nat) (fa : Nat → Int32) : Int32 := (evl fa f (86 + 96 * i) ((f (58 + 2 * i)).toNatClampNeg % 1000)).headD 0
theorem evl_len {fa f : Nat → Int32} {b m ln : Nat} (h : CdOk f b m ln) : ∀ k, k ≤ ln → (evl fa f b k).length = dpth f b k
  | 0, _ => rfl
  | k + 1, hk => by
    have ih := evl_len (fa := fa) h k (by omega)
    obtain ⟨h1, h2, h3⟩ := h.2.2 k (by omega)
    rw [evl, dpth]
    unfold ev1
    by_cases c1 : 0 ≤ f (b + k)
    · simp [c1, ih]
    · rw [if_neg c1, if_neg c1]
      by_cases c2 : f (b + k) = -10
      · rw [if_pos c2, if_pos c2]
        have h4 := h2 c1 c2
        cases he : evl fa f b k with
        | nil => rw [he] at ih; simp at ih; omega
        | cons x r => rw [he] at ih; simpa using ih
      · rw [if_neg c2, if_neg c2]
        have h4 := (h3 c1 c2).1
        cases he : evl fa f b k with
        | nil => rw [he] at ih; simp at ih; omega
        | cons x r =>
          cases r with
          | nil => rw [he] at ih; simp at ih; omega
          | cons y r => rw [he] at ih; simp at ih ⊢; omega
theorem dpth_le (f : Nat → Int32) (b : Nat) : ∀ k, dpth f b k ≤ k
  | 0 => Nat.le_refl _
  | k + 1 => by
    have := dpth_le f b k
    rw [dpth]; split
    · omega
    · split <;> omega
theorem nI_of_range {x : Int32} {a b : Nat} (hb : b < 2 ^ 31) (ha : a < 2 ^ 31) (h1 : nI a ≤ x) (h2 : x < nI b) : ∃ j, a ≤ j ∧ j < b ∧ x = nI j := by
  have h0 : ¬ x < 0 := fun h => Int32.lt_irrefl (Int32.lt_of_lt_of_le (Int32.lt_of_lt_of_le h (nI_pos' ha)) h1)
  obtain ⟨j, hj, rfl⟩ := nI_of h0
  exact ⟨j, (nI_leI ha hj).mp h1, (nI_ltI hj hb).mp h2, rfl⟩
