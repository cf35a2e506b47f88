/-! words and signs of a tape -/
def isL (x : Int32) : Bool := decide (97 ≤ x) && decide (x ≤ 122)
def isD (x : Int32) : Bool := decide (48 ≤ x) && decide (x ≤ 57)
def kdB (x : Int32) : Nat := if isL x then 1 else if isD x then 2 else 3
def skp (tp : Nat → Int32) : Nat → Nat → Nat
  | 0, p => p
  | m + 1, p => if tp p = 32 then skp tp m (p + 1) else p
def rnE (tp : Nat → Int32) (k : Nat) : Nat → Nat → Nat
  | 0, p => p
  | m + 1, p => if kdB (tp p) = k then rnE tp k m (p + 1) else p
abbrev Lx : Type := Nat × Nat × Nat
def lexN (tp : Nat → Int32) (T p : Nat) (pw : Bool) : Lx := if skp tp (T - p) p = T then (T, T, 0) else if kdB (tp (skp tp (T - p) p)) = 3 then (skp tp (T - p) p, skp tp (T - p) p + 1, 3) else (skp tp (T - p) p, rnE tp (kdB (tp (skp tp (T - p) p))) (T - skp tp (T - p) p) (skp tp (T - p) p), if pw && decide (skp tp (T - p) p = p) then 4 else kdB (tp (skp tp (T - p) p)))
def isW (L : Lx) : Bool := decide (L.2.2 = 1) || decide (L.2.2 = 2)
def advL (tp : Nat → Int32) (T : Nat) (L : Lx) : Lx := lexN tp T L.2.1 (isW L)
theorem skp_le (tp : Nat → Int32) : ∀ (m p : Nat), p ≤ skp tp m p ∧ skp tp m p ≤ p + m
  | 0, p => ⟨Nat.le_refl _, Nat.le_refl _⟩
  | m + 1, p => by
    have := skp_le tp m (p + 1)
    rw [skp]; split <;> omega
theorem rnE_le (tp : Nat → Int32) (k : Nat) : ∀ (m p : Nat), p ≤ rnE tp k m p ∧ rnE tp k m p ≤ p + m
  | 0, p => ⟨Nat.le_refl _, Nat.le_refl _⟩
  | m + 1, p => by
    have := rnE_le tp k m (p + 1)
    rw [rnE]; split <;> omega
theorem rnE_in {tp : Nat → Int32} {k : Nat} : ∀ {m p i : Nat}, p ≤ i → i < rnE tp k m p → kdB (tp i) = k
  | 0, p, i, h1, h2 => by rw [rnE] at h2; omega
  | m + 1, p, i, h1, h2 => by
    rw [rnE] at h2
    split at h2
    · rename_i hk
      by_cases hi : i = p
      · subst hi; exact hk
      · exact rnE_in (by omega) h2
    · omega
theorem kdB_cases (x : Int32) : kdB x = 1 ∨ kdB x = 2 ∨ kdB x = 3 := by
  unfold kdB; split
  · exact Or.inl rfl
  · split
    · exact Or.inr (Or.inl rfl)
    · exact Or.inr (Or.inr rfl)
/-- a word or sign at hand: where, and of what kind -/
def LxOk (tp : Nat → Int32) (T : Nat) (L : Lx) : Prop := (L.2.2 = 0 ∧ L.1 = T ∧ L.2.1 = T) ∨ (L.2.2 = 3 ∧ L.1 < T ∧ L.2.1 = L.1 + 1 ∧ kdB (tp L.1) = 3) ∨ ((L.2.2 = 1 ∨ L.2.2 = 2 ∨ L.2.2 = 4) ∧ L.1 < L.2.1 ∧ L.2.1 ≤ T ∧ (kdB (tp L.1) = 1 ∨ kdB (tp L.1) = 2) ∧ (L.2.2 ≠ 4 → L.2.2 = kdB (tp L.1)) ∧ L.2.1 = rnE tp (kdB (tp L.1)) (T - L.1) L.1)
theorem lexN_ok {tp : Nat → Int32} {T p : Nat} {pw : Bool} (hp : p ≤ T) : LxOk tp T (lexN tp T p pw) ∧ p ≤ (lexN tp T p pw).1 := by
  have h1 := skp_le tp (T - p) p
  unfold lexN
  generalize skp tp (T - p) p = s at *
  by_cases hs : s = T
  · rw [if_pos hs]
    exact ⟨Or.inl ⟨rfl, rfl, rfl⟩, hp⟩
  · rw [if_neg hs]
    by_cases hk : kdB (tp s) = 3
    · rw [if_pos hk]
      exact ⟨Or.inr (Or.inl ⟨rfl, by dsimp only; omega, rfl, hk⟩), h1.1⟩
    · rw [if_neg hk]
      have h2 := rnE_le tp (kdB (tp s)) (T - s) s
      have hk12 : kdB (tp s) = 1 ∨ kdB (tp s) = 2 := by
        rcases kdB_cases (tp s) with h | h | h
        · exact Or.inl h
        · exact Or.inr h
        · exact absurd h hk
      refine ⟨Or.inr (Or.inr ⟨?_, ?_, by dsimp only; omega, hk12, ?_, rfl⟩), h1.1⟩
      · dsimp only
        split
        · exact Or.inr (Or.inr rfl)
        · rcases hk12 with h | h
          · exact Or.inl h
          · exact Or.inr (Or.inl h)
      · dsimp only
        have : rnE tp (kdB (tp s)) (T - s) s = rnE tp (kdB (tp s)) (T - s - 1) (s + 1) := by
          obtain ⟨q, hq⟩ : ∃ q, T - s = q + 1 := ⟨T - s - 1, by omega⟩
          rw [hq, rnE, if_pos rfl]; rfl
        rw [this]
        have h3 := rnE_le tp (kdB (tp s)) (T - s - 1) (s + 1)
        omega
      · dsimp only
        intro h4
        split at h4
        · exact absurd rfl h4
        · rename_i h5; rw [if_neg h5]
theorem LxOk_le {tp : Nat → Int32} {T : Nat} {L : Lx} (h : LxOk tp T L) : L.1 ≤ T ∧ L.2.1 ≤ T ∧ L.1 ≤ L.2.1 := by
  rcases h with ⟨-, h1, h2⟩ | ⟨-, h1, h2, -⟩ | ⟨-, h1, h2, -⟩ <;> omega
theorem advL_ok {tp : Nat → Int32} {T : Nat} {L : Lx} (h : LxOk tp T L) : LxOk tp T (advL tp T L) ∧ L.2.1 ≤ (advL tp T L).1 := lexN_ok (LxOk_le h).2.1
def numN (tp : Nat → Int32) : Nat → Nat → Nat → Nat
  | 0, _, a => a
  | m + 1, p, a => numN tp m (p + 1) (10 * a + (tp p - 48).toNatClampNeg)
theorem isD_nI {x : Int32} (h : isD x = true) : ∃ d, d ≤ 9 ∧ x = nI (48 + d) := by
  simp only [isD, Bool.and_eq_true, decide_eq_true_eq] at h
  obtain ⟨k, h1, h2, h3⟩ := nI_of_range (a := 48) (b := 58) (by omega) (by omega) h.1 (Int32.lt_of_le_of_lt h.2 (by decide))
  exact ⟨k - 48, by omega, by rw [h3, show 48 + (k - 48) = k by omega]⟩
theorem kdB_2 {x : Int32} (h : kdB x = 2) : isD x = true := by
  unfold kdB at h
  split at h
  · cases h
  · split at h
    · assumption
    · cases h
theorem kdB_1 {x : Int32} (h : kdB x = 1) : isL x = true := by
  unfold kdB at h
  split at h
  · assumption
  · split at h <;> cases h
theorem isL_D {x : Int32} (h : isL x = true) : isD x = false := by
  simp only [isL, Bool.and_eq_true, decide_eq_true_eq] at h
  have : ¬ x ≤ 57 := Int32.not_le.mpr (Int32.lt_of_lt_of_le (by decide) h.1)
  simp [isD, this]
theorem isL_1 {x : Int32} : isL x = true ↔ kdB x = 1 := ⟨fun h => by rw [kdB, if_pos h], kdB_1⟩
theorem isD_2 {x : Int32} : isD x = true ↔ kdB x = 2 := by
  constructor
  · intro h
    have hl : ¬ isL x = true := fun hl => by rw [isL_D hl] at h; cases h
    rw [kdB, if_neg hl, if_pos h]
  · exact kdB_2
theorem numN_lt (tp : Nat → Int32) : ∀ (m p a : Nat), (∀ i, p ≤ i → i < p + m → kdB (tp i) = 2) → numN tp m p a < (a + 1) * 10 ^ m
  | 0, _, a, _ => by simp [numN]
  | m + 1, p, a, h => by
    obtain ⟨d, hd, e⟩ := isD_nI (kdB_2 (h p (by omega) (by omega)))
    have hv : (tp p - 48).toNatClampNeg = d := by
      rw [e, show nI (48 + d) - 48 = nI (48 + d - 48) from pk_sub (b := 48) (by omega), nI_clamp (by omega)]; omega
    have ih := numN_lt tp m (p + 1) (10 * a + d) (fun i h1 h2 => h i (by omega) (by omega))
    rw [numN, hv]
    refine Nat.lt_of_lt_of_le ih ?_
    rw [Nat.pow_succ, Nat.mul_comm (10 ^ m) 10, ← Nat.mul_assoc]
    exact Nat.mul_le_mul_right _ (by omega)
-- a leaf: a number of at most four digits, or a name of the key
def nmIx (key : Nat) (x : Int32) : Option Nat := if key = 0 then (if x = 100 then some 0 else if x = 102 then some 1 else if x = 108 then some 2 else none) else if key = 1 then (if x = 97 then some 0 else if x = 107 then some 1 else none) else (if x = 121 then some 0 else if x = 112 then some 1 else none)
def leafL (tp : Nat → Int32) (key : Nat) (L : Lx) : Option Nat := if L.2.2 = 2 then (if L.2.1 - L.1 ≤ 4 then some (numN tp (L.2.1 - L.1) L.1 0) else none) else if L.2.2 = 1 then (if L.2.1 - L.1 = 1 then (nmIx key (tp L.1)).map (fun i => 10000 + i) else none) else none
-- signs: 1 | 2 & 3 < 4 = 5 > 6 + 7 - 8 * 9 / 10 ! 11 (
def opB (x : Int32) : Nat := if x = 124 then 1 else if x = 38 then 2 else if x = 60 then 3 else if x = 61 then 4 else if x = 62 then 5 else if x = 43 then 6 else if x = 45 then 7 else if x = 42 then 8 else if x = 47 then 9 else 0
def opL (tp : Nat → Int32) (L : Lx) : Nat := if L.2.2 = 3 then opB (tp L.1) else 0
def sgnIs (tp : Nat → Int32) (L : Lx) (x : Int32) : Bool := decide (L.2.2 = 3) && decide (tp L.1 = x)
def rnk (s : Nat) : Nat := if s = 1 then 1 else if s = 2 then 2 else if s ≤ 5 then 3 else if s ≤ 7 then 4 else if s ≤ 9 then 5 else 6
def opI (s : Nat) : Int32 := -nI s
def stl (r : Nat) : List Nat → List Int32 → List Nat × List Int32
  | [], o => ([], o)
  | s :: w, o => if s ≠ 11 ∧ r ≤ rnk s then stl r w (opI s :: o) else (s :: w, o)
def keyW (k i : Nat) : Int32 := ((st_byt.getD 0 []).getD (4 * k + i) 0)
def keyIs (tp : Nat → Int32) (L : Lx) (k : Nat) : Bool := allB (fun i => decide (tp (L.1 + i) = keyW k i)) 0 4
def keyL (tp : Nat → Int32) (L : Lx) : Option Nat := if L.2.2 = 1 ∧ L.2.1 - L.1 = 4 then fndB (keyIs tp L) 0 3 else none
