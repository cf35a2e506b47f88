/-! the dealing -/
abbrev Bst : Type := Option (Nat × Nat × List (Option Nat))
def gvA (d : Int32) (gv : List (Option Nat)) (a : Nat → Int32) : Prop := ∀ (i : Nat) (x : Option Nat), gv[i]? = some x → a i = optN d x
def gvOk (gv : List (Option Nat)) : Prop := ∀ v, some v ∈ gv → v < 125
def gvP (g : Nat → Bool) (nm : Nat) (x : Option Nat) : Bool := match x with
  | none => true
  | some v => !g (nrIx (nI v) (nI nm))
def mayB (g F : Nat → Bool) (gv : List (Option Nat)) (nm : Nat) : Bool := F nm && gv.all (gvP g nm)
def btr (m fs : Nat) (B : Bst) : Bool := match B with
  | none => true
  | some (bm, bf, _) => decide (bm < m) || (decide (m = bm) && decide (bf < fs))
def dl (g F : Nat → Bool) (W : Nat → Nat → Nat) : Nat → Nat → List (Option Nat) → Nat → Nat → Bst → Bst
  | 0, _, gv, m, fs, B => if btr m fs B then some (m, fs, gv) else B
  | r + 1, c, gv, m, fs, B => dl g F W r (c + 1) (gv ++ [none]) m fs (if mayB g F gv (W c 1) then dl g F W r (c + 1) (gv ++ [some (W c 1)]) (m + 1) fs (if mayB g F gv (W c 0) then dl g F W r (c + 1) (gv ++ [some (W c 0)]) (m + 1) (fs + 1) B else B) else (if mayB g F gv (W c 0) then dl g F W r (c + 1) (gv ++ [some (W c 0)]) (m + 1) (fs + 1) B else B))
def BOk (cN : Nat) (B : Bst) : Prop := ∀ bm bf bl, B = some (bm, bf, bl) → bl.length = cN ∧ gvOk bl ∧ bm ≤ cN ∧ bf ≤ cN
theorem gvOk_app {gv : List (Option Nat)} {x : Option Nat} (h : gvOk gv) (hx : ∀ v, x = some v → v < 125) : gvOk (gv ++ [x]) := by
  intro v hv
  rcases List.mem_append.mp hv with h1 | h1
  · exact h v h1
  · exact hx v (List.mem_singleton.mp h1).symm
theorem dl_ok {g F : Nat → Bool} {W : Nat → Nat → Nat} {cN : Nat} (hW : ∀ i w, i < cN → w < 2 → W i w < 125) : ∀ (r c : Nat) (gv : List (Option Nat)) (m fs : Nat) (B : Bst), c + r = cN → gv.length = c → gvOk gv → m ≤ c → fs ≤ c → BOk cN B → BOk cN (dl g F W r c gv m fs B)
  | 0, c, gv, m, fs, B, hc, hl, hg, hm, hfs, hB => by
    rw [dl]
    split
    · intro bm bf bl h
      cases h
      exact ⟨by omega, hg, by omega, by omega⟩
    · exact hB
  | r + 1, c, gv, m, fs, B, hc, hl, hg, hm, hfs, hB => by
    rw [dl]
    have h1 : BOk cN (if mayB g F gv (W c 0) then dl g F W r (c + 1) (gv ++ [some (W c 0)]) (m + 1) (fs + 1) B else B) := by
      split
      · exact dl_ok hW r (c + 1) _ _ _ _ (by omega) (by simp [hl]) (gvOk_app hg (fun v h => by cases h; exact hW c 0 (by omega) (by omega))) (by omega) (by omega) hB
      · exact hB
    refine dl_ok hW r (c + 1) _ _ _ _ (by omega) (by simp [hl]) (gvOk_app hg (fun v h => by cases h)) (by omega) (by omega) ?_
    split
    · exact dl_ok hW r (c + 1) _ _ _ _ (by omega) (by simp [hl]) (gvOk_app hg (fun v h => by cases h; exact hW c 1 (by omega) (by omega))) (by omega) (by omega) h1
    · exact h1
/-- something is always dealt -/
theorem dl_some {g F : Nat → Bool} {W : Nat → Nat → Nat} : ∀ (r c : Nat) (gv : List (Option Nat)) (m fs : Nat) (B : Bst), ∃ q, dl g F W r c gv m fs B = some q
  | 0, c, gv, m, fs, B => by
    rw [dl]
    cases B with
    | none => exact ⟨_, rfl⟩
    | some q => split <;> exact ⟨_, rfl⟩
  | r + 1, c, gv, m, fs, B => by
    rw [dl]
    exact dl_some r (c + 1) _ _ _ _
theorem gvA_app {d : Int32} {gv : List (Option Nat)} {a : Nat → Int32} {x : Option Nat} (h : gvA d gv a) : gvA d (gv ++ [x]) (upd a gv.length (optN d x)) := by
  intro i z hz
  by_cases hi : i < gv.length
  · rw [List.getElem?_append_left hi] at hz
    rw [show upd a gv.length (optN d x) i = a i by simp [upd]; omega]
    exact h i z hz
  · rw [List.getElem?_append_right (by omega)] at hz
    have hi2 : i - gv.length = 0 := by
      cases hq : i - gv.length with
      | zero => rfl
      | succ k => rw [hq] at hz; simp at hz
    rw [hi2] at hz
    have e : i = gv.length := by omega
    simp at hz
    rw [e, hz]
    simp [upd]
theorem gvA_pre {d : Int32} {gv : List (Option Nat)} {a : Nat → Int32} {x : Option Nat} (h : gvA d (gv ++ [x]) a) : gvA d gv a := by
  intro i z hz
  have hi : i < gv.length := (List.getElem?_eq_some_iff.mp hz).1
  exact h i z (by rw [List.getElem?_append_left hi]; exact hz)
theorem gvA_upd {d : Int32} {gv : List (Option Nat)} {a : Nat → Int32} {j : Nat} {v : Int32} (h : gvA d gv a) (hj : gv.length ≤ j) : gvA d gv (upd a j v) := by
  intro i z hz
  have hi : i < gv.length := (List.getElem?_eq_some_iff.mp hz).1
  rw [show upd a j v i = a i by simp [upd]; omega]
  exact h i z hz
def wshN (f : Nat → Int32) (c w : Nat) : Nat := (f (6 + 2 * c + w)).toNatClampNeg
