/-! the class's tape: signs of levels, the draft, leaves, keys -/
def lvB (k : Nat) (x : Int32) : Bool := decide (opB x ≠ 0) && decide (rnk (opB x) = k + 1)
theorem lvB0 (x : Int32) : lvB 0 x = decide (x = 124) := by
  by_cases h124 : x = 124
  · subst h124; decide
  by_cases h38 : x = 38
  · subst h38; decide
  by_cases h60 : x = 60
  · subst h60; decide
  by_cases h61 : x = 61
  · subst h61; decide
  by_cases h62 : x = 62
  · subst h62; decide
  by_cases h43 : x = 43
  · subst h43; decide
  by_cases h45 : x = 45
  · subst h45; decide
  by_cases h42 : x = 42
  · subst h42; decide
  by_cases h47 : x = 47
  · subst h47; decide
  have e : opB x = 0 := by rw [opB, if_neg h124, if_neg h38, if_neg h60, if_neg h61, if_neg h62, if_neg h43, if_neg h45, if_neg h42, if_neg h47]
  rw [lvB, e]
  simp [h124, h38, h60, h61, h62, h43, h45, h42, h47]
theorem lvB1 (x : Int32) : lvB 1 x = decide (x = 38) := by
  by_cases h124 : x = 124
  · subst h124; decide
  by_cases h38 : x = 38
  · subst h38; decide
  by_cases h60 : x = 60
  · subst h60; decide
  by_cases h61 : x = 61
  · subst h61; decide
  by_cases h62 : x = 62
  · subst h62; decide
  by_cases h43 : x = 43
  · subst h43; decide
  by_cases h45 : x = 45
  · subst h45; decide
  by_cases h42 : x = 42
  · subst h42; decide
  by_cases h47 : x = 47
  · subst h47; decide
  have e : opB x = 0 := by rw [opB, if_neg h124, if_neg h38, if_neg h60, if_neg h61, if_neg h62, if_neg h43, if_neg h45, if_neg h42, if_neg h47]
  rw [lvB, e]
  simp [h124, h38, h60, h61, h62, h43, h45, h42, h47]
theorem lvB2 (x : Int32) : lvB 2 x = (decide (x = 60) || decide (x = 61) || decide (x = 62)) := by
  by_cases h124 : x = 124
  · subst h124; decide
  by_cases h38 : x = 38
  · subst h38; decide
  by_cases h60 : x = 60
  · subst h60; decide
  by_cases h61 : x = 61
  · subst h61; decide
  by_cases h62 : x = 62
  · subst h62; decide
  by_cases h43 : x = 43
  · subst h43; decide
  by_cases h45 : x = 45
  · subst h45; decide
  by_cases h42 : x = 42
  · subst h42; decide
  by_cases h47 : x = 47
  · subst h47; decide
  have e : opB x = 0 := by rw [opB, if_neg h124, if_neg h38, if_neg h60, if_neg h61, if_neg h62, if_neg h43, if_neg h45, if_neg h42, if_neg h47]
  rw [lvB, e]
  simp [h124, h38, h60, h61, h62, h43, h45, h42, h47]
theorem lvB3 (x : Int32) : lvB 3 x = (decide (x = 43) || decide (x = 45)) := by
  by_cases h124 : x = 124
  · subst h124; decide
  by_cases h38 : x = 38
  · subst h38; decide
  by_cases h60 : x = 60
  · subst h60; decide
  by_cases h61 : x = 61
  · subst h61; decide
  by_cases h62 : x = 62
  · subst h62; decide
  by_cases h43 : x = 43
  · subst h43; decide
  by_cases h45 : x = 45
  · subst h45; decide
  by_cases h42 : x = 42
  · subst h42; decide
  by_cases h47 : x = 47
  · subst h47; decide
  have e : opB x = 0 := by rw [opB, if_neg h124, if_neg h38, if_neg h60, if_neg h61, if_neg h62, if_neg h43, if_neg h45, if_neg h42, if_neg h47]
  rw [lvB, e]
  simp [h124, h38, h60, h61, h62, h43, h45, h42, h47]
theorem lvB4 (x : Int32) : lvB 4 x = (decide (x = 42) || decide (x = 47)) := by
  by_cases h124 : x = 124
  · subst h124; decide
  by_cases h38 : x = 38
  · subst h38; decide
  by_cases h60 : x = 60
  · subst h60; decide
  by_cases h61 : x = 61
  · subst h61; decide
  by_cases h62 : x = 62
  · subst h62; decide
  by_cases h43 : x = 43
  · subst h43; decide
  by_cases h45 : x = 45
  · subst h45; decide
  by_cases h42 : x = 42
  · subst h42; decide
  by_cases h47 : x = 47
  · subst h47; decide
  have e : opB x = 0 := by rw [opB, if_neg h124, if_neg h38, if_neg h60, if_neg h61, if_neg h62, if_neg h43, if_neg h45, if_neg h42, if_neg h47]
  rw [lvB, e]
  simp [h124, h38, h60, h61, h62, h43, h45, h42, h47]
def lvL (tp : Nat → Int32) (L : Lx) (k : Nat) : Bool := decide (opL tp L ≠ 0) && decide (rnk (opL tp L) = k + 1)
theorem lvL_eq (tp : Nat → Int32) (L : Lx) (k : Nat) : lvL tp L k = (decide (L.2.2 = 3) && lvB k (tp L.1)) := by
  rw [lvL, opL, lvB]
  by_cases h : L.2.2 = 3
  · rw [if_pos h, decide_eq_true h, Bool.true_and]
  · rw [if_neg h, decide_eq_false h]; rfl
section
variable {l : Launch} {θ : Th} {σ σ' : Sg} {T : Nat} {tp : Nat → Int32} {L : Lx}
theorem c_P_signOfLevel (k : Nat) (hk : k ≤ 4) (htp : σ 65 = tp) (hT : σ 64 1 = nI T) (hT96 : T ≤ 96) (hok : LxOk tp T L) (hL : LxC σ L) : Ci l θ 2 m_P_signOfLevel [.inr 64, .inl (nI k)] σ (fun r σ' => σ' = σ ∧ r = bi (lvL tp L k)) := by
  have hat : ∀ (x : Int32) (τ : Sg), τ = σ → Ci l θ 1 m_P_atHand [.inr 64, .inl x] τ (fun r σ' => σ' = τ ∧ r = bi (sgnIs tp L x)) := fun x τ e => by subst e; exact c_P_atHand x htp hT hT96 hok hL
  rw [lvL_eq]
  refine Ci.of (Or.inl mi_P_signOfLevel) pk_P_signOfLevel (nb rfl) (Or.inr rfl) [some (.inr 64), some (.inl (nI k))] rfl fun Γ hG hR => ?_
  rcases (by omega : k = 0 ∨ k = 1 ∨ k = 2 ∨ k = 3 ∨ k = 4) with rfl | rfl | rfl | rfl | rfl
  · rw [lvB0] at hR
    refine hG.tsw [32, 39, 46, 79] 103 rfl rfl rfl (by decide +kernel) ?_ ?_
    · intro j u hj hx
      have e : j = 0 := by rw [nI_toInt (by omega)] at hx; omega
      subst e; cases hj
      refine hG.cV lk_P_76 mi_P_atHand rfl rfl (hat 124 σ rfl) rfl rfl rfl rfl rfl rfl rfl rfl ?_
      rintro x σ' ⟨rfl, rfl⟩
      refine hG.rz hR rfl rfl rfl rfl (bi_01 _) ?_
      exact ⟨rfl, rfl⟩
    · intro h
      exact absurd (show (nI 0).toInt = 0 + ((0 : Nat) : Int) by decide) (h 0 (by decide))
  · rw [lvB1] at hR
    refine hG.tsw [32, 39, 46, 79] 103 rfl rfl rfl (by decide +kernel) ?_ ?_
    · intro j u hj hx
      have e : j = 1 := by rw [nI_toInt (by omega)] at hx; omega
      subst e; cases hj
      refine hG.cV lk_P_76 mi_P_atHand rfl rfl (hat 38 σ rfl) rfl rfl rfl rfl rfl rfl rfl rfl ?_
      rintro x σ' ⟨rfl, rfl⟩
      refine hG.rz hR rfl rfl rfl rfl (bi_01 _) ?_
      exact ⟨rfl, rfl⟩
    · intro h
      exact absurd (show (nI 1).toInt = 0 + ((1 : Nat) : Int) by decide) (h 1 (by decide))
  · rw [lvB2] at hR
    have e2 : (decide (L.2.2 = 3) && (decide (tp L.1 = 60) || decide (tp L.1 = 61) || decide (tp L.1 = 62))) = (sgnIs tp L 60 || sgnIs tp L 61 || sgnIs tp L 62) := by
      rw [sgnIs, sgnIs, sgnIs]; cases decide (L.2.2 = 3) <;> simp
    rw [e2] at hR
    refine hG.tsw [32, 39, 46, 79] 103 rfl rfl rfl (by decide +kernel) ?_ ?_
    · intro j u hj hx
      have e : j = 2 := by rw [nI_toInt (by omega)] at hx; omega
      subst e; cases hj
      refine hG.cV lk_P_76 mi_P_atHand rfl rfl (hat 60 σ rfl) rfl rfl rfl rfl rfl rfl rfl rfl ?_
      rintro x σ' ⟨rfl, rfl⟩
      refine hG.br rfl rfl rfl rfl (fun k1 => ?_) (fun k1 => ?_)
      · refine hG.rz hR rfl rfl rfl rfl (Or.inr rfl) ?_
        exact ⟨rfl, by rw [bi_ne0.mp k1]; rfl⟩
      · refine hG.cV lk_P_76 mi_P_atHand rfl rfl (hat 61 _ rfl) rfl rfl rfl rfl rfl rfl rfl rfl ?_
        rintro x σ' ⟨rfl, rfl⟩
        refine hG.br rfl rfl rfl rfl (fun k2 => ?_) (fun k2 => ?_)
        · refine hG.rz hR rfl rfl rfl rfl (Or.inr rfl) ?_
          exact ⟨rfl, by rw [bi_ne0.mp k2]; simp; rfl⟩
        · refine hG.cV lk_P_76 mi_P_atHand rfl rfl (hat 62 _ rfl) rfl rfl rfl rfl rfl rfl rfl rfl ?_
          rintro x σ' ⟨rfl, rfl⟩
          refine hG.br rfl rfl rfl rfl (fun k3 => ?_) (fun k3 => ?_)
          · refine hG.rz hR rfl rfl rfl rfl (Or.inl rfl) ?_
            exact ⟨rfl, by rw [bi_eq0.mp k1, bi_eq0.mp k2, bi_eq0.mp k3]; rfl⟩
          · refine hG.rz hR rfl rfl rfl rfl (Or.inr rfl) ?_
            exact ⟨rfl, by rw [bi_ne0.mp k3]; simp; rfl⟩
    · intro h
      exact absurd (show (nI 2).toInt = 0 + ((2 : Nat) : Int) by decide) (h 2 (by decide))
  · rw [lvB3] at hR
    have e2 : (decide (L.2.2 = 3) && (decide (tp L.1 = 43) || decide (tp L.1 = 45))) = (sgnIs tp L 43 || sgnIs tp L 45) := by
      rw [sgnIs, sgnIs]; cases decide (L.2.2 = 3) <;> simp
    rw [e2] at hR
    have body : X Γ 79 [some (.inr 64), some (.inl (nI 3))] [] σ := by
      refine hG.cV lk_P_76 mi_P_atHand rfl rfl (hat 43 σ rfl) rfl rfl rfl rfl rfl rfl rfl rfl ?_
      rintro x σ' ⟨rfl, rfl⟩
      refine hG.br rfl rfl rfl rfl (fun k1 => ?_) (fun k1 => ?_)
      · refine hG.rz hR rfl rfl rfl rfl (Or.inr rfl) ?_
        exact ⟨rfl, by rw [bi_ne0.mp k1]; rfl⟩
      · refine hG.cV lk_P_76 mi_P_atHand rfl rfl (hat 45 _ rfl) rfl rfl rfl rfl rfl rfl rfl rfl ?_
        rintro x σ' ⟨rfl, rfl⟩
        refine hG.br rfl rfl rfl rfl (fun k2 => ?_) (fun k2 => ?_)
        · refine hG.rz hR rfl rfl rfl rfl (Or.inl rfl) ?_
          exact ⟨rfl, by rw [bi_eq0.mp k1, bi_eq0.mp k2]; rfl⟩
        · refine hG.rz hR rfl rfl rfl rfl (Or.inr rfl) ?_
          exact ⟨rfl, by rw [bi_ne0.mp k2]; simp; rfl⟩
    refine hG.tsw [32, 39, 46, 79] 103 rfl rfl rfl (by decide +kernel) ?_ ?_
    · intro j u hj hx
      have e : j = 3 := by rw [nI_toInt (by omega)] at hx; omega
      subst e
      cases hj; exact body
    · intro h
      exact absurd (show (nI 3).toInt = 0 + ((3 : Nat) : Int) by decide) (h 3 (by decide))
  · rw [lvB4] at hR
    have e2 : (decide (L.2.2 = 3) && (decide (tp L.1 = 42) || decide (tp L.1 = 47))) = (sgnIs tp L 42 || sgnIs tp L 47) := by
      rw [sgnIs, sgnIs]; cases decide (L.2.2 = 3) <;> simp
    rw [e2] at hR
    have body : X Γ 103 [some (.inr 64), some (.inl (nI 4))] [] σ := by
      refine hG.cV lk_P_76 mi_P_atHand rfl rfl (hat 42 σ rfl) rfl rfl rfl rfl rfl rfl rfl rfl ?_
      rintro x σ' ⟨rfl, rfl⟩
      refine hG.br rfl rfl rfl rfl (fun k1 => ?_) (fun k1 => ?_)
      · refine hG.rz hR rfl rfl rfl rfl (Or.inr rfl) ?_
        exact ⟨rfl, by rw [bi_ne0.mp k1]; rfl⟩
      · refine hG.cV lk_P_76 mi_P_atHand rfl rfl (hat 47 _ rfl) rfl rfl rfl rfl rfl rfl rfl rfl ?_
        rintro x σ' ⟨rfl, rfl⟩
        refine hG.br rfl rfl rfl rfl (fun k2 => ?_) (fun k2 => ?_)
        · refine hG.rz hR rfl rfl rfl rfl (Or.inl rfl) ?_
          exact ⟨rfl, by rw [bi_eq0.mp k1, bi_eq0.mp k2]; rfl⟩
        · refine hG.rz hR rfl rfl rfl rfl (Or.inr rfl) ?_
          exact ⟨rfl, by rw [bi_ne0.mp k2]; simp; rfl⟩
    refine hG.tsw [32, 39, 46, 79] 103 rfl rfl rfl (by decide +kernel) ?_ ?_
    · intro j u hj hx
      have e : j = 4 := by rw [nI_toInt (by omega)] at hx; omega
      subst e
      cases hj
    · intro h
      exact body
theorem c_X_addStep (s : Int32) (o : Nat) (h : σ 66 2 = nI o) (ho : o < 96) : Cv l θ 1 m_X_addStep [.inr 66, .inl s] σ (fun σ' => σ' = up (up σ 67 o s) 66 2 (nI (o + 1))) := by
  refine Cv.of (Or.inl mi_X_addStep) pk_X_addStep (nb rfl) rfl [some (.inr 66), some (.inl s)] rfl fun Γ hG hR => ?_
  refine hG.br rfl rfl rfl rfl (fun k1 => ?_) (fun k1 => ?_)
  · rw [h] at k1
    exact absurd k1 (nI_ge ho (by omega))
  · refine hG.sti rfl o rfl rfl rfl h ho ?_
    refine hG.rv hR rfl rfl rfl ?_
    rw [up_c _ _ _ _ (show 66 ≠ 67 by decide), h, nI_1]
theorem c_X_addSign (s : Int32) (o : Nat) (h : σ 66 2 = nI o) (ho : o < 96) : Cv l θ 2 m_X_addSign [.inr 66, .inl s] σ (fun σ' => σ' = up (up σ 67 o (-s)) 66 2 (nI (o + 1))) := by
  refine Cv.of (Or.inl mi_X_addSign) pk_X_addSign (nb rfl) rfl [some (.inr 66), some (.inl s)] rfl fun Γ hG hR => ?_
  refine hG.cVv lk_X_31 mi_X_addStep rfl rfl (c_X_addStep (-s) o h ho) rfl rfl rfl rfl rfl rfl rfl rfl ?_
  rintro σ' rfl
  refine hG.rv hR rfl rfl rfl ?_
  rfl
theorem c_X_addLeaf (s : Int32) (o lv : Nat) (h : σ 66 2 = nI o) (ho : o < 96) (hl : σ 66 1 = nI lv) : Cv l θ 2 m_X_addLeaf [.inr 66, .inl s] σ (fun σ' => σ' = up (up (up σ 66 1 (nI (lv + 1))) 67 o s) 66 2 (nI (o + 1))) := by
  refine Cv.of (Or.inl mi_X_addLeaf) pk_X_addLeaf (nb rfl) rfl [some (.inr 66), some (.inl s)] rfl fun Γ hG hR => ?_
  have c1 := c_X_addStep (l := l) (θ := θ) (σ := up σ 66 1 (nI (lv + 1))) s o (by rw [up_j _ _ _ _ (by decide)]; exact h) ho
  rw [← nI_1, ← hl] at c1
  refine hG.cVv lk_X_31 mi_X_addStep rfl rfl c1 rfl rfl rfl rfl rfl rfl rfl rfl ?_
  rintro σ' rfl
  refine hG.rv hR rfl rfl rfl ?_
  rw [hl, nI_1]
theorem c_X_begin (k : Int32) : Cv l θ 1 m_X_begin [.inr 66, .inl k] σ (fun σ' => σ' = up (up (up σ 66 0 k) 66 1 0) 66 2 0) := by
  refine Cv.of (Or.inl mi_X_begin) pk_X_begin (nb rfl) rfl [some (.inr 66), some (.inl k)] rfl fun Γ hG hR => ?_
  refine hG.rv hR rfl rfl rfl ?_
  rfl
theorem c_X_become0 : Cv l θ 1 m_X_become [.inr 4, .inr 66] σ (fun σ' => Sm [4, 5] σ σ' ∧ σ' 4 0 = σ 66 0 ∧ σ' 4 1 = σ 66 1 ∧ σ' 4 2 = σ 66 2 ∧ ∀ j, j < 96 → σ' 5 j = σ 67 j) := by
  refine Cv.of (Or.inl mi_X_become) pk_X_become (nb rfl) rfl [some (.inr 4), some (.inr 66)] rfl fun Γ hG hR => ?_
  refine hG.acp rfl lk_X_25 rfl 0 0 96 rfl rfl rfl rfl rfl rfl rfl rfl rfl (by decide) (by decide) ?_
  refine hG.rv hR rfl rfl rfl ?_
  refine ⟨(((Sm.rf.up (by decide)).up (by decide)).up (by decide)).upc (by decide), ?_, ?_, ?_, fun j hj => ?_⟩
  · rw [upc_c _ _ _ (by decide), up_j _ _ _ _ (by decide), up_j _ _ _ _ (by decide), up_self]
  · rw [upc_c _ _ _ (by decide), up_j _ _ _ _ (by decide), up_self, up_c _ _ _ _ (by decide)]
  · rw [upc_c _ _ _ (by decide), up_self, up_c _ _ _ _ (by decide), up_c _ _ _ _ (by decide)]
  · rw [upc_same, sb_cpy0 hj, up_c _ _ _ _ (by decide), up_c _ _ _ _ (by decide), up_c _ _ _ _ (by decide)]
theorem c_X_become1 : Cv l θ 1 m_X_become [.inr 6, .inr 66] σ (fun σ' => Sm [6, 7] σ σ' ∧ σ' 6 0 = σ 66 0 ∧ σ' 6 1 = σ 66 1 ∧ σ' 6 2 = σ 66 2 ∧ ∀ j, j < 96 → σ' 7 j = σ 67 j) := by
  refine Cv.of (Or.inl mi_X_become) pk_X_become (nb rfl) rfl [some (.inr 6), some (.inr 66)] rfl fun Γ hG hR => ?_
  refine hG.acp rfl lk_X_25 rfl 0 0 96 rfl rfl rfl rfl rfl rfl rfl rfl rfl (by decide) (by decide) ?_
  refine hG.rv hR rfl rfl rfl ?_
  refine ⟨(((Sm.rf.up (by decide)).up (by decide)).up (by decide)).upc (by decide), ?_, ?_, ?_, fun j hj => ?_⟩
  · rw [upc_c _ _ _ (by decide), up_j _ _ _ _ (by decide), up_j _ _ _ _ (by decide), up_self]
  · rw [upc_c _ _ _ (by decide), up_j _ _ _ _ (by decide), up_self, up_c _ _ _ _ (by decide)]
  · rw [upc_c _ _ _ (by decide), up_self, up_c _ _ _ _ (by decide), up_c _ _ _ _ (by decide)]
  · rw [upc_same, sb_cpy0 hj, up_c _ _ _ _ (by decide), up_c _ _ _ _ (by decide), up_c _ _ _ _ (by decide)]
theorem c_X_become2 : Cv l θ 1 m_X_become [.inr 8, .inr 66] σ (fun σ' => Sm [8, 9] σ σ' ∧ σ' 8 0 = σ 66 0 ∧ σ' 8 1 = σ 66 1 ∧ σ' 8 2 = σ 66 2 ∧ ∀ j, j < 96 → σ' 9 j = σ 67 j) := by
  refine Cv.of (Or.inl mi_X_become) pk_X_become (nb rfl) rfl [some (.inr 8), some (.inr 66)] rfl fun Γ hG hR => ?_
  refine hG.acp rfl lk_X_25 rfl 0 0 96 rfl rfl rfl rfl rfl rfl rfl rfl rfl (by decide) (by decide) ?_
  refine hG.rv hR rfl rfl rfl ?_
  refine ⟨(((Sm.rf.up (by decide)).up (by decide)).up (by decide)).upc (by decide), ?_, ?_, ?_, fun j hj => ?_⟩
  · rw [upc_c _ _ _ (by decide), up_j _ _ _ _ (by decide), up_j _ _ _ _ (by decide), up_self]
  · rw [upc_c _ _ _ (by decide), up_j _ _ _ _ (by decide), up_self, up_c _ _ _ _ (by decide)]
  · rw [upc_c _ _ _ (by decide), up_self, up_c _ _ _ _ (by decide), up_c _ _ _ _ (by decide)]
  · rw [upc_same, sb_cpy0 hj, up_c _ _ _ _ (by decide), up_c _ _ _ _ (by decide), up_c _ _ _ _ (by decide)]
theorem c_X_become3 : Cv l θ 1 m_X_become [.inr 10, .inr 66] σ (fun σ' => Sm [10, 11] σ σ' ∧ σ' 10 0 = σ 66 0 ∧ σ' 10 1 = σ 66 1 ∧ σ' 10 2 = σ 66 2 ∧ ∀ j, j < 96 → σ' 11 j = σ 67 j) := by
  refine Cv.of (Or.inl mi_X_become) pk_X_become (nb rfl) rfl [some (.inr 10), some (.inr 66)] rfl fun Γ hG hR => ?_
  refine hG.acp rfl lk_X_25 rfl 0 0 96 rfl rfl rfl rfl rfl rfl rfl rfl rfl (by decide) (by decide) ?_
  refine hG.rv hR rfl rfl rfl ?_
  refine ⟨(((Sm.rf.up (by decide)).up (by decide)).up (by decide)).upc (by decide), ?_, ?_, ?_, fun j hj => ?_⟩
  · rw [upc_c _ _ _ (by decide), up_j _ _ _ _ (by decide), up_j _ _ _ _ (by decide), up_self]
  · rw [upc_c _ _ _ (by decide), up_j _ _ _ _ (by decide), up_self, up_c _ _ _ _ (by decide)]
  · rw [upc_c _ _ _ (by decide), up_self, up_c _ _ _ _ (by decide), up_c _ _ _ _ (by decide)]
  · rw [upc_same, sb_cpy0 hj, up_c _ _ _ _ (by decide), up_c _ _ _ _ (by decide), up_c _ _ _ _ (by decide)]
theorem c_X_become4 : Cv l θ 1 m_X_become [.inr 12, .inr 66] σ (fun σ' => Sm [12, 13] σ σ' ∧ σ' 12 0 = σ 66 0 ∧ σ' 12 1 = σ 66 1 ∧ σ' 12 2 = σ 66 2 ∧ ∀ j, j < 96 → σ' 13 j = σ 67 j) := by
  refine Cv.of (Or.inl mi_X_become) pk_X_become (nb rfl) rfl [some (.inr 12), some (.inr 66)] rfl fun Γ hG hR => ?_
  refine hG.acp rfl lk_X_25 rfl 0 0 96 rfl rfl rfl rfl rfl rfl rfl rfl rfl (by decide) (by decide) ?_
  refine hG.rv hR rfl rfl rfl ?_
  refine ⟨(((Sm.rf.up (by decide)).up (by decide)).up (by decide)).upc (by decide), ?_, ?_, ?_, fun j hj => ?_⟩
  · rw [upc_c _ _ _ (by decide), up_j _ _ _ _ (by decide), up_j _ _ _ _ (by decide), up_self]
  · rw [upc_c _ _ _ (by decide), up_j _ _ _ _ (by decide), up_self, up_c _ _ _ _ (by decide)]
  · rw [upc_c _ _ _ (by decide), up_self, up_c _ _ _ _ (by decide), up_c _ _ _ _ (by decide)]
  · rw [upc_same, sb_cpy0 hj, up_c _ _ _ _ (by decide), up_c _ _ _ _ (by decide), up_c _ _ _ _ (by decide)]
theorem c_X_become5 : Cv l θ 1 m_X_become [.inr 14, .inr 66] σ (fun σ' => Sm [14, 15] σ σ' ∧ σ' 14 0 = σ 66 0 ∧ σ' 14 1 = σ 66 1 ∧ σ' 14 2 = σ 66 2 ∧ ∀ j, j < 96 → σ' 15 j = σ 67 j) := by
  refine Cv.of (Or.inl mi_X_become) pk_X_become (nb rfl) rfl [some (.inr 14), some (.inr 66)] rfl fun Γ hG hR => ?_
  refine hG.acp rfl lk_X_25 rfl 0 0 96 rfl rfl rfl rfl rfl rfl rfl rfl rfl (by decide) (by decide) ?_
  refine hG.rv hR rfl rfl rfl ?_
  refine ⟨(((Sm.rf.up (by decide)).up (by decide)).up (by decide)).upc (by decide), ?_, ?_, ?_, fun j hj => ?_⟩
  · rw [upc_c _ _ _ (by decide), up_j _ _ _ _ (by decide), up_j _ _ _ _ (by decide), up_self]
  · rw [upc_c _ _ _ (by decide), up_j _ _ _ _ (by decide), up_self, up_c _ _ _ _ (by decide)]
  · rw [upc_c _ _ _ (by decide), up_self, up_c _ _ _ _ (by decide), up_c _ _ _ _ (by decide)]
  · rw [upc_same, sb_cpy0 hj, up_c _ _ _ _ (by decide), up_c _ _ _ _ (by decide), up_c _ _ _ _ (by decide)]
theorem c_X_become6 : Cv l θ 1 m_X_become [.inr 16, .inr 66] σ (fun σ' => Sm [16, 17] σ σ' ∧ σ' 16 0 = σ 66 0 ∧ σ' 16 1 = σ 66 1 ∧ σ' 16 2 = σ 66 2 ∧ ∀ j, j < 96 → σ' 17 j = σ 67 j) := by
  refine Cv.of (Or.inl mi_X_become) pk_X_become (nb rfl) rfl [some (.inr 16), some (.inr 66)] rfl fun Γ hG hR => ?_
  refine hG.acp rfl lk_X_25 rfl 0 0 96 rfl rfl rfl rfl rfl rfl rfl rfl rfl (by decide) (by decide) ?_
  refine hG.rv hR rfl rfl rfl ?_
  refine ⟨(((Sm.rf.up (by decide)).up (by decide)).up (by decide)).upc (by decide), ?_, ?_, ?_, fun j hj => ?_⟩
  · rw [upc_c _ _ _ (by decide), up_j _ _ _ _ (by decide), up_j _ _ _ _ (by decide), up_self]
  · rw [upc_c _ _ _ (by decide), up_j _ _ _ _ (by decide), up_self, up_c _ _ _ _ (by decide)]
  · rw [upc_c _ _ _ (by decide), up_self, up_c _ _ _ _ (by decide), up_c _ _ _ _ (by decide)]
  · rw [upc_same, sb_cpy0 hj, up_c _ _ _ _ (by decide), up_c _ _ _ _ (by decide), up_c _ _ _ _ (by decide)]
theorem c_X_become7 : Cv l θ 1 m_X_become [.inr 18, .inr 66] σ (fun σ' => Sm [18, 19] σ σ' ∧ σ' 18 0 = σ 66 0 ∧ σ' 18 1 = σ 66 1 ∧ σ' 18 2 = σ 66 2 ∧ ∀ j, j < 96 → σ' 19 j = σ 67 j) := by
  refine Cv.of (Or.inl mi_X_become) pk_X_become (nb rfl) rfl [some (.inr 18), some (.inr 66)] rfl fun Γ hG hR => ?_
  refine hG.acp rfl lk_X_25 rfl 0 0 96 rfl rfl rfl rfl rfl rfl rfl rfl rfl (by decide) (by decide) ?_
  refine hG.rv hR rfl rfl rfl ?_
  refine ⟨(((Sm.rf.up (by decide)).up (by decide)).up (by decide)).upc (by decide), ?_, ?_, ?_, fun j hj => ?_⟩
  · rw [upc_c _ _ _ (by decide), up_j _ _ _ _ (by decide), up_j _ _ _ _ (by decide), up_self]
  · rw [upc_c _ _ _ (by decide), up_j _ _ _ _ (by decide), up_self, up_c _ _ _ _ (by decide)]
  · rw [upc_c _ _ _ (by decide), up_self, up_c _ _ _ _ (by decide), up_c _ _ _ _ (by decide)]
  · rw [upc_same, sb_cpy0 hj, up_c _ _ _ _ (by decide), up_c _ _ _ _ (by decide), up_c _ _ _ _ (by decide)]
theorem c_X_become8 : Cv l θ 1 m_X_become [.inr 20, .inr 66] σ (fun σ' => Sm [20, 21] σ σ' ∧ σ' 20 0 = σ 66 0 ∧ σ' 20 1 = σ 66 1 ∧ σ' 20 2 = σ 66 2 ∧ ∀ j, j < 96 → σ' 21 j = σ 67 j) := by
  refine Cv.of (Or.inl mi_X_become) pk_X_become (nb rfl) rfl [some (.inr 20), some (.inr 66)] rfl fun Γ hG hR => ?_
  refine hG.acp rfl lk_X_25 rfl 0 0 96 rfl rfl rfl rfl rfl rfl rfl rfl rfl (by decide) (by decide) ?_
  refine hG.rv hR rfl rfl rfl ?_
  refine ⟨(((Sm.rf.up (by decide)).up (by decide)).up (by decide)).upc (by decide), ?_, ?_, ?_, fun j hj => ?_⟩
  · rw [upc_c _ _ _ (by decide), up_j _ _ _ _ (by decide), up_j _ _ _ _ (by decide), up_self]
  · rw [upc_c _ _ _ (by decide), up_j _ _ _ _ (by decide), up_self, up_c _ _ _ _ (by decide)]
  · rw [upc_c _ _ _ (by decide), up_self, up_c _ _ _ _ (by decide), up_c _ _ _ _ (by decide)]
  · rw [upc_same, sb_cpy0 hj, up_c _ _ _ _ (by decide), up_c _ _ _ _ (by decide), up_c _ _ _ _ (by decide)]
theorem c_X_become9 : Cv l θ 1 m_X_become [.inr 22, .inr 66] σ (fun σ' => Sm [22, 23] σ σ' ∧ σ' 22 0 = σ 66 0 ∧ σ' 22 1 = σ 66 1 ∧ σ' 22 2 = σ 66 2 ∧ ∀ j, j < 96 → σ' 23 j = σ 67 j) := by
  refine Cv.of (Or.inl mi_X_become) pk_X_become (nb rfl) rfl [some (.inr 22), some (.inr 66)] rfl fun Γ hG hR => ?_
  refine hG.acp rfl lk_X_25 rfl 0 0 96 rfl rfl rfl rfl rfl rfl rfl rfl rfl (by decide) (by decide) ?_
  refine hG.rv hR rfl rfl rfl ?_
  refine ⟨(((Sm.rf.up (by decide)).up (by decide)).up (by decide)).upc (by decide), ?_, ?_, ?_, fun j hj => ?_⟩
  · rw [upc_c _ _ _ (by decide), up_j _ _ _ _ (by decide), up_j _ _ _ _ (by decide), up_self]
  · rw [upc_c _ _ _ (by decide), up_j _ _ _ _ (by decide), up_self, up_c _ _ _ _ (by decide)]
  · rw [upc_c _ _ _ (by decide), up_self, up_c _ _ _ _ (by decide), up_c _ _ _ _ (by decide)]
  · rw [upc_same, sb_cpy0 hj, up_c _ _ _ _ (by decide), up_c _ _ _ _ (by decide), up_c _ _ _ _ (by decide)]
theorem c_X_become10 : Cv l θ 1 m_X_become [.inr 24, .inr 66] σ (fun σ' => Sm [24, 25] σ σ' ∧ σ' 24 0 = σ 66 0 ∧ σ' 24 1 = σ 66 1 ∧ σ' 24 2 = σ 66 2 ∧ ∀ j, j < 96 → σ' 25 j = σ 67 j) := by
  refine Cv.of (Or.inl mi_X_become) pk_X_become (nb rfl) rfl [some (.inr 24), some (.inr 66)] rfl fun Γ hG hR => ?_
  refine hG.acp rfl lk_X_25 rfl 0 0 96 rfl rfl rfl rfl rfl rfl rfl rfl rfl (by decide) (by decide) ?_
  refine hG.rv hR rfl rfl rfl ?_
  refine ⟨(((Sm.rf.up (by decide)).up (by decide)).up (by decide)).upc (by decide), ?_, ?_, ?_, fun j hj => ?_⟩
  · rw [upc_c _ _ _ (by decide), up_j _ _ _ _ (by decide), up_j _ _ _ _ (by decide), up_self]
  · rw [upc_c _ _ _ (by decide), up_j _ _ _ _ (by decide), up_self, up_c _ _ _ _ (by decide)]
  · rw [upc_c _ _ _ (by decide), up_self, up_c _ _ _ _ (by decide), up_c _ _ _ _ (by decide)]
  · rw [upc_same, sb_cpy0 hj, up_c _ _ _ _ (by decide), up_c _ _ _ _ (by decide), up_c _ _ _ _ (by decide)]
theorem c_X_become11 : Cv l θ 1 m_X_become [.inr 26, .inr 66] σ (fun σ' => Sm [26, 27] σ σ' ∧ σ' 26 0 = σ 66 0 ∧ σ' 26 1 = σ 66 1 ∧ σ' 26 2 = σ 66 2 ∧ ∀ j, j < 96 → σ' 27 j = σ 67 j) := by
  refine Cv.of (Or.inl mi_X_become) pk_X_become (nb rfl) rfl [some (.inr 26), some (.inr 66)] rfl fun Γ hG hR => ?_
  refine hG.acp rfl lk_X_25 rfl 0 0 96 rfl rfl rfl rfl rfl rfl rfl rfl rfl (by decide) (by decide) ?_
  refine hG.rv hR rfl rfl rfl ?_
  refine ⟨(((Sm.rf.up (by decide)).up (by decide)).up (by decide)).upc (by decide), ?_, ?_, ?_, fun j hj => ?_⟩
  · rw [upc_c _ _ _ (by decide), up_j _ _ _ _ (by decide), up_j _ _ _ _ (by decide), up_self]
  · rw [upc_c _ _ _ (by decide), up_j _ _ _ _ (by decide), up_self, up_c _ _ _ _ (by decide)]
  · rw [upc_c _ _ _ (by decide), up_self, up_c _ _ _ _ (by decide), up_c _ _ _ _ (by decide)]
  · rw [upc_same, sb_cpy0 hj, up_c _ _ _ _ (by decide), up_c _ _ _ _ (by decide), up_c _ _ _ _ (by decide)]
theorem c_X_become12 : Cv l θ 1 m_X_become [.inr 28, .inr 66] σ (fun σ' => Sm [28, 29] σ σ' ∧ σ' 28 0 = σ 66 0 ∧ σ' 28 1 = σ 66 1 ∧ σ' 28 2 = σ 66 2 ∧ ∀ j, j < 96 → σ' 29 j = σ 67 j) := by
  refine Cv.of (Or.inl mi_X_become) pk_X_become (nb rfl) rfl [some (.inr 28), some (.inr 66)] rfl fun Γ hG hR => ?_
  refine hG.acp rfl lk_X_25 rfl 0 0 96 rfl rfl rfl rfl rfl rfl rfl rfl rfl (by decide) (by decide) ?_
  refine hG.rv hR rfl rfl rfl ?_
  refine ⟨(((Sm.rf.up (by decide)).up (by decide)).up (by decide)).upc (by decide), ?_, ?_, ?_, fun j hj => ?_⟩
  · rw [upc_c _ _ _ (by decide), up_j _ _ _ _ (by decide), up_j _ _ _ _ (by decide), up_self]
  · rw [upc_c _ _ _ (by decide), up_j _ _ _ _ (by decide), up_self, up_c _ _ _ _ (by decide)]
  · rw [upc_c _ _ _ (by decide), up_self, up_c _ _ _ _ (by decide), up_c _ _ _ _ (by decide)]
  · rw [upc_same, sb_cpy0 hj, up_c _ _ _ _ (by decide), up_c _ _ _ _ (by decide), up_c _ _ _ _ (by decide)]
theorem c_X_become13 : Cv l θ 1 m_X_become [.inr 30, .inr 66] σ (fun σ' => Sm [30, 31] σ σ' ∧ σ' 30 0 = σ 66 0 ∧ σ' 30 1 = σ 66 1 ∧ σ' 30 2 = σ 66 2 ∧ ∀ j, j < 96 → σ' 31 j = σ 67 j) := by
  refine Cv.of (Or.inl mi_X_become) pk_X_become (nb rfl) rfl [some (.inr 30), some (.inr 66)] rfl fun Γ hG hR => ?_
  refine hG.acp rfl lk_X_25 rfl 0 0 96 rfl rfl rfl rfl rfl rfl rfl rfl rfl (by decide) (by decide) ?_
  refine hG.rv hR rfl rfl rfl ?_
  refine ⟨(((Sm.rf.up (by decide)).up (by decide)).up (by decide)).upc (by decide), ?_, ?_, ?_, fun j hj => ?_⟩
  · rw [upc_c _ _ _ (by decide), up_j _ _ _ _ (by decide), up_j _ _ _ _ (by decide), up_self]
  · rw [upc_c _ _ _ (by decide), up_j _ _ _ _ (by decide), up_self, up_c _ _ _ _ (by decide)]
  · rw [upc_c _ _ _ (by decide), up_self, up_c _ _ _ _ (by decide), up_c _ _ _ _ (by decide)]
  · rw [upc_same, sb_cpy0 hj, up_c _ _ _ _ (by decide), up_c _ _ _ _ (by decide), up_c _ _ _ _ (by decide)]
end
