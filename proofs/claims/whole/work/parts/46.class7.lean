/-! a Valley becomes another; people drawn; rows -/
section
variable {l : Launch} {θ : Th} {σ : Sg} {n c t : Nat} {f : Nat → Int32}
theorem drawP_eq (f : Nat → Int32) (n : Nat) : drawP f n = comesF (upd (upd (upd f 0 (drawZ (f 0))) 0 (drawZ (drawZ (f 0)))) 0 (drawZ (drawZ (drawZ (f 0))))) n (rmI (drawV (drawZ (f 0))) 6) (rmI (drawV (drawZ (drawZ (f 0)))) 125) (f 2 - rmI (drawV (drawZ (drawZ (drawZ (f 0))))) 90) := by
  rw [drawP, upd_upd, upd_upd]
theorem c_V_drawPerson (hn : n < 10) (hcl : c ≤ 6) (ht : TxsOk f t) (hV : RV σ 32 f n c t) : Cv l θ 2 m_V_drawPerson [.inr 32] σ (fun σ' => Sm [32, 33, 34, 35, 36] σ σ' ∧ RV σ' 32 (drawP f n) (n + 1) c t) := by
  rw [drawP_eq]
  refine Cv.of (Or.inl mi_V_drawPerson) pk_V_drawPerson (nb rfl) rfl [some (.inr 32), none, none, none] rfl fun Γ hG hR => ?_
  refine hG.cV lk_V_68 mi_V_draw rfl rfl (c_V_draw32) rfl rfl rfl rfl rfl rfl rfl rfl ?_
  rintro x τ1 ⟨rfl, rfl⟩
  rw [hV.z]
  have hV1 := hV.setz ht (drawZ (f 0))
  have hg1 : ∀ z j, 58 ≤ j → upd f 0 z j = f j := fun z j hj => upd_ne (by omega)
  have ht1 : TxsOk (upd f 0 (drawZ (f 0))) t := TxsOk_congr ht (hg1 _)
  refine hG.rm rfl rfl rfl (by decide) ?_
  refine hG.cV lk_V_68 mi_V_draw rfl rfl (c_V_draw32) rfl rfl rfl rfl rfl rfl rfl rfl ?_
  rintro x τ2 ⟨rfl, rfl⟩
  rw [hV1.z, upd_same]
  have hV2 := hV1.setz ht1 (drawZ (drawZ (f 0)))
  have ht2 : TxsOk (upd (upd f 0 (drawZ (f 0))) 0 (drawZ (drawZ (f 0)))) t := TxsOk_congr ht (fun j hj => by rw [upd_ne (by omega), upd_ne (by omega)])
  refine hG.rm rfl rfl rfl (by decide) ?_
  refine hG.cV lk_V_68 mi_V_draw rfl rfl (c_V_draw32) rfl rfl rfl rfl rfl rfl rfl rfl ?_
  rintro x τ3 ⟨rfl, rfl⟩
  rw [hV2.z, upd_same, hV2.y, upd_ne (show 2 ≠ 0 by decide), upd_ne (show 2 ≠ 0 by decide)]
  have hV3 := hV2.setz ht2 (drawZ (drawZ (drawZ (f 0))))
  have ht3 : TxsOk (upd (upd (upd f 0 (drawZ (f 0))) 0 (drawZ (drawZ (f 0)))) 0 (drawZ (drawZ (drawZ (f 0))))) t := TxsOk_congr ht (fun j hj => by rw [upd_ne (by omega), upd_ne (by omega), upd_ne (by omega)])
  refine hG.rm rfl rfl rfl (by decide) ?_
  refine hG.cV lk_V_74 mi_V_enter rfl rfl (c_V_enter (rmI (drawV (drawZ (f 0))) 6) (rmI (drawV (drawZ (drawZ (f 0)))) 125) (f 2 - rmI (drawV (drawZ (drawZ (drawZ (f 0))))) 90) hn hcl ht3 hV3) rfl rfl rfl rfl rfl rfl rfl rfl ?_
  rintro x τ4 ⟨hS, hV4, rfl⟩
  refine hG.rv hR rfl rfl rfl ?_
  exact ⟨(((Sm.rf.up (by decide)).up (by decide)).up (by decide)).tr hS, hV4⟩
theorem c_V_become50_32 (hn : n ≤ 10) (hcl : c ≤ 6) (hV : RV σ 32 f n c t) : Cv l θ 1 m_V_become [.inr 50, .inr 32] σ (fun σ' => Sm [50, 51, 52, 53, 54, 55, 56, 57] σ σ' ∧ RV σ' 50 f n c t) := by
  refine Cv.of (Or.inl mi_V_become) pk_V_become (nb rfl) rfl [some (.inr 50), some (.inr 32)] rfl fun Γ hG hR => ?_
  refine hG.acp rfl lk_V_49 rfl 0 0 10 rfl rfl rfl rfl rfl rfl rfl rfl rfl (by decide) (by decide) ?_
  refine hG.acp rfl lk_V_49 rfl 0 0 10 rfl rfl rfl rfl rfl rfl rfl rfl rfl (by decide) (by decide) ?_
  refine hG.acp rfl lk_V_49 rfl 0 0 10 rfl rfl rfl rfl rfl rfl rfl rfl rfl (by decide) (by decide) ?_
  refine hG.acp rfl lk_V_49 rfl 0 0 10 rfl rfl rfl rfl rfl rfl rfl rfl rfl (by decide) (by decide) ?_
  refine hG.acp rfl lk_V_49 rfl 0 0 6 rfl rfl rfl rfl rfl rfl rfl rfl rfl (by decide) (by decide) ?_
  refine hG.acp rfl lk_V_49 rfl 0 0 6 rfl rfl rfl rfl rfl rfl rfl rfl rfl (by decide) (by decide) ?_
  refine hG.acp rfl lk_V_49 rfl 0 0 3 rfl rfl rfl rfl rfl rfl rfl rfl rfl (by decide) (by decide) ?_
  refine hG.rv hR rfl rfl rfl ?_
  refine ⟨(((((((((((((Sm.rf.upc (by decide)).upc (by decide)).upc (by decide)).upc (by decide)).upc (by decide)).upc (by decide)).upc (by decide)).up (by decide)).up (by decide)).up (by decide)).up (by decide)).up (by decide)).up (by decide)).up (by decide), ?_⟩
  simp only [RV, up, upc_same, upc_c, ne_eq, Nat.reduceAdd, Nat.reduceEqDiff, not_false_eq_true]
  refine ⟨⟨?_, ?_, ?_, ?_, ?_, ?_⟩, ?_, fun p hp => ?_, fun i hi => ?_, fun k hk => ?_⟩
  · rw [upd_ne (by decide), upd_ne (by decide), upd_ne (by decide), upd_ne (by decide), upd_ne (by decide), upd_ne (by decide), upd_same]; exact hV.pn
  · rw [upd_ne (by decide), upd_ne (by decide), upd_ne (by decide), upd_ne (by decide), upd_ne (by decide), upd_same]; exact hV.cn
  · rw [upd_ne (by decide), upd_ne (by decide), upd_ne (by decide), upd_ne (by decide), upd_same]; exact hV.tm
  · rw [upd_ne (by decide), upd_ne (by decide), upd_ne (by decide), upd_same]; exact hV.y
  · rw [upd_ne (by decide), upd_ne (by decide), upd_same]; exact hV.z
  · rw [upd_ne (by decide), upd_same]; exact hV.tn
  · rw [upd_same]; exact hV.2.1
  · rw [sb_cpy0 (by omega), sb_cpy0 (by omega), sb_cpy0 (by omega), sb_cpy0 (by omega)]; exact hV.2.2.1 p hp
  · rw [sb_cpy0 (by omega), sb_cpy0 (by omega)]; exact hV.2.2.2.1 i hi
  · rw [sb_cpy0 (by omega)]; exact hV.2.2.2.2 k hk
theorem c_V_become50_41 (hn : n ≤ 10) (hcl : c ≤ 6) (hV : RV σ 41 f n c t) : Cv l θ 1 m_V_become [.inr 50, .inr 41] σ (fun σ' => Sm [50, 51, 52, 53, 54, 55, 56, 57] σ σ' ∧ RV σ' 50 f n c t) := by
  refine Cv.of (Or.inl mi_V_become) pk_V_become (nb rfl) rfl [some (.inr 50), some (.inr 41)] rfl fun Γ hG hR => ?_
  refine hG.acp rfl lk_V_49 rfl 0 0 10 rfl rfl rfl rfl rfl rfl rfl rfl rfl (by decide) (by decide) ?_
  refine hG.acp rfl lk_V_49 rfl 0 0 10 rfl rfl rfl rfl rfl rfl rfl rfl rfl (by decide) (by decide) ?_
  refine hG.acp rfl lk_V_49 rfl 0 0 10 rfl rfl rfl rfl rfl rfl rfl rfl rfl (by decide) (by decide) ?_
  refine hG.acp rfl lk_V_49 rfl 0 0 10 rfl rfl rfl rfl rfl rfl rfl rfl rfl (by decide) (by decide) ?_
  refine hG.acp rfl lk_V_49 rfl 0 0 6 rfl rfl rfl rfl rfl rfl rfl rfl rfl (by decide) (by decide) ?_
  refine hG.acp rfl lk_V_49 rfl 0 0 6 rfl rfl rfl rfl rfl rfl rfl rfl rfl (by decide) (by decide) ?_
  refine hG.acp rfl lk_V_49 rfl 0 0 3 rfl rfl rfl rfl rfl rfl rfl rfl rfl (by decide) (by decide) ?_
  refine hG.rv hR rfl rfl rfl ?_
  refine ⟨(((((((((((((Sm.rf.upc (by decide)).upc (by decide)).upc (by decide)).upc (by decide)).upc (by decide)).upc (by decide)).upc (by decide)).up (by decide)).up (by decide)).up (by decide)).up (by decide)).up (by decide)).up (by decide)).up (by decide), ?_⟩
  simp only [RV, up, upc_same, upc_c, ne_eq, Nat.reduceAdd, Nat.reduceEqDiff, not_false_eq_true]
  refine ⟨⟨?_, ?_, ?_, ?_, ?_, ?_⟩, ?_, fun p hp => ?_, fun i hi => ?_, fun k hk => ?_⟩
  · rw [upd_ne (by decide), upd_ne (by decide), upd_ne (by decide), upd_ne (by decide), upd_ne (by decide), upd_ne (by decide), upd_same]; exact hV.pn
  · rw [upd_ne (by decide), upd_ne (by decide), upd_ne (by decide), upd_ne (by decide), upd_ne (by decide), upd_same]; exact hV.cn
  · rw [upd_ne (by decide), upd_ne (by decide), upd_ne (by decide), upd_ne (by decide), upd_same]; exact hV.tm
  · rw [upd_ne (by decide), upd_ne (by decide), upd_ne (by decide), upd_same]; exact hV.y
  · rw [upd_ne (by decide), upd_ne (by decide), upd_same]; exact hV.z
  · rw [upd_ne (by decide), upd_same]; exact hV.tn
  · rw [upd_same]; exact hV.2.1
  · rw [sb_cpy0 (by omega), sb_cpy0 (by omega), sb_cpy0 (by omega), sb_cpy0 (by omega)]; exact hV.2.2.1 p hp
  · rw [sb_cpy0 (by omega), sb_cpy0 (by omega)]; exact hV.2.2.2.1 i hi
  · rw [sb_cpy0 (by omega)]; exact hV.2.2.2.2 k hk
theorem c_V_become41_32 (hn : n ≤ 10) (hcl : c ≤ 6) (hV : RV σ 32 f n c t) : Cv l θ 1 m_V_become [.inr 41, .inr 32] σ (fun σ' => Sm [41, 42, 43, 44, 45, 46, 47, 48] σ σ' ∧ RV σ' 41 f n c t) := by
  refine Cv.of (Or.inl mi_V_become) pk_V_become (nb rfl) rfl [some (.inr 41), some (.inr 32)] rfl fun Γ hG hR => ?_
  refine hG.acp rfl lk_V_49 rfl 0 0 10 rfl rfl rfl rfl rfl rfl rfl rfl rfl (by decide) (by decide) ?_
  refine hG.acp rfl lk_V_49 rfl 0 0 10 rfl rfl rfl rfl rfl rfl rfl rfl rfl (by decide) (by decide) ?_
  refine hG.acp rfl lk_V_49 rfl 0 0 10 rfl rfl rfl rfl rfl rfl rfl rfl rfl (by decide) (by decide) ?_
  refine hG.acp rfl lk_V_49 rfl 0 0 10 rfl rfl rfl rfl rfl rfl rfl rfl rfl (by decide) (by decide) ?_
  refine hG.acp rfl lk_V_49 rfl 0 0 6 rfl rfl rfl rfl rfl rfl rfl rfl rfl (by decide) (by decide) ?_
  refine hG.acp rfl lk_V_49 rfl 0 0 6 rfl rfl rfl rfl rfl rfl rfl rfl rfl (by decide) (by decide) ?_
  refine hG.acp rfl lk_V_49 rfl 0 0 3 rfl rfl rfl rfl rfl rfl rfl rfl rfl (by decide) (by decide) ?_
  refine hG.rv hR rfl rfl rfl ?_
  refine ⟨(((((((((((((Sm.rf.upc (by decide)).upc (by decide)).upc (by decide)).upc (by decide)).upc (by decide)).upc (by decide)).upc (by decide)).up (by decide)).up (by decide)).up (by decide)).up (by decide)).up (by decide)).up (by decide)).up (by decide), ?_⟩
  simp only [RV, up, upc_same, upc_c, ne_eq, Nat.reduceAdd, Nat.reduceEqDiff, not_false_eq_true]
  refine ⟨⟨?_, ?_, ?_, ?_, ?_, ?_⟩, ?_, fun p hp => ?_, fun i hi => ?_, fun k hk => ?_⟩
  · rw [upd_ne (by decide), upd_ne (by decide), upd_ne (by decide), upd_ne (by decide), upd_ne (by decide), upd_ne (by decide), upd_same]; exact hV.pn
  · rw [upd_ne (by decide), upd_ne (by decide), upd_ne (by decide), upd_ne (by decide), upd_ne (by decide), upd_same]; exact hV.cn
  · rw [upd_ne (by decide), upd_ne (by decide), upd_ne (by decide), upd_ne (by decide), upd_same]; exact hV.tm
  · rw [upd_ne (by decide), upd_ne (by decide), upd_ne (by decide), upd_same]; exact hV.y
  · rw [upd_ne (by decide), upd_ne (by decide), upd_same]; exact hV.z
  · rw [upd_ne (by decide), upd_same]; exact hV.tn
  · rw [upd_same]; exact hV.2.1
  · rw [sb_cpy0 (by omega), sb_cpy0 (by omega), sb_cpy0 (by omega), sb_cpy0 (by omega)]; exact hV.2.2.1 p hp
  · rw [sb_cpy0 (by omega), sb_cpy0 (by omega)]; exact hV.2.2.2.1 i hi
  · rw [sb_cpy0 (by omega)]; exact hV.2.2.2.2 k hk
theorem c_V_become32_41 (hn : n ≤ 10) (hcl : c ≤ 6) (hV : RV σ 41 f n c t) : Cv l θ 1 m_V_become [.inr 32, .inr 41] σ (fun σ' => Sm [32, 33, 34, 35, 36, 37, 38, 39] σ σ' ∧ RV σ' 32 f n c t) := by
  refine Cv.of (Or.inl mi_V_become) pk_V_become (nb rfl) rfl [some (.inr 32), some (.inr 41)] rfl fun Γ hG hR => ?_
  refine hG.acp rfl lk_V_49 rfl 0 0 10 rfl rfl rfl rfl rfl rfl rfl rfl rfl (by decide) (by decide) ?_
  refine hG.acp rfl lk_V_49 rfl 0 0 10 rfl rfl rfl rfl rfl rfl rfl rfl rfl (by decide) (by decide) ?_
  refine hG.acp rfl lk_V_49 rfl 0 0 10 rfl rfl rfl rfl rfl rfl rfl rfl rfl (by decide) (by decide) ?_
  refine hG.acp rfl lk_V_49 rfl 0 0 10 rfl rfl rfl rfl rfl rfl rfl rfl rfl (by decide) (by decide) ?_
  refine hG.acp rfl lk_V_49 rfl 0 0 6 rfl rfl rfl rfl rfl rfl rfl rfl rfl (by decide) (by decide) ?_
  refine hG.acp rfl lk_V_49 rfl 0 0 6 rfl rfl rfl rfl rfl rfl rfl rfl rfl (by decide) (by decide) ?_
  refine hG.acp rfl lk_V_49 rfl 0 0 3 rfl rfl rfl rfl rfl rfl rfl rfl rfl (by decide) (by decide) ?_
  refine hG.rv hR rfl rfl rfl ?_
  refine ⟨(((((((((((((Sm.rf.upc (by decide)).upc (by decide)).upc (by decide)).upc (by decide)).upc (by decide)).upc (by decide)).upc (by decide)).up (by decide)).up (by decide)).up (by decide)).up (by decide)).up (by decide)).up (by decide)).up (by decide), ?_⟩
  simp only [RV, up, upc_same, upc_c, ne_eq, Nat.reduceAdd, Nat.reduceEqDiff, not_false_eq_true]
  refine ⟨⟨?_, ?_, ?_, ?_, ?_, ?_⟩, ?_, fun p hp => ?_, fun i hi => ?_, fun k hk => ?_⟩
  · rw [upd_ne (by decide), upd_ne (by decide), upd_ne (by decide), upd_ne (by decide), upd_ne (by decide), upd_ne (by decide), upd_same]; exact hV.pn
  · rw [upd_ne (by decide), upd_ne (by decide), upd_ne (by decide), upd_ne (by decide), upd_ne (by decide), upd_same]; exact hV.cn
  · rw [upd_ne (by decide), upd_ne (by decide), upd_ne (by decide), upd_ne (by decide), upd_same]; exact hV.tm
  · rw [upd_ne (by decide), upd_ne (by decide), upd_ne (by decide), upd_same]; exact hV.y
  · rw [upd_ne (by decide), upd_ne (by decide), upd_same]; exact hV.z
  · rw [upd_ne (by decide), upd_same]; exact hV.tn
  · rw [upd_same]; exact hV.2.1
  · rw [sb_cpy0 (by omega), sb_cpy0 (by omega), sb_cpy0 (by omega), sb_cpy0 (by omega)]; exact hV.2.2.1 p hp
  · rw [sb_cpy0 (by omega), sb_cpy0 (by omega)]; exact hV.2.2.2.1 i hi
  · rw [sb_cpy0 (by omega)]; exact hV.2.2.2.2 k hk
-- rows
theorem c_R_hasPlace70 (p : Int32) : Ci l θ 1 m_R_hasPlace [.inr 70, .inl p] σ (fun r σ' => σ' = σ ∧ r = bi (decide (0 ≤ p) && decide (p < σ 70 1))) := by
  refine Ci.of (Or.inl mi_R_hasPlace) pk_R_hasPlace (nb rfl) (Or.inr rfl) [some (.inr 70), some (.inl p)] rfl fun Γ hG hR => ?_
  refine hG.br rfl rfl rfl rfl (fun h1 => ?_) (fun h1 => ?_)
  · refine hG.rz hR rfl rfl rfl rfl (Or.inl rfl) ?_
    exact ⟨rfl, by rw [decide_eq_false (i32_nle.mpr h1)]; rfl⟩
  · refine hG.br rfl rfl rfl rfl (fun h2 => ?_) (fun h2 => ?_)
    · refine hG.rz hR rfl rfl rfl rfl (Or.inl rfl) ?_
      exact ⟨rfl, by rw [decide_eq_false (i32_nlt.mpr h2), Bool.and_false]; rfl⟩
    · refine hG.rz hR rfl rfl rfl rfl (Or.inr rfl) ?_
      exact ⟨rfl, by rw [decide_eq_true (i32_nlt.mp h1), decide_eq_true (i32_nle.mp h2)]; rfl⟩
theorem c_R_hasPlace72 (p : Int32) : Ci l θ 1 m_R_hasPlace [.inr 72, .inl p] σ (fun r σ' => σ' = σ ∧ r = bi (decide (0 ≤ p) && decide (p < σ 72 1))) := by
  refine Ci.of (Or.inl mi_R_hasPlace) pk_R_hasPlace (nb rfl) (Or.inr rfl) [some (.inr 72), some (.inl p)] rfl fun Γ hG hR => ?_
  refine hG.br rfl rfl rfl rfl (fun h1 => ?_) (fun h1 => ?_)
  · refine hG.rz hR rfl rfl rfl rfl (Or.inl rfl) ?_
    exact ⟨rfl, by rw [decide_eq_false (i32_nle.mpr h1)]; rfl⟩
  · refine hG.br rfl rfl rfl rfl (fun h2 => ?_) (fun h2 => ?_)
    · refine hG.rz hR rfl rfl rfl rfl (Or.inl rfl) ?_
      exact ⟨rfl, by rw [decide_eq_false (i32_nlt.mpr h2), Bool.and_false]; rfl⟩
    · refine hG.rz hR rfl rfl rfl rfl (Or.inr rfl) ?_
      exact ⟨rfl, by rw [decide_eq_true (i32_nlt.mp h1), decide_eq_true (i32_nle.mp h2)]; rfl⟩
theorem c_R_hasPlace74 (p : Int32) : Ci l θ 1 m_R_hasPlace [.inr 74, .inl p] σ (fun r σ' => σ' = σ ∧ r = bi (decide (0 ≤ p) && decide (p < σ 74 1))) := by
  refine Ci.of (Or.inl mi_R_hasPlace) pk_R_hasPlace (nb rfl) (Or.inr rfl) [some (.inr 74), some (.inl p)] rfl fun Γ hG hR => ?_
  refine hG.br rfl rfl rfl rfl (fun h1 => ?_) (fun h1 => ?_)
  · refine hG.rz hR rfl rfl rfl rfl (Or.inl rfl) ?_
    exact ⟨rfl, by rw [decide_eq_false (i32_nle.mpr h1)]; rfl⟩
  · refine hG.br rfl rfl rfl rfl (fun h2 => ?_) (fun h2 => ?_)
    · refine hG.rz hR rfl rfl rfl rfl (Or.inl rfl) ?_
      exact ⟨rfl, by rw [decide_eq_false (i32_nlt.mpr h2), Bool.and_false]; rfl⟩
    · refine hG.rz hR rfl rfl rfl rfl (Or.inr rfl) ?_
      exact ⟨rfl, by rw [decide_eq_true (i32_nlt.mp h1), decide_eq_true (i32_nle.mp h2)]; rfl⟩
theorem c_R_hasPlace76 (p : Int32) : Ci l θ 1 m_R_hasPlace [.inr 76, .inl p] σ (fun r σ' => σ' = σ ∧ r = bi (decide (0 ≤ p) && decide (p < σ 76 1))) := by
  refine Ci.of (Or.inl mi_R_hasPlace) pk_R_hasPlace (nb rfl) (Or.inr rfl) [some (.inr 76), some (.inl p)] rfl fun Γ hG hR => ?_
  refine hG.br rfl rfl rfl rfl (fun h1 => ?_) (fun h1 => ?_)
  · refine hG.rz hR rfl rfl rfl rfl (Or.inl rfl) ?_
    exact ⟨rfl, by rw [decide_eq_false (i32_nle.mpr h1)]; rfl⟩
  · refine hG.br rfl rfl rfl rfl (fun h2 => ?_) (fun h2 => ?_)
    · refine hG.rz hR rfl rfl rfl rfl (Or.inl rfl) ?_
      exact ⟨rfl, by rw [decide_eq_false (i32_nlt.mpr h2), Bool.and_false]; rfl⟩
    · refine hG.rz hR rfl rfl rfl rfl (Or.inr rfl) ?_
      exact ⟨rfl, by rw [decide_eq_true (i32_nlt.mp h1), decide_eq_true (i32_nle.mp h2)]; rfl⟩
theorem c_R_hasPlace79 (p : Int32) : Ci l θ 1 m_R_hasPlace [.inr 79, .inl p] σ (fun r σ' => σ' = σ ∧ r = bi (decide (0 ≤ p) && decide (p < σ 79 1))) := by
  refine Ci.of (Or.inl mi_R_hasPlace) pk_R_hasPlace (nb rfl) (Or.inr rfl) [some (.inr 79), some (.inl p)] rfl fun Γ hG hR => ?_
  refine hG.br rfl rfl rfl rfl (fun h1 => ?_) (fun h1 => ?_)
  · refine hG.rz hR rfl rfl rfl rfl (Or.inl rfl) ?_
    exact ⟨rfl, by rw [decide_eq_false (i32_nle.mpr h1)]; rfl⟩
  · refine hG.br rfl rfl rfl rfl (fun h2 => ?_) (fun h2 => ?_)
    · refine hG.rz hR rfl rfl rfl rfl (Or.inl rfl) ?_
      exact ⟨rfl, by rw [decide_eq_false (i32_nlt.mpr h2), Bool.and_false]; rfl⟩
    · refine hG.rz hR rfl rfl rfl rfl (Or.inr rfl) ?_
      exact ⟨rfl, by rw [decide_eq_true (i32_nlt.mp h1), decide_eq_true (i32_nle.mp h2)]; rfl⟩
theorem c_R_hasPlace82 (p : Int32) : Ci l θ 1 m_R_hasPlace [.inr 82, .inl p] σ (fun r σ' => σ' = σ ∧ r = bi (decide (0 ≤ p) && decide (p < σ 82 1))) := by
  refine Ci.of (Or.inl mi_R_hasPlace) pk_R_hasPlace (nb rfl) (Or.inr rfl) [some (.inr 82), some (.inl p)] rfl fun Γ hG hR => ?_
  refine hG.br rfl rfl rfl rfl (fun h1 => ?_) (fun h1 => ?_)
  · refine hG.rz hR rfl rfl rfl rfl (Or.inl rfl) ?_
    exact ⟨rfl, by rw [decide_eq_false (i32_nle.mpr h1)]; rfl⟩
  · refine hG.br rfl rfl rfl rfl (fun h2 => ?_) (fun h2 => ?_)
    · refine hG.rz hR rfl rfl rfl rfl (Or.inl rfl) ?_
      exact ⟨rfl, by rw [decide_eq_false (i32_nlt.mpr h2), Bool.and_false]; rfl⟩
    · refine hG.rz hR rfl rfl rfl rfl (Or.inr rfl) ?_
      exact ⟨rfl, by rw [decide_eq_true (i32_nlt.mp h1), decide_eq_true (i32_nle.mp h2)]; rfl⟩
theorem c_R_hasPlace85 (p : Int32) : Ci l θ 1 m_R_hasPlace [.inr 85, .inl p] σ (fun r σ' => σ' = σ ∧ r = bi (decide (0 ≤ p) && decide (p < σ 85 1))) := by
  refine Ci.of (Or.inl mi_R_hasPlace) pk_R_hasPlace (nb rfl) (Or.inr rfl) [some (.inr 85), some (.inl p)] rfl fun Γ hG hR => ?_
  refine hG.br rfl rfl rfl rfl (fun h1 => ?_) (fun h1 => ?_)
  · refine hG.rz hR rfl rfl rfl rfl (Or.inl rfl) ?_
    exact ⟨rfl, by rw [decide_eq_false (i32_nle.mpr h1)]; rfl⟩
  · refine hG.br rfl rfl rfl rfl (fun h2 => ?_) (fun h2 => ?_)
    · refine hG.rz hR rfl rfl rfl rfl (Or.inl rfl) ?_
      exact ⟨rfl, by rw [decide_eq_false (i32_nlt.mpr h2), Bool.and_false]; rfl⟩
    · refine hG.rz hR rfl rfl rfl rfl (Or.inr rfl) ?_
      exact ⟨rfl, by rw [decide_eq_true (i32_nlt.mp h1), decide_eq_true (i32_nle.mp h2)]; rfl⟩
theorem c_R_hasPlace88 (p : Int32) : Ci l θ 1 m_R_hasPlace [.inr 88, .inl p] σ (fun r σ' => σ' = σ ∧ r = bi (decide (0 ≤ p) && decide (p < σ 88 1))) := by
  refine Ci.of (Or.inl mi_R_hasPlace) pk_R_hasPlace (nb rfl) (Or.inr rfl) [some (.inr 88), some (.inl p)] rfl fun Γ hG hR => ?_
  refine hG.br rfl rfl rfl rfl (fun h1 => ?_) (fun h1 => ?_)
  · refine hG.rz hR rfl rfl rfl rfl (Or.inl rfl) ?_
    exact ⟨rfl, by rw [decide_eq_false (i32_nle.mpr h1)]; rfl⟩
  · refine hG.br rfl rfl rfl rfl (fun h2 => ?_) (fun h2 => ?_)
    · refine hG.rz hR rfl rfl rfl rfl (Or.inl rfl) ?_
      exact ⟨rfl, by rw [decide_eq_false (i32_nlt.mpr h2), Bool.and_false]; rfl⟩
    · refine hG.rz hR rfl rfl rfl rfl (Or.inr rfl) ?_
      exact ⟨rfl, by rw [decide_eq_true (i32_nlt.mp h1), decide_eq_true (i32_nle.mp h2)]; rfl⟩
theorem c_R_hasPlace91 (p : Int32) : Ci l θ 1 m_R_hasPlace [.inr 91, .inl p] σ (fun r σ' => σ' = σ ∧ r = bi (decide (0 ≤ p) && decide (p < σ 91 1))) := by
  refine Ci.of (Or.inl mi_R_hasPlace) pk_R_hasPlace (nb rfl) (Or.inr rfl) [some (.inr 91), some (.inl p)] rfl fun Γ hG hR => ?_
  refine hG.br rfl rfl rfl rfl (fun h1 => ?_) (fun h1 => ?_)
  · refine hG.rz hR rfl rfl rfl rfl (Or.inl rfl) ?_
    exact ⟨rfl, by rw [decide_eq_false (i32_nle.mpr h1)]; rfl⟩
  · refine hG.br rfl rfl rfl rfl (fun h2 => ?_) (fun h2 => ?_)
    · refine hG.rz hR rfl rfl rfl rfl (Or.inl rfl) ?_
      exact ⟨rfl, by rw [decide_eq_false (i32_nlt.mpr h2), Bool.and_false]; rfl⟩
    · refine hG.rz hR rfl rfl rfl rfl (Or.inr rfl) ?_
      exact ⟨rfl, by rw [decide_eq_true (i32_nlt.mp h1), decide_eq_true (i32_nle.mp h2)]; rfl⟩
theorem c_R_hasPlaces70 (p m : Int32) : Ci l θ 1 m_R_hasPlaces [.inr 70, .inl p, .inl m] σ (fun r σ' => σ' = σ ∧ r = bi (decide (0 ≤ p) && decide (p ≤ σ 70 1) && decide (0 ≤ m) && decide (m ≤ σ 70 1 - p))) := by
  refine Ci.of (Or.inl mi_R_hasPlaces) pk_R_hasPlaces (nb rfl) (Or.inr rfl) [some (.inr 70), some (.inl p), some (.inl m)] rfl fun Γ hG hR => ?_
  refine hG.br rfl rfl rfl rfl (fun h1 => ?_) (fun h1 => ?_)
  · refine hG.rz hR rfl rfl rfl rfl (Or.inl rfl) ?_
    exact ⟨rfl, by rw [decide_eq_false (i32_nle.mpr h1)]; rfl⟩
  · refine hG.br rfl rfl rfl rfl (fun h2 => ?_) (fun h2 => ?_)
    · refine hG.rz hR rfl rfl rfl rfl (Or.inl rfl) ?_
      exact ⟨rfl, by rw [decide_eq_false (i32_nle.mpr h2), Bool.and_false]; rfl⟩
    · refine hG.br rfl rfl rfl rfl (fun h3 => ?_) (fun h3 => ?_)
      · refine hG.rz hR rfl rfl rfl rfl (Or.inl rfl) ?_
        exact ⟨rfl, by rw [decide_eq_false (i32_nle.mpr h3), Bool.and_false]; rfl⟩
      · refine hG.br rfl rfl rfl rfl (fun h4 => ?_) (fun h4 => ?_)
        · refine hG.rz hR rfl rfl rfl rfl (Or.inl rfl) ?_
          exact ⟨rfl, by rw [decide_eq_false (i32_nle.mpr h4), Bool.and_false]; rfl⟩
        · refine hG.rz hR rfl rfl rfl rfl (Or.inr rfl) ?_
          exact ⟨rfl, by rw [decide_eq_true (i32_nlt.mp h1), decide_eq_true (i32_nlt.mp h2), decide_eq_true (i32_nlt.mp h3), decide_eq_true (i32_nlt.mp h4)]; rfl⟩
theorem c_R_clear70 (s m : Int32) : Cv l θ 1 m_R_clear [.inr 70, .inl s, .inl m] σ (fun σ' => Sm [70, 71] σ σ' ∧ σ' 70 0 = s ∧ σ' 70 1 = m ∧ ∀ j, j < 24 → σ' 71 j = 0) := by
  refine Cv.of (Or.inl mi_R_clear) pk_R_clear (nb rfl) rfl [some (.inr 70), some (.inl s), some (.inl m), none] rfl fun Γ hG hR => ?_
  have loop : ∀ k i, i + k = 24 → ∀ (τ : Sg), Sm [70, 71] σ τ → τ 70 0 = s → τ 70 1 = m → (∀ j, j < i → τ 71 j = 0) → X Γ 12 [some (.inr 70), some (.inl s), some (.inl m), some (.inl (nI i))] [] τ := by
    intro k
    induction k with
    | zero =>
      intro i hi τ hS h0 h1 hz
      have hi : i = 24 := by omega
      subst hi
      refine hG.br rfl rfl rfl rfl (fun h2 => ?_) (fun h2 => ?_)
      · refine hG.rv hR rfl rfl rfl ?_
        exact ⟨hS, h0, h1, hz⟩
      · exact absurd (show nI 24 ≤ nI 24 from nI_le (Nat.le_refl 24) (by omega)) h2
    | succ k ih =>
      intro i hi τ hS h0 h1 hz
      refine hG.br rfl rfl rfl rfl (fun h2 => ?_) (fun h2 => ?_)
      · exact absurd (show nI 24 ≤ nI i from h2) (nI_ge (by omega) (by omega))
      · refine hG.sti rfl i rfl rfl rfl rfl (by omega) ?_
        refine hG.jp rfl rfl rfl ?_
        rw [nI_1]
        refine ih (i + 1) (by omega) _ (hS.up (by decide)) (by rw [up_c _ _ _ _ (by decide)]; exact h0) (by rw [up_c _ _ _ _ (by decide)]; exact h1) (fun j hj => ?_)
        by_cases e : j = i
        · subst e; exact up_self _ _ _ _
        · rw [up_j _ _ _ _ e]; exact hz j (by omega)
  refine hG.go 8 rfl rfl (loop 24 0 (by omega) _ ((Sm.rf.up (by decide)).up (by decide)) ?_ (up_self _ _ _ _) (fun j hj => by omega))
  rw [up_j _ _ _ _ (by decide), up_self]
theorem c_R_hasPlaces72 (p m : Int32) : Ci l θ 1 m_R_hasPlaces [.inr 72, .inl p, .inl m] σ (fun r σ' => σ' = σ ∧ r = bi (decide (0 ≤ p) && decide (p ≤ σ 72 1) && decide (0 ≤ m) && decide (m ≤ σ 72 1 - p))) := by
  refine Ci.of (Or.inl mi_R_hasPlaces) pk_R_hasPlaces (nb rfl) (Or.inr rfl) [some (.inr 72), some (.inl p), some (.inl m)] rfl fun Γ hG hR => ?_
  refine hG.br rfl rfl rfl rfl (fun h1 => ?_) (fun h1 => ?_)
  · refine hG.rz hR rfl rfl rfl rfl (Or.inl rfl) ?_
    exact ⟨rfl, by rw [decide_eq_false (i32_nle.mpr h1)]; rfl⟩
  · refine hG.br rfl rfl rfl rfl (fun h2 => ?_) (fun h2 => ?_)
    · refine hG.rz hR rfl rfl rfl rfl (Or.inl rfl) ?_
      exact ⟨rfl, by rw [decide_eq_false (i32_nle.mpr h2), Bool.and_false]; rfl⟩
    · refine hG.br rfl rfl rfl rfl (fun h3 => ?_) (fun h3 => ?_)
      · refine hG.rz hR rfl rfl rfl rfl (Or.inl rfl) ?_
        exact ⟨rfl, by rw [decide_eq_false (i32_nle.mpr h3), Bool.and_false]; rfl⟩
      · refine hG.br rfl rfl rfl rfl (fun h4 => ?_) (fun h4 => ?_)
        · refine hG.rz hR rfl rfl rfl rfl (Or.inl rfl) ?_
          exact ⟨rfl, by rw [decide_eq_false (i32_nle.mpr h4), Bool.and_false]; rfl⟩
        · refine hG.rz hR rfl rfl rfl rfl (Or.inr rfl) ?_
          exact ⟨rfl, by rw [decide_eq_true (i32_nlt.mp h1), decide_eq_true (i32_nlt.mp h2), decide_eq_true (i32_nlt.mp h3), decide_eq_true (i32_nlt.mp h4)]; rfl⟩
theorem c_R_clear72 (s m : Int32) : Cv l θ 1 m_R_clear [.inr 72, .inl s, .inl m] σ (fun σ' => Sm [72, 73] σ σ' ∧ σ' 72 0 = s ∧ σ' 72 1 = m ∧ ∀ j, j < 24 → σ' 73 j = 0) := by
  refine Cv.of (Or.inl mi_R_clear) pk_R_clear (nb rfl) rfl [some (.inr 72), some (.inl s), some (.inl m), none] rfl fun Γ hG hR => ?_
  have loop : ∀ k i, i + k = 24 → ∀ (τ : Sg), Sm [72, 73] σ τ → τ 72 0 = s → τ 72 1 = m → (∀ j, j < i → τ 73 j = 0) → X Γ 12 [some (.inr 72), some (.inl s), some (.inl m), some (.inl (nI i))] [] τ := by
    intro k
    induction k with
    | zero =>
      intro i hi τ hS h0 h1 hz
      have hi : i = 24 := by omega
      subst hi
      refine hG.br rfl rfl rfl rfl (fun h2 => ?_) (fun h2 => ?_)
      · refine hG.rv hR rfl rfl rfl ?_
        exact ⟨hS, h0, h1, hz⟩
      · exact absurd (show nI 24 ≤ nI 24 from nI_le (Nat.le_refl 24) (by omega)) h2
    | succ k ih =>
      intro i hi τ hS h0 h1 hz
      refine hG.br rfl rfl rfl rfl (fun h2 => ?_) (fun h2 => ?_)
      · exact absurd (show nI 24 ≤ nI i from h2) (nI_ge (by omega) (by omega))
      · refine hG.sti rfl i rfl rfl rfl rfl (by omega) ?_
        refine hG.jp rfl rfl rfl ?_
        rw [nI_1]
        refine ih (i + 1) (by omega) _ (hS.up (by decide)) (by rw [up_c _ _ _ _ (by decide)]; exact h0) (by rw [up_c _ _ _ _ (by decide)]; exact h1) (fun j hj => ?_)
        by_cases e : j = i
        · subst e; exact up_self _ _ _ _
        · rw [up_j _ _ _ _ e]; exact hz j (by omega)
  refine hG.go 8 rfl rfl (loop 24 0 (by omega) _ ((Sm.rf.up (by decide)).up (by decide)) ?_ (up_self _ _ _ _) (fun j hj => by omega))
  rw [up_j _ _ _ _ (by decide), up_self]
theorem c_R_hasPlaces74 (p m : Int32) : Ci l θ 1 m_R_hasPlaces [.inr 74, .inl p, .inl m] σ (fun r σ' => σ' = σ ∧ r = bi (decide (0 ≤ p) && decide (p ≤ σ 74 1) && decide (0 ≤ m) && decide (m ≤ σ 74 1 - p))) := by
  refine Ci.of (Or.inl mi_R_hasPlaces) pk_R_hasPlaces (nb rfl) (Or.inr rfl) [some (.inr 74), some (.inl p), some (.inl m)] rfl fun Γ hG hR => ?_
  refine hG.br rfl rfl rfl rfl (fun h1 => ?_) (fun h1 => ?_)
  · refine hG.rz hR rfl rfl rfl rfl (Or.inl rfl) ?_
    exact ⟨rfl, by rw [decide_eq_false (i32_nle.mpr h1)]; rfl⟩
  · refine hG.br rfl rfl rfl rfl (fun h2 => ?_) (fun h2 => ?_)
    · refine hG.rz hR rfl rfl rfl rfl (Or.inl rfl) ?_
      exact ⟨rfl, by rw [decide_eq_false (i32_nle.mpr h2), Bool.and_false]; rfl⟩
    · refine hG.br rfl rfl rfl rfl (fun h3 => ?_) (fun h3 => ?_)
      · refine hG.rz hR rfl rfl rfl rfl (Or.inl rfl) ?_
        exact ⟨rfl, by rw [decide_eq_false (i32_nle.mpr h3), Bool.and_false]; rfl⟩
      · refine hG.br rfl rfl rfl rfl (fun h4 => ?_) (fun h4 => ?_)
        · refine hG.rz hR rfl rfl rfl rfl (Or.inl rfl) ?_
          exact ⟨rfl, by rw [decide_eq_false (i32_nle.mpr h4), Bool.and_false]; rfl⟩
        · refine hG.rz hR rfl rfl rfl rfl (Or.inr rfl) ?_
          exact ⟨rfl, by rw [decide_eq_true (i32_nlt.mp h1), decide_eq_true (i32_nlt.mp h2), decide_eq_true (i32_nlt.mp h3), decide_eq_true (i32_nlt.mp h4)]; rfl⟩
theorem c_R_clear74 (s m : Int32) : Cv l θ 1 m_R_clear [.inr 74, .inl s, .inl m] σ (fun σ' => Sm [74, 75] σ σ' ∧ σ' 74 0 = s ∧ σ' 74 1 = m ∧ ∀ j, j < 24 → σ' 75 j = 0) := by
  refine Cv.of (Or.inl mi_R_clear) pk_R_clear (nb rfl) rfl [some (.inr 74), some (.inl s), some (.inl m), none] rfl fun Γ hG hR => ?_
  have loop : ∀ k i, i + k = 24 → ∀ (τ : Sg), Sm [74, 75] σ τ → τ 74 0 = s → τ 74 1 = m → (∀ j, j < i → τ 75 j = 0) → X Γ 12 [some (.inr 74), some (.inl s), some (.inl m), some (.inl (nI i))] [] τ := by
    intro k
    induction k with
    | zero =>
      intro i hi τ hS h0 h1 hz
      have hi : i = 24 := by omega
      subst hi
      refine hG.br rfl rfl rfl rfl (fun h2 => ?_) (fun h2 => ?_)
      · refine hG.rv hR rfl rfl rfl ?_
        exact ⟨hS, h0, h1, hz⟩
      · exact absurd (show nI 24 ≤ nI 24 from nI_le (Nat.le_refl 24) (by omega)) h2
    | succ k ih =>
      intro i hi τ hS h0 h1 hz
      refine hG.br rfl rfl rfl rfl (fun h2 => ?_) (fun h2 => ?_)
      · exact absurd (show nI 24 ≤ nI i from h2) (nI_ge (by omega) (by omega))
      · refine hG.sti rfl i rfl rfl rfl rfl (by omega) ?_
        refine hG.jp rfl rfl rfl ?_
        rw [nI_1]
        refine ih (i + 1) (by omega) _ (hS.up (by decide)) (by rw [up_c _ _ _ _ (by decide)]; exact h0) (by rw [up_c _ _ _ _ (by decide)]; exact h1) (fun j hj => ?_)
        by_cases e : j = i
        · subst e; exact up_self _ _ _ _
        · rw [up_j _ _ _ _ e]; exact hz j (by omega)
  refine hG.go 8 rfl rfl (loop 24 0 (by omega) _ ((Sm.rf.up (by decide)).up (by decide)) ?_ (up_self _ _ _ _) (fun j hj => by omega))
  rw [up_j _ _ _ _ (by decide), up_self]
theorem c_R_hasPlaces76 (p m : Int32) : Ci l θ 1 m_R_hasPlaces [.inr 76, .inl p, .inl m] σ (fun r σ' => σ' = σ ∧ r = bi (decide (0 ≤ p) && decide (p ≤ σ 76 1) && decide (0 ≤ m) && decide (m ≤ σ 76 1 - p))) := by
  refine Ci.of (Or.inl mi_R_hasPlaces) pk_R_hasPlaces (nb rfl) (Or.inr rfl) [some (.inr 76), some (.inl p), some (.inl m)] rfl fun Γ hG hR => ?_
  refine hG.br rfl rfl rfl rfl (fun h1 => ?_) (fun h1 => ?_)
  · refine hG.rz hR rfl rfl rfl rfl (Or.inl rfl) ?_
    exact ⟨rfl, by rw [decide_eq_false (i32_nle.mpr h1)]; rfl⟩
  · refine hG.br rfl rfl rfl rfl (fun h2 => ?_) (fun h2 => ?_)
    · refine hG.rz hR rfl rfl rfl rfl (Or.inl rfl) ?_
      exact ⟨rfl, by rw [decide_eq_false (i32_nle.mpr h2), Bool.and_false]; rfl⟩
    · refine hG.br rfl rfl rfl rfl (fun h3 => ?_) (fun h3 => ?_)
      · refine hG.rz hR rfl rfl rfl rfl (Or.inl rfl) ?_
        exact ⟨rfl, by rw [decide_eq_false (i32_nle.mpr h3), Bool.and_false]; rfl⟩
      · refine hG.br rfl rfl rfl rfl (fun h4 => ?_) (fun h4 => ?_)
        · refine hG.rz hR rfl rfl rfl rfl (Or.inl rfl) ?_
          exact ⟨rfl, by rw [decide_eq_false (i32_nle.mpr h4), Bool.and_false]; rfl⟩
        · refine hG.rz hR rfl rfl rfl rfl (Or.inr rfl) ?_
          exact ⟨rfl, by rw [decide_eq_true (i32_nlt.mp h1), decide_eq_true (i32_nlt.mp h2), decide_eq_true (i32_nlt.mp h3), decide_eq_true (i32_nlt.mp h4)]; rfl⟩
theorem c_R_clear76 (s m : Int32) : Cv l θ 1 m_R_clear [.inr 76, .inl s, .inl m] σ (fun σ' => Sm [76, 77] σ σ' ∧ σ' 76 0 = s ∧ σ' 76 1 = m ∧ ∀ j, j < 24 → σ' 77 j = 0) := by
  refine Cv.of (Or.inl mi_R_clear) pk_R_clear (nb rfl) rfl [some (.inr 76), some (.inl s), some (.inl m), none] rfl fun Γ hG hR => ?_
  have loop : ∀ k i, i + k = 24 → ∀ (τ : Sg), Sm [76, 77] σ τ → τ 76 0 = s → τ 76 1 = m → (∀ j, j < i → τ 77 j = 0) → X Γ 12 [some (.inr 76), some (.inl s), some (.inl m), some (.inl (nI i))] [] τ := by
    intro k
    induction k with
    | zero =>
      intro i hi τ hS h0 h1 hz
      have hi : i = 24 := by omega
      subst hi
      refine hG.br rfl rfl rfl rfl (fun h2 => ?_) (fun h2 => ?_)
      · refine hG.rv hR rfl rfl rfl ?_
        exact ⟨hS, h0, h1, hz⟩
      · exact absurd (show nI 24 ≤ nI 24 from nI_le (Nat.le_refl 24) (by omega)) h2
    | succ k ih =>
      intro i hi τ hS h0 h1 hz
      refine hG.br rfl rfl rfl rfl (fun h2 => ?_) (fun h2 => ?_)
      · exact absurd (show nI 24 ≤ nI i from h2) (nI_ge (by omega) (by omega))
      · refine hG.sti rfl i rfl rfl rfl rfl (by omega) ?_
        refine hG.jp rfl rfl rfl ?_
        rw [nI_1]
        refine ih (i + 1) (by omega) _ (hS.up (by decide)) (by rw [up_c _ _ _ _ (by decide)]; exact h0) (by rw [up_c _ _ _ _ (by decide)]; exact h1) (fun j hj => ?_)
        by_cases e : j = i
        · subst e; exact up_self _ _ _ _
        · rw [up_j _ _ _ _ e]; exact hz j (by omega)
  refine hG.go 8 rfl rfl (loop 24 0 (by omega) _ ((Sm.rf.up (by decide)).up (by decide)) ?_ (up_self _ _ _ _) (fun j hj => by omega))
  rw [up_j _ _ _ _ (by decide), up_self]
theorem c_R_become79_70 : Cv l θ 1 m_R_become [.inr 79, .inr 70] σ (fun σ' => Sm [79, 80] σ σ' ∧ σ' 79 0 = σ 70 0 ∧ σ' 79 1 = σ 70 1 ∧ ∀ j, j < 24 → σ' 80 j = σ 71 j) := by
  refine Cv.of (Or.inl mi_R_become) pk_R_become (nb rfl) rfl [some (.inr 79), some (.inr 70)] rfl fun Γ hG hR => ?_
  refine hG.acp rfl lk_R_22 rfl 0 0 24 rfl rfl rfl rfl rfl rfl rfl rfl rfl (by decide) (by decide) ?_
  refine hG.rv hR rfl rfl rfl ?_
  refine ⟨((Sm.rf.up (by decide)).up (by decide)).upc (by decide), ?_, ?_, fun j hj => ?_⟩
  · rw [upc_c _ _ _ (by decide), up_j _ _ _ _ (by decide), up_self]
  · rw [upc_c _ _ _ (by decide), up_self, up_c _ _ _ _ (by decide)]
  · rw [upc_same, sb_cpy0 hj, up_c _ _ _ _ (by decide), up_c _ _ _ _ (by decide)]
theorem c_R_become79_72 : Cv l θ 1 m_R_become [.inr 79, .inr 72] σ (fun σ' => Sm [79, 80] σ σ' ∧ σ' 79 0 = σ 72 0 ∧ σ' 79 1 = σ 72 1 ∧ ∀ j, j < 24 → σ' 80 j = σ 73 j) := by
  refine Cv.of (Or.inl mi_R_become) pk_R_become (nb rfl) rfl [some (.inr 79), some (.inr 72)] rfl fun Γ hG hR => ?_
  refine hG.acp rfl lk_R_22 rfl 0 0 24 rfl rfl rfl rfl rfl rfl rfl rfl rfl (by decide) (by decide) ?_
  refine hG.rv hR rfl rfl rfl ?_
  refine ⟨((Sm.rf.up (by decide)).up (by decide)).upc (by decide), ?_, ?_, fun j hj => ?_⟩
  · rw [upc_c _ _ _ (by decide), up_j _ _ _ _ (by decide), up_self]
  · rw [upc_c _ _ _ (by decide), up_self, up_c _ _ _ _ (by decide)]
  · rw [upc_same, sb_cpy0 hj, up_c _ _ _ _ (by decide), up_c _ _ _ _ (by decide)]
theorem c_R_become79_74 : Cv l θ 1 m_R_become [.inr 79, .inr 74] σ (fun σ' => Sm [79, 80] σ σ' ∧ σ' 79 0 = σ 74 0 ∧ σ' 79 1 = σ 74 1 ∧ ∀ j, j < 24 → σ' 80 j = σ 75 j) := by
  refine Cv.of (Or.inl mi_R_become) pk_R_become (nb rfl) rfl [some (.inr 79), some (.inr 74)] rfl fun Γ hG hR => ?_
  refine hG.acp rfl lk_R_22 rfl 0 0 24 rfl rfl rfl rfl rfl rfl rfl rfl rfl (by decide) (by decide) ?_
  refine hG.rv hR rfl rfl rfl ?_
  refine ⟨((Sm.rf.up (by decide)).up (by decide)).upc (by decide), ?_, ?_, fun j hj => ?_⟩
  · rw [upc_c _ _ _ (by decide), up_j _ _ _ _ (by decide), up_self]
  · rw [upc_c _ _ _ (by decide), up_self, up_c _ _ _ _ (by decide)]
  · rw [upc_same, sb_cpy0 hj, up_c _ _ _ _ (by decide), up_c _ _ _ _ (by decide)]
theorem c_R_become79_76 : Cv l θ 1 m_R_become [.inr 79, .inr 76] σ (fun σ' => Sm [79, 80] σ σ' ∧ σ' 79 0 = σ 76 0 ∧ σ' 79 1 = σ 76 1 ∧ ∀ j, j < 24 → σ' 80 j = σ 77 j) := by
  refine Cv.of (Or.inl mi_R_become) pk_R_become (nb rfl) rfl [some (.inr 79), some (.inr 76)] rfl fun Γ hG hR => ?_
  refine hG.acp rfl lk_R_22 rfl 0 0 24 rfl rfl rfl rfl rfl rfl rfl rfl rfl (by decide) (by decide) ?_
  refine hG.rv hR rfl rfl rfl ?_
  refine ⟨((Sm.rf.up (by decide)).up (by decide)).upc (by decide), ?_, ?_, fun j hj => ?_⟩
  · rw [upc_c _ _ _ (by decide), up_j _ _ _ _ (by decide), up_self]
  · rw [upc_c _ _ _ (by decide), up_self, up_c _ _ _ _ (by decide)]
  · rw [upc_same, sb_cpy0 hj, up_c _ _ _ _ (by decide), up_c _ _ _ _ (by decide)]
theorem c_R_become82_70 : Cv l θ 1 m_R_become [.inr 82, .inr 70] σ (fun σ' => Sm [82, 83] σ σ' ∧ σ' 82 0 = σ 70 0 ∧ σ' 82 1 = σ 70 1 ∧ ∀ j, j < 24 → σ' 83 j = σ 71 j) := by
  refine Cv.of (Or.inl mi_R_become) pk_R_become (nb rfl) rfl [some (.inr 82), some (.inr 70)] rfl fun Γ hG hR => ?_
  refine hG.acp rfl lk_R_22 rfl 0 0 24 rfl rfl rfl rfl rfl rfl rfl rfl rfl (by decide) (by decide) ?_
  refine hG.rv hR rfl rfl rfl ?_
  refine ⟨((Sm.rf.up (by decide)).up (by decide)).upc (by decide), ?_, ?_, fun j hj => ?_⟩
  · rw [upc_c _ _ _ (by decide), up_j _ _ _ _ (by decide), up_self]
  · rw [upc_c _ _ _ (by decide), up_self, up_c _ _ _ _ (by decide)]
  · rw [upc_same, sb_cpy0 hj, up_c _ _ _ _ (by decide), up_c _ _ _ _ (by decide)]
theorem c_R_become82_72 : Cv l θ 1 m_R_become [.inr 82, .inr 72] σ (fun σ' => Sm [82, 83] σ σ' ∧ σ' 82 0 = σ 72 0 ∧ σ' 82 1 = σ 72 1 ∧ ∀ j, j < 24 → σ' 83 j = σ 73 j) := by
  refine Cv.of (Or.inl mi_R_become) pk_R_become (nb rfl) rfl [some (.inr 82), some (.inr 72)] rfl fun Γ hG hR => ?_
  refine hG.acp rfl lk_R_22 rfl 0 0 24 rfl rfl rfl rfl rfl rfl rfl rfl rfl (by decide) (by decide) ?_
  refine hG.rv hR rfl rfl rfl ?_
  refine ⟨((Sm.rf.up (by decide)).up (by decide)).upc (by decide), ?_, ?_, fun j hj => ?_⟩
  · rw [upc_c _ _ _ (by decide), up_j _ _ _ _ (by decide), up_self]
  · rw [upc_c _ _ _ (by decide), up_self, up_c _ _ _ _ (by decide)]
  · rw [upc_same, sb_cpy0 hj, up_c _ _ _ _ (by decide), up_c _ _ _ _ (by decide)]
theorem c_R_become82_74 : Cv l θ 1 m_R_become [.inr 82, .inr 74] σ (fun σ' => Sm [82, 83] σ σ' ∧ σ' 82 0 = σ 74 0 ∧ σ' 82 1 = σ 74 1 ∧ ∀ j, j < 24 → σ' 83 j = σ 75 j) := by
  refine Cv.of (Or.inl mi_R_become) pk_R_become (nb rfl) rfl [some (.inr 82), some (.inr 74)] rfl fun Γ hG hR => ?_
  refine hG.acp rfl lk_R_22 rfl 0 0 24 rfl rfl rfl rfl rfl rfl rfl rfl rfl (by decide) (by decide) ?_
  refine hG.rv hR rfl rfl rfl ?_
  refine ⟨((Sm.rf.up (by decide)).up (by decide)).upc (by decide), ?_, ?_, fun j hj => ?_⟩
  · rw [upc_c _ _ _ (by decide), up_j _ _ _ _ (by decide), up_self]
  · rw [upc_c _ _ _ (by decide), up_self, up_c _ _ _ _ (by decide)]
  · rw [upc_same, sb_cpy0 hj, up_c _ _ _ _ (by decide), up_c _ _ _ _ (by decide)]
theorem c_R_become82_76 : Cv l θ 1 m_R_become [.inr 82, .inr 76] σ (fun σ' => Sm [82, 83] σ σ' ∧ σ' 82 0 = σ 76 0 ∧ σ' 82 1 = σ 76 1 ∧ ∀ j, j < 24 → σ' 83 j = σ 77 j) := by
  refine Cv.of (Or.inl mi_R_become) pk_R_become (nb rfl) rfl [some (.inr 82), some (.inr 76)] rfl fun Γ hG hR => ?_
  refine hG.acp rfl lk_R_22 rfl 0 0 24 rfl rfl rfl rfl rfl rfl rfl rfl rfl (by decide) (by decide) ?_
  refine hG.rv hR rfl rfl rfl ?_
  refine ⟨((Sm.rf.up (by decide)).up (by decide)).upc (by decide), ?_, ?_, fun j hj => ?_⟩
  · rw [upc_c _ _ _ (by decide), up_j _ _ _ _ (by decide), up_self]
  · rw [upc_c _ _ _ (by decide), up_self, up_c _ _ _ _ (by decide)]
  · rw [upc_same, sb_cpy0 hj, up_c _ _ _ _ (by decide), up_c _ _ _ _ (by decide)]
theorem c_R_become85_70 : Cv l θ 1 m_R_become [.inr 85, .inr 70] σ (fun σ' => Sm [85, 86] σ σ' ∧ σ' 85 0 = σ 70 0 ∧ σ' 85 1 = σ 70 1 ∧ ∀ j, j < 24 → σ' 86 j = σ 71 j) := by
  refine Cv.of (Or.inl mi_R_become) pk_R_become (nb rfl) rfl [some (.inr 85), some (.inr 70)] rfl fun Γ hG hR => ?_
  refine hG.acp rfl lk_R_22 rfl 0 0 24 rfl rfl rfl rfl rfl rfl rfl rfl rfl (by decide) (by decide) ?_
  refine hG.rv hR rfl rfl rfl ?_
  refine ⟨((Sm.rf.up (by decide)).up (by decide)).upc (by decide), ?_, ?_, fun j hj => ?_⟩
  · rw [upc_c _ _ _ (by decide), up_j _ _ _ _ (by decide), up_self]
  · rw [upc_c _ _ _ (by decide), up_self, up_c _ _ _ _ (by decide)]
  · rw [upc_same, sb_cpy0 hj, up_c _ _ _ _ (by decide), up_c _ _ _ _ (by decide)]
theorem c_R_become85_72 : Cv l θ 1 m_R_become [.inr 85, .inr 72] σ (fun σ' => Sm [85, 86] σ σ' ∧ σ' 85 0 = σ 72 0 ∧ σ' 85 1 = σ 72 1 ∧ ∀ j, j < 24 → σ' 86 j = σ 73 j) := by
  refine Cv.of (Or.inl mi_R_become) pk_R_become (nb rfl) rfl [some (.inr 85), some (.inr 72)] rfl fun Γ hG hR => ?_
  refine hG.acp rfl lk_R_22 rfl 0 0 24 rfl rfl rfl rfl rfl rfl rfl rfl rfl (by decide) (by decide) ?_
  refine hG.rv hR rfl rfl rfl ?_
  refine ⟨((Sm.rf.up (by decide)).up (by decide)).upc (by decide), ?_, ?_, fun j hj => ?_⟩
  · rw [upc_c _ _ _ (by decide), up_j _ _ _ _ (by decide), up_self]
  · rw [upc_c _ _ _ (by decide), up_self, up_c _ _ _ _ (by decide)]
  · rw [upc_same, sb_cpy0 hj, up_c _ _ _ _ (by decide), up_c _ _ _ _ (by decide)]
theorem c_R_become85_74 : Cv l θ 1 m_R_become [.inr 85, .inr 74] σ (fun σ' => Sm [85, 86] σ σ' ∧ σ' 85 0 = σ 74 0 ∧ σ' 85 1 = σ 74 1 ∧ ∀ j, j < 24 → σ' 86 j = σ 75 j) := by
  refine Cv.of (Or.inl mi_R_become) pk_R_become (nb rfl) rfl [some (.inr 85), some (.inr 74)] rfl fun Γ hG hR => ?_
  refine hG.acp rfl lk_R_22 rfl 0 0 24 rfl rfl rfl rfl rfl rfl rfl rfl rfl (by decide) (by decide) ?_
  refine hG.rv hR rfl rfl rfl ?_
  refine ⟨((Sm.rf.up (by decide)).up (by decide)).upc (by decide), ?_, ?_, fun j hj => ?_⟩
  · rw [upc_c _ _ _ (by decide), up_j _ _ _ _ (by decide), up_self]
  · rw [upc_c _ _ _ (by decide), up_self, up_c _ _ _ _ (by decide)]
  · rw [upc_same, sb_cpy0 hj, up_c _ _ _ _ (by decide), up_c _ _ _ _ (by decide)]
theorem c_R_become85_76 : Cv l θ 1 m_R_become [.inr 85, .inr 76] σ (fun σ' => Sm [85, 86] σ σ' ∧ σ' 85 0 = σ 76 0 ∧ σ' 85 1 = σ 76 1 ∧ ∀ j, j < 24 → σ' 86 j = σ 77 j) := by
  refine Cv.of (Or.inl mi_R_become) pk_R_become (nb rfl) rfl [some (.inr 85), some (.inr 76)] rfl fun Γ hG hR => ?_
  refine hG.acp rfl lk_R_22 rfl 0 0 24 rfl rfl rfl rfl rfl rfl rfl rfl rfl (by decide) (by decide) ?_
  refine hG.rv hR rfl rfl rfl ?_
  refine ⟨((Sm.rf.up (by decide)).up (by decide)).upc (by decide), ?_, ?_, fun j hj => ?_⟩
  · rw [upc_c _ _ _ (by decide), up_j _ _ _ _ (by decide), up_self]
  · rw [upc_c _ _ _ (by decide), up_self, up_c _ _ _ _ (by decide)]
  · rw [upc_same, sb_cpy0 hj, up_c _ _ _ _ (by decide), up_c _ _ _ _ (by decide)]
theorem c_R_become88_70 : Cv l θ 1 m_R_become [.inr 88, .inr 70] σ (fun σ' => Sm [88, 89] σ σ' ∧ σ' 88 0 = σ 70 0 ∧ σ' 88 1 = σ 70 1 ∧ ∀ j, j < 24 → σ' 89 j = σ 71 j) := by
  refine Cv.of (Or.inl mi_R_become) pk_R_become (nb rfl) rfl [some (.inr 88), some (.inr 70)] rfl fun Γ hG hR => ?_
  refine hG.acp rfl lk_R_22 rfl 0 0 24 rfl rfl rfl rfl rfl rfl rfl rfl rfl (by decide) (by decide) ?_
  refine hG.rv hR rfl rfl rfl ?_
  refine ⟨((Sm.rf.up (by decide)).up (by decide)).upc (by decide), ?_, ?_, fun j hj => ?_⟩
  · rw [upc_c _ _ _ (by decide), up_j _ _ _ _ (by decide), up_self]
  · rw [upc_c _ _ _ (by decide), up_self, up_c _ _ _ _ (by decide)]
  · rw [upc_same, sb_cpy0 hj, up_c _ _ _ _ (by decide), up_c _ _ _ _ (by decide)]
theorem c_R_become88_72 : Cv l θ 1 m_R_become [.inr 88, .inr 72] σ (fun σ' => Sm [88, 89] σ σ' ∧ σ' 88 0 = σ 72 0 ∧ σ' 88 1 = σ 72 1 ∧ ∀ j, j < 24 → σ' 89 j = σ 73 j) := by
  refine Cv.of (Or.inl mi_R_become) pk_R_become (nb rfl) rfl [some (.inr 88), some (.inr 72)] rfl fun Γ hG hR => ?_
  refine hG.acp rfl lk_R_22 rfl 0 0 24 rfl rfl rfl rfl rfl rfl rfl rfl rfl (by decide) (by decide) ?_
  refine hG.rv hR rfl rfl rfl ?_
  refine ⟨((Sm.rf.up (by decide)).up (by decide)).upc (by decide), ?_, ?_, fun j hj => ?_⟩
  · rw [upc_c _ _ _ (by decide), up_j _ _ _ _ (by decide), up_self]
  · rw [upc_c _ _ _ (by decide), up_self, up_c _ _ _ _ (by decide)]
  · rw [upc_same, sb_cpy0 hj, up_c _ _ _ _ (by decide), up_c _ _ _ _ (by decide)]
theorem c_R_become88_74 : Cv l θ 1 m_R_become [.inr 88, .inr 74] σ (fun σ' => Sm [88, 89] σ σ' ∧ σ' 88 0 = σ 74 0 ∧ σ' 88 1 = σ 74 1 ∧ ∀ j, j < 24 → σ' 89 j = σ 75 j) := by
  refine Cv.of (Or.inl mi_R_become) pk_R_become (nb rfl) rfl [some (.inr 88), some (.inr 74)] rfl fun Γ hG hR => ?_
  refine hG.acp rfl lk_R_22 rfl 0 0 24 rfl rfl rfl rfl rfl rfl rfl rfl rfl (by decide) (by decide) ?_
  refine hG.rv hR rfl rfl rfl ?_
  refine ⟨((Sm.rf.up (by decide)).up (by decide)).upc (by decide), ?_, ?_, fun j hj => ?_⟩
  · rw [upc_c _ _ _ (by decide), up_j _ _ _ _ (by decide), up_self]
  · rw [upc_c _ _ _ (by decide), up_self, up_c _ _ _ _ (by decide)]
  · rw [upc_same, sb_cpy0 hj, up_c _ _ _ _ (by decide), up_c _ _ _ _ (by decide)]
theorem c_R_become88_76 : Cv l θ 1 m_R_become [.inr 88, .inr 76] σ (fun σ' => Sm [88, 89] σ σ' ∧ σ' 88 0 = σ 76 0 ∧ σ' 88 1 = σ 76 1 ∧ ∀ j, j < 24 → σ' 89 j = σ 77 j) := by
  refine Cv.of (Or.inl mi_R_become) pk_R_become (nb rfl) rfl [some (.inr 88), some (.inr 76)] rfl fun Γ hG hR => ?_
  refine hG.acp rfl lk_R_22 rfl 0 0 24 rfl rfl rfl rfl rfl rfl rfl rfl rfl (by decide) (by decide) ?_
  refine hG.rv hR rfl rfl rfl ?_
  refine ⟨((Sm.rf.up (by decide)).up (by decide)).upc (by decide), ?_, ?_, fun j hj => ?_⟩
  · rw [upc_c _ _ _ (by decide), up_j _ _ _ _ (by decide), up_self]
  · rw [upc_c _ _ _ (by decide), up_self, up_c _ _ _ _ (by decide)]
  · rw [upc_same, sb_cpy0 hj, up_c _ _ _ _ (by decide), up_c _ _ _ _ (by decide)]
theorem c_R_become91_70 : Cv l θ 1 m_R_become [.inr 91, .inr 70] σ (fun σ' => Sm [91, 92] σ σ' ∧ σ' 91 0 = σ 70 0 ∧ σ' 91 1 = σ 70 1 ∧ ∀ j, j < 24 → σ' 92 j = σ 71 j) := by
  refine Cv.of (Or.inl mi_R_become) pk_R_become (nb rfl) rfl [some (.inr 91), some (.inr 70)] rfl fun Γ hG hR => ?_
  refine hG.acp rfl lk_R_22 rfl 0 0 24 rfl rfl rfl rfl rfl rfl rfl rfl rfl (by decide) (by decide) ?_
  refine hG.rv hR rfl rfl rfl ?_
  refine ⟨((Sm.rf.up (by decide)).up (by decide)).upc (by decide), ?_, ?_, fun j hj => ?_⟩
  · rw [upc_c _ _ _ (by decide), up_j _ _ _ _ (by decide), up_self]
  · rw [upc_c _ _ _ (by decide), up_self, up_c _ _ _ _ (by decide)]
  · rw [upc_same, sb_cpy0 hj, up_c _ _ _ _ (by decide), up_c _ _ _ _ (by decide)]
theorem c_R_become91_72 : Cv l θ 1 m_R_become [.inr 91, .inr 72] σ (fun σ' => Sm [91, 92] σ σ' ∧ σ' 91 0 = σ 72 0 ∧ σ' 91 1 = σ 72 1 ∧ ∀ j, j < 24 → σ' 92 j = σ 73 j) := by
  refine Cv.of (Or.inl mi_R_become) pk_R_become (nb rfl) rfl [some (.inr 91), some (.inr 72)] rfl fun Γ hG hR => ?_
  refine hG.acp rfl lk_R_22 rfl 0 0 24 rfl rfl rfl rfl rfl rfl rfl rfl rfl (by decide) (by decide) ?_
  refine hG.rv hR rfl rfl rfl ?_
  refine ⟨((Sm.rf.up (by decide)).up (by decide)).upc (by decide), ?_, ?_, fun j hj => ?_⟩
  · rw [upc_c _ _ _ (by decide), up_j _ _ _ _ (by decide), up_self]
  · rw [upc_c _ _ _ (by decide), up_self, up_c _ _ _ _ (by decide)]
  · rw [upc_same, sb_cpy0 hj, up_c _ _ _ _ (by decide), up_c _ _ _ _ (by decide)]
theorem c_R_become91_74 : Cv l θ 1 m_R_become [.inr 91, .inr 74] σ (fun σ' => Sm [91, 92] σ σ' ∧ σ' 91 0 = σ 74 0 ∧ σ' 91 1 = σ 74 1 ∧ ∀ j, j < 24 → σ' 92 j = σ 75 j) := by
  refine Cv.of (Or.inl mi_R_become) pk_R_become (nb rfl) rfl [some (.inr 91), some (.inr 74)] rfl fun Γ hG hR => ?_
  refine hG.acp rfl lk_R_22 rfl 0 0 24 rfl rfl rfl rfl rfl rfl rfl rfl rfl (by decide) (by decide) ?_
  refine hG.rv hR rfl rfl rfl ?_
  refine ⟨((Sm.rf.up (by decide)).up (by decide)).upc (by decide), ?_, ?_, fun j hj => ?_⟩
  · rw [upc_c _ _ _ (by decide), up_j _ _ _ _ (by decide), up_self]
  · rw [upc_c _ _ _ (by decide), up_self, up_c _ _ _ _ (by decide)]
  · rw [upc_same, sb_cpy0 hj, up_c _ _ _ _ (by decide), up_c _ _ _ _ (by decide)]
theorem c_R_become91_76 : Cv l θ 1 m_R_become [.inr 91, .inr 76] σ (fun σ' => Sm [91, 92] σ σ' ∧ σ' 91 0 = σ 76 0 ∧ σ' 91 1 = σ 76 1 ∧ ∀ j, j < 24 → σ' 92 j = σ 77 j) := by
  refine Cv.of (Or.inl mi_R_become) pk_R_become (nb rfl) rfl [some (.inr 91), some (.inr 76)] rfl fun Γ hG hR => ?_
  refine hG.acp rfl lk_R_22 rfl 0 0 24 rfl rfl rfl rfl rfl rfl rfl rfl rfl (by decide) (by decide) ?_
  refine hG.rv hR rfl rfl rfl ?_
  refine ⟨((Sm.rf.up (by decide)).up (by decide)).upc (by decide), ?_, ?_, fun j hj => ?_⟩
  · rw [upc_c _ _ _ (by decide), up_j _ _ _ _ (by decide), up_self]
  · rw [upc_c _ _ _ (by decide), up_self, up_c _ _ _ _ (by decide)]
  · rw [upc_same, sb_cpy0 hj, up_c _ _ _ _ (by decide), up_c _ _ _ _ (by decide)]
end
