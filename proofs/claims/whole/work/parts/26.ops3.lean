section
variable {l : Launch} {θ : Th} {σ : Sg} {n c t y : Nat}
theorem o_M_deal (k : Int32) (hf : FOk (σ 96) n c t y) : Ci l θ 6 m_M_deal [.inr 95, .inl k] σ (fun r σ' => r = (dealF (σ 96) n k).1 ∧ σ' = upc σ 96 (dealF (σ 96) n k).2) := by
  obtain ⟨h1, hn, h4, hc, h5, ht, h2, h2y, hT, hW⟩ := hf
  refine Ci.of (Or.inl mi_M_deal) pk_M_deal (nb rfl) (Or.inl rfl) [some (.inr 95), some (.inl k), none, none, none, none] rfl fun Γ hG hR => ?_
  refine hG.cS lk_M_84 mi_M_in rfl rfl (c_M_in k 1 10) rfl rfl rfl rfl rfl rfl ?_
  rintro x σ' ⟨rfl, rfl⟩
  refine hG.br rfl rfl rfl rfl (fun k1 => ?_) (fun k1 => ?_)
  · obtain ⟨K, hK1, hK2, rfl⟩ := inB_ab 1 10 (by omega) (by omega) (bi_ne0.mp k1)
    have hg : dealF (σ' 96) n (nI K) = (nI (min K (10 - n)), dealL (σ' 96) n (min K (10 - n))) := by rw [dealF, bi_ne0.mp k1, if_pos rfl, nI_clamp (by omega)]
    have loop : ∀ m j, j + m = min K (10 - n) → ∀ (τ : Sg) (w3 w4 w5 : Option AV), τ = upc σ' 96 (τ 96) → τ 96 1 = nI (n + j) → dealL (σ' 96) n (min K (10 - n)) = dealL (τ 96) (n + j) m → X Γ 15 [some (.inr 95), some (.inl (nI K)), some (.inl (nI j)), w3, w4, w5] [] τ := by
      intro m
      induction m with
      | zero =>
        intro j hj τ w3 w4 w5 hτ hp he
        have fin : X Γ 77 [some (.inr 95), some (.inl (nI K)), some (.inl (nI j)), w3, w4, w5] [] τ := by
          refine hG.rt hR rfl rfl rfl rfl ?_
          rw [hg]
          refine ⟨by rw [show j = min K (10 - n) by omega], ?_⟩
          dsimp only
          rw [he]
          exact hτ
        refine hG.br rfl rfl rfl rfl (fun k2 => ?_) (fun k2 => ?_)
        · exact fin
        · refine hG.ld rfl 1 rfl rfl rfl rfl rfl (by decide) ?_
          rw [hp]
          refine hG.br rfl rfl rfl rfl (fun k3 => ?_) (fun k3 => ?_)
          · exact fin
          · exfalso
            have q1 : ¬ K ≤ j := fun q => k2 (nI_le q (by omega))
            have q2 : ¬ 10 ≤ n + j := fun q => k3 (show nI 10 ≤ nI (n + j) from nI_le q (by omega))
            omega
      | succ m ih =>
        intro j hj τ w3 w4 w5 hτ hp he
        refine hG.br rfl rfl rfl rfl (fun k2 => ?_) (fun k2 => ?_)
        · exact absurd k2 (nI_ge (by omega) (by omega))
        · refine hG.ld rfl 1 rfl rfl rfl rfl rfl (by decide) ?_
          rw [hp]
          refine hG.br rfl rfl rfl rfl (fun k3 => ?_) (fun k3 => ?_)
          · exact absurd (show nI 10 ≤ nI (n + j) from k3) (nI_ge (by omega) (by omega))
          · refine hG.cV lk_M_144 mi_M_draw rfl rfl c_M_draw rfl rfl rfl rfl rfl rfl rfl rfl ?_
            rintro x τ1 ⟨rfl, rfl⟩
            refine hG.rm rfl rfl rfl (by decide) ?_
            refine hG.cV lk_M_144 mi_M_draw rfl rfl c_M_draw rfl rfl rfl rfl rfl rfl rfl rfl ?_
            rintro x τ1 ⟨rfl, rfl⟩
            refine hG.rm rfl rfl rfl (by decide) ?_
            refine hG.ld rfl 2 rfl rfl rfl rfl rfl (by decide) ?_
            refine hG.cV lk_M_144 mi_M_draw rfl rfl c_M_draw rfl rfl rfl rfl rfl rfl rfl rfl ?_
            rintro x τ1 ⟨rfl, rfl⟩
            refine hG.rm rfl rfl rfl (by decide) ?_
            have e : up (up (up τ 96 0 (τ 96 0 * 1103515245 + 12345)) 96 0 (up τ 96 0 (τ 96 0 * 1103515245 + 12345) 96 0 * 1103515245 + 12345)) 96 0 (up (up τ 96 0 (τ 96 0 * 1103515245 + 12345)) 96 0 (up τ 96 0 (τ 96 0 * 1103515245 + 12345) 96 0 * 1103515245 + 12345) 96 0 * 1103515245 + 12345) = upc τ 96 (upd (τ 96) 0 (drawZ (drawZ (drawZ (τ 96 0))))) := by
              rw [up_self, up_self]
              rw [show up τ 96 0 (τ 96 0 * 1103515245 + 12345) = upc τ 96 (upd (τ 96) 0 (drawZ (τ 96 0))) from rfl, up_upc, up_upc, upd_upd, upd_upd]
              rfl
            rw [e, up_self, up_self, up_j _ _ _ _ (by decide), up_j _ _ _ _ (by decide)]
            refine hG.cV lk_M_99 mi_M_comes rfl rfl (c_M_comes (n + j) _ _ _ (by omega) (by rw [upc_same, upd_ne (by decide)]; exact hp)) rfl rfl rfl rfl rfl rfl rfl rfl ?_
            rintro x τ1 ⟨rfl, rfl⟩
            refine hG.jp rfl rfl rfl ?_
            rw [nI_1, upc_upc, upc_same]
            refine ih (j + 1) (by omega) _ _ _ _ ?_ ?_ ?_
            · rw [upc_same]
              exact (congrArg (fun z => upc z 96 _) hτ).trans (upc_upc _ _ _ _)
            · rw [upc_same, comesF, upd_same]; rfl
            · rw [he, upc_same]; rfl
    exact hG.go 2 rfl rfl (loop (min K (10 - n)) 0 (by omega) σ' none none none (upc_self σ' 96).symm h1 rfl)
  · refine hG.rt hR rfl rfl rfl rfl ?_
    rw [dealF, bi_eq0.mp k1]
    exact ⟨rfl, (upc_self σ' 96).symm⟩
theorem c_M_diesBy (p : Nat) (hp : p < 10) (h5 : σ 96 5 = nI t) (ht : t ≤ 14) (hT : TxsOk (σ 96) t) : Ci l θ 4 m_M_diesBy [.inr 95, .inl (nI p)] σ (fun r σ' => r = diesF (σ 96) t p ∧ Sm [109, 110] σ σ') := by
  refine Ci.of (Or.inl mi_M_diesBy) pk_M_diesBy (nb rfl) (Or.inl rfl) [some (.inr 95), some (.inl (nI p)), none, none] rfl fun Γ hG hR => ?_
  refine hG.ld rfl 2 rfl rfl rfl rfl rfl (by decide) ?_
  refine hG.cV lk_M_88 mi_M_of rfl rfl (c_M_of p 2 (by omega)) rfl rfl rfl rfl rfl rfl rfl rfl ?_
  rintro x σ' ⟨rfl, rfl⟩
  refine hG.cV lk_M_131 mi_M_counts rfl rfl (c_M_counts 1 t h5 ht) rfl rfl rfl rfl rfl rfl rfl rfl ?_
  rintro x σ' ⟨rfl, rfl⟩
  refine hG.sti rfl 0 rfl rfl rfl rfl (by decide) ?_
  refine hG.cV lk_M_88 mi_M_of rfl rfl (c_M_of p 0 (by omega)) rfl rfl rfl rfl rfl rfl rfl rfl ?_
  rintro x τ ⟨rfl, rfl⟩
  rw [up_c _ _ _ _ (show 96 ≠ 110 by decide), show 18 + 4 * p + 0 = 18 + 4 * p from rfl]
  refine hG.sti rfl 1 rfl rfl rfl rfl (by decide) ?_
  generalize hτ : up (up σ' 110 0 (σ' 96 2 - σ' 96 (18 + 4 * p + 2))) 110 1 (σ' 96 (18 + 4 * p)) = τ
  have hS : Sm [109, 110] σ' τ := by rw [← hτ]; exact (Sm.rf.up (by decide)).up (by decide)
  have e110 : ∀ j, j < 2 → τ 110 j = fa3 (σ' 96 2 - σ' 96 (18 + 4 * p + 2)) (σ' 96 (18 + 4 * p)) 0 j := by
    intro j hj
    rw [← hτ]
    simp only [up_same, upd, fa3]
    rcases (show j = 0 ∨ j = 1 by omega) with rfl | rfl <;> simp
  have e96 : τ 96 = σ' 96 := hS 96 (by decide)
  cases hc : cntO (σ' 96) 1 t with
  | none =>
    refine hG.br rfl rfl rfl rfl (fun k1 => ?_) (fun k1 => ?_)
    · exact absurd k1 (by decide)
    · refine hG.dv rfl rfl rfl (by decide) ?_
      refine hG.rt hR rfl rfl rfl rfl ?_
      exact ⟨by rw [diesF, hc], hS⟩
  | some i =>
    obtain ⟨hi, ln, htx⟩ := cntO_ok (k := 1) hT (by omega) hc
    refine hG.br rfl rfl rfl rfl (fun k1 => ?_) (fun k1 => ?_)
    · refine hG.cV lk_M_134 mi_M_worksOut rfl rfl (c_M_worksOut i 1 ln (by omega) (by rw [e96]; exact htx)) rfl rfl rfl rfl rfl rfl rfl rfl ?_
      rintro x τ2 ⟨hS2, rfl⟩
      rw [e96, evl_congr htx.2.2 (by decide) e110 ln (Nat.le_refl _)]
      refine hG.cS lk_M_174 mi_M_within rfl rfl (c_M_within _ 0 100) rfl rfl rfl rfl rfl rfl ?_
      rintro x τ3 ⟨rfl, rfl⟩
      refine hG.rt hR rfl rfl rfl rfl ?_
      exact ⟨by rw [diesF, hc]; dsimp only; rw [evT_eq htx], hS.tr (hS2.mono (by decide))⟩
    · exact absurd (show 0 ≤ nI i from nI_pos' (by omega)) k1
theorem c_M_year (h1 : σ 96 1 = nI n) (hn : n ≤ 10) (h5 : σ 96 5 = nI t) (ht : t ≤ 14) (hT : TxsOk (σ 96) t) : Ci l θ 5 m_M_year [.inr 95] σ (fun r σ' => r = nI (yearF (σ 96) n t).2 ∧ σ' 96 = (yearF (σ 96) n t).1 ∧ Sm [96, 109, 110] σ σ') := by
  refine Ci.of (Or.inl mi_M_year) pk_M_year (nb rfl) (Or.inl rfl) [some (.inr 95), none, none] rfl fun Γ hG hR => ?_
  have loop : ∀ m p d, p + m = n → ∀ τ : Sg, Sm [96, 109, 110] σ τ → τ 96 1 = nI n → τ 96 5 = nI t → TxsOk (τ 96) t → yrL (σ 96) t 0 n 0 = yrL (τ 96) t p m d → X Γ 4 [some (.inr 95), some (.inl (nI d)), some (.inl (nI p))] [] τ := by
    intro m
    induction m with
    | zero =>
      intro p d hp τ hS g1 g5 gT he
      have hp : p = n := by omega
      subst hp
      refine hG.ld rfl 1 rfl rfl rfl rfl rfl (by decide) ?_
      rw [g1]
      refine hG.br rfl rfl rfl rfl (fun k1 => ?_) (fun k1 => ?_)
      · refine hG.ld rfl 2 rfl rfl rfl rfl rfl (by decide) ?_
        refine hG.sti rfl 2 rfl rfl rfl rfl (by decide) ?_
        refine hG.rt hR rfl rfl rfl rfl ?_
        rw [up_same]
        refine ⟨?_, ?_, hS.up (by decide)⟩
        · rw [yearF, he]; rfl
        · rw [yearF, he]; rfl
      · exact absurd (nI_le (Nat.le_refl _) (by omega)) k1
    | succ m ih =>
      intro p d hp τ hS g1 g5 gT he
      have he : yrL (σ 96) t 0 n 0 = yrL (yrS (τ 96) t p d).1 t (p + 1) m (yrS (τ 96) t p d).2 := he
      refine hG.ld rfl 1 rfl rfl rfl rfl rfl (by decide) ?_
      rw [g1]
      refine hG.br rfl rfl rfl rfl (fun k1 => ?_) (fun k1 => ?_)
      · exact absurd k1 (nI_ge (by omega) (by omega))
      · refine hG.cV lk_M_103 mi_M_isAlive rfl rfl (c_M_isAlive p (by omega)) rfl rfl rfl rfl rfl rfl rfl rfl ?_
        rintro x τ ⟨rfl, rfl⟩
        refine hG.br rfl rfl rfl rfl (fun k2 => ?_) (fun k2 => ?_)
        · refine hG.jp rfl rfl rfl ?_
          rw [nI_1]
          rw [yrS, bi_eq0.mp k2] at he
          exact ih (p + 1) d (by omega) τ hS g1 g5 gT he
        · rw [yrS, bi_ne0.mp k2, if_pos rfl] at he
          refine hG.cV lk_M_144 mi_M_draw rfl rfl c_M_draw rfl rfl rfl rfl rfl rfl rfl rfl ?_
          rintro x τ1 ⟨rfl, rfl⟩
          refine hG.rm rfl rfl rfl (by decide) ?_
          have e96 : up τ 96 0 (τ 96 0 * 1103515245 + 12345) 96 = upd (τ 96) 0 (drawZ (τ 96 0)) := by rw [up_same]; rfl
          have hTu : TxsOk (upd (τ 96) 0 (drawZ (τ 96 0))) t := TxsOk_congr gT (fun j hj => upd_ne (by omega))
          refine hG.cV lk_M_177 mi_M_diesBy rfl rfl (c_M_diesBy (t := t) p (by omega) (by rw [e96, upd_ne (by decide)]; exact g5) ht (by rw [e96]; exact hTu)) rfl rfl rfl rfl rfl rfl rfl rfl ?_
          rintro x τ1 ⟨rfl, hS1⟩
          rw [e96]
          have e961 : τ1 96 = upd (τ 96) 0 (drawZ (τ 96 0)) := by rw [hS1 96 (by decide), e96]
          have hS2 : Sm [96, 109, 110] σ τ1 := (hS.up (by decide)).tr (hS1.mono (by decide))
          refine hG.br rfl rfl rfl rfl (fun k3 => ?_) (fun k3 => ?_)
          · rw [if_neg (show ¬ rmI (drawV (drawZ (τ 96 0))) 100 < diesF (upd (τ 96) 0 (drawZ (τ 96 0))) t p from i32_nlt.mpr k3)] at he
            refine hG.jp rfl rfl rfl ?_
            rw [nI_1]
            exact ih (p + 1) d (by omega) τ1 hS2 (by rw [e961, upd_ne (by decide)]; exact g1) (by rw [e961, upd_ne (by decide)]; exact g5) (by rw [e961]; exact hTu) (by rw [e961]; exact he)
          · rw [if_pos (show rmI (drawV (drawZ (τ 96 0))) 100 < diesF (upd (τ 96) 0 (drawZ (τ 96 0))) t p from i32_nle.mp k3)] at he
            refine hG.ld rfl 2 rfl rfl rfl rfl rfl (by decide) ?_
            refine hG.sti rfl (18 + 4 * p + 3) rfl rfl rfl (by simp only [lit_nI, pk_mul, nI_add, nI_1]; first | done | rfl | (congr 1; omega)) (by omega) ?_
            refine hG.jp rfl rfl rfl ?_
            rw [nI_1, nI_1, e961, upd_ne (show 2 ≠ 0 by decide)]
            have e962 : up τ1 96 (18 + 4 * p + 3) (τ 96 2) 96 = upd (upd (τ 96) 0 (drawZ (τ 96 0))) (18 + 4 * p + 3) (τ 96 2) := by rw [up_same, e961]
            exact ih (p + 1) (d + 1) (by omega) _ (hS2.up (by decide)) (by rw [e962, upd_ne (by omega), upd_ne (by decide)]; exact g1) (by rw [e962, upd_ne (by omega), upd_ne (by decide)]; exact g5) (by rw [e962]; exact TxsOk_congr hTu (fun j hj => upd_ne (by omega))) (by rw [e962]; exact he)
  exact hG.go 4 rfl rfl (loop n 0 0 (by omega) σ Sm.rf h1 h5 hT rfl)
theorem c_M_yearF (hf : FOk (σ 96) n c t y) : Ci l θ 5 m_M_year [.inr 95] σ (fun r σ' => r = nI (yearF (σ 96) n t).2 ∧ σ' 96 = (yearF (σ 96) n t).1 ∧ Sm [96, 109, 110] σ σ') := by
  obtain ⟨h1, hn, h4, hc, h5, ht, h2, h2y, hT, hW⟩ := hf
  exact c_M_year h1 hn h5 ht hT
theorem o_M_years (k : Int32) (hf : FOk (σ 96) n c t y) (hy : y ≤ 9999) : Ci l θ 6 m_M_years [.inr 95, .inl k] σ (fun r σ' => r = (yrsF (σ 96) n t y k).1 ∧ σ' 96 = (yrsF (σ 96) n t y k).2 ∧ Sm [96, 109, 110] σ σ') := by
  refine Ci.of (Or.inl mi_M_years) pk_M_years (nb rfl) (Or.inl rfl) [some (.inr 95), some (.inl k), none, none] rfl fun Γ hG hR => ?_
  refine hG.cS lk_M_84 mi_M_in rfl rfl (c_M_in k 1 100) rfl rfl rfl rfl rfl rfl ?_
  rintro x σ' ⟨rfl, rfl⟩
  refine hG.br rfl rfl rfl rfl (fun k1 => ?_) (fun k1 => ?_)
  · obtain ⟨K, hK1, hK2, rfl⟩ := inB_ab 1 100 (by omega) (by omega) (bi_ne0.mp k1)
    have hg : yrsF (σ' 96) n t y (nI K) = (nI (yrsL (σ' 96) n t (min K (9999 - y))).2, (yrsL (σ' 96) n t (min K (9999 - y))).1) := by rw [yrsF, bi_ne0.mp k1, if_pos rfl, nI_clamp (by omega)]
    have loop : ∀ m j s, j + m = min K (9999 - y) → ∀ τ : Sg, Sm [96, 109, 110] σ' τ → FOk (τ 96) n c t (y + j) → (yrsL (σ' 96) n t (min K (9999 - y))).1 = (yrsL (τ 96) n t m).1 → (yrsL (σ' 96) n t (min K (9999 - y))).2 = s + (yrsL (τ 96) n t m).2 → X Γ 17 [some (.inr 95), some (.inl (nI K)), some (.inl (nI s)), some (.inl (nI j))] [] τ := by
      intro m
      induction m with
      | zero =>
        intro j s hj τ hS hF e1 e2
        have fin : X Γ 47 [some (.inr 95), some (.inl (nI K)), some (.inl (nI s)), some (.inl (nI j))] [] τ := by
          refine hG.rt hR rfl rfl rfl rfl ?_
          rw [hg]
          exact ⟨by dsimp only; rw [e2]; rfl, by dsimp only; rw [e1]; rfl, hS⟩
        refine hG.br rfl rfl rfl rfl (fun k2 => ?_) (fun k2 => ?_)
        · exact fin
        · refine hG.ld rfl 2 rfl rfl rfl rfl rfl (by decide) ?_
          rw [hF.2.2.2.2.2.2.1]
          refine hG.br rfl rfl rfl rfl (fun k3 => ?_) (fun k3 => ?_)
          · exact fin
          · exfalso
            have q1 : ¬ K ≤ j := fun q => k2 (nI_le q (by omega))
            have q2 : ¬ 9999 ≤ y + j := fun q => k3 (show nI 9999 ≤ nI (y + j) from nI_le q (by omega))
            omega
      | succ m ih =>
        intro j s hj τ hS hF e1 e2
        refine hG.br rfl rfl rfl rfl (fun k2 => ?_) (fun k2 => ?_)
        · exact absurd k2 (nI_ge (by omega) (by omega))
        · refine hG.ld rfl 2 rfl rfl rfl rfl rfl (by decide) ?_
          rw [hF.2.2.2.2.2.2.1]
          refine hG.br rfl rfl rfl rfl (fun k3 => ?_) (fun k3 => ?_)
          · exact absurd (show nI 9999 ≤ nI (y + j) from k3) (nI_ge (by omega) (by omega))
          · refine hG.cV lk_M_180 mi_M_year rfl rfl (c_M_yearF hF) rfl rfl rfl rfl rfl rfl rfl rfl ?_
            rintro x τ1 ⟨rfl, g1, hS1⟩
            refine hG.jp rfl rfl rfl ?_
            rw [nI_1, nI_add]
            have hF1 := FOk_year hF (by omega)
            exact ih (j + 1) _ (by omega) τ1 (hS.tr hS1) (by rw [g1]; exact hF1) (by rw [e1, g1]; rfl) (by rw [e2, g1, yrsL]; dsimp only; omega)
    exact hG.go 4 rfl rfl (loop (min K (9999 - y)) 0 0 (by omega) σ' Sm.rf hf rfl (by omega))
  · refine hG.rt hR rfl rfl rfl rfl ?_
    rw [yrsF, bi_eq0.mp k1]
    exact ⟨rfl, rfl, Sm.rf⟩
theorem c_M_thinks : Cv l θ 1 m_M_thinks [.inr 95] σ (fun σ' => σ' = upc σ 102 (fun k => if k < 58 then σ 96 k else σ 102 k)) := by
  refine Cv.of (Or.inl mi_M_thinks) pk_M_thinks (nb rfl) rfl [some (.inr 95), none] rfl fun Γ hG hR => ?_
  have loop : ∀ m i, i + m = 58 → X Γ 2 [some (.inr 95), some (.inl (nI i))] [] (upc σ 102 (fun k => if k < i then σ 96 k else σ 102 k)) := by
    intro m
    induction m with
    | zero =>
      intro i hi
      have hi : i = 58 := by omega
      subst hi
      refine hG.br rfl rfl rfl rfl (fun h => ?_) (fun h => ?_)
      · refine hG.rv hR rfl rfl rfl ?_
        rfl
      · exact absurd (show nI 58 ≤ nI 58 from nI_le (Nat.le_refl _) (by omega)) h
    | succ m ih =>
      intro i hi
      refine hG.br rfl rfl rfl rfl (fun h => ?_) (fun h => ?_)
      · exact absurd (show nI 58 ≤ nI i from h) (nI_ge (by omega) (by omega))
      · refine hG.ld rfl i rfl rfl rfl rfl rfl (by omega) ?_
        refine hG.sti rfl i rfl rfl rfl rfl (by omega) ?_
        refine hG.jp rfl rfl rfl ?_
        rw [nI_1, up_upc, upc_c _ _ _ (show 96 ≠ 102 by decide)]
        have e : upd (fun k => if k < i then σ 96 k else σ 102 k) i (σ 96 i) = (fun k => if k < i + 1 then σ 96 k else σ 102 k) := by
          funext k
          simp only [upd]
          by_cases hk : k = i
          · subst hk; simp
          · have : k < i + 1 ↔ k < i := by omega
            simp [hk, this]
        rw [e]
        exact ih (i + 1) (by omega)
  have := loop 58 0 rfl
  simp only [Nat.not_lt_zero, if_false, upc_self] at this
  exact hG.go 2 rfl rfl this
theorem c_M_putsBack : Cv l θ 1 m_M_putsBack [.inr 95] σ (fun σ' => σ' = upc σ 96 (fun k => if k < 58 then σ 102 k else σ 96 k)) := by
  refine Cv.of (Or.inl mi_M_putsBack) pk_M_putsBack (nb rfl) rfl [some (.inr 95), none] rfl fun Γ hG hR => ?_
  have loop : ∀ m i, i + m = 58 → X Γ 2 [some (.inr 95), some (.inl (nI i))] [] (upc σ 96 (fun k => if k < i then σ 102 k else σ 96 k)) := by
    intro m
    induction m with
    | zero =>
      intro i hi
      have hi : i = 58 := by omega
      subst hi
      refine hG.br rfl rfl rfl rfl (fun h => ?_) (fun h => ?_)
      · refine hG.rv hR rfl rfl rfl ?_
        rfl
      · exact absurd (show nI 58 ≤ nI 58 from nI_le (Nat.le_refl _) (by omega)) h
    | succ m ih =>
      intro i hi
      refine hG.br rfl rfl rfl rfl (fun h => ?_) (fun h => ?_)
      · exact absurd (show nI 58 ≤ nI i from h) (nI_ge (by omega) (by omega))
      · refine hG.ld rfl i rfl rfl rfl rfl rfl (by omega) ?_
        refine hG.sti rfl i rfl rfl rfl rfl (by omega) ?_
        refine hG.jp rfl rfl rfl ?_
        rw [nI_1, up_upc, upc_c _ _ _ (show 102 ≠ 96 by decide)]
        have e : upd (fun k => if k < i then σ 102 k else σ 96 k) i (σ 102 i) = (fun k => if k < i + 1 then σ 102 k else σ 96 k) := by
          funext k
          simp only [upd]
          by_cases hk : k = i
          · subst hk; simp
          · have : k < i + 1 ↔ k < i := by omega
            simp [hk, this]
        rw [e]
        exact ih (i + 1) (by omega)
  have := loop 58 0 rfl
  simp only [Nat.not_lt_zero, if_false, upc_self] at this
  exact hG.go 2 rfl rfl this
theorem o_M_fine (hf : FOk (σ 96) n c t y) : Ci l θ 5 m_M_fine [.inr 95] σ (fun r σ' => r = fineR (σ 96) n t ∧ Sm [109, 110] σ σ') := by
  obtain ⟨h1, hn, h4, hc, h5, ht, h2, h2y, hT, hW⟩ := hf
  refine Ci.of (Or.inl mi_M_fine) pk_M_fine (nb rfl) (Or.inl rfl) [some (.inr 95), none] rfl fun Γ hG hR => ?_
  refine hG.cV lk_M_131 mi_M_counts rfl rfl (c_M_counts 2 t h5 ht) rfl rfl rfl rfl rfl rfl rfl rfl ?_
  rintro x σ' ⟨rfl, rfl⟩
  refine hG.ld rfl 2 rfl rfl rfl rfl rfl (by decide) ?_
  refine hG.sti rfl 0 rfl rfl rfl rfl (by decide) ?_
  refine hG.cV lk_M_186 mi_M_aliveMany rfl rfl (c_M_aliveMany n (by rw [up_c _ _ _ _ (show 96 ≠ 110 by decide)]; exact h1) hn) rfl rfl rfl rfl rfl rfl rfl rfl ?_
  rintro x τ ⟨rfl, rfl⟩
  rw [up_c _ _ _ _ (show 96 ≠ 110 by decide)]
  refine hG.sti rfl 1 rfl rfl rfl rfl (by decide) ?_
  generalize hτ : up (up σ' 110 0 (σ' 96 2)) 110 1 (nI (sumB (aliveF (σ' 96)) 0 n)) = τ
  have hS : Sm [109, 110] σ' τ := by rw [← hτ]; exact (Sm.rf.up (by decide)).up (by decide)
  have e110 : ∀ j, j < 2 → τ 110 j = fa3 (σ' 96 2) (nI (sumB (aliveF (σ' 96)) 0 n)) 0 j := by
    intro j hj
    rw [← hτ]
    simp only [up_same, upd, fa3]
    rcases (show j = 0 ∨ j = 1 by omega) with rfl | rfl <;> simp
  have e96 : τ 96 = σ' 96 := hS 96 (by decide)
  cases hc2 : cntO (σ' 96) 2 t with
  | none =>
    refine hG.br rfl rfl rfl rfl (fun k1 => ?_) (fun k1 => ?_)
    · exact absurd k1 (by decide)
    · refine hG.rt hR rfl rfl rfl rfl ?_
      exact ⟨by rw [fineR, hc2], hS⟩
  | some i =>
    obtain ⟨hi, ln, htx⟩ := cntO_ok (k := 2) hT (by omega) hc2
    refine hG.br rfl rfl rfl rfl (fun k1 => ?_) (fun k1 => ?_)
    · refine hG.cV lk_M_134 mi_M_worksOut rfl rfl (c_M_worksOut i 2 ln (by omega) (by rw [e96]; exact htx)) rfl rfl rfl rfl rfl rfl rfl rfl ?_
      rintro x τ2 ⟨hS2, rfl⟩
      rw [e96, evl_congr htx.2.2 (by decide) e110 ln (Nat.le_refl _)]
      refine hG.rt hR rfl rfl rfl rfl ?_
      exact ⟨by rw [fineR, hc2]; dsimp only; rw [evT_eq htx], hS.tr (hS2.mono (by decide))⟩
    · exact absurd (show 0 ≤ nI i from nI_pos' (by omega)) k1
theorem o_M_why (k : Int32) (hf : FOk (σ 96) n c t y) : Ci l θ 5 m_M_why [.inr 95, .inl k] σ (fun r σ' => r = whyR (σ 96) t k ∧ σ' = σ) := by
  obtain ⟨h1, hn, h4, hc, h5, ht, h2, h2y, hT, hW⟩ := hf
  refine Ci.of (Or.inl mi_M_why) pk_M_why (nb rfl) (Or.inl rfl) [some (.inr 95), some (.inl k), none] rfl fun Γ hG hR => ?_
  refine hG.cS lk_M_84 mi_M_in rfl rfl (c_M_in k 0 2) rfl rfl rfl rfl rfl rfl ?_
  rintro x σ' ⟨rfl, rfl⟩
  refine hG.br rfl rfl rfl rfl (fun k1 => ?_) (fun k1 => ?_)
  · refine hG.cV lk_M_131 mi_M_counts rfl rfl (c_M_counts k t h5 ht) rfl rfl rfl rfl rfl rfl rfl rfl ?_
    rintro x σ' ⟨rfl, rfl⟩
    have hg : whyR (σ' 96) t k = optN (-1000000005) (cntO (σ' 96) k t) := by rw [whyR, bi_ne0.mp k1, if_pos rfl]
    cases hcn : cntO (σ' 96) k t with
    | none =>
      refine hG.br rfl rfl rfl rfl (fun k2 => ?_) (fun k2 => ?_)
      · exact absurd k2 (by decide)
      · refine hG.rt hR rfl rfl rfl rfl ?_
        exact ⟨by rw [hg, hcn]; rfl, rfl⟩
    | some i =>
      have hi := (cntO_lt hcn).1
      refine hG.br rfl rfl rfl rfl (fun k2 => ?_) (fun k2 => ?_)
      · refine hG.rt hR rfl rfl rfl rfl ?_
        exact ⟨by rw [hg, hcn]; rfl, rfl⟩
      · exact absurd (show 0 ≤ nI i from nI_pos' (by omega)) k2
  · refine hG.rt hR rfl rfl rfl rfl ?_
    exact ⟨by rw [whyR, bi_eq0.mp k1]; rfl, rfl⟩
theorem o_M_textTold (x w : Int32) (hf : FOk (σ 96) n c t y) : Ci l θ 5 m_M_textTold [.inr 95, .inl x, .inl w] σ (fun r σ' => r = ttlR (σ 96) t x w ∧ σ' = σ) := by
  obtain ⟨h1, hn, h4, hc, h5, ht, h2, h2y, hT, hW⟩ := hf
  refine Ci.of (Or.inl mi_M_textTold) pk_M_textTold (nb rfl) (Or.inl rfl) [some (.inr 95), some (.inl x), some (.inl w)] rfl fun Γ hG hR => ?_
  have bad : (inB x 0 (nI t - 1) && inB w 0 1) = false → X Γ 25 [some (.inr 95), some (.inl x), some (.inl w)] [] σ := by
    intro hb
    refine hG.rt hR rfl rfl rfl rfl ?_
    exact ⟨by rw [ttlR, hb]; rfl, rfl⟩
  refine hG.ld rfl 5 rfl rfl rfl rfl rfl (by decide) ?_
  rw [h5]
  refine hG.cS lk_M_84 mi_M_in rfl rfl (c_M_in x 0 (nI t - 1)) rfl rfl rfl rfl rfl rfl ?_
  rintro z σ' ⟨rfl, rfl⟩
  refine hG.br rfl rfl rfl rfl (fun k1 => ?_) (fun k1 => ?_)
  · exact bad (by rw [bi_eq0.mp k1]; rfl)
  · refine hG.cS lk_M_84 mi_M_in rfl rfl (c_M_in w 0 1) rfl rfl rfl rfl rfl rfl ?_
    rintro z σ' ⟨rfl, rfl⟩
    refine hG.br rfl rfl rfl rfl (fun k2 => ?_) (fun k2 => ?_)
    · obtain ⟨P, hP, rfl⟩ := (inB_lt (by omega)).mp (bi_ne0.mp k1)
      have hg : ttlR (σ' 96) t (nI P) w = if w = 0 then σ' 96 (58 + 2 * P) / 1000 else σ' 96 (58 + 2 * P + 1) := by
        rw [ttlR, bi_ne0.mp k1, bi_ne0.mp k2, nI_clamp (by omega), Bool.and_self, if_pos rfl]
      refine hG.br rfl rfl rfl rfl (fun k3 => ?_) (fun k3 => ?_)
      · refine hG.ld rfl (58 + 2 * P + 1) rfl rfl rfl rfl (by simp only [lit_nI, pk_mul, nI_add, nI_1]; first | done | rfl | (congr 1; omega)) (by omega) ?_
        refine hG.rt hR rfl rfl rfl rfl ?_
        exact ⟨by rw [hg, if_neg k3], rfl⟩
      · refine hG.ld rfl (58 + 2 * P) rfl rfl rfl rfl (by simp only [lit_nI, pk_mul, nI_add, nI_1]; first | done | rfl | (congr 1; omega)) (by omega) ?_
        refine hG.dv rfl rfl rfl (by decide) ?_
        refine hG.rt hR rfl rfl rfl rfl ?_
        exact ⟨by rw [hg, if_pos k3], rfl⟩
    · exact bad (by rw [bi_eq0.mp k2]; simp)
end
