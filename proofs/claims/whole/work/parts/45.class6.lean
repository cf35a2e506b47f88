/-! a Valley of the class: a year, people, children, becoming another -/
section
variable {σ σ' : Sg} {b n c t : Nat} {f g : Nat → Int32}
theorem RV.sety (h : RV σ b f n c t) (ht : TxsOk f t) (v : Int32) : RV (up σ b 9 v) b (upd f 2 v) n c t := by
  have hg : ∀ j, j ≠ 2 → upd f 2 v j = f j := fun j hj => upd_ne hj
  have e : ∀ k, 1 ≤ k → up σ b 9 v (b + k) = σ (b + k) := fun k hk => up_c _ _ _ _ (by omega)
  refine ⟨⟨?_, ?_, ?_, ?_, ?_, ?_⟩, ?_, fun p hp => ⟨?_, ?_, ?_, ?_⟩, fun i hi => ⟨?_, ?_⟩, ?_⟩
  · rw [up_j _ _ _ _ (by omega)]; exact h.pn
  · rw [up_j _ _ _ _ (by omega)]; exact h.cn
  · rw [up_j _ _ _ _ (by omega), hg _ (by omega)]; exact h.tm
  · rw [up_self, upd_same]
  · rw [up_j _ _ _ _ (by omega), hg _ (by omega)]; exact h.z
  · rw [up_j _ _ _ _ (by omega)]; exact h.tn
  · rw [up_j _ _ _ _ (by omega)]; exact h.nea ht (fun j hj => hg j (by omega))
  · rw [e _ (by omega), hg _ (by omega)]; exact h.kd hp
  · rw [e _ (by omega), hg _ (by omega)]; exact h.nm hp
  · rw [e _ (by omega), hg _ (by omega)]; exact h.bn hp
  · rw [e _ (by omega), hg _ (by omega)]; exact h.dd hp
  · rw [e _ (by omega), hg _ (by omega)]; exact h.c1 hi
  · rw [e _ (by omega), hg _ (by omega)]; exact h.c2 hi
  · rw [e _ (by omega)]; exact h.cnt (fun j hj => hg j (by omega))
theorem RV.setd (h : RV σ b f n c t) (ht : TxsOk f t) (hn : n ≤ 10) (hc : c ≤ 6) (q : Nat) (hq : q < n) (v : Int32) : RV (up σ (b + 4) q v) b (upd f (18 + 4 * q + 3) v) n c t := by
  have hg : ∀ j, j ≠ 18 + 4 * q + 3 → upd f (18 + 4 * q + 3) v j = f j := fun j hj => upd_ne hj
  have e : ∀ k, k ≠ 4 → up σ (b + 4) q v (b + k) = σ (b + k) := fun k hk => up_c _ _ _ _ (by omega)
  have e0 : up σ (b + 4) q v b = σ b := e 0 (by omega)
  refine ⟨⟨?_, ?_, ?_, ?_, ?_, ?_⟩, ?_, fun p hp => ⟨?_, ?_, ?_, ?_⟩, fun i hi => ⟨?_, ?_⟩, ?_⟩
  · rw [e0]; exact h.pn
  · rw [e0]; exact h.cn
  · rw [e0, hg _ (by omega)]; exact h.tm
  · rw [e0, hg _ (by omega)]; exact h.y
  · rw [e0, hg _ (by omega)]; exact h.z
  · rw [e0]; exact h.tn
  · rw [e0]; exact h.nea ht (fun j hj => hg j (by omega))
  · rw [e _ (by omega), hg _ (by omega)]; exact h.kd hp
  · rw [e _ (by omega), hg _ (by omega)]; exact h.nm hp
  · rw [e _ (by omega), hg _ (by omega)]; exact h.bn hp
  · by_cases hpq : p = q
    · subst hpq; rw [up_self, upd_same]
    · rw [up_j _ _ _ _ hpq, hg _ (by omega)]; exact h.dd hp
  · rw [e _ (by omega), hg _ (by omega)]; exact h.c1 hi
  · rw [e _ (by omega), hg _ (by omega)]; exact h.c2 hi
  · rw [e _ (by omega)]; exact h.cnt (fun j hj => hg j (by omega))
end
section
variable {l : Launch} {θ : Th} {σ : Sg} {n c t : Nat} {f : Nat → Int32}
theorem c_V_passYear32 (hn : n ≤ 10) (hcl : c ≤ 6) (htl : t ≤ 14) (ht : TxsOk f t) (hV : RV σ 32 f n c t) (hT : TXS σ f t) : Ci l θ 5 m_V_passYear [.inr 32, .inr 1] σ (fun r σ' => Sm [3, 32, 36] σ σ' ∧ RV σ' 32 (yearF f n t).1 n c t ∧ r = nI (yearF f n t).2) := by
  refine Ci.of (Or.inl mi_V_passYear) pk_V_passYear (nb rfl) (Or.inl rfl) [some (.inr 32), some (.inr 1), none, none] rfl fun Γ hG hR => ?_
  have loop : ∀ k i, i + k = n → ∀ (τ : Sg) (d : Nat) (g : Nat → Int32), Sm [3, 32, 36] σ τ → RV τ 32 g n c t → (∀ j, 58 ≤ j → g j = f j) → yrL f t 0 n 0 = yrL g t i k d → X Γ 4 [some (.inr 32), some (.inr 1), some (.inl (nI d)), some (.inl (nI i))] [] τ := by
    intro k
    induction k with
    | zero =>
      intro i hi τ d g hS hV' hg hy
      have hi : i = n := by omega
      subst hi
      have htg : TxsOk g t := TxsOk_congr ht hg
      refine hG.br rfl rfl rfl rfl (fun h1 => ?_) (fun h1 => ?_)
      · refine hG.rt hR rfl rfl rfl rfl ?_
        have e1 : yearF f i t = (upd g 2 (g 2 + 1), d) := by rw [yearF, hy]; rfl
        rw [e1]
        refine ⟨hS.up (by decide), ?_, rfl⟩
        rw [hV'.y]
        exact hV'.sety htg _
      · rw [hV'.pn] at h1
        exact absurd (nI_le (Nat.le_refl i) (by omega)) h1
    | succ k ih =>
      intro i hi τ d g hS hV' hg hy
      have htg : TxsOk g t := TxsOk_congr ht hg
      have hy' : yrL f t 0 n 0 = yrL (yrS g t i d).1 t (i + 1) k (yrS g t i d).2 := hy
      refine hG.br rfl rfl rfl rfl (fun h1 => ?_) (fun h1 => ?_)
      · rw [hV'.pn] at h1
        exact absurd h1 (nI_ge (by omega) (by omega))
      · refine hG.cV lk_V_78 mi_V_isAlive rfl rfl (c_V_isAlive32 i (by omega) hn hV') rfl rfl rfl rfl rfl rfl rfl rfl ?_
        rintro x τ' ⟨rfl, rfl⟩
        refine hG.br rfl rfl rfl rfl (fun h2 => ?_) (fun h2 => ?_)
        · refine hG.jp rfl rfl rfl ?_
          rw [nI_1]
          have e1 : yrS g t i d = (g, d) := by rw [yrS, bi_eq0.mp h2]; rfl
          rw [e1] at hy'
          exact ih (i + 1) (by omega) _ d g hS hV' hg hy'
        · refine hG.cV lk_V_68 mi_V_draw rfl rfl (c_V_draw32) rfl rfl rfl rfl rfl rfl rfl rfl ?_
          rintro x τ1 ⟨rfl, rfl⟩
          refine hG.rm rfl rfl rfl (by decide) ?_
          rw [hV'.z]
          have hV1 := hV'.setz htg (drawZ (g 0))
          have hg1 : ∀ j, 58 ≤ j → upd g 0 (drawZ (g 0)) j = f j := fun j hj => by rw [upd_ne (by omega)]; exact hg j hj
          have htg1 : TxsOk (upd g 0 (drawZ (g 0))) t := TxsOk_congr ht hg1
          have hS1 : Sm [3, 32, 36] σ (up τ' 32 10 (drawZ (g 0))) := hS.up (by decide)
          refine hG.cV lk_V_106 mi_V_chanceToDie rfl rfl (c_V_chanceToDie32 (σ := up τ' 32 10 (drawZ (g 0))) (f := upd g 0 (drawZ (g 0))) i (by omega) hn htl htg1 hV1 ((hT.cg hg1).sm hS1 htl (fun k h1 h2 => by simp; omega))) rfl rfl rfl rfl rfl rfl rfl rfl ?_
          rintro x τ2 ⟨hS2, hx⟩
          have hV2 := hV1.sm hS2 (fun k hk => by simp; omega)
          have hS3 : Sm [3, 32, 36] σ τ2 := hS1.tr (hS2.mono (by simp))
          obtain ⟨q, hq1, hq2⟩ := rmI_draw (drawZ (g 0)) 100 (by omega) (by omega)
          have hq2 : drawV (drawZ (g 0)) - drawV (drawZ (g 0)) / 100 * 100 = nI q := hq2
          have hx' := hx (nI q) (nI_pos' (by omega)) ((nI_ltI (b := 100) (by omega) (by omega)).mpr hq1)
          rw [← hq2] at hx'
          refine hG.br rfl rfl rfl rfl (fun h3 => ?_) (fun h3 => ?_)
          · refine hG.jp rfl rfl rfl ?_
            rw [nI_1]
            have e1 : yrS g t i d = (upd g 0 (drawZ (g 0)), d) := by
              rw [yrS, rmI, bi_ne0.mp h2, if_pos rfl, if_neg (fun h => absurd (hx'.mpr h) (i32_nlt.mpr h3))]
            rw [e1] at hy'
            exact ih (i + 1) (by omega) _ d _ hS3 hV2 hg1 hy'
          · refine hG.sti rfl i rfl rfl rfl rfl (by omega) ?_
            refine hG.jp rfl rfl rfl ?_
            rw [nI_1, nI_1]
            have e1 : yrS g t i d = (upd (upd g 0 (drawZ (g 0))) (18 + 4 * i + 3) (g 2), d + 1) := by
              rw [yrS, rmI, bi_ne0.mp h2, if_pos rfl, if_pos (hx'.mp (i32_nle.mp h3))]
            rw [e1] at hy'
            have e2 : τ2 32 9 = g 2 := by rw [hV2.y, upd_ne (by omega)]
            rw [e2]
            refine ih (i + 1) (by omega) _ (d + 1) _ (hS3.up (by decide)) (hV2.setd htg1 hn hcl i (by omega) (g 2)) (fun j hj => ?_) hy'
            rw [upd_ne (by omega)]; exact hg1 j hj
  exact hG.go 4 rfl rfl (loop n 0 (by omega) σ 0 f Sm.rf hV (fun _ _ => rfl) rfl)
theorem c_V_passYear50 (hn : n ≤ 10) (hcl : c ≤ 6) (htl : t ≤ 14) (ht : TxsOk f t) (hV : RV σ 50 f n c t) (hT : TXS σ f t) : Ci l θ 5 m_V_passYear [.inr 50, .inr 1] σ (fun r σ' => Sm [3, 50, 54] σ σ' ∧ RV σ' 50 (yearF f n t).1 n c t ∧ r = nI (yearF f n t).2) := by
  refine Ci.of (Or.inl mi_V_passYear) pk_V_passYear (nb rfl) (Or.inl rfl) [some (.inr 50), some (.inr 1), none, none] rfl fun Γ hG hR => ?_
  have loop : ∀ k i, i + k = n → ∀ (τ : Sg) (d : Nat) (g : Nat → Int32), Sm [3, 50, 54] σ τ → RV τ 50 g n c t → (∀ j, 58 ≤ j → g j = f j) → yrL f t 0 n 0 = yrL g t i k d → X Γ 4 [some (.inr 50), some (.inr 1), some (.inl (nI d)), some (.inl (nI i))] [] τ := by
    intro k
    induction k with
    | zero =>
      intro i hi τ d g hS hV' hg hy
      have hi : i = n := by omega
      subst hi
      have htg : TxsOk g t := TxsOk_congr ht hg
      refine hG.br rfl rfl rfl rfl (fun h1 => ?_) (fun h1 => ?_)
      · refine hG.rt hR rfl rfl rfl rfl ?_
        have e1 : yearF f i t = (upd g 2 (g 2 + 1), d) := by rw [yearF, hy]; rfl
        rw [e1]
        refine ⟨hS.up (by decide), ?_, rfl⟩
        rw [hV'.y]
        exact hV'.sety htg _
      · rw [hV'.pn] at h1
        exact absurd (nI_le (Nat.le_refl i) (by omega)) h1
    | succ k ih =>
      intro i hi τ d g hS hV' hg hy
      have htg : TxsOk g t := TxsOk_congr ht hg
      have hy' : yrL f t 0 n 0 = yrL (yrS g t i d).1 t (i + 1) k (yrS g t i d).2 := hy
      refine hG.br rfl rfl rfl rfl (fun h1 => ?_) (fun h1 => ?_)
      · rw [hV'.pn] at h1
        exact absurd h1 (nI_ge (by omega) (by omega))
      · refine hG.cV lk_V_78 mi_V_isAlive rfl rfl (c_V_isAlive50 i (by omega) hn hV') rfl rfl rfl rfl rfl rfl rfl rfl ?_
        rintro x τ' ⟨rfl, rfl⟩
        refine hG.br rfl rfl rfl rfl (fun h2 => ?_) (fun h2 => ?_)
        · refine hG.jp rfl rfl rfl ?_
          rw [nI_1]
          have e1 : yrS g t i d = (g, d) := by rw [yrS, bi_eq0.mp h2]; rfl
          rw [e1] at hy'
          exact ih (i + 1) (by omega) _ d g hS hV' hg hy'
        · refine hG.cV lk_V_68 mi_V_draw rfl rfl (c_V_draw50) rfl rfl rfl rfl rfl rfl rfl rfl ?_
          rintro x τ1 ⟨rfl, rfl⟩
          refine hG.rm rfl rfl rfl (by decide) ?_
          rw [hV'.z]
          have hV1 := hV'.setz htg (drawZ (g 0))
          have hg1 : ∀ j, 58 ≤ j → upd g 0 (drawZ (g 0)) j = f j := fun j hj => by rw [upd_ne (by omega)]; exact hg j hj
          have htg1 : TxsOk (upd g 0 (drawZ (g 0))) t := TxsOk_congr ht hg1
          have hS1 : Sm [3, 50, 54] σ (up τ' 50 10 (drawZ (g 0))) := hS.up (by decide)
          refine hG.cV lk_V_106 mi_V_chanceToDie rfl rfl (c_V_chanceToDie50 (σ := up τ' 50 10 (drawZ (g 0))) (f := upd g 0 (drawZ (g 0))) i (by omega) hn htl htg1 hV1 ((hT.cg hg1).sm hS1 htl (fun k h1 h2 => by simp; omega))) rfl rfl rfl rfl rfl rfl rfl rfl ?_
          rintro x τ2 ⟨hS2, hx⟩
          have hV2 := hV1.sm hS2 (fun k hk => by simp; omega)
          have hS3 : Sm [3, 50, 54] σ τ2 := hS1.tr (hS2.mono (by simp))
          obtain ⟨q, hq1, hq2⟩ := rmI_draw (drawZ (g 0)) 100 (by omega) (by omega)
          have hq2 : drawV (drawZ (g 0)) - drawV (drawZ (g 0)) / 100 * 100 = nI q := hq2
          have hx' := hx (nI q) (nI_pos' (by omega)) ((nI_ltI (b := 100) (by omega) (by omega)).mpr hq1)
          rw [← hq2] at hx'
          refine hG.br rfl rfl rfl rfl (fun h3 => ?_) (fun h3 => ?_)
          · refine hG.jp rfl rfl rfl ?_
            rw [nI_1]
            have e1 : yrS g t i d = (upd g 0 (drawZ (g 0)), d) := by
              rw [yrS, rmI, bi_ne0.mp h2, if_pos rfl, if_neg (fun h => absurd (hx'.mpr h) (i32_nlt.mpr h3))]
            rw [e1] at hy'
            exact ih (i + 1) (by omega) _ d _ hS3 hV2 hg1 hy'
          · refine hG.sti rfl i rfl rfl rfl rfl (by omega) ?_
            refine hG.jp rfl rfl rfl ?_
            rw [nI_1, nI_1]
            have e1 : yrS g t i d = (upd (upd g 0 (drawZ (g 0))) (18 + 4 * i + 3) (g 2), d + 1) := by
              rw [yrS, rmI, bi_ne0.mp h2, if_pos rfl, if_pos (hx'.mp (i32_nle.mp h3))]
            rw [e1] at hy'
            have e2 : τ2 50 9 = g 2 := by rw [hV2.y, upd_ne (by omega)]
            rw [e2]
            refine ih (i + 1) (by omega) _ (d + 1) _ (hS3.up (by decide)) (hV2.setd htg1 hn hcl i (by omega) (g 2)) (fun j hj => ?_) hy'
            rw [upd_ne (by omega)]; exact hg1 j hj
  exact hG.go 4 rfl rfl (loop n 0 (by omega) σ 0 f Sm.rf hV (fun _ _ => rfl) rfl)
theorem c_V_enter (k nm b : Int32) (hn : n < 10) (hcl : c ≤ 6) (ht : TxsOk f t) (hV : RV σ 32 f n c t) : Ci l θ 1 m_V_enter [.inr 32, .inl k, .inl nm, .inl b] σ (fun r σ' => Sm [32, 33, 34, 35, 36] σ σ' ∧ RV σ' 32 (comesF f n k nm b) (n + 1) c t ∧ r = nI n) := by
  refine Ci.of (Or.inl mi_V_enter) pk_V_enter (nb rfl) (Or.inl rfl) [some (.inr 32), some (.inl k), some (.inl nm), some (.inl b), none] rfl fun Γ hG hR => ?_
  refine hG.go 4 rfl rfl ?_
  rw [hV.pn]
  refine hG.sti rfl n rfl rfl rfl rfl (by omega) ?_
  refine hG.sti rfl n rfl rfl rfl rfl (by omega) ?_
  refine hG.sti rfl n rfl rfl rfl rfl (by omega) ?_
  refine hG.sti rfl n rfl rfl rfl rfl (by omega) ?_
  refine hG.rt hR rfl rfl rfl rfl ?_
  refine ⟨((((Sm.rf.up (by decide)).up (by decide)).up (by decide)).up (by decide)).up (by decide), ?_, rfl⟩
  have hg : ∀ j, 58 ≤ j → comesF f n k nm b j = f j := fun j hj => by
    rw [comesF, upd_ne (by omega), upd_ne (by omega), upd_ne (by omega), upd_ne (by omega), upd_ne (by omega)]
  have hl : ∀ j, j < 18 → j ≠ 1 → comesF f n k nm b j = f j := fun j hj h1 => by
    rw [comesF, upd_ne (by omega), upd_ne (by omega), upd_ne (by omega), upd_ne (by omega), upd_ne (by omega)]
  have ho : ∀ p w, p < n → w < 4 → comesF f n k nm b (18 + 4 * p + w) = f (18 + 4 * p + w) := fun p w hp hw => by
    rw [comesF, upd_ne (by omega), upd_ne (by omega), upd_ne (by omega), upd_ne (by omega), upd_ne (by omega)]
  have k0 : comesF f n k nm b (18 + 4 * n) = k := by
    rw [comesF, upd_ne (by omega), upd_ne (by omega), upd_ne (by omega), upd_ne (by omega), upd_same]
  have k1 : comesF f n k nm b (18 + 4 * n + 1) = nm := by
    rw [comesF, upd_ne (by omega), upd_ne (by omega), upd_ne (by omega), show 18 + 4 * n + 1 = 19 + 4 * n by omega, upd_same]
  have k2 : comesF f n k nm b (18 + 4 * n + 2) = b := by
    rw [comesF, upd_ne (by omega), upd_ne (by omega), show 18 + 4 * n + 2 = 20 + 4 * n by omega, upd_same]
  have k3 : comesF f n k nm b (18 + 4 * n + 3) = -1000000005 := by
    rw [comesF, upd_ne (by omega), show 18 + 4 * n + 3 = 21 + 4 * n by omega, upd_same]
  simp only [RV, up, upc_same, upc_c, ne_eq, Nat.reduceAdd, Nat.reduceEqDiff, not_false_eq_true]
  refine ⟨⟨?_, ?_, ?_, ?_, ?_, ?_⟩, ?_, fun p hp => ?_, fun i hi => ⟨?_, ?_⟩, ?_⟩
  · rw [upd_same, hV.pn, nI_1]
  · rw [upd_ne (by omega)]; exact hV.cn
  · rw [upd_ne (by omega), hl 3 (by omega) (by omega)]; exact hV.tm
  · rw [upd_ne (by omega), hl 2 (by omega) (by omega)]; exact hV.y
  · rw [upd_ne (by omega), hl 0 (by omega) (by omega)]; exact hV.z
  · rw [upd_ne (by omega)]; exact hV.tn
  · rw [upd_ne (by omega)]; exact hV.nea ht hg
  · by_cases hpn : p = n
    · subst hpn
      rw [upd_same, upd_same, upd_same, upd_same, k0, k1, k2, k3]
      exact ⟨rfl, rfl, rfl, rfl⟩
    · rw [upd_ne hpn, upd_ne hpn, upd_ne hpn, upd_ne hpn, ho p 1 (by omega) (by omega), ho p 2 (by omega) (by omega), ho p 3 (by omega) (by omega), show comesF f n k nm b (18 + 4 * p) = f (18 + 4 * p) from ho p 0 (by omega) (by omega)]
      exact hV.2.2.1 p (by omega)
  · rw [hl _ (by omega) (by omega)]; exact hV.c1 hi
  · rw [hl _ (by omega) (by omega)]; exact hV.c2 hi
  · exact hV.cnt hg
theorem c_V_wish (a b : Int32) (hn : n ≤ 10) (hcl : c < 6) (ht : TxsOk f t) (hV : RV σ 32 f n c t) : Ci l θ 1 m_V_wish [.inr 32, .inl a, .inl b] σ (fun r σ' => Sm [32, 37, 38] σ σ' ∧ RV σ' 32 (upd (upd (upd f (6 + 2 * c) a) (6 + 2 * c + 1) b) 4 (nI (c + 1))) n (c + 1) t ∧ r = nI c) := by
  refine Ci.of (Or.inl mi_V_wish) pk_V_wish (nb rfl) (Or.inl rfl) [some (.inr 32), some (.inl a), some (.inl b), none] rfl fun Γ hG hR => ?_
  refine hG.go 3 rfl rfl ?_
  rw [hV.cn]
  refine hG.sti rfl c rfl rfl rfl rfl (by omega) ?_
  refine hG.sti rfl c rfl rfl rfl rfl (by omega) ?_
  refine hG.rt hR rfl rfl rfl rfl ?_
  refine ⟨((Sm.rf.up (by decide)).up (by decide)).up (by decide), ?_, rfl⟩
  generalize hgg : upd (upd (upd f (6 + 2 * c) a) (6 + 2 * c + 1) b) 4 (nI (c + 1)) = g
  have hg : ∀ j, j ≠ 6 + 2 * c → j ≠ 6 + 2 * c + 1 → j ≠ 4 → g j = f j := fun j h1 h2 h3 => by
    rw [← hgg, upd_ne h3, upd_ne h2, upd_ne h1]
  have g0 : g (6 + 2 * c) = a := by rw [← hgg, upd_ne (by omega), upd_ne (by omega), upd_same]
  have g1 : g (6 + 2 * c + 1) = b := by rw [← hgg, upd_ne (by omega), upd_same]
  simp only [RV, up, upc_same, upc_c, ne_eq, Nat.reduceAdd, Nat.reduceEqDiff, not_false_eq_true]
  refine ⟨⟨?_, ?_, ?_, ?_, ?_, ?_⟩, ?_, fun p hp => ?_, fun i hi => ?_, ?_⟩
  · rw [upd_ne (by omega)]; exact hV.pn
  · rw [upd_same, hV.cn, nI_1]
  · rw [upd_ne (by omega), hg 3 (by omega) (by omega) (by omega)]; exact hV.tm
  · rw [upd_ne (by omega), hg 2 (by omega) (by omega) (by omega)]; exact hV.y
  · rw [upd_ne (by omega), hg 0 (by omega) (by omega) (by omega)]; exact hV.z
  · rw [upd_ne (by omega)]; exact hV.tn
  · rw [upd_ne (by omega)]; exact hV.nea ht (fun j hj => hg j (by omega) (by omega) (by omega))
  · rw [hg _ (by omega) (by omega) (by omega), hg _ (by omega) (by omega) (by omega), hg _ (by omega) (by omega) (by omega), hg _ (by omega) (by omega) (by omega)]
    exact hV.2.2.1 p hp
  · by_cases hic : i = c
    · subst hic
      rw [upd_same, upd_same, g0, g1]
      exact ⟨rfl, rfl⟩
    · rw [upd_ne hic, upd_ne hic, hg _ (by omega) (by omega) (by omega), hg _ (by omega) (by omega) (by omega)]
      exact hV.2.2.2.1 i (by omega)
  · exact hV.cnt (fun j hj => hg j (by omega) (by omega) (by omega))
end
