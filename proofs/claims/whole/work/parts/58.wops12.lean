/-! the class's calls: pour, copy -/
theorem wth124 (v : Int32) : (if 0 < (if v < 124 then v else 124) then (if v < 124 then v else 124) else 0) = withinF v 0 124 := by
  rw [withinF]
  by_cases h1 : v < 124
  · rw [if_pos h1]
    by_cases h2 : v < 0
    · rw [if_pos h2, if_neg (i32_nlt.mpr (Int32.le_of_lt h2))]
    · rw [if_neg h2, if_neg (i32_nlt.mpr (Int32.le_of_lt h1))]
      by_cases h3 : 0 < v
      · rw [if_pos h3]
      · rw [if_neg h3]
        exact Int32.le_antisymm (i32_nlt.mp h2) (i32_nlt.mp h3)
  · rw [if_neg h1, if_pos (by decide), if_neg (i32_nlt.mpr (Int32.le_trans (by decide) (i32_nlt.mp h1)))]
    by_cases h3 : 124 < v
    · rw [if_pos h3]
    · rw [if_neg h3]
      exact Int32.le_antisymm (i32_nlt.mp h1) (i32_nlt.mp h3)
theorem upd_id (f : Nat → Int32) (j : Nat) : upd f j (f j) = f := by
  funext x
  by_cases h : x = j
  · rw [h, upd_same]
  · rw [upd_ne h]
def hpB (p m z : Int32) : Bool := decide (0 ≤ p) && decide (p ≤ z) && decide (0 ≤ m) && decide (m ≤ z - p)
theorem hpB_iff {p m : Int32} {z : Nat} (hz : z ≤ 24) : hpB p m (nI z) = true ↔ ∃ P M, p = nI P ∧ m = nI M ∧ P + M ≤ z := by
  simp only [hpB, Bool.and_eq_true, decide_eq_true_eq]
  constructor
  · rintro ⟨⟨⟨h1, h2⟩, h3⟩, h4⟩
    obtain ⟨P, hP, rfl⟩ := nI_of (i32_nlt.mpr h1)
    obtain ⟨M, hM, rfl⟩ := nI_of (i32_nlt.mpr h3)
    have h5 := (nI_leI hP (by omega)).mp h2
    rw [lit_sub h5] at h4
    have h6 := (nI_leI hM (by omega)).mp h4
    exact ⟨P, M, rfl, rfl, by omega⟩
  · rintro ⟨P, M, rfl, rfl, h⟩
    refine ⟨⟨⟨nI_pos' (by omega), nI_le (by omega) (by omega)⟩, nI_pos' (by omega)⟩, ?_⟩
    rw [lit_sub (by omega)]
    exact nI_le (by omega) (by omega)
theorem cpyG_eq {pl at_ many : Int32} {zf zt : Nat} (h1 : zf ≤ 24) (h2 : zt ≤ 24) : cpyG pl at_ many (nI zf) (nI zt) = (hpB pl many (nI zf) && hpB at_ many (nI zt)) := by
  rw [Bool.eq_iff_iff, Bool.and_eq_true, hpB_iff h1, hpB_iff h2]
  constructor
  · intro h
    obtain ⟨P, A, m, e1, e2, e3, h3, h4⟩ := cpyG_ok h1 h2 h
    exact ⟨⟨P, m, e1, e3, h3⟩, ⟨A, m, e2, e3, h4⟩⟩
  · rintro ⟨⟨P, M, rfl, rfl, h3⟩, ⟨A, M', rfl, e, h4⟩⟩
    have : M = M' := (nI_eq (by omega) (by omega)).mp e
    subst this
    simp only [cpyG, Bool.and_eq_true, decide_eq_true_eq]
    refine ⟨⟨⟨⟨nI_pos' (by omega), nI_pos' (by omega)⟩, nI_pos' (by omega)⟩, ?_⟩, ?_⟩
    · rw [lit_sub (by omega)]; exact nI_le (by omega) (by omega)
    · rw [lit_sub (by omega)]; exact nI_le (by omega) (by omega)
section
variable {l : Launch} {θ : Th} {σ σ' : Sg} {n c t y : Nat} {f so sz ce : Nat → Int32}
theorem SH.cpy (h : SH σ so sz ce) (F T P A M : Nat) (hF : F < 4) (hT : T < 4) (hP : P + M ≤ 24) (hA : A + M ≤ 24) : SH (upc σ (71 + 2 * T) (va_cpy (σ (71 + 2 * F)) (σ (71 + 2 * T)) P A M)) so sz (va_cpy ce ce (24 * F + P) (24 * T + A) M) := by
  refine h.cells T hT _ (Sm.rf.upc (by simp)) (fun j hj => ?_) (fun j hj => ?_)
  · rw [upc_same, va_cpy, va_cpy]
    by_cases h1 : A ≤ j ∧ j < A + M
    · rw [if_pos h1, if_pos ⟨by omega, by omega⟩, (h F hF).2.2 _ (by omega)]
      congr 1; omega
    · rw [if_neg h1, if_neg (by omega)]
      exact (h T hT).2.2 j hj
  · rw [va_cpy, if_neg (by omega)]
theorem o_W_pour0 (hS : SV σ f n c t y) (hH : SH σ so sz ce) (hs : SOk so sz) : Ci l θ 5 m_W_pour [.inr 0, .inl (nI 0)] σ (fun r σ' => r = (porF f so sz ce n (nI 0)).1 ∧ Sm [34] σ σ' ∧ SVx σ' (porF f so sz ce n (nI 0)).2) := by
  obtain ⟨hso, Z, hZ, hsz⟩ := hs 0 (by omega)
  have hn := hS.n10
  have a0 : σ 70 0 = so 0 := (hH 0 (by omega)).1
  have a1 : σ 70 1 = nI Z := (hH 0 (by omega)).2.1.trans hsz
  have ac : ∀ j, j < 24 → σ 71 j = ce (24 * 0 + j) := (hH 0 (by omega)).2.2
  generalize hcs : (fun k => ce (24 * 0 + k)) = cs
  have ecs : ∀ k, ce (24 * 0 + k) = cs k := fun k => by rw [← hcs]
  have hg : porF f so sz ce n (nI 0) = if so 0 < 0 then (-1000000011, f) else (nI (porL cs f 0 (min Z n) 0).2, (porL cs f 0 (min Z n) 0).1) := by
    rw [porF, show inB (nI 0) 0 3 = true by decide, if_pos rfl, nI_clamp (by omega), hsz, nI_clamp (by omega), hcs]
  rw [hg]
  have pn := hS.rv.pn
  refine Ci.of (Or.inl mi_W_pour) pk_W_pour (nb rfl) (Or.inl rfl) [some (.inr 0), some (.inl (nI 0)), none, none, none, none, none] rfl fun Γ hG hR => ?_
  refine hG.cS lk_W_206 mi_W_isSheet rfl rfl (c_W_isSheet (nI 0)) rfl rfl rfl rfl rfl rfl ?_
  rintro x σ' ⟨rfl, rfl⟩
  refine hG.br rfl rfl rfl rfl (fun h1 => ?_) (fun h1 => ?_)
  · refine hG.lda rfl 0 rfl rfl rfl (Or.inr (Or.inl rfl)) rfl (by decide) rfl ?_
    refine hG.br rfl rfl rfl rfl (fun h2 => ?_) (fun h2 => ?_)
    · rw [a0] at h2
      rw [if_neg (so_ne hso h2)] at hR
      refine hG.mn rfl lk_W_148 rfl rfl rfl rfl rfl ?_
      rw [a1, pn, min_nI (K := min Z n) rfl (by omega) (by omega)]
      generalize hK : min Z n = K at hR
      have loop : ∀ m k (g : Nat → Int32) (a : Nat) (τ : Sg) (w6 : Option AV), k + m = K → SV τ g n c t y → Sm [34] σ' τ → porL cs f 0 K 0 = porL cs g k m a → X Γ 49 [some (.inr 0), some (.inl (nI 0)), some (.inr 70), some (.inl (nI a)), some (.inl (nI K)), some (.inl (nI k)), w6] [] τ := by
        intro m
        induction m with
        | zero =>
          intro k g a τ w6 hk hS' hs' he
          refine hG.br rfl rfl rfl rfl (fun k3 => ?_) (fun k3 => ?_)
          · refine hG.rt hR rfl rfl rfl rfl ?_
            rw [he]
            exact ⟨rfl, hs', hS'.x⟩
          · exact absurd (nI_le (show K ≤ k by omega) (by omega)) k3
        | succ m ih =>
          intro k g a τ w6 hk hS' hs' he
          rw [porL] at he
          have ec : τ 71 k = cs k := by rw [hs' 71 (by decide), ac k (by omega), ecs]
          have en : τ 34 k = g (18 + 4 * k + 1) := hS'.rv.nm (by omega)
          refine hG.br rfl rfl rfl rfl (fun k3 => ?_) (fun k3 => ?_)
          · exact absurd k3 (nI_ge (by omega) (by omega))
          · refine hG.ld rfl k rfl rfl rfl rfl rfl (by omega) ?_
            rw [ec]
            refine hG.br rfl rfl rfl rfl (fun k4 => ?_) (fun k4 => ?_)
            · have et : porT g cs k = withinF (cs k) 0 124 := by rw [porT, if_neg k4]
              refine hG.ld rfl k rfl rfl rfl rfl rfl (by omega) ?_
              rw [ec]
              refine hG.mn rfl lk_W_148 rfl rfl rfl rfl rfl ?_
              refine hG.mx rfl lk_W_281 rfl rfl rfl rfl rfl ?_
              rw [wth124]
              refine hG.cS lk_W_120 mi_W_replace rfl rfl (c_W_replace34 k (withinF (cs k) 0 124) (by omega)) rfl rfl rfl rfl rfl rfl ?_
              rintro x τ1 ⟨rfl, rfl⟩
              rw [en]
              rw [et] at he
              have hS1 : SV (up τ 34 k (withinF (cs k) 0 124)) (upd g (18 + 4 * k + 1) (withinF (cs k) 0 124)) n c t y := hS'.setp k 1 (by omega) (by omega) _ (fun h => absurd h (by decide)) (fun h => absurd h (by decide))
              refine hG.br rfl rfl rfl rfl (fun k5 => ?_) (fun k5 => ?_)
              · rw [if_pos k5] at he
                refine hG.jp rfl rfl rfl ?_
                rw [nI_1]
                exact ih (k + 1) _ _ _ _ (by omega) hS1 (hs'.up (by decide)) he
              · rw [if_neg k5] at he
                refine hG.jp rfl rfl rfl ?_
                rw [nI_1, nI_1]
                exact ih (k + 1) _ _ _ _ (by omega) hS1 (hs'.up (by decide)) he
            · have et : porT g cs k = g (18 + 4 * k + 1) := by rw [porT, if_pos k4]
              rw [et, if_pos rfl, upd_id] at he
              refine hG.jp rfl rfl rfl ?_
              rw [nI_1]
              exact ih (k + 1) g a τ _ (by omega) hS' hs' he
      exact hG.go 3 rfl rfl (loop K 0 f 0 σ' none (by omega) hS Sm.rf rfl)
    · rw [a0] at h2
      rw [if_pos (so_eq h2)] at hR
      refine hG.rt hR rfl rfl rfl rfl ?_
      exact ⟨rfl, Sm.rf, hS.x⟩
  · exact absurd (bi_eq0.mp h1) (by decide)
theorem o_W_pour1 (hS : SV σ f n c t y) (hH : SH σ so sz ce) (hs : SOk so sz) : Ci l θ 5 m_W_pour [.inr 0, .inl (nI 1)] σ (fun r σ' => r = (porF f so sz ce n (nI 1)).1 ∧ Sm [34] σ σ' ∧ SVx σ' (porF f so sz ce n (nI 1)).2) := by
  obtain ⟨hso, Z, hZ, hsz⟩ := hs 1 (by omega)
  have hn := hS.n10
  have a0 : σ 72 0 = so 1 := (hH 1 (by omega)).1
  have a1 : σ 72 1 = nI Z := (hH 1 (by omega)).2.1.trans hsz
  have ac : ∀ j, j < 24 → σ 73 j = ce (24 * 1 + j) := (hH 1 (by omega)).2.2
  generalize hcs : (fun k => ce (24 * 1 + k)) = cs
  have ecs : ∀ k, ce (24 * 1 + k) = cs k := fun k => by rw [← hcs]
  have hg : porF f so sz ce n (nI 1) = if so 1 < 0 then (-1000000011, f) else (nI (porL cs f 0 (min Z n) 0).2, (porL cs f 0 (min Z n) 0).1) := by
    rw [porF, show inB (nI 1) 0 3 = true by decide, if_pos rfl, nI_clamp (by omega), hsz, nI_clamp (by omega), hcs]
  rw [hg]
  have pn := hS.rv.pn
  refine Ci.of (Or.inl mi_W_pour) pk_W_pour (nb rfl) (Or.inl rfl) [some (.inr 0), some (.inl (nI 1)), none, none, none, none, none] rfl fun Γ hG hR => ?_
  refine hG.cS lk_W_206 mi_W_isSheet rfl rfl (c_W_isSheet (nI 1)) rfl rfl rfl rfl rfl rfl ?_
  rintro x σ' ⟨rfl, rfl⟩
  refine hG.br rfl rfl rfl rfl (fun h1 => ?_) (fun h1 => ?_)
  · refine hG.lda rfl 1 rfl rfl rfl (Or.inr (Or.inl rfl)) rfl (by decide) rfl ?_
    refine hG.br rfl rfl rfl rfl (fun h2 => ?_) (fun h2 => ?_)
    · rw [a0] at h2
      rw [if_neg (so_ne hso h2)] at hR
      refine hG.mn rfl lk_W_148 rfl rfl rfl rfl rfl ?_
      rw [a1, pn, min_nI (K := min Z n) rfl (by omega) (by omega)]
      generalize hK : min Z n = K at hR
      have loop : ∀ m k (g : Nat → Int32) (a : Nat) (τ : Sg) (w6 : Option AV), k + m = K → SV τ g n c t y → Sm [34] σ' τ → porL cs f 0 K 0 = porL cs g k m a → X Γ 49 [some (.inr 0), some (.inl (nI 1)), some (.inr 72), some (.inl (nI a)), some (.inl (nI K)), some (.inl (nI k)), w6] [] τ := by
        intro m
        induction m with
        | zero =>
          intro k g a τ w6 hk hS' hs' he
          refine hG.br rfl rfl rfl rfl (fun k3 => ?_) (fun k3 => ?_)
          · refine hG.rt hR rfl rfl rfl rfl ?_
            rw [he]
            exact ⟨rfl, hs', hS'.x⟩
          · exact absurd (nI_le (show K ≤ k by omega) (by omega)) k3
        | succ m ih =>
          intro k g a τ w6 hk hS' hs' he
          rw [porL] at he
          have ec : τ 73 k = cs k := by rw [hs' 73 (by decide), ac k (by omega), ecs]
          have en : τ 34 k = g (18 + 4 * k + 1) := hS'.rv.nm (by omega)
          refine hG.br rfl rfl rfl rfl (fun k3 => ?_) (fun k3 => ?_)
          · exact absurd k3 (nI_ge (by omega) (by omega))
          · refine hG.ld rfl k rfl rfl rfl rfl rfl (by omega) ?_
            rw [ec]
            refine hG.br rfl rfl rfl rfl (fun k4 => ?_) (fun k4 => ?_)
            · have et : porT g cs k = withinF (cs k) 0 124 := by rw [porT, if_neg k4]
              refine hG.ld rfl k rfl rfl rfl rfl rfl (by omega) ?_
              rw [ec]
              refine hG.mn rfl lk_W_148 rfl rfl rfl rfl rfl ?_
              refine hG.mx rfl lk_W_281 rfl rfl rfl rfl rfl ?_
              rw [wth124]
              refine hG.cS lk_W_120 mi_W_replace rfl rfl (c_W_replace34 k (withinF (cs k) 0 124) (by omega)) rfl rfl rfl rfl rfl rfl ?_
              rintro x τ1 ⟨rfl, rfl⟩
              rw [en]
              rw [et] at he
              have hS1 : SV (up τ 34 k (withinF (cs k) 0 124)) (upd g (18 + 4 * k + 1) (withinF (cs k) 0 124)) n c t y := hS'.setp k 1 (by omega) (by omega) _ (fun h => absurd h (by decide)) (fun h => absurd h (by decide))
              refine hG.br rfl rfl rfl rfl (fun k5 => ?_) (fun k5 => ?_)
              · rw [if_pos k5] at he
                refine hG.jp rfl rfl rfl ?_
                rw [nI_1]
                exact ih (k + 1) _ _ _ _ (by omega) hS1 (hs'.up (by decide)) he
              · rw [if_neg k5] at he
                refine hG.jp rfl rfl rfl ?_
                rw [nI_1, nI_1]
                exact ih (k + 1) _ _ _ _ (by omega) hS1 (hs'.up (by decide)) he
            · have et : porT g cs k = g (18 + 4 * k + 1) := by rw [porT, if_pos k4]
              rw [et, if_pos rfl, upd_id] at he
              refine hG.jp rfl rfl rfl ?_
              rw [nI_1]
              exact ih (k + 1) g a τ _ (by omega) hS' hs' he
      exact hG.go 3 rfl rfl (loop K 0 f 0 σ' none (by omega) hS Sm.rf rfl)
    · rw [a0] at h2
      rw [if_pos (so_eq h2)] at hR
      refine hG.rt hR rfl rfl rfl rfl ?_
      exact ⟨rfl, Sm.rf, hS.x⟩
  · exact absurd (bi_eq0.mp h1) (by decide)
theorem o_W_pour2 (hS : SV σ f n c t y) (hH : SH σ so sz ce) (hs : SOk so sz) : Ci l θ 5 m_W_pour [.inr 0, .inl (nI 2)] σ (fun r σ' => r = (porF f so sz ce n (nI 2)).1 ∧ Sm [34] σ σ' ∧ SVx σ' (porF f so sz ce n (nI 2)).2) := by
  obtain ⟨hso, Z, hZ, hsz⟩ := hs 2 (by omega)
  have hn := hS.n10
  have a0 : σ 74 0 = so 2 := (hH 2 (by omega)).1
  have a1 : σ 74 1 = nI Z := (hH 2 (by omega)).2.1.trans hsz
  have ac : ∀ j, j < 24 → σ 75 j = ce (24 * 2 + j) := (hH 2 (by omega)).2.2
  generalize hcs : (fun k => ce (24 * 2 + k)) = cs
  have ecs : ∀ k, ce (24 * 2 + k) = cs k := fun k => by rw [← hcs]
  have hg : porF f so sz ce n (nI 2) = if so 2 < 0 then (-1000000011, f) else (nI (porL cs f 0 (min Z n) 0).2, (porL cs f 0 (min Z n) 0).1) := by
    rw [porF, show inB (nI 2) 0 3 = true by decide, if_pos rfl, nI_clamp (by omega), hsz, nI_clamp (by omega), hcs]
  rw [hg]
  have pn := hS.rv.pn
  refine Ci.of (Or.inl mi_W_pour) pk_W_pour (nb rfl) (Or.inl rfl) [some (.inr 0), some (.inl (nI 2)), none, none, none, none, none] rfl fun Γ hG hR => ?_
  refine hG.cS lk_W_206 mi_W_isSheet rfl rfl (c_W_isSheet (nI 2)) rfl rfl rfl rfl rfl rfl ?_
  rintro x σ' ⟨rfl, rfl⟩
  refine hG.br rfl rfl rfl rfl (fun h1 => ?_) (fun h1 => ?_)
  · refine hG.lda rfl 2 rfl rfl rfl (Or.inr (Or.inl rfl)) rfl (by decide) rfl ?_
    refine hG.br rfl rfl rfl rfl (fun h2 => ?_) (fun h2 => ?_)
    · rw [a0] at h2
      rw [if_neg (so_ne hso h2)] at hR
      refine hG.mn rfl lk_W_148 rfl rfl rfl rfl rfl ?_
      rw [a1, pn, min_nI (K := min Z n) rfl (by omega) (by omega)]
      generalize hK : min Z n = K at hR
      have loop : ∀ m k (g : Nat → Int32) (a : Nat) (τ : Sg) (w6 : Option AV), k + m = K → SV τ g n c t y → Sm [34] σ' τ → porL cs f 0 K 0 = porL cs g k m a → X Γ 49 [some (.inr 0), some (.inl (nI 2)), some (.inr 74), some (.inl (nI a)), some (.inl (nI K)), some (.inl (nI k)), w6] [] τ := by
        intro m
        induction m with
        | zero =>
          intro k g a τ w6 hk hS' hs' he
          refine hG.br rfl rfl rfl rfl (fun k3 => ?_) (fun k3 => ?_)
          · refine hG.rt hR rfl rfl rfl rfl ?_
            rw [he]
            exact ⟨rfl, hs', hS'.x⟩
          · exact absurd (nI_le (show K ≤ k by omega) (by omega)) k3
        | succ m ih =>
          intro k g a τ w6 hk hS' hs' he
          rw [porL] at he
          have ec : τ 75 k = cs k := by rw [hs' 75 (by decide), ac k (by omega), ecs]
          have en : τ 34 k = g (18 + 4 * k + 1) := hS'.rv.nm (by omega)
          refine hG.br rfl rfl rfl rfl (fun k3 => ?_) (fun k3 => ?_)
          · exact absurd k3 (nI_ge (by omega) (by omega))
          · refine hG.ld rfl k rfl rfl rfl rfl rfl (by omega) ?_
            rw [ec]
            refine hG.br rfl rfl rfl rfl (fun k4 => ?_) (fun k4 => ?_)
            · have et : porT g cs k = withinF (cs k) 0 124 := by rw [porT, if_neg k4]
              refine hG.ld rfl k rfl rfl rfl rfl rfl (by omega) ?_
              rw [ec]
              refine hG.mn rfl lk_W_148 rfl rfl rfl rfl rfl ?_
              refine hG.mx rfl lk_W_281 rfl rfl rfl rfl rfl ?_
              rw [wth124]
              refine hG.cS lk_W_120 mi_W_replace rfl rfl (c_W_replace34 k (withinF (cs k) 0 124) (by omega)) rfl rfl rfl rfl rfl rfl ?_
              rintro x τ1 ⟨rfl, rfl⟩
              rw [en]
              rw [et] at he
              have hS1 : SV (up τ 34 k (withinF (cs k) 0 124)) (upd g (18 + 4 * k + 1) (withinF (cs k) 0 124)) n c t y := hS'.setp k 1 (by omega) (by omega) _ (fun h => absurd h (by decide)) (fun h => absurd h (by decide))
              refine hG.br rfl rfl rfl rfl (fun k5 => ?_) (fun k5 => ?_)
              · rw [if_pos k5] at he
                refine hG.jp rfl rfl rfl ?_
                rw [nI_1]
                exact ih (k + 1) _ _ _ _ (by omega) hS1 (hs'.up (by decide)) he
              · rw [if_neg k5] at he
                refine hG.jp rfl rfl rfl ?_
                rw [nI_1, nI_1]
                exact ih (k + 1) _ _ _ _ (by omega) hS1 (hs'.up (by decide)) he
            · have et : porT g cs k = g (18 + 4 * k + 1) := by rw [porT, if_pos k4]
              rw [et, if_pos rfl, upd_id] at he
              refine hG.jp rfl rfl rfl ?_
              rw [nI_1]
              exact ih (k + 1) g a τ _ (by omega) hS' hs' he
      exact hG.go 3 rfl rfl (loop K 0 f 0 σ' none (by omega) hS Sm.rf rfl)
    · rw [a0] at h2
      rw [if_pos (so_eq h2)] at hR
      refine hG.rt hR rfl rfl rfl rfl ?_
      exact ⟨rfl, Sm.rf, hS.x⟩
  · exact absurd (bi_eq0.mp h1) (by decide)
theorem o_W_pour3 (hS : SV σ f n c t y) (hH : SH σ so sz ce) (hs : SOk so sz) : Ci l θ 5 m_W_pour [.inr 0, .inl (nI 3)] σ (fun r σ' => r = (porF f so sz ce n (nI 3)).1 ∧ Sm [34] σ σ' ∧ SVx σ' (porF f so sz ce n (nI 3)).2) := by
  obtain ⟨hso, Z, hZ, hsz⟩ := hs 3 (by omega)
  have hn := hS.n10
  have a0 : σ 76 0 = so 3 := (hH 3 (by omega)).1
  have a1 : σ 76 1 = nI Z := (hH 3 (by omega)).2.1.trans hsz
  have ac : ∀ j, j < 24 → σ 77 j = ce (24 * 3 + j) := (hH 3 (by omega)).2.2
  generalize hcs : (fun k => ce (24 * 3 + k)) = cs
  have ecs : ∀ k, ce (24 * 3 + k) = cs k := fun k => by rw [← hcs]
  have hg : porF f so sz ce n (nI 3) = if so 3 < 0 then (-1000000011, f) else (nI (porL cs f 0 (min Z n) 0).2, (porL cs f 0 (min Z n) 0).1) := by
    rw [porF, show inB (nI 3) 0 3 = true by decide, if_pos rfl, nI_clamp (by omega), hsz, nI_clamp (by omega), hcs]
  rw [hg]
  have pn := hS.rv.pn
  refine Ci.of (Or.inl mi_W_pour) pk_W_pour (nb rfl) (Or.inl rfl) [some (.inr 0), some (.inl (nI 3)), none, none, none, none, none] rfl fun Γ hG hR => ?_
  refine hG.cS lk_W_206 mi_W_isSheet rfl rfl (c_W_isSheet (nI 3)) rfl rfl rfl rfl rfl rfl ?_
  rintro x σ' ⟨rfl, rfl⟩
  refine hG.br rfl rfl rfl rfl (fun h1 => ?_) (fun h1 => ?_)
  · refine hG.lda rfl 3 rfl rfl rfl (Or.inr (Or.inl rfl)) rfl (by decide) rfl ?_
    refine hG.br rfl rfl rfl rfl (fun h2 => ?_) (fun h2 => ?_)
    · rw [a0] at h2
      rw [if_neg (so_ne hso h2)] at hR
      refine hG.mn rfl lk_W_148 rfl rfl rfl rfl rfl ?_
      rw [a1, pn, min_nI (K := min Z n) rfl (by omega) (by omega)]
      generalize hK : min Z n = K at hR
      have loop : ∀ m k (g : Nat → Int32) (a : Nat) (τ : Sg) (w6 : Option AV), k + m = K → SV τ g n c t y → Sm [34] σ' τ → porL cs f 0 K 0 = porL cs g k m a → X Γ 49 [some (.inr 0), some (.inl (nI 3)), some (.inr 76), some (.inl (nI a)), some (.inl (nI K)), some (.inl (nI k)), w6] [] τ := by
        intro m
        induction m with
        | zero =>
          intro k g a τ w6 hk hS' hs' he
          refine hG.br rfl rfl rfl rfl (fun k3 => ?_) (fun k3 => ?_)
          · refine hG.rt hR rfl rfl rfl rfl ?_
            rw [he]
            exact ⟨rfl, hs', hS'.x⟩
          · exact absurd (nI_le (show K ≤ k by omega) (by omega)) k3
        | succ m ih =>
          intro k g a τ w6 hk hS' hs' he
          rw [porL] at he
          have ec : τ 77 k = cs k := by rw [hs' 77 (by decide), ac k (by omega), ecs]
          have en : τ 34 k = g (18 + 4 * k + 1) := hS'.rv.nm (by omega)
          refine hG.br rfl rfl rfl rfl (fun k3 => ?_) (fun k3 => ?_)
          · exact absurd k3 (nI_ge (by omega) (by omega))
          · refine hG.ld rfl k rfl rfl rfl rfl rfl (by omega) ?_
            rw [ec]
            refine hG.br rfl rfl rfl rfl (fun k4 => ?_) (fun k4 => ?_)
            · have et : porT g cs k = withinF (cs k) 0 124 := by rw [porT, if_neg k4]
              refine hG.ld rfl k rfl rfl rfl rfl rfl (by omega) ?_
              rw [ec]
              refine hG.mn rfl lk_W_148 rfl rfl rfl rfl rfl ?_
              refine hG.mx rfl lk_W_281 rfl rfl rfl rfl rfl ?_
              rw [wth124]
              refine hG.cS lk_W_120 mi_W_replace rfl rfl (c_W_replace34 k (withinF (cs k) 0 124) (by omega)) rfl rfl rfl rfl rfl rfl ?_
              rintro x τ1 ⟨rfl, rfl⟩
              rw [en]
              rw [et] at he
              have hS1 : SV (up τ 34 k (withinF (cs k) 0 124)) (upd g (18 + 4 * k + 1) (withinF (cs k) 0 124)) n c t y := hS'.setp k 1 (by omega) (by omega) _ (fun h => absurd h (by decide)) (fun h => absurd h (by decide))
              refine hG.br rfl rfl rfl rfl (fun k5 => ?_) (fun k5 => ?_)
              · rw [if_pos k5] at he
                refine hG.jp rfl rfl rfl ?_
                rw [nI_1]
                exact ih (k + 1) _ _ _ _ (by omega) hS1 (hs'.up (by decide)) he
              · rw [if_neg k5] at he
                refine hG.jp rfl rfl rfl ?_
                rw [nI_1, nI_1]
                exact ih (k + 1) _ _ _ _ (by omega) hS1 (hs'.up (by decide)) he
            · have et : porT g cs k = g (18 + 4 * k + 1) := by rw [porT, if_pos k4]
              rw [et, if_pos rfl, upd_id] at he
              refine hG.jp rfl rfl rfl ?_
              rw [nI_1]
              exact ih (k + 1) g a τ _ (by omega) hS' hs' he
      exact hG.go 3 rfl rfl (loop K 0 f 0 σ' none (by omega) hS Sm.rf rfl)
    · rw [a0] at h2
      rw [if_pos (so_eq h2)] at hR
      refine hG.rt hR rfl rfl rfl rfl ?_
      exact ⟨rfl, Sm.rf, hS.x⟩
  · exact absurd (bi_eq0.mp h1) (by decide)
theorem o_W_pour (s : Int32) (hS : SV σ f n c t y) (hH : SH σ so sz ce) (hs : SOk so sz) : Ci l θ 5 m_W_pour [.inr 0, .inl s] σ (fun r σ' => r = (porF f so sz ce n s).1 ∧ Sm [34] σ σ' ∧ SVx σ' (porF f so sz ce n s).2) := by
  cases hb : inB s 0 3 with
  | false =>
    have eg : porF f so sz ce n s = (-1000000001, f) := by rw [porF, hb]; rfl
    rw [eg]
    refine Ci.of (Or.inl mi_W_pour) pk_W_pour (nb rfl) (Or.inl rfl) [some (.inr 0), some (.inl s), none, none, none, none, none] rfl fun Γ hG hR => ?_
    refine hG.cS lk_W_206 mi_W_isSheet rfl rfl (c_W_isSheet s) rfl rfl rfl rfl rfl rfl ?_
    rintro x σ' ⟨rfl, rfl⟩
    refine hG.br rfl rfl rfl rfl (fun h1 => ?_) (fun h1 => ?_)
    · exact absurd (bi_ne0.mp h1) (by rw [hb]; decide)
    · refine hG.rt hR rfl rfl rfl rfl ?_
      exact ⟨rfl, Sm.rf, hS.x⟩
  | true =>
    obtain ⟨S, hS', rfl⟩ := (inB_nI (m := 3) (by omega)).mp hb
    rcases (by omega : S = 0 ∨ S = 1 ∨ S = 2 ∨ S = 3) with rfl | rfl | rfl | rfl
    · exact o_W_pour0 hS hH hs
    · exact o_W_pour1 hS hH hs
    · exact o_W_pour2 hS hH hs
    · exact o_W_pour3 hS hH hs
theorem o_W_copy0_0 (pl at_ many : Int32) (hH : SH σ so sz ce) (hs : SOk so sz) : Ci l θ 5 m_W_copy [.inr 0, .inl (nI 0), .inl pl, .inl (nI 0), .inl at_, .inl many] σ (fun r σ' => r = (cpyF so sz ce (nI 0) pl (nI 0) at_ many).1 ∧ Sm [71, 73, 75, 77] σ σ' ∧ SH σ' so sz (cpyF so sz ce (nI 0) pl (nI 0) at_ many).2) := by
  obtain ⟨hso, Z, hZ, hsz⟩ := hs 0 (by omega)
  obtain ⟨hso2, Z2, hZ2, hsz2⟩ := hs 0 (by omega)
  have eZ : Z2 = Z := (nI_eq (by omega) (by omega)).mp (hsz2.symm.trans hsz)
  have a0 : σ 70 0 = so 0 := (hH 0 (by omega)).1
  have a1 : σ 70 1 = nI Z := (hH 0 (by omega)).2.1.trans hsz
  have b0 : σ 70 0 = so 0 := (hH 0 (by omega)).1
  have b1 : σ 70 1 = nI Z2 := (hH 0 (by omega)).2.1.trans hsz2
  have hg : cpyF so sz ce (nI 0) pl (nI 0) at_ many = if so 0 < 0 ∨ so 0 < 0 then (-1000000011, ce) else if so 0 = so 0 then (if hpB pl many (nI Z) && hpB at_ many (nI Z2) then (many, va_cpy ce ce (24 * 0 + pl.toNatClampNeg) (24 * 0 + at_.toNatClampNeg) many.toNatClampNeg) else (-1000000013, ce)) else (-1000000012, ce) := by
    rw [cpyF, show (inB (nI 0) 0 3 && inB (nI 0) 0 3) = true by decide, if_pos rfl, show (nI 0).toNatClampNeg = 0 from nI_clamp (by omega), hsz, eZ, cpyG_eq hZ hZ]
  rw [hg]
  refine Ci.of (Or.inl mi_W_copy) pk_W_copy (nb rfl) (Or.inl rfl) [some (.inr 0), some (.inl (nI 0)), some (.inl pl), some (.inl (nI 0)), some (.inl at_), some (.inl many), none, none] rfl fun Γ hG hR => ?_
  refine hG.cS lk_W_206 mi_W_isSheet rfl rfl (c_W_isSheet (nI 0)) rfl rfl rfl rfl rfl rfl ?_
  rintro x σ' ⟨rfl, rfl⟩
  refine hG.br rfl rfl rfl rfl (fun h1 => ?_) (fun h1 => ?_)
  · exact absurd (bi_eq0.mp h1) (by decide)
  · refine hG.cS lk_W_206 mi_W_isSheet rfl rfl (c_W_isSheet (nI 0)) rfl rfl rfl rfl rfl rfl ?_
    rintro x σ' ⟨rfl, rfl⟩
    refine hG.br rfl rfl rfl rfl (fun h1 => ?_) (fun h1 => ?_)
    · refine hG.lda rfl 0 rfl rfl rfl (Or.inr (Or.inl rfl)) rfl (by decide) rfl ?_
      refine hG.lda rfl 0 rfl rfl rfl (Or.inr (Or.inl rfl)) rfl (by decide) rfl ?_
      refine hG.br rfl rfl rfl rfl (fun h2 => ?_) (fun h2 => ?_)
      · rw [a0] at h2
        rw [if_pos (Or.inl (so_eq h2))] at hR
        refine hG.rt hR rfl rfl rfl rfl ?_
        exact ⟨rfl, Sm.rf, hH⟩
      · rw [a0] at h2
        refine hG.br rfl rfl rfl rfl (fun h3 => ?_) (fun h3 => ?_)
        · rw [b0] at h3
          rw [if_neg (fun q => by rcases q with q | q; exact so_ne hso h2 q; exact so_ne hso2 h3 q)] at hR
          refine hG.br rfl rfl rfl rfl (fun h4 => ?_) (fun h4 => ?_)
          · rw [a0] at h4
            rw [if_pos h4] at hR
            refine hG.cV lk_W_284 mi_R_hasPlaces rfl rfl (c_R_hasPlaces70 pl many) rfl rfl rfl rfl rfl rfl rfl rfl ?_
            rintro x σ' ⟨rfl, rfl⟩
            rw [a1, show (decide (0 ≤ pl) && decide (pl ≤ nI Z) && decide (0 ≤ many) && decide (many ≤ nI Z - pl)) = hpB pl many (nI Z) from rfl]
            refine hG.br rfl rfl rfl rfl (fun h5 => ?_) (fun h5 => ?_)
            · rw [bi_eq0.mp h5, Bool.false_and, if_neg (by decide)] at hR
              refine hG.rt hR rfl rfl rfl rfl ?_
              exact ⟨rfl, Sm.rf, hH⟩
            · have h5 := bi_ne0.mp h5
              rw [h5, Bool.true_and] at hR
              refine hG.cV lk_W_284 mi_R_hasPlaces rfl rfl (c_R_hasPlaces70 at_ many) rfl rfl rfl rfl rfl rfl rfl rfl ?_
              rintro x σ' ⟨rfl, rfl⟩
              rw [b1, show (decide (0 ≤ at_) && decide (at_ ≤ nI Z2) && decide (0 ≤ many) && decide (many ≤ nI Z2 - at_)) = hpB at_ many (nI Z2) from rfl]
              refine hG.br rfl rfl rfl rfl (fun h6 => ?_) (fun h6 => ?_)
              · have h6 := bi_ne0.mp h6
                rw [if_pos h6] at hR
                obtain ⟨P, M, rfl, rfl, hPM⟩ := (hpB_iff hZ).mp h5
                obtain ⟨A, M', rfl, eM, hAM⟩ := (hpB_iff hZ2).mp h6
                have : M = M' := (nI_eq (by omega) (by omega)).mp eM
                subst this
                rw [nI_clamp (by omega), nI_clamp (by omega), nI_clamp (by omega)] at hR
                refine hG.acp rfl lk_W_287 rfl P A M rfl rfl rfl rfl rfl rfl rfl rfl rfl (by omega) (by omega) ?_
                refine hG.rt hR rfl rfl rfl rfl ?_
                exact ⟨rfl, Sm.rf.upc (by decide), hH.cpy 0 0 P A M (by omega) (by omega) (by omega) (by omega)⟩
              · rw [bi_eq0.mp h6, if_neg (by decide)] at hR
                refine hG.rt hR rfl rfl rfl rfl ?_
                exact ⟨rfl, Sm.rf, hH⟩
          · rw [a0] at h4
            rw [if_neg h4] at hR
            refine hG.rt hR rfl rfl rfl rfl ?_
            exact ⟨rfl, Sm.rf, hH⟩
        · rw [b0] at h3
          rw [if_pos (Or.inr (so_eq h3))] at hR
          refine hG.rt hR rfl rfl rfl rfl ?_
          exact ⟨rfl, Sm.rf, hH⟩
    · exact absurd (bi_eq0.mp h1) (by decide)
theorem o_W_copy0_1 (pl at_ many : Int32) (hH : SH σ so sz ce) (hs : SOk so sz) : Ci l θ 5 m_W_copy [.inr 0, .inl (nI 0), .inl pl, .inl (nI 1), .inl at_, .inl many] σ (fun r σ' => r = (cpyF so sz ce (nI 0) pl (nI 1) at_ many).1 ∧ Sm [71, 73, 75, 77] σ σ' ∧ SH σ' so sz (cpyF so sz ce (nI 0) pl (nI 1) at_ many).2) := by
  obtain ⟨hso, Z, hZ, hsz⟩ := hs 0 (by omega)
  obtain ⟨hso2, Z2, hZ2, hsz2⟩ := hs 1 (by omega)
  skip
  have a0 : σ 70 0 = so 0 := (hH 0 (by omega)).1
  have a1 : σ 70 1 = nI Z := (hH 0 (by omega)).2.1.trans hsz
  have b0 : σ 72 0 = so 1 := (hH 1 (by omega)).1
  have b1 : σ 72 1 = nI Z2 := (hH 1 (by omega)).2.1.trans hsz2
  have hg : cpyF so sz ce (nI 0) pl (nI 1) at_ many = if so 0 < 0 ∨ so 1 < 0 then (-1000000011, ce) else if so 0 = so 1 then (if hpB pl many (nI Z) && hpB at_ many (nI Z2) then (many, va_cpy ce ce (24 * 0 + pl.toNatClampNeg) (24 * 1 + at_.toNatClampNeg) many.toNatClampNeg) else (-1000000013, ce)) else (-1000000012, ce) := by
    rw [cpyF, show (inB (nI 0) 0 3 && inB (nI 1) 0 3) = true by decide, if_pos rfl, show (nI 0).toNatClampNeg = 0 from nI_clamp (by omega), show (nI 1).toNatClampNeg = 1 from nI_clamp (by omega), hsz, hsz2, cpyG_eq hZ hZ2]
  rw [hg]
  refine Ci.of (Or.inl mi_W_copy) pk_W_copy (nb rfl) (Or.inl rfl) [some (.inr 0), some (.inl (nI 0)), some (.inl pl), some (.inl (nI 1)), some (.inl at_), some (.inl many), none, none] rfl fun Γ hG hR => ?_
  refine hG.cS lk_W_206 mi_W_isSheet rfl rfl (c_W_isSheet (nI 0)) rfl rfl rfl rfl rfl rfl ?_
  rintro x σ' ⟨rfl, rfl⟩
  refine hG.br rfl rfl rfl rfl (fun h1 => ?_) (fun h1 => ?_)
  · exact absurd (bi_eq0.mp h1) (by decide)
  · refine hG.cS lk_W_206 mi_W_isSheet rfl rfl (c_W_isSheet (nI 1)) rfl rfl rfl rfl rfl rfl ?_
    rintro x σ' ⟨rfl, rfl⟩
    refine hG.br rfl rfl rfl rfl (fun h1 => ?_) (fun h1 => ?_)
    · refine hG.lda rfl 0 rfl rfl rfl (Or.inr (Or.inl rfl)) rfl (by decide) rfl ?_
      refine hG.lda rfl 1 rfl rfl rfl (Or.inr (Or.inl rfl)) rfl (by decide) rfl ?_
      refine hG.br rfl rfl rfl rfl (fun h2 => ?_) (fun h2 => ?_)
      · rw [a0] at h2
        rw [if_pos (Or.inl (so_eq h2))] at hR
        refine hG.rt hR rfl rfl rfl rfl ?_
        exact ⟨rfl, Sm.rf, hH⟩
      · rw [a0] at h2
        refine hG.br rfl rfl rfl rfl (fun h3 => ?_) (fun h3 => ?_)
        · rw [b0] at h3
          rw [if_neg (fun q => by rcases q with q | q; exact so_ne hso h2 q; exact so_ne hso2 h3 q)] at hR
          refine hG.br rfl rfl rfl rfl (fun h4 => ?_) (fun h4 => ?_)
          · rw [a0, b0] at h4
            rw [if_pos h4] at hR
            refine hG.cV lk_W_284 mi_R_hasPlaces rfl rfl (c_R_hasPlaces70 pl many) rfl rfl rfl rfl rfl rfl rfl rfl ?_
            rintro x σ' ⟨rfl, rfl⟩
            rw [a1, show (decide (0 ≤ pl) && decide (pl ≤ nI Z) && decide (0 ≤ many) && decide (many ≤ nI Z - pl)) = hpB pl many (nI Z) from rfl]
            refine hG.br rfl rfl rfl rfl (fun h5 => ?_) (fun h5 => ?_)
            · rw [bi_eq0.mp h5, Bool.false_and, if_neg (by decide)] at hR
              refine hG.rt hR rfl rfl rfl rfl ?_
              exact ⟨rfl, Sm.rf, hH⟩
            · have h5 := bi_ne0.mp h5
              rw [h5, Bool.true_and] at hR
              refine hG.cV lk_W_284 mi_R_hasPlaces rfl rfl (c_R_hasPlaces72 at_ many) rfl rfl rfl rfl rfl rfl rfl rfl ?_
              rintro x σ' ⟨rfl, rfl⟩
              rw [b1, show (decide (0 ≤ at_) && decide (at_ ≤ nI Z2) && decide (0 ≤ many) && decide (many ≤ nI Z2 - at_)) = hpB at_ many (nI Z2) from rfl]
              refine hG.br rfl rfl rfl rfl (fun h6 => ?_) (fun h6 => ?_)
              · have h6 := bi_ne0.mp h6
                rw [if_pos h6] at hR
                obtain ⟨P, M, rfl, rfl, hPM⟩ := (hpB_iff hZ).mp h5
                obtain ⟨A, M', rfl, eM, hAM⟩ := (hpB_iff hZ2).mp h6
                have : M = M' := (nI_eq (by omega) (by omega)).mp eM
                subst this
                rw [nI_clamp (by omega), nI_clamp (by omega), nI_clamp (by omega)] at hR
                refine hG.acp rfl lk_W_287 rfl P A M rfl rfl rfl rfl rfl rfl rfl rfl rfl (by omega) (by omega) ?_
                refine hG.rt hR rfl rfl rfl rfl ?_
                exact ⟨rfl, Sm.rf.upc (by decide), hH.cpy 0 1 P A M (by omega) (by omega) (by omega) (by omega)⟩
              · rw [bi_eq0.mp h6, if_neg (by decide)] at hR
                refine hG.rt hR rfl rfl rfl rfl ?_
                exact ⟨rfl, Sm.rf, hH⟩
          · rw [a0, b0] at h4
            rw [if_neg h4] at hR
            refine hG.rt hR rfl rfl rfl rfl ?_
            exact ⟨rfl, Sm.rf, hH⟩
        · rw [b0] at h3
          rw [if_pos (Or.inr (so_eq h3))] at hR
          refine hG.rt hR rfl rfl rfl rfl ?_
          exact ⟨rfl, Sm.rf, hH⟩
    · exact absurd (bi_eq0.mp h1) (by decide)
theorem o_W_copy0_2 (pl at_ many : Int32) (hH : SH σ so sz ce) (hs : SOk so sz) : Ci l θ 5 m_W_copy [.inr 0, .inl (nI 0), .inl pl, .inl (nI 2), .inl at_, .inl many] σ (fun r σ' => r = (cpyF so sz ce (nI 0) pl (nI 2) at_ many).1 ∧ Sm [71, 73, 75, 77] σ σ' ∧ SH σ' so sz (cpyF so sz ce (nI 0) pl (nI 2) at_ many).2) := by
  obtain ⟨hso, Z, hZ, hsz⟩ := hs 0 (by omega)
  obtain ⟨hso2, Z2, hZ2, hsz2⟩ := hs 2 (by omega)
  skip
  have a0 : σ 70 0 = so 0 := (hH 0 (by omega)).1
  have a1 : σ 70 1 = nI Z := (hH 0 (by omega)).2.1.trans hsz
  have b0 : σ 74 0 = so 2 := (hH 2 (by omega)).1
  have b1 : σ 74 1 = nI Z2 := (hH 2 (by omega)).2.1.trans hsz2
  have hg : cpyF so sz ce (nI 0) pl (nI 2) at_ many = if so 0 < 0 ∨ so 2 < 0 then (-1000000011, ce) else if so 0 = so 2 then (if hpB pl many (nI Z) && hpB at_ many (nI Z2) then (many, va_cpy ce ce (24 * 0 + pl.toNatClampNeg) (24 * 2 + at_.toNatClampNeg) many.toNatClampNeg) else (-1000000013, ce)) else (-1000000012, ce) := by
    rw [cpyF, show (inB (nI 0) 0 3 && inB (nI 2) 0 3) = true by decide, if_pos rfl, show (nI 0).toNatClampNeg = 0 from nI_clamp (by omega), show (nI 2).toNatClampNeg = 2 from nI_clamp (by omega), hsz, hsz2, cpyG_eq hZ hZ2]
  rw [hg]
  refine Ci.of (Or.inl mi_W_copy) pk_W_copy (nb rfl) (Or.inl rfl) [some (.inr 0), some (.inl (nI 0)), some (.inl pl), some (.inl (nI 2)), some (.inl at_), some (.inl many), none, none] rfl fun Γ hG hR => ?_
  refine hG.cS lk_W_206 mi_W_isSheet rfl rfl (c_W_isSheet (nI 0)) rfl rfl rfl rfl rfl rfl ?_
  rintro x σ' ⟨rfl, rfl⟩
  refine hG.br rfl rfl rfl rfl (fun h1 => ?_) (fun h1 => ?_)
  · exact absurd (bi_eq0.mp h1) (by decide)
  · refine hG.cS lk_W_206 mi_W_isSheet rfl rfl (c_W_isSheet (nI 2)) rfl rfl rfl rfl rfl rfl ?_
    rintro x σ' ⟨rfl, rfl⟩
    refine hG.br rfl rfl rfl rfl (fun h1 => ?_) (fun h1 => ?_)
    · refine hG.lda rfl 0 rfl rfl rfl (Or.inr (Or.inl rfl)) rfl (by decide) rfl ?_
      refine hG.lda rfl 2 rfl rfl rfl (Or.inr (Or.inl rfl)) rfl (by decide) rfl ?_
      refine hG.br rfl rfl rfl rfl (fun h2 => ?_) (fun h2 => ?_)
      · rw [a0] at h2
        rw [if_pos (Or.inl (so_eq h2))] at hR
        refine hG.rt hR rfl rfl rfl rfl ?_
        exact ⟨rfl, Sm.rf, hH⟩
      · rw [a0] at h2
        refine hG.br rfl rfl rfl rfl (fun h3 => ?_) (fun h3 => ?_)
        · rw [b0] at h3
          rw [if_neg (fun q => by rcases q with q | q; exact so_ne hso h2 q; exact so_ne hso2 h3 q)] at hR
          refine hG.br rfl rfl rfl rfl (fun h4 => ?_) (fun h4 => ?_)
          · rw [a0, b0] at h4
            rw [if_pos h4] at hR
            refine hG.cV lk_W_284 mi_R_hasPlaces rfl rfl (c_R_hasPlaces70 pl many) rfl rfl rfl rfl rfl rfl rfl rfl ?_
            rintro x σ' ⟨rfl, rfl⟩
            rw [a1, show (decide (0 ≤ pl) && decide (pl ≤ nI Z) && decide (0 ≤ many) && decide (many ≤ nI Z - pl)) = hpB pl many (nI Z) from rfl]
            refine hG.br rfl rfl rfl rfl (fun h5 => ?_) (fun h5 => ?_)
            · rw [bi_eq0.mp h5, Bool.false_and, if_neg (by decide)] at hR
              refine hG.rt hR rfl rfl rfl rfl ?_
              exact ⟨rfl, Sm.rf, hH⟩
            · have h5 := bi_ne0.mp h5
              rw [h5, Bool.true_and] at hR
              refine hG.cV lk_W_284 mi_R_hasPlaces rfl rfl (c_R_hasPlaces74 at_ many) rfl rfl rfl rfl rfl rfl rfl rfl ?_
              rintro x σ' ⟨rfl, rfl⟩
              rw [b1, show (decide (0 ≤ at_) && decide (at_ ≤ nI Z2) && decide (0 ≤ many) && decide (many ≤ nI Z2 - at_)) = hpB at_ many (nI Z2) from rfl]
              refine hG.br rfl rfl rfl rfl (fun h6 => ?_) (fun h6 => ?_)
              · have h6 := bi_ne0.mp h6
                rw [if_pos h6] at hR
                obtain ⟨P, M, rfl, rfl, hPM⟩ := (hpB_iff hZ).mp h5
                obtain ⟨A, M', rfl, eM, hAM⟩ := (hpB_iff hZ2).mp h6
                have : M = M' := (nI_eq (by omega) (by omega)).mp eM
                subst this
                rw [nI_clamp (by omega), nI_clamp (by omega), nI_clamp (by omega)] at hR
                refine hG.acp rfl lk_W_287 rfl P A M rfl rfl rfl rfl rfl rfl rfl rfl rfl (by omega) (by omega) ?_
                refine hG.rt hR rfl rfl rfl rfl ?_
                exact ⟨rfl, Sm.rf.upc (by decide), hH.cpy 0 2 P A M (by omega) (by omega) (by omega) (by omega)⟩
              · rw [bi_eq0.mp h6, if_neg (by decide)] at hR
                refine hG.rt hR rfl rfl rfl rfl ?_
                exact ⟨rfl, Sm.rf, hH⟩
          · rw [a0, b0] at h4
            rw [if_neg h4] at hR
            refine hG.rt hR rfl rfl rfl rfl ?_
            exact ⟨rfl, Sm.rf, hH⟩
        · rw [b0] at h3
          rw [if_pos (Or.inr (so_eq h3))] at hR
          refine hG.rt hR rfl rfl rfl rfl ?_
          exact ⟨rfl, Sm.rf, hH⟩
    · exact absurd (bi_eq0.mp h1) (by decide)
theorem o_W_copy0_3 (pl at_ many : Int32) (hH : SH σ so sz ce) (hs : SOk so sz) : Ci l θ 5 m_W_copy [.inr 0, .inl (nI 0), .inl pl, .inl (nI 3), .inl at_, .inl many] σ (fun r σ' => r = (cpyF so sz ce (nI 0) pl (nI 3) at_ many).1 ∧ Sm [71, 73, 75, 77] σ σ' ∧ SH σ' so sz (cpyF so sz ce (nI 0) pl (nI 3) at_ many).2) := by
  obtain ⟨hso, Z, hZ, hsz⟩ := hs 0 (by omega)
  obtain ⟨hso2, Z2, hZ2, hsz2⟩ := hs 3 (by omega)
  skip
  have a0 : σ 70 0 = so 0 := (hH 0 (by omega)).1
  have a1 : σ 70 1 = nI Z := (hH 0 (by omega)).2.1.trans hsz
  have b0 : σ 76 0 = so 3 := (hH 3 (by omega)).1
  have b1 : σ 76 1 = nI Z2 := (hH 3 (by omega)).2.1.trans hsz2
  have hg : cpyF so sz ce (nI 0) pl (nI 3) at_ many = if so 0 < 0 ∨ so 3 < 0 then (-1000000011, ce) else if so 0 = so 3 then (if hpB pl many (nI Z) && hpB at_ many (nI Z2) then (many, va_cpy ce ce (24 * 0 + pl.toNatClampNeg) (24 * 3 + at_.toNatClampNeg) many.toNatClampNeg) else (-1000000013, ce)) else (-1000000012, ce) := by
    rw [cpyF, show (inB (nI 0) 0 3 && inB (nI 3) 0 3) = true by decide, if_pos rfl, show (nI 0).toNatClampNeg = 0 from nI_clamp (by omega), show (nI 3).toNatClampNeg = 3 from nI_clamp (by omega), hsz, hsz2, cpyG_eq hZ hZ2]
  rw [hg]
  refine Ci.of (Or.inl mi_W_copy) pk_W_copy (nb rfl) (Or.inl rfl) [some (.inr 0), some (.inl (nI 0)), some (.inl pl), some (.inl (nI 3)), some (.inl at_), some (.inl many), none, none] rfl fun Γ hG hR => ?_
  refine hG.cS lk_W_206 mi_W_isSheet rfl rfl (c_W_isSheet (nI 0)) rfl rfl rfl rfl rfl rfl ?_
  rintro x σ' ⟨rfl, rfl⟩
  refine hG.br rfl rfl rfl rfl (fun h1 => ?_) (fun h1 => ?_)
  · exact absurd (bi_eq0.mp h1) (by decide)
  · refine hG.cS lk_W_206 mi_W_isSheet rfl rfl (c_W_isSheet (nI 3)) rfl rfl rfl rfl rfl rfl ?_
    rintro x σ' ⟨rfl, rfl⟩
    refine hG.br rfl rfl rfl rfl (fun h1 => ?_) (fun h1 => ?_)
    · refine hG.lda rfl 0 rfl rfl rfl (Or.inr (Or.inl rfl)) rfl (by decide) rfl ?_
      refine hG.lda rfl 3 rfl rfl rfl (Or.inr (Or.inl rfl)) rfl (by decide) rfl ?_
      refine hG.br rfl rfl rfl rfl (fun h2 => ?_) (fun h2 => ?_)
      · rw [a0] at h2
        rw [if_pos (Or.inl (so_eq h2))] at hR
        refine hG.rt hR rfl rfl rfl rfl ?_
        exact ⟨rfl, Sm.rf, hH⟩
      · rw [a0] at h2
        refine hG.br rfl rfl rfl rfl (fun h3 => ?_) (fun h3 => ?_)
        · rw [b0] at h3
          rw [if_neg (fun q => by rcases q with q | q; exact so_ne hso h2 q; exact so_ne hso2 h3 q)] at hR
          refine hG.br rfl rfl rfl rfl (fun h4 => ?_) (fun h4 => ?_)
          · rw [a0, b0] at h4
            rw [if_pos h4] at hR
            refine hG.cV lk_W_284 mi_R_hasPlaces rfl rfl (c_R_hasPlaces70 pl many) rfl rfl rfl rfl rfl rfl rfl rfl ?_
            rintro x σ' ⟨rfl, rfl⟩
            rw [a1, show (decide (0 ≤ pl) && decide (pl ≤ nI Z) && decide (0 ≤ many) && decide (many ≤ nI Z - pl)) = hpB pl many (nI Z) from rfl]
            refine hG.br rfl rfl rfl rfl (fun h5 => ?_) (fun h5 => ?_)
            · rw [bi_eq0.mp h5, Bool.false_and, if_neg (by decide)] at hR
              refine hG.rt hR rfl rfl rfl rfl ?_
              exact ⟨rfl, Sm.rf, hH⟩
            · have h5 := bi_ne0.mp h5
              rw [h5, Bool.true_and] at hR
              refine hG.cV lk_W_284 mi_R_hasPlaces rfl rfl (c_R_hasPlaces76 at_ many) rfl rfl rfl rfl rfl rfl rfl rfl ?_
              rintro x σ' ⟨rfl, rfl⟩
              rw [b1, show (decide (0 ≤ at_) && decide (at_ ≤ nI Z2) && decide (0 ≤ many) && decide (many ≤ nI Z2 - at_)) = hpB at_ many (nI Z2) from rfl]
              refine hG.br rfl rfl rfl rfl (fun h6 => ?_) (fun h6 => ?_)
              · have h6 := bi_ne0.mp h6
                rw [if_pos h6] at hR
                obtain ⟨P, M, rfl, rfl, hPM⟩ := (hpB_iff hZ).mp h5
                obtain ⟨A, M', rfl, eM, hAM⟩ := (hpB_iff hZ2).mp h6
                have : M = M' := (nI_eq (by omega) (by omega)).mp eM
                subst this
                rw [nI_clamp (by omega), nI_clamp (by omega), nI_clamp (by omega)] at hR
                refine hG.acp rfl lk_W_287 rfl P A M rfl rfl rfl rfl rfl rfl rfl rfl rfl (by omega) (by omega) ?_
                refine hG.rt hR rfl rfl rfl rfl ?_
                exact ⟨rfl, Sm.rf.upc (by decide), hH.cpy 0 3 P A M (by omega) (by omega) (by omega) (by omega)⟩
              · rw [bi_eq0.mp h6, if_neg (by decide)] at hR
                refine hG.rt hR rfl rfl rfl rfl ?_
                exact ⟨rfl, Sm.rf, hH⟩
          · rw [a0, b0] at h4
            rw [if_neg h4] at hR
            refine hG.rt hR rfl rfl rfl rfl ?_
            exact ⟨rfl, Sm.rf, hH⟩
        · rw [b0] at h3
          rw [if_pos (Or.inr (so_eq h3))] at hR
          refine hG.rt hR rfl rfl rfl rfl ?_
          exact ⟨rfl, Sm.rf, hH⟩
    · exact absurd (bi_eq0.mp h1) (by decide)
theorem o_W_copy1_0 (pl at_ many : Int32) (hH : SH σ so sz ce) (hs : SOk so sz) : Ci l θ 5 m_W_copy [.inr 0, .inl (nI 1), .inl pl, .inl (nI 0), .inl at_, .inl many] σ (fun r σ' => r = (cpyF so sz ce (nI 1) pl (nI 0) at_ many).1 ∧ Sm [71, 73, 75, 77] σ σ' ∧ SH σ' so sz (cpyF so sz ce (nI 1) pl (nI 0) at_ many).2) := by
  obtain ⟨hso, Z, hZ, hsz⟩ := hs 1 (by omega)
  obtain ⟨hso2, Z2, hZ2, hsz2⟩ := hs 0 (by omega)
  skip
  have a0 : σ 72 0 = so 1 := (hH 1 (by omega)).1
  have a1 : σ 72 1 = nI Z := (hH 1 (by omega)).2.1.trans hsz
  have b0 : σ 70 0 = so 0 := (hH 0 (by omega)).1
  have b1 : σ 70 1 = nI Z2 := (hH 0 (by omega)).2.1.trans hsz2
  have hg : cpyF so sz ce (nI 1) pl (nI 0) at_ many = if so 1 < 0 ∨ so 0 < 0 then (-1000000011, ce) else if so 1 = so 0 then (if hpB pl many (nI Z) && hpB at_ many (nI Z2) then (many, va_cpy ce ce (24 * 1 + pl.toNatClampNeg) (24 * 0 + at_.toNatClampNeg) many.toNatClampNeg) else (-1000000013, ce)) else (-1000000012, ce) := by
    rw [cpyF, show (inB (nI 1) 0 3 && inB (nI 0) 0 3) = true by decide, if_pos rfl, show (nI 1).toNatClampNeg = 1 from nI_clamp (by omega), show (nI 0).toNatClampNeg = 0 from nI_clamp (by omega), hsz, hsz2, cpyG_eq hZ hZ2]
  rw [hg]
  refine Ci.of (Or.inl mi_W_copy) pk_W_copy (nb rfl) (Or.inl rfl) [some (.inr 0), some (.inl (nI 1)), some (.inl pl), some (.inl (nI 0)), some (.inl at_), some (.inl many), none, none] rfl fun Γ hG hR => ?_
  refine hG.cS lk_W_206 mi_W_isSheet rfl rfl (c_W_isSheet (nI 1)) rfl rfl rfl rfl rfl rfl ?_
  rintro x σ' ⟨rfl, rfl⟩
  refine hG.br rfl rfl rfl rfl (fun h1 => ?_) (fun h1 => ?_)
  · exact absurd (bi_eq0.mp h1) (by decide)
  · refine hG.cS lk_W_206 mi_W_isSheet rfl rfl (c_W_isSheet (nI 0)) rfl rfl rfl rfl rfl rfl ?_
    rintro x σ' ⟨rfl, rfl⟩
    refine hG.br rfl rfl rfl rfl (fun h1 => ?_) (fun h1 => ?_)
    · refine hG.lda rfl 1 rfl rfl rfl (Or.inr (Or.inl rfl)) rfl (by decide) rfl ?_
      refine hG.lda rfl 0 rfl rfl rfl (Or.inr (Or.inl rfl)) rfl (by decide) rfl ?_
      refine hG.br rfl rfl rfl rfl (fun h2 => ?_) (fun h2 => ?_)
      · rw [a0] at h2
        rw [if_pos (Or.inl (so_eq h2))] at hR
        refine hG.rt hR rfl rfl rfl rfl ?_
        exact ⟨rfl, Sm.rf, hH⟩
      · rw [a0] at h2
        refine hG.br rfl rfl rfl rfl (fun h3 => ?_) (fun h3 => ?_)
        · rw [b0] at h3
          rw [if_neg (fun q => by rcases q with q | q; exact so_ne hso h2 q; exact so_ne hso2 h3 q)] at hR
          refine hG.br rfl rfl rfl rfl (fun h4 => ?_) (fun h4 => ?_)
          · rw [a0, b0] at h4
            rw [if_pos h4] at hR
            refine hG.cV lk_W_284 mi_R_hasPlaces rfl rfl (c_R_hasPlaces72 pl many) rfl rfl rfl rfl rfl rfl rfl rfl ?_
            rintro x σ' ⟨rfl, rfl⟩
            rw [a1, show (decide (0 ≤ pl) && decide (pl ≤ nI Z) && decide (0 ≤ many) && decide (many ≤ nI Z - pl)) = hpB pl many (nI Z) from rfl]
            refine hG.br rfl rfl rfl rfl (fun h5 => ?_) (fun h5 => ?_)
            · rw [bi_eq0.mp h5, Bool.false_and, if_neg (by decide)] at hR
              refine hG.rt hR rfl rfl rfl rfl ?_
              exact ⟨rfl, Sm.rf, hH⟩
            · have h5 := bi_ne0.mp h5
              rw [h5, Bool.true_and] at hR
              refine hG.cV lk_W_284 mi_R_hasPlaces rfl rfl (c_R_hasPlaces70 at_ many) rfl rfl rfl rfl rfl rfl rfl rfl ?_
              rintro x σ' ⟨rfl, rfl⟩
              rw [b1, show (decide (0 ≤ at_) && decide (at_ ≤ nI Z2) && decide (0 ≤ many) && decide (many ≤ nI Z2 - at_)) = hpB at_ many (nI Z2) from rfl]
              refine hG.br rfl rfl rfl rfl (fun h6 => ?_) (fun h6 => ?_)
              · have h6 := bi_ne0.mp h6
                rw [if_pos h6] at hR
                obtain ⟨P, M, rfl, rfl, hPM⟩ := (hpB_iff hZ).mp h5
                obtain ⟨A, M', rfl, eM, hAM⟩ := (hpB_iff hZ2).mp h6
                have : M = M' := (nI_eq (by omega) (by omega)).mp eM
                subst this
                rw [nI_clamp (by omega), nI_clamp (by omega), nI_clamp (by omega)] at hR
                refine hG.acp rfl lk_W_287 rfl P A M rfl rfl rfl rfl rfl rfl rfl rfl rfl (by omega) (by omega) ?_
                refine hG.rt hR rfl rfl rfl rfl ?_
                exact ⟨rfl, Sm.rf.upc (by decide), hH.cpy 1 0 P A M (by omega) (by omega) (by omega) (by omega)⟩
              · rw [bi_eq0.mp h6, if_neg (by decide)] at hR
                refine hG.rt hR rfl rfl rfl rfl ?_
                exact ⟨rfl, Sm.rf, hH⟩
          · rw [a0, b0] at h4
            rw [if_neg h4] at hR
            refine hG.rt hR rfl rfl rfl rfl ?_
            exact ⟨rfl, Sm.rf, hH⟩
        · rw [b0] at h3
          rw [if_pos (Or.inr (so_eq h3))] at hR
          refine hG.rt hR rfl rfl rfl rfl ?_
          exact ⟨rfl, Sm.rf, hH⟩
    · exact absurd (bi_eq0.mp h1) (by decide)
theorem o_W_copy1_1 (pl at_ many : Int32) (hH : SH σ so sz ce) (hs : SOk so sz) : Ci l θ 5 m_W_copy [.inr 0, .inl (nI 1), .inl pl, .inl (nI 1), .inl at_, .inl many] σ (fun r σ' => r = (cpyF so sz ce (nI 1) pl (nI 1) at_ many).1 ∧ Sm [71, 73, 75, 77] σ σ' ∧ SH σ' so sz (cpyF so sz ce (nI 1) pl (nI 1) at_ many).2) := by
  obtain ⟨hso, Z, hZ, hsz⟩ := hs 1 (by omega)
  obtain ⟨hso2, Z2, hZ2, hsz2⟩ := hs 1 (by omega)
  have eZ : Z2 = Z := (nI_eq (by omega) (by omega)).mp (hsz2.symm.trans hsz)
  have a0 : σ 72 0 = so 1 := (hH 1 (by omega)).1
  have a1 : σ 72 1 = nI Z := (hH 1 (by omega)).2.1.trans hsz
  have b0 : σ 72 0 = so 1 := (hH 1 (by omega)).1
  have b1 : σ 72 1 = nI Z2 := (hH 1 (by omega)).2.1.trans hsz2
  have hg : cpyF so sz ce (nI 1) pl (nI 1) at_ many = if so 1 < 0 ∨ so 1 < 0 then (-1000000011, ce) else if so 1 = so 1 then (if hpB pl many (nI Z) && hpB at_ many (nI Z2) then (many, va_cpy ce ce (24 * 1 + pl.toNatClampNeg) (24 * 1 + at_.toNatClampNeg) many.toNatClampNeg) else (-1000000013, ce)) else (-1000000012, ce) := by
    rw [cpyF, show (inB (nI 1) 0 3 && inB (nI 1) 0 3) = true by decide, if_pos rfl, show (nI 1).toNatClampNeg = 1 from nI_clamp (by omega), hsz, eZ, cpyG_eq hZ hZ]
  rw [hg]
  refine Ci.of (Or.inl mi_W_copy) pk_W_copy (nb rfl) (Or.inl rfl) [some (.inr 0), some (.inl (nI 1)), some (.inl pl), some (.inl (nI 1)), some (.inl at_), some (.inl many), none, none] rfl fun Γ hG hR => ?_
  refine hG.cS lk_W_206 mi_W_isSheet rfl rfl (c_W_isSheet (nI 1)) rfl rfl rfl rfl rfl rfl ?_
  rintro x σ' ⟨rfl, rfl⟩
  refine hG.br rfl rfl rfl rfl (fun h1 => ?_) (fun h1 => ?_)
  · exact absurd (bi_eq0.mp h1) (by decide)
  · refine hG.cS lk_W_206 mi_W_isSheet rfl rfl (c_W_isSheet (nI 1)) rfl rfl rfl rfl rfl rfl ?_
    rintro x σ' ⟨rfl, rfl⟩
    refine hG.br rfl rfl rfl rfl (fun h1 => ?_) (fun h1 => ?_)
    · refine hG.lda rfl 1 rfl rfl rfl (Or.inr (Or.inl rfl)) rfl (by decide) rfl ?_
      refine hG.lda rfl 1 rfl rfl rfl (Or.inr (Or.inl rfl)) rfl (by decide) rfl ?_
      refine hG.br rfl rfl rfl rfl (fun h2 => ?_) (fun h2 => ?_)
      · rw [a0] at h2
        rw [if_pos (Or.inl (so_eq h2))] at hR
        refine hG.rt hR rfl rfl rfl rfl ?_
        exact ⟨rfl, Sm.rf, hH⟩
      · rw [a0] at h2
        refine hG.br rfl rfl rfl rfl (fun h3 => ?_) (fun h3 => ?_)
        · rw [b0] at h3
          rw [if_neg (fun q => by rcases q with q | q; exact so_ne hso h2 q; exact so_ne hso2 h3 q)] at hR
          refine hG.br rfl rfl rfl rfl (fun h4 => ?_) (fun h4 => ?_)
          · rw [a0] at h4
            rw [if_pos h4] at hR
            refine hG.cV lk_W_284 mi_R_hasPlaces rfl rfl (c_R_hasPlaces72 pl many) rfl rfl rfl rfl rfl rfl rfl rfl ?_
            rintro x σ' ⟨rfl, rfl⟩
            rw [a1, show (decide (0 ≤ pl) && decide (pl ≤ nI Z) && decide (0 ≤ many) && decide (many ≤ nI Z - pl)) = hpB pl many (nI Z) from rfl]
            refine hG.br rfl rfl rfl rfl (fun h5 => ?_) (fun h5 => ?_)
            · rw [bi_eq0.mp h5, Bool.false_and, if_neg (by decide)] at hR
              refine hG.rt hR rfl rfl rfl rfl ?_
              exact ⟨rfl, Sm.rf, hH⟩
            · have h5 := bi_ne0.mp h5
              rw [h5, Bool.true_and] at hR
              refine hG.cV lk_W_284 mi_R_hasPlaces rfl rfl (c_R_hasPlaces72 at_ many) rfl rfl rfl rfl rfl rfl rfl rfl ?_
              rintro x σ' ⟨rfl, rfl⟩
              rw [b1, show (decide (0 ≤ at_) && decide (at_ ≤ nI Z2) && decide (0 ≤ many) && decide (many ≤ nI Z2 - at_)) = hpB at_ many (nI Z2) from rfl]
              refine hG.br rfl rfl rfl rfl (fun h6 => ?_) (fun h6 => ?_)
              · have h6 := bi_ne0.mp h6
                rw [if_pos h6] at hR
                obtain ⟨P, M, rfl, rfl, hPM⟩ := (hpB_iff hZ).mp h5
                obtain ⟨A, M', rfl, eM, hAM⟩ := (hpB_iff hZ2).mp h6
                have : M = M' := (nI_eq (by omega) (by omega)).mp eM
                subst this
                rw [nI_clamp (by omega), nI_clamp (by omega), nI_clamp (by omega)] at hR
                refine hG.acp rfl lk_W_287 rfl P A M rfl rfl rfl rfl rfl rfl rfl rfl rfl (by omega) (by omega) ?_
                refine hG.rt hR rfl rfl rfl rfl ?_
                exact ⟨rfl, Sm.rf.upc (by decide), hH.cpy 1 1 P A M (by omega) (by omega) (by omega) (by omega)⟩
              · rw [bi_eq0.mp h6, if_neg (by decide)] at hR
                refine hG.rt hR rfl rfl rfl rfl ?_
                exact ⟨rfl, Sm.rf, hH⟩
          · rw [a0] at h4
            rw [if_neg h4] at hR
            refine hG.rt hR rfl rfl rfl rfl ?_
            exact ⟨rfl, Sm.rf, hH⟩
        · rw [b0] at h3
          rw [if_pos (Or.inr (so_eq h3))] at hR
          refine hG.rt hR rfl rfl rfl rfl ?_
          exact ⟨rfl, Sm.rf, hH⟩
    · exact absurd (bi_eq0.mp h1) (by decide)
theorem o_W_copy1_2 (pl at_ many : Int32) (hH : SH σ so sz ce) (hs : SOk so sz) : Ci l θ 5 m_W_copy [.inr 0, .inl (nI 1), .inl pl, .inl (nI 2), .inl at_, .inl many] σ (fun r σ' => r = (cpyF so sz ce (nI 1) pl (nI 2) at_ many).1 ∧ Sm [71, 73, 75, 77] σ σ' ∧ SH σ' so sz (cpyF so sz ce (nI 1) pl (nI 2) at_ many).2) := by
  obtain ⟨hso, Z, hZ, hsz⟩ := hs 1 (by omega)
  obtain ⟨hso2, Z2, hZ2, hsz2⟩ := hs 2 (by omega)
  skip
  have a0 : σ 72 0 = so 1 := (hH 1 (by omega)).1
  have a1 : σ 72 1 = nI Z := (hH 1 (by omega)).2.1.trans hsz
  have b0 : σ 74 0 = so 2 := (hH 2 (by omega)).1
  have b1 : σ 74 1 = nI Z2 := (hH 2 (by omega)).2.1.trans hsz2
  have hg : cpyF so sz ce (nI 1) pl (nI 2) at_ many = if so 1 < 0 ∨ so 2 < 0 then (-1000000011, ce) else if so 1 = so 2 then (if hpB pl many (nI Z) && hpB at_ many (nI Z2) then (many, va_cpy ce ce (24 * 1 + pl.toNatClampNeg) (24 * 2 + at_.toNatClampNeg) many.toNatClampNeg) else (-1000000013, ce)) else (-1000000012, ce) := by
    rw [cpyF, show (inB (nI 1) 0 3 && inB (nI 2) 0 3) = true by decide, if_pos rfl, show (nI 1).toNatClampNeg = 1 from nI_clamp (by omega), show (nI 2).toNatClampNeg = 2 from nI_clamp (by omega), hsz, hsz2, cpyG_eq hZ hZ2]
  rw [hg]
  refine Ci.of (Or.inl mi_W_copy) pk_W_copy (nb rfl) (Or.inl rfl) [some (.inr 0), some (.inl (nI 1)), some (.inl pl), some (.inl (nI 2)), some (.inl at_), some (.inl many), none, none] rfl fun Γ hG hR => ?_
  refine hG.cS lk_W_206 mi_W_isSheet rfl rfl (c_W_isSheet (nI 1)) rfl rfl rfl rfl rfl rfl ?_
  rintro x σ' ⟨rfl, rfl⟩
  refine hG.br rfl rfl rfl rfl (fun h1 => ?_) (fun h1 => ?_)
  · exact absurd (bi_eq0.mp h1) (by decide)
  · refine hG.cS lk_W_206 mi_W_isSheet rfl rfl (c_W_isSheet (nI 2)) rfl rfl rfl rfl rfl rfl ?_
    rintro x σ' ⟨rfl, rfl⟩
    refine hG.br rfl rfl rfl rfl (fun h1 => ?_) (fun h1 => ?_)
    · refine hG.lda rfl 1 rfl rfl rfl (Or.inr (Or.inl rfl)) rfl (by decide) rfl ?_
      refine hG.lda rfl 2 rfl rfl rfl (Or.inr (Or.inl rfl)) rfl (by decide) rfl ?_
      refine hG.br rfl rfl rfl rfl (fun h2 => ?_) (fun h2 => ?_)
      · rw [a0] at h2
        rw [if_pos (Or.inl (so_eq h2))] at hR
        refine hG.rt hR rfl rfl rfl rfl ?_
        exact ⟨rfl, Sm.rf, hH⟩
      · rw [a0] at h2
        refine hG.br rfl rfl rfl rfl (fun h3 => ?_) (fun h3 => ?_)
        · rw [b0] at h3
          rw [if_neg (fun q => by rcases q with q | q; exact so_ne hso h2 q; exact so_ne hso2 h3 q)] at hR
          refine hG.br rfl rfl rfl rfl (fun h4 => ?_) (fun h4 => ?_)
          · rw [a0, b0] at h4
            rw [if_pos h4] at hR
            refine hG.cV lk_W_284 mi_R_hasPlaces rfl rfl (c_R_hasPlaces72 pl many) rfl rfl rfl rfl rfl rfl rfl rfl ?_
            rintro x σ' ⟨rfl, rfl⟩
            rw [a1, show (decide (0 ≤ pl) && decide (pl ≤ nI Z) && decide (0 ≤ many) && decide (many ≤ nI Z - pl)) = hpB pl many (nI Z) from rfl]
            refine hG.br rfl rfl rfl rfl (fun h5 => ?_) (fun h5 => ?_)
            · rw [bi_eq0.mp h5, Bool.false_and, if_neg (by decide)] at hR
              refine hG.rt hR rfl rfl rfl rfl ?_
              exact ⟨rfl, Sm.rf, hH⟩
            · have h5 := bi_ne0.mp h5
              rw [h5, Bool.true_and] at hR
              refine hG.cV lk_W_284 mi_R_hasPlaces rfl rfl (c_R_hasPlaces74 at_ many) rfl rfl rfl rfl rfl rfl rfl rfl ?_
              rintro x σ' ⟨rfl, rfl⟩
              rw [b1, show (decide (0 ≤ at_) && decide (at_ ≤ nI Z2) && decide (0 ≤ many) && decide (many ≤ nI Z2 - at_)) = hpB at_ many (nI Z2) from rfl]
              refine hG.br rfl rfl rfl rfl (fun h6 => ?_) (fun h6 => ?_)
              · have h6 := bi_ne0.mp h6
                rw [if_pos h6] at hR
                obtain ⟨P, M, rfl, rfl, hPM⟩ := (hpB_iff hZ).mp h5
                obtain ⟨A, M', rfl, eM, hAM⟩ := (hpB_iff hZ2).mp h6
                have : M = M' := (nI_eq (by omega) (by omega)).mp eM
                subst this
                rw [nI_clamp (by omega), nI_clamp (by omega), nI_clamp (by omega)] at hR
                refine hG.acp rfl lk_W_287 rfl P A M rfl rfl rfl rfl rfl rfl rfl rfl rfl (by omega) (by omega) ?_
                refine hG.rt hR rfl rfl rfl rfl ?_
                exact ⟨rfl, Sm.rf.upc (by decide), hH.cpy 1 2 P A M (by omega) (by omega) (by omega) (by omega)⟩
              · rw [bi_eq0.mp h6, if_neg (by decide)] at hR
                refine hG.rt hR rfl rfl rfl rfl ?_
                exact ⟨rfl, Sm.rf, hH⟩
          · rw [a0, b0] at h4
            rw [if_neg h4] at hR
            refine hG.rt hR rfl rfl rfl rfl ?_
            exact ⟨rfl, Sm.rf, hH⟩
        · rw [b0] at h3
          rw [if_pos (Or.inr (so_eq h3))] at hR
          refine hG.rt hR rfl rfl rfl rfl ?_
          exact ⟨rfl, Sm.rf, hH⟩
    · exact absurd (bi_eq0.mp h1) (by decide)
theorem o_W_copy1_3 (pl at_ many : Int32) (hH : SH σ so sz ce) (hs : SOk so sz) : Ci l θ 5 m_W_copy [.inr 0, .inl (nI 1), .inl pl, .inl (nI 3), .inl at_, .inl many] σ (fun r σ' => r = (cpyF so sz ce (nI 1) pl (nI 3) at_ many).1 ∧ Sm [71, 73, 75, 77] σ σ' ∧ SH σ' so sz (cpyF so sz ce (nI 1) pl (nI 3) at_ many).2) := by
  obtain ⟨hso, Z, hZ, hsz⟩ := hs 1 (by omega)
  obtain ⟨hso2, Z2, hZ2, hsz2⟩ := hs 3 (by omega)
  skip
  have a0 : σ 72 0 = so 1 := (hH 1 (by omega)).1
  have a1 : σ 72 1 = nI Z := (hH 1 (by omega)).2.1.trans hsz
  have b0 : σ 76 0 = so 3 := (hH 3 (by omega)).1
  have b1 : σ 76 1 = nI Z2 := (hH 3 (by omega)).2.1.trans hsz2
  have hg : cpyF so sz ce (nI 1) pl (nI 3) at_ many = if so 1 < 0 ∨ so 3 < 0 then (-1000000011, ce) else if so 1 = so 3 then (if hpB pl many (nI Z) && hpB at_ many (nI Z2) then (many, va_cpy ce ce (24 * 1 + pl.toNatClampNeg) (24 * 3 + at_.toNatClampNeg) many.toNatClampNeg) else (-1000000013, ce)) else (-1000000012, ce) := by
    rw [cpyF, show (inB (nI 1) 0 3 && inB (nI 3) 0 3) = true by decide, if_pos rfl, show (nI 1).toNatClampNeg = 1 from nI_clamp (by omega), show (nI 3).toNatClampNeg = 3 from nI_clamp (by omega), hsz, hsz2, cpyG_eq hZ hZ2]
  rw [hg]
  refine Ci.of (Or.inl mi_W_copy) pk_W_copy (nb rfl) (Or.inl rfl) [some (.inr 0), some (.inl (nI 1)), some (.inl pl), some (.inl (nI 3)), some (.inl at_), some (.inl many), none, none] rfl fun Γ hG hR => ?_
  refine hG.cS lk_W_206 mi_W_isSheet rfl rfl (c_W_isSheet (nI 1)) rfl rfl rfl rfl rfl rfl ?_
  rintro x σ' ⟨rfl, rfl⟩
  refine hG.br rfl rfl rfl rfl (fun h1 => ?_) (fun h1 => ?_)
  · exact absurd (bi_eq0.mp h1) (by decide)
  · refine hG.cS lk_W_206 mi_W_isSheet rfl rfl (c_W_isSheet (nI 3)) rfl rfl rfl rfl rfl rfl ?_
    rintro x σ' ⟨rfl, rfl⟩
    refine hG.br rfl rfl rfl rfl (fun h1 => ?_) (fun h1 => ?_)
    · refine hG.lda rfl 1 rfl rfl rfl (Or.inr (Or.inl rfl)) rfl (by decide) rfl ?_
      refine hG.lda rfl 3 rfl rfl rfl (Or.inr (Or.inl rfl)) rfl (by decide) rfl ?_
      refine hG.br rfl rfl rfl rfl (fun h2 => ?_) (fun h2 => ?_)
      · rw [a0] at h2
        rw [if_pos (Or.inl (so_eq h2))] at hR
        refine hG.rt hR rfl rfl rfl rfl ?_
        exact ⟨rfl, Sm.rf, hH⟩
      · rw [a0] at h2
        refine hG.br rfl rfl rfl rfl (fun h3 => ?_) (fun h3 => ?_)
        · rw [b0] at h3
          rw [if_neg (fun q => by rcases q with q | q; exact so_ne hso h2 q; exact so_ne hso2 h3 q)] at hR
          refine hG.br rfl rfl rfl rfl (fun h4 => ?_) (fun h4 => ?_)
          · rw [a0, b0] at h4
            rw [if_pos h4] at hR
            refine hG.cV lk_W_284 mi_R_hasPlaces rfl rfl (c_R_hasPlaces72 pl many) rfl rfl rfl rfl rfl rfl rfl rfl ?_
            rintro x σ' ⟨rfl, rfl⟩
            rw [a1, show (decide (0 ≤ pl) && decide (pl ≤ nI Z) && decide (0 ≤ many) && decide (many ≤ nI Z - pl)) = hpB pl many (nI Z) from rfl]
            refine hG.br rfl rfl rfl rfl (fun h5 => ?_) (fun h5 => ?_)
            · rw [bi_eq0.mp h5, Bool.false_and, if_neg (by decide)] at hR
              refine hG.rt hR rfl rfl rfl rfl ?_
              exact ⟨rfl, Sm.rf, hH⟩
            · have h5 := bi_ne0.mp h5
              rw [h5, Bool.true_and] at hR
              refine hG.cV lk_W_284 mi_R_hasPlaces rfl rfl (c_R_hasPlaces76 at_ many) rfl rfl rfl rfl rfl rfl rfl rfl ?_
              rintro x σ' ⟨rfl, rfl⟩
              rw [b1, show (decide (0 ≤ at_) && decide (at_ ≤ nI Z2) && decide (0 ≤ many) && decide (many ≤ nI Z2 - at_)) = hpB at_ many (nI Z2) from rfl]
              refine hG.br rfl rfl rfl rfl (fun h6 => ?_) (fun h6 => ?_)
              · have h6 := bi_ne0.mp h6
                rw [if_pos h6] at hR
                obtain ⟨P, M, rfl, rfl, hPM⟩ := (hpB_iff hZ).mp h5
                obtain ⟨A, M', rfl, eM, hAM⟩ := (hpB_iff hZ2).mp h6
                have : M = M' := (nI_eq (by omega) (by omega)).mp eM
                subst this
                rw [nI_clamp (by omega), nI_clamp (by omega), nI_clamp (by omega)] at hR
                refine hG.acp rfl lk_W_287 rfl P A M rfl rfl rfl rfl rfl rfl rfl rfl rfl (by omega) (by omega) ?_
                refine hG.rt hR rfl rfl rfl rfl ?_
                exact ⟨rfl, Sm.rf.upc (by decide), hH.cpy 1 3 P A M (by omega) (by omega) (by omega) (by omega)⟩
              · rw [bi_eq0.mp h6, if_neg (by decide)] at hR
                refine hG.rt hR rfl rfl rfl rfl ?_
                exact ⟨rfl, Sm.rf, hH⟩
          · rw [a0, b0] at h4
            rw [if_neg h4] at hR
            refine hG.rt hR rfl rfl rfl rfl ?_
            exact ⟨rfl, Sm.rf, hH⟩
        · rw [b0] at h3
          rw [if_pos (Or.inr (so_eq h3))] at hR
          refine hG.rt hR rfl rfl rfl rfl ?_
          exact ⟨rfl, Sm.rf, hH⟩
    · exact absurd (bi_eq0.mp h1) (by decide)
theorem o_W_copy2_0 (pl at_ many : Int32) (hH : SH σ so sz ce) (hs : SOk so sz) : Ci l θ 5 m_W_copy [.inr 0, .inl (nI 2), .inl pl, .inl (nI 0), .inl at_, .inl many] σ (fun r σ' => r = (cpyF so sz ce (nI 2) pl (nI 0) at_ many).1 ∧ Sm [71, 73, 75, 77] σ σ' ∧ SH σ' so sz (cpyF so sz ce (nI 2) pl (nI 0) at_ many).2) := by
  obtain ⟨hso, Z, hZ, hsz⟩ := hs 2 (by omega)
  obtain ⟨hso2, Z2, hZ2, hsz2⟩ := hs 0 (by omega)
  skip
  have a0 : σ 74 0 = so 2 := (hH 2 (by omega)).1
  have a1 : σ 74 1 = nI Z := (hH 2 (by omega)).2.1.trans hsz
  have b0 : σ 70 0 = so 0 := (hH 0 (by omega)).1
  have b1 : σ 70 1 = nI Z2 := (hH 0 (by omega)).2.1.trans hsz2
  have hg : cpyF so sz ce (nI 2) pl (nI 0) at_ many = if so 2 < 0 ∨ so 0 < 0 then (-1000000011, ce) else if so 2 = so 0 then (if hpB pl many (nI Z) && hpB at_ many (nI Z2) then (many, va_cpy ce ce (24 * 2 + pl.toNatClampNeg) (24 * 0 + at_.toNatClampNeg) many.toNatClampNeg) else (-1000000013, ce)) else (-1000000012, ce) := by
    rw [cpyF, show (inB (nI 2) 0 3 && inB (nI 0) 0 3) = true by decide, if_pos rfl, show (nI 2).toNatClampNeg = 2 from nI_clamp (by omega), show (nI 0).toNatClampNeg = 0 from nI_clamp (by omega), hsz, hsz2, cpyG_eq hZ hZ2]
  rw [hg]
  refine Ci.of (Or.inl mi_W_copy) pk_W_copy (nb rfl) (Or.inl rfl) [some (.inr 0), some (.inl (nI 2)), some (.inl pl), some (.inl (nI 0)), some (.inl at_), some (.inl many), none, none] rfl fun Γ hG hR => ?_
  refine hG.cS lk_W_206 mi_W_isSheet rfl rfl (c_W_isSheet (nI 2)) rfl rfl rfl rfl rfl rfl ?_
  rintro x σ' ⟨rfl, rfl⟩
  refine hG.br rfl rfl rfl rfl (fun h1 => ?_) (fun h1 => ?_)
  · exact absurd (bi_eq0.mp h1) (by decide)
  · refine hG.cS lk_W_206 mi_W_isSheet rfl rfl (c_W_isSheet (nI 0)) rfl rfl rfl rfl rfl rfl ?_
    rintro x σ' ⟨rfl, rfl⟩
    refine hG.br rfl rfl rfl rfl (fun h1 => ?_) (fun h1 => ?_)
    · refine hG.lda rfl 2 rfl rfl rfl (Or.inr (Or.inl rfl)) rfl (by decide) rfl ?_
      refine hG.lda rfl 0 rfl rfl rfl (Or.inr (Or.inl rfl)) rfl (by decide) rfl ?_
      refine hG.br rfl rfl rfl rfl (fun h2 => ?_) (fun h2 => ?_)
      · rw [a0] at h2
        rw [if_pos (Or.inl (so_eq h2))] at hR
        refine hG.rt hR rfl rfl rfl rfl ?_
        exact ⟨rfl, Sm.rf, hH⟩
      · rw [a0] at h2
        refine hG.br rfl rfl rfl rfl (fun h3 => ?_) (fun h3 => ?_)
        · rw [b0] at h3
          rw [if_neg (fun q => by rcases q with q | q; exact so_ne hso h2 q; exact so_ne hso2 h3 q)] at hR
          refine hG.br rfl rfl rfl rfl (fun h4 => ?_) (fun h4 => ?_)
          · rw [a0, b0] at h4
            rw [if_pos h4] at hR
            refine hG.cV lk_W_284 mi_R_hasPlaces rfl rfl (c_R_hasPlaces74 pl many) rfl rfl rfl rfl rfl rfl rfl rfl ?_
            rintro x σ' ⟨rfl, rfl⟩
            rw [a1, show (decide (0 ≤ pl) && decide (pl ≤ nI Z) && decide (0 ≤ many) && decide (many ≤ nI Z - pl)) = hpB pl many (nI Z) from rfl]
            refine hG.br rfl rfl rfl rfl (fun h5 => ?_) (fun h5 => ?_)
            · rw [bi_eq0.mp h5, Bool.false_and, if_neg (by decide)] at hR
              refine hG.rt hR rfl rfl rfl rfl ?_
              exact ⟨rfl, Sm.rf, hH⟩
            · have h5 := bi_ne0.mp h5
              rw [h5, Bool.true_and] at hR
              refine hG.cV lk_W_284 mi_R_hasPlaces rfl rfl (c_R_hasPlaces70 at_ many) rfl rfl rfl rfl rfl rfl rfl rfl ?_
              rintro x σ' ⟨rfl, rfl⟩
              rw [b1, show (decide (0 ≤ at_) && decide (at_ ≤ nI Z2) && decide (0 ≤ many) && decide (many ≤ nI Z2 - at_)) = hpB at_ many (nI Z2) from rfl]
              refine hG.br rfl rfl rfl rfl (fun h6 => ?_) (fun h6 => ?_)
              · have h6 := bi_ne0.mp h6
                rw [if_pos h6] at hR
                obtain ⟨P, M, rfl, rfl, hPM⟩ := (hpB_iff hZ).mp h5
                obtain ⟨A, M', rfl, eM, hAM⟩ := (hpB_iff hZ2).mp h6
                have : M = M' := (nI_eq (by omega) (by omega)).mp eM
                subst this
                rw [nI_clamp (by omega), nI_clamp (by omega), nI_clamp (by omega)] at hR
                refine hG.acp rfl lk_W_287 rfl P A M rfl rfl rfl rfl rfl rfl rfl rfl rfl (by omega) (by omega) ?_
                refine hG.rt hR rfl rfl rfl rfl ?_
                exact ⟨rfl, Sm.rf.upc (by decide), hH.cpy 2 0 P A M (by omega) (by omega) (by omega) (by omega)⟩
              · rw [bi_eq0.mp h6, if_neg (by decide)] at hR
                refine hG.rt hR rfl rfl rfl rfl ?_
                exact ⟨rfl, Sm.rf, hH⟩
          · rw [a0, b0] at h4
            rw [if_neg h4] at hR
            refine hG.rt hR rfl rfl rfl rfl ?_
            exact ⟨rfl, Sm.rf, hH⟩
        · rw [b0] at h3
          rw [if_pos (Or.inr (so_eq h3))] at hR
          refine hG.rt hR rfl rfl rfl rfl ?_
          exact ⟨rfl, Sm.rf, hH⟩
    · exact absurd (bi_eq0.mp h1) (by decide)
theorem o_W_copy2_1 (pl at_ many : Int32) (hH : SH σ so sz ce) (hs : SOk so sz) : Ci l θ 5 m_W_copy [.inr 0, .inl (nI 2), .inl pl, .inl (nI 1), .inl at_, .inl many] σ (fun r σ' => r = (cpyF so sz ce (nI 2) pl (nI 1) at_ many).1 ∧ Sm [71, 73, 75, 77] σ σ' ∧ SH σ' so sz (cpyF so sz ce (nI 2) pl (nI 1) at_ many).2) := by
  obtain ⟨hso, Z, hZ, hsz⟩ := hs 2 (by omega)
  obtain ⟨hso2, Z2, hZ2, hsz2⟩ := hs 1 (by omega)
  skip
  have a0 : σ 74 0 = so 2 := (hH 2 (by omega)).1
  have a1 : σ 74 1 = nI Z := (hH 2 (by omega)).2.1.trans hsz
  have b0 : σ 72 0 = so 1 := (hH 1 (by omega)).1
  have b1 : σ 72 1 = nI Z2 := (hH 1 (by omega)).2.1.trans hsz2
  have hg : cpyF so sz ce (nI 2) pl (nI 1) at_ many = if so 2 < 0 ∨ so 1 < 0 then (-1000000011, ce) else if so 2 = so 1 then (if hpB pl many (nI Z) && hpB at_ many (nI Z2) then (many, va_cpy ce ce (24 * 2 + pl.toNatClampNeg) (24 * 1 + at_.toNatClampNeg) many.toNatClampNeg) else (-1000000013, ce)) else (-1000000012, ce) := by
    rw [cpyF, show (inB (nI 2) 0 3 && inB (nI 1) 0 3) = true by decide, if_pos rfl, show (nI 2).toNatClampNeg = 2 from nI_clamp (by omega), show (nI 1).toNatClampNeg = 1 from nI_clamp (by omega), hsz, hsz2, cpyG_eq hZ hZ2]
  rw [hg]
  refine Ci.of (Or.inl mi_W_copy) pk_W_copy (nb rfl) (Or.inl rfl) [some (.inr 0), some (.inl (nI 2)), some (.inl pl), some (.inl (nI 1)), some (.inl at_), some (.inl many), none, none] rfl fun Γ hG hR => ?_
  refine hG.cS lk_W_206 mi_W_isSheet rfl rfl (c_W_isSheet (nI 2)) rfl rfl rfl rfl rfl rfl ?_
  rintro x σ' ⟨rfl, rfl⟩
  refine hG.br rfl rfl rfl rfl (fun h1 => ?_) (fun h1 => ?_)
  · exact absurd (bi_eq0.mp h1) (by decide)
  · refine hG.cS lk_W_206 mi_W_isSheet rfl rfl (c_W_isSheet (nI 1)) rfl rfl rfl rfl rfl rfl ?_
    rintro x σ' ⟨rfl, rfl⟩
    refine hG.br rfl rfl rfl rfl (fun h1 => ?_) (fun h1 => ?_)
    · refine hG.lda rfl 2 rfl rfl rfl (Or.inr (Or.inl rfl)) rfl (by decide) rfl ?_
      refine hG.lda rfl 1 rfl rfl rfl (Or.inr (Or.inl rfl)) rfl (by decide) rfl ?_
      refine hG.br rfl rfl rfl rfl (fun h2 => ?_) (fun h2 => ?_)
      · rw [a0] at h2
        rw [if_pos (Or.inl (so_eq h2))] at hR
        refine hG.rt hR rfl rfl rfl rfl ?_
        exact ⟨rfl, Sm.rf, hH⟩
      · rw [a0] at h2
        refine hG.br rfl rfl rfl rfl (fun h3 => ?_) (fun h3 => ?_)
        · rw [b0] at h3
          rw [if_neg (fun q => by rcases q with q | q; exact so_ne hso h2 q; exact so_ne hso2 h3 q)] at hR
          refine hG.br rfl rfl rfl rfl (fun h4 => ?_) (fun h4 => ?_)
          · rw [a0, b0] at h4
            rw [if_pos h4] at hR
            refine hG.cV lk_W_284 mi_R_hasPlaces rfl rfl (c_R_hasPlaces74 pl many) rfl rfl rfl rfl rfl rfl rfl rfl ?_
            rintro x σ' ⟨rfl, rfl⟩
            rw [a1, show (decide (0 ≤ pl) && decide (pl ≤ nI Z) && decide (0 ≤ many) && decide (many ≤ nI Z - pl)) = hpB pl many (nI Z) from rfl]
            refine hG.br rfl rfl rfl rfl (fun h5 => ?_) (fun h5 => ?_)
            · rw [bi_eq0.mp h5, Bool.false_and, if_neg (by decide)] at hR
              refine hG.rt hR rfl rfl rfl rfl ?_
              exact ⟨rfl, Sm.rf, hH⟩
            · have h5 := bi_ne0.mp h5
              rw [h5, Bool.true_and] at hR
              refine hG.cV lk_W_284 mi_R_hasPlaces rfl rfl (c_R_hasPlaces72 at_ many) rfl rfl rfl rfl rfl rfl rfl rfl ?_
              rintro x σ' ⟨rfl, rfl⟩
              rw [b1, show (decide (0 ≤ at_) && decide (at_ ≤ nI Z2) && decide (0 ≤ many) && decide (many ≤ nI Z2 - at_)) = hpB at_ many (nI Z2) from rfl]
              refine hG.br rfl rfl rfl rfl (fun h6 => ?_) (fun h6 => ?_)
              · have h6 := bi_ne0.mp h6
                rw [if_pos h6] at hR
                obtain ⟨P, M, rfl, rfl, hPM⟩ := (hpB_iff hZ).mp h5
                obtain ⟨A, M', rfl, eM, hAM⟩ := (hpB_iff hZ2).mp h6
                have : M = M' := (nI_eq (by omega) (by omega)).mp eM
                subst this
                rw [nI_clamp (by omega), nI_clamp (by omega), nI_clamp (by omega)] at hR
                refine hG.acp rfl lk_W_287 rfl P A M rfl rfl rfl rfl rfl rfl rfl rfl rfl (by omega) (by omega) ?_
                refine hG.rt hR rfl rfl rfl rfl ?_
                exact ⟨rfl, Sm.rf.upc (by decide), hH.cpy 2 1 P A M (by omega) (by omega) (by omega) (by omega)⟩
              · rw [bi_eq0.mp h6, if_neg (by decide)] at hR
                refine hG.rt hR rfl rfl rfl rfl ?_
                exact ⟨rfl, Sm.rf, hH⟩
          · rw [a0, b0] at h4
            rw [if_neg h4] at hR
            refine hG.rt hR rfl rfl rfl rfl ?_
            exact ⟨rfl, Sm.rf, hH⟩
        · rw [b0] at h3
          rw [if_pos (Or.inr (so_eq h3))] at hR
          refine hG.rt hR rfl rfl rfl rfl ?_
          exact ⟨rfl, Sm.rf, hH⟩
    · exact absurd (bi_eq0.mp h1) (by decide)
theorem o_W_copy2_2 (pl at_ many : Int32) (hH : SH σ so sz ce) (hs : SOk so sz) : Ci l θ 5 m_W_copy [.inr 0, .inl (nI 2), .inl pl, .inl (nI 2), .inl at_, .inl many] σ (fun r σ' => r = (cpyF so sz ce (nI 2) pl (nI 2) at_ many).1 ∧ Sm [71, 73, 75, 77] σ σ' ∧ SH σ' so sz (cpyF so sz ce (nI 2) pl (nI 2) at_ many).2) := by
  obtain ⟨hso, Z, hZ, hsz⟩ := hs 2 (by omega)
  obtain ⟨hso2, Z2, hZ2, hsz2⟩ := hs 2 (by omega)
  have eZ : Z2 = Z := (nI_eq (by omega) (by omega)).mp (hsz2.symm.trans hsz)
  have a0 : σ 74 0 = so 2 := (hH 2 (by omega)).1
  have a1 : σ 74 1 = nI Z := (hH 2 (by omega)).2.1.trans hsz
  have b0 : σ 74 0 = so 2 := (hH 2 (by omega)).1
  have b1 : σ 74 1 = nI Z2 := (hH 2 (by omega)).2.1.trans hsz2
  have hg : cpyF so sz ce (nI 2) pl (nI 2) at_ many = if so 2 < 0 ∨ so 2 < 0 then (-1000000011, ce) else if so 2 = so 2 then (if hpB pl many (nI Z) && hpB at_ many (nI Z2) then (many, va_cpy ce ce (24 * 2 + pl.toNatClampNeg) (24 * 2 + at_.toNatClampNeg) many.toNatClampNeg) else (-1000000013, ce)) else (-1000000012, ce) := by
    rw [cpyF, show (inB (nI 2) 0 3 && inB (nI 2) 0 3) = true by decide, if_pos rfl, show (nI 2).toNatClampNeg = 2 from nI_clamp (by omega), hsz, eZ, cpyG_eq hZ hZ]
  rw [hg]
  refine Ci.of (Or.inl mi_W_copy) pk_W_copy (nb rfl) (Or.inl rfl) [some (.inr 0), some (.inl (nI 2)), some (.inl pl), some (.inl (nI 2)), some (.inl at_), some (.inl many), none, none] rfl fun Γ hG hR => ?_
  refine hG.cS lk_W_206 mi_W_isSheet rfl rfl (c_W_isSheet (nI 2)) rfl rfl rfl rfl rfl rfl ?_
  rintro x σ' ⟨rfl, rfl⟩
  refine hG.br rfl rfl rfl rfl (fun h1 => ?_) (fun h1 => ?_)
  · exact absurd (bi_eq0.mp h1) (by decide)
  · refine hG.cS lk_W_206 mi_W_isSheet rfl rfl (c_W_isSheet (nI 2)) rfl rfl rfl rfl rfl rfl ?_
    rintro x σ' ⟨rfl, rfl⟩
    refine hG.br rfl rfl rfl rfl (fun h1 => ?_) (fun h1 => ?_)
    · refine hG.lda rfl 2 rfl rfl rfl (Or.inr (Or.inl rfl)) rfl (by decide) rfl ?_
      refine hG.lda rfl 2 rfl rfl rfl (Or.inr (Or.inl rfl)) rfl (by decide) rfl ?_
      refine hG.br rfl rfl rfl rfl (fun h2 => ?_) (fun h2 => ?_)
      · rw [a0] at h2
        rw [if_pos (Or.inl (so_eq h2))] at hR
        refine hG.rt hR rfl rfl rfl rfl ?_
        exact ⟨rfl, Sm.rf, hH⟩
      · rw [a0] at h2
        refine hG.br rfl rfl rfl rfl (fun h3 => ?_) (fun h3 => ?_)
        · rw [b0] at h3
          rw [if_neg (fun q => by rcases q with q | q; exact so_ne hso h2 q; exact so_ne hso2 h3 q)] at hR
          refine hG.br rfl rfl rfl rfl (fun h4 => ?_) (fun h4 => ?_)
          · rw [a0] at h4
            rw [if_pos h4] at hR
            refine hG.cV lk_W_284 mi_R_hasPlaces rfl rfl (c_R_hasPlaces74 pl many) rfl rfl rfl rfl rfl rfl rfl rfl ?_
            rintro x σ' ⟨rfl, rfl⟩
            rw [a1, show (decide (0 ≤ pl) && decide (pl ≤ nI Z) && decide (0 ≤ many) && decide (many ≤ nI Z - pl)) = hpB pl many (nI Z) from rfl]
            refine hG.br rfl rfl rfl rfl (fun h5 => ?_) (fun h5 => ?_)
            · rw [bi_eq0.mp h5, Bool.false_and, if_neg (by decide)] at hR
              refine hG.rt hR rfl rfl rfl rfl ?_
              exact ⟨rfl, Sm.rf, hH⟩
            · have h5 := bi_ne0.mp h5
              rw [h5, Bool.true_and] at hR
              refine hG.cV lk_W_284 mi_R_hasPlaces rfl rfl (c_R_hasPlaces74 at_ many) rfl rfl rfl rfl rfl rfl rfl rfl ?_
              rintro x σ' ⟨rfl, rfl⟩
              rw [b1, show (decide (0 ≤ at_) && decide (at_ ≤ nI Z2) && decide (0 ≤ many) && decide (many ≤ nI Z2 - at_)) = hpB at_ many (nI Z2) from rfl]
              refine hG.br rfl rfl rfl rfl (fun h6 => ?_) (fun h6 => ?_)
              · have h6 := bi_ne0.mp h6
                rw [if_pos h6] at hR
                obtain ⟨P, M, rfl, rfl, hPM⟩ := (hpB_iff hZ).mp h5
                obtain ⟨A, M', rfl, eM, hAM⟩ := (hpB_iff hZ2).mp h6
                have : M = M' := (nI_eq (by omega) (by omega)).mp eM
                subst this
                rw [nI_clamp (by omega), nI_clamp (by omega), nI_clamp (by omega)] at hR
                refine hG.acp rfl lk_W_287 rfl P A M rfl rfl rfl rfl rfl rfl rfl rfl rfl (by omega) (by omega) ?_
                refine hG.rt hR rfl rfl rfl rfl ?_
                exact ⟨rfl, Sm.rf.upc (by decide), hH.cpy 2 2 P A M (by omega) (by omega) (by omega) (by omega)⟩
              · rw [bi_eq0.mp h6, if_neg (by decide)] at hR
                refine hG.rt hR rfl rfl rfl rfl ?_
                exact ⟨rfl, Sm.rf, hH⟩
          · rw [a0] at h4
            rw [if_neg h4] at hR
            refine hG.rt hR rfl rfl rfl rfl ?_
            exact ⟨rfl, Sm.rf, hH⟩
        · rw [b0] at h3
          rw [if_pos (Or.inr (so_eq h3))] at hR
          refine hG.rt hR rfl rfl rfl rfl ?_
          exact ⟨rfl, Sm.rf, hH⟩
    · exact absurd (bi_eq0.mp h1) (by decide)
theorem o_W_copy2_3 (pl at_ many : Int32) (hH : SH σ so sz ce) (hs : SOk so sz) : Ci l θ 5 m_W_copy [.inr 0, .inl (nI 2), .inl pl, .inl (nI 3), .inl at_, .inl many] σ (fun r σ' => r = (cpyF so sz ce (nI 2) pl (nI 3) at_ many).1 ∧ Sm [71, 73, 75, 77] σ σ' ∧ SH σ' so sz (cpyF so sz ce (nI 2) pl (nI 3) at_ many).2) := by
  obtain ⟨hso, Z, hZ, hsz⟩ := hs 2 (by omega)
  obtain ⟨hso2, Z2, hZ2, hsz2⟩ := hs 3 (by omega)
  skip
  have a0 : σ 74 0 = so 2 := (hH 2 (by omega)).1
  have a1 : σ 74 1 = nI Z := (hH 2 (by omega)).2.1.trans hsz
  have b0 : σ 76 0 = so 3 := (hH 3 (by omega)).1
  have b1 : σ 76 1 = nI Z2 := (hH 3 (by omega)).2.1.trans hsz2
  have hg : cpyF so sz ce (nI 2) pl (nI 3) at_ many = if so 2 < 0 ∨ so 3 < 0 then (-1000000011, ce) else if so 2 = so 3 then (if hpB pl many (nI Z) && hpB at_ many (nI Z2) then (many, va_cpy ce ce (24 * 2 + pl.toNatClampNeg) (24 * 3 + at_.toNatClampNeg) many.toNatClampNeg) else (-1000000013, ce)) else (-1000000012, ce) := by
    rw [cpyF, show (inB (nI 2) 0 3 && inB (nI 3) 0 3) = true by decide, if_pos rfl, show (nI 2).toNatClampNeg = 2 from nI_clamp (by omega), show (nI 3).toNatClampNeg = 3 from nI_clamp (by omega), hsz, hsz2, cpyG_eq hZ hZ2]
  rw [hg]
  refine Ci.of (Or.inl mi_W_copy) pk_W_copy (nb rfl) (Or.inl rfl) [some (.inr 0), some (.inl (nI 2)), some (.inl pl), some (.inl (nI 3)), some (.inl at_), some (.inl many), none, none] rfl fun Γ hG hR => ?_
  refine hG.cS lk_W_206 mi_W_isSheet rfl rfl (c_W_isSheet (nI 2)) rfl rfl rfl rfl rfl rfl ?_
  rintro x σ' ⟨rfl, rfl⟩
  refine hG.br rfl rfl rfl rfl (fun h1 => ?_) (fun h1 => ?_)
  · exact absurd (bi_eq0.mp h1) (by decide)
  · refine hG.cS lk_W_206 mi_W_isSheet rfl rfl (c_W_isSheet (nI 3)) rfl rfl rfl rfl rfl rfl ?_
    rintro x σ' ⟨rfl, rfl⟩
    refine hG.br rfl rfl rfl rfl (fun h1 => ?_) (fun h1 => ?_)
    · refine hG.lda rfl 2 rfl rfl rfl (Or.inr (Or.inl rfl)) rfl (by decide) rfl ?_
      refine hG.lda rfl 3 rfl rfl rfl (Or.inr (Or.inl rfl)) rfl (by decide) rfl ?_
      refine hG.br rfl rfl rfl rfl (fun h2 => ?_) (fun h2 => ?_)
      · rw [a0] at h2
        rw [if_pos (Or.inl (so_eq h2))] at hR
        refine hG.rt hR rfl rfl rfl rfl ?_
        exact ⟨rfl, Sm.rf, hH⟩
      · rw [a0] at h2
        refine hG.br rfl rfl rfl rfl (fun h3 => ?_) (fun h3 => ?_)
        · rw [b0] at h3
          rw [if_neg (fun q => by rcases q with q | q; exact so_ne hso h2 q; exact so_ne hso2 h3 q)] at hR
          refine hG.br rfl rfl rfl rfl (fun h4 => ?_) (fun h4 => ?_)
          · rw [a0, b0] at h4
            rw [if_pos h4] at hR
            refine hG.cV lk_W_284 mi_R_hasPlaces rfl rfl (c_R_hasPlaces74 pl many) rfl rfl rfl rfl rfl rfl rfl rfl ?_
            rintro x σ' ⟨rfl, rfl⟩
            rw [a1, show (decide (0 ≤ pl) && decide (pl ≤ nI Z) && decide (0 ≤ many) && decide (many ≤ nI Z - pl)) = hpB pl many (nI Z) from rfl]
            refine hG.br rfl rfl rfl rfl (fun h5 => ?_) (fun h5 => ?_)
            · rw [bi_eq0.mp h5, Bool.false_and, if_neg (by decide)] at hR
              refine hG.rt hR rfl rfl rfl rfl ?_
              exact ⟨rfl, Sm.rf, hH⟩
            · have h5 := bi_ne0.mp h5
              rw [h5, Bool.true_and] at hR
              refine hG.cV lk_W_284 mi_R_hasPlaces rfl rfl (c_R_hasPlaces76 at_ many) rfl rfl rfl rfl rfl rfl rfl rfl ?_
              rintro x σ' ⟨rfl, rfl⟩
              rw [b1, show (decide (0 ≤ at_) && decide (at_ ≤ nI Z2) && decide (0 ≤ many) && decide (many ≤ nI Z2 - at_)) = hpB at_ many (nI Z2) from rfl]
              refine hG.br rfl rfl rfl rfl (fun h6 => ?_) (fun h6 => ?_)
              · have h6 := bi_ne0.mp h6
                rw [if_pos h6] at hR
                obtain ⟨P, M, rfl, rfl, hPM⟩ := (hpB_iff hZ).mp h5
                obtain ⟨A, M', rfl, eM, hAM⟩ := (hpB_iff hZ2).mp h6
                have : M = M' := (nI_eq (by omega) (by omega)).mp eM
                subst this
                rw [nI_clamp (by omega), nI_clamp (by omega), nI_clamp (by omega)] at hR
                refine hG.acp rfl lk_W_287 rfl P A M rfl rfl rfl rfl rfl rfl rfl rfl rfl (by omega) (by omega) ?_
                refine hG.rt hR rfl rfl rfl rfl ?_
                exact ⟨rfl, Sm.rf.upc (by decide), hH.cpy 2 3 P A M (by omega) (by omega) (by omega) (by omega)⟩
              · rw [bi_eq0.mp h6, if_neg (by decide)] at hR
                refine hG.rt hR rfl rfl rfl rfl ?_
                exact ⟨rfl, Sm.rf, hH⟩
          · rw [a0, b0] at h4
            rw [if_neg h4] at hR
            refine hG.rt hR rfl rfl rfl rfl ?_
            exact ⟨rfl, Sm.rf, hH⟩
        · rw [b0] at h3
          rw [if_pos (Or.inr (so_eq h3))] at hR
          refine hG.rt hR rfl rfl rfl rfl ?_
          exact ⟨rfl, Sm.rf, hH⟩
    · exact absurd (bi_eq0.mp h1) (by decide)
theorem o_W_copy3_0 (pl at_ many : Int32) (hH : SH σ so sz ce) (hs : SOk so sz) : Ci l θ 5 m_W_copy [.inr 0, .inl (nI 3), .inl pl, .inl (nI 0), .inl at_, .inl many] σ (fun r σ' => r = (cpyF so sz ce (nI 3) pl (nI 0) at_ many).1 ∧ Sm [71, 73, 75, 77] σ σ' ∧ SH σ' so sz (cpyF so sz ce (nI 3) pl (nI 0) at_ many).2) := by
  obtain ⟨hso, Z, hZ, hsz⟩ := hs 3 (by omega)
  obtain ⟨hso2, Z2, hZ2, hsz2⟩ := hs 0 (by omega)
  skip
  have a0 : σ 76 0 = so 3 := (hH 3 (by omega)).1
  have a1 : σ 76 1 = nI Z := (hH 3 (by omega)).2.1.trans hsz
  have b0 : σ 70 0 = so 0 := (hH 0 (by omega)).1
  have b1 : σ 70 1 = nI Z2 := (hH 0 (by omega)).2.1.trans hsz2
  have hg : cpyF so sz ce (nI 3) pl (nI 0) at_ many = if so 3 < 0 ∨ so 0 < 0 then (-1000000011, ce) else if so 3 = so 0 then (if hpB pl many (nI Z) && hpB at_ many (nI Z2) then (many, va_cpy ce ce (24 * 3 + pl.toNatClampNeg) (24 * 0 + at_.toNatClampNeg) many.toNatClampNeg) else (-1000000013, ce)) else (-1000000012, ce) := by
    rw [cpyF, show (inB (nI 3) 0 3 && inB (nI 0) 0 3) = true by decide, if_pos rfl, show (nI 3).toNatClampNeg = 3 from nI_clamp (by omega), show (nI 0).toNatClampNeg = 0 from nI_clamp (by omega), hsz, hsz2, cpyG_eq hZ hZ2]
  rw [hg]
  refine Ci.of (Or.inl mi_W_copy) pk_W_copy (nb rfl) (Or.inl rfl) [some (.inr 0), some (.inl (nI 3)), some (.inl pl), some (.inl (nI 0)), some (.inl at_), some (.inl many), none, none] rfl fun Γ hG hR => ?_
  refine hG.cS lk_W_206 mi_W_isSheet rfl rfl (c_W_isSheet (nI 3)) rfl rfl rfl rfl rfl rfl ?_
  rintro x σ' ⟨rfl, rfl⟩
  refine hG.br rfl rfl rfl rfl (fun h1 => ?_) (fun h1 => ?_)
  · exact absurd (bi_eq0.mp h1) (by decide)
  · refine hG.cS lk_W_206 mi_W_isSheet rfl rfl (c_W_isSheet (nI 0)) rfl rfl rfl rfl rfl rfl ?_
    rintro x σ' ⟨rfl, rfl⟩
    refine hG.br rfl rfl rfl rfl (fun h1 => ?_) (fun h1 => ?_)
    · refine hG.lda rfl 3 rfl rfl rfl (Or.inr (Or.inl rfl)) rfl (by decide) rfl ?_
      refine hG.lda rfl 0 rfl rfl rfl (Or.inr (Or.inl rfl)) rfl (by decide) rfl ?_
      refine hG.br rfl rfl rfl rfl (fun h2 => ?_) (fun h2 => ?_)
      · rw [a0] at h2
        rw [if_pos (Or.inl (so_eq h2))] at hR
        refine hG.rt hR rfl rfl rfl rfl ?_
        exact ⟨rfl, Sm.rf, hH⟩
      · rw [a0] at h2
        refine hG.br rfl rfl rfl rfl (fun h3 => ?_) (fun h3 => ?_)
        · rw [b0] at h3
          rw [if_neg (fun q => by rcases q with q | q; exact so_ne hso h2 q; exact so_ne hso2 h3 q)] at hR
          refine hG.br rfl rfl rfl rfl (fun h4 => ?_) (fun h4 => ?_)
          · rw [a0, b0] at h4
            rw [if_pos h4] at hR
            refine hG.cV lk_W_284 mi_R_hasPlaces rfl rfl (c_R_hasPlaces76 pl many) rfl rfl rfl rfl rfl rfl rfl rfl ?_
            rintro x σ' ⟨rfl, rfl⟩
            rw [a1, show (decide (0 ≤ pl) && decide (pl ≤ nI Z) && decide (0 ≤ many) && decide (many ≤ nI Z - pl)) = hpB pl many (nI Z) from rfl]
            refine hG.br rfl rfl rfl rfl (fun h5 => ?_) (fun h5 => ?_)
            · rw [bi_eq0.mp h5, Bool.false_and, if_neg (by decide)] at hR
              refine hG.rt hR rfl rfl rfl rfl ?_
              exact ⟨rfl, Sm.rf, hH⟩
            · have h5 := bi_ne0.mp h5
              rw [h5, Bool.true_and] at hR
              refine hG.cV lk_W_284 mi_R_hasPlaces rfl rfl (c_R_hasPlaces70 at_ many) rfl rfl rfl rfl rfl rfl rfl rfl ?_
              rintro x σ' ⟨rfl, rfl⟩
              rw [b1, show (decide (0 ≤ at_) && decide (at_ ≤ nI Z2) && decide (0 ≤ many) && decide (many ≤ nI Z2 - at_)) = hpB at_ many (nI Z2) from rfl]
              refine hG.br rfl rfl rfl rfl (fun h6 => ?_) (fun h6 => ?_)
              · have h6 := bi_ne0.mp h6
                rw [if_pos h6] at hR
                obtain ⟨P, M, rfl, rfl, hPM⟩ := (hpB_iff hZ).mp h5
                obtain ⟨A, M', rfl, eM, hAM⟩ := (hpB_iff hZ2).mp h6
                have : M = M' := (nI_eq (by omega) (by omega)).mp eM
                subst this
                rw [nI_clamp (by omega), nI_clamp (by omega), nI_clamp (by omega)] at hR
                refine hG.acp rfl lk_W_287 rfl P A M rfl rfl rfl rfl rfl rfl rfl rfl rfl (by omega) (by omega) ?_
                refine hG.rt hR rfl rfl rfl rfl ?_
                exact ⟨rfl, Sm.rf.upc (by decide), hH.cpy 3 0 P A M (by omega) (by omega) (by omega) (by omega)⟩
              · rw [bi_eq0.mp h6, if_neg (by decide)] at hR
                refine hG.rt hR rfl rfl rfl rfl ?_
                exact ⟨rfl, Sm.rf, hH⟩
          · rw [a0, b0] at h4
            rw [if_neg h4] at hR
            refine hG.rt hR rfl rfl rfl rfl ?_
            exact ⟨rfl, Sm.rf, hH⟩
        · rw [b0] at h3
          rw [if_pos (Or.inr (so_eq h3))] at hR
          refine hG.rt hR rfl rfl rfl rfl ?_
          exact ⟨rfl, Sm.rf, hH⟩
    · exact absurd (bi_eq0.mp h1) (by decide)
theorem o_W_copy3_1 (pl at_ many : Int32) (hH : SH σ so sz ce) (hs : SOk so sz) : Ci l θ 5 m_W_copy [.inr 0, .inl (nI 3), .inl pl, .inl (nI 1), .inl at_, .inl many] σ (fun r σ' => r = (cpyF so sz ce (nI 3) pl (nI 1) at_ many).1 ∧ Sm [71, 73, 75, 77] σ σ' ∧ SH σ' so sz (cpyF so sz ce (nI 3) pl (nI 1) at_ many).2) := by
  obtain ⟨hso, Z, hZ, hsz⟩ := hs 3 (by omega)
  obtain ⟨hso2, Z2, hZ2, hsz2⟩ := hs 1 (by omega)
  skip
  have a0 : σ 76 0 = so 3 := (hH 3 (by omega)).1
  have a1 : σ 76 1 = nI Z := (hH 3 (by omega)).2.1.trans hsz
  have b0 : σ 72 0 = so 1 := (hH 1 (by omega)).1
  have b1 : σ 72 1 = nI Z2 := (hH 1 (by omega)).2.1.trans hsz2
  have hg : cpyF so sz ce (nI 3) pl (nI 1) at_ many = if so 3 < 0 ∨ so 1 < 0 then (-1000000011, ce) else if so 3 = so 1 then (if hpB pl many (nI Z) && hpB at_ many (nI Z2) then (many, va_cpy ce ce (24 * 3 + pl.toNatClampNeg) (24 * 1 + at_.toNatClampNeg) many.toNatClampNeg) else (-1000000013, ce)) else (-1000000012, ce) := by
    rw [cpyF, show (inB (nI 3) 0 3 && inB (nI 1) 0 3) = true by decide, if_pos rfl, show (nI 3).toNatClampNeg = 3 from nI_clamp (by omega), show (nI 1).toNatClampNeg = 1 from nI_clamp (by omega), hsz, hsz2, cpyG_eq hZ hZ2]
  rw [hg]
  refine Ci.of (Or.inl mi_W_copy) pk_W_copy (nb rfl) (Or.inl rfl) [some (.inr 0), some (.inl (nI 3)), some (.inl pl), some (.inl (nI 1)), some (.inl at_), some (.inl many), none, none] rfl fun Γ hG hR => ?_
  refine hG.cS lk_W_206 mi_W_isSheet rfl rfl (c_W_isSheet (nI 3)) rfl rfl rfl rfl rfl rfl ?_
  rintro x σ' ⟨rfl, rfl⟩
  refine hG.br rfl rfl rfl rfl (fun h1 => ?_) (fun h1 => ?_)
  · exact absurd (bi_eq0.mp h1) (by decide)
  · refine hG.cS lk_W_206 mi_W_isSheet rfl rfl (c_W_isSheet (nI 1)) rfl rfl rfl rfl rfl rfl ?_
    rintro x σ' ⟨rfl, rfl⟩
    refine hG.br rfl rfl rfl rfl (fun h1 => ?_) (fun h1 => ?_)
    · refine hG.lda rfl 3 rfl rfl rfl (Or.inr (Or.inl rfl)) rfl (by decide) rfl ?_
      refine hG.lda rfl 1 rfl rfl rfl (Or.inr (Or.inl rfl)) rfl (by decide) rfl ?_
      refine hG.br rfl rfl rfl rfl (fun h2 => ?_) (fun h2 => ?_)
      · rw [a0] at h2
        rw [if_pos (Or.inl (so_eq h2))] at hR
        refine hG.rt hR rfl rfl rfl rfl ?_
        exact ⟨rfl, Sm.rf, hH⟩
      · rw [a0] at h2
        refine hG.br rfl rfl rfl rfl (fun h3 => ?_) (fun h3 => ?_)
        · rw [b0] at h3
          rw [if_neg (fun q => by rcases q with q | q; exact so_ne hso h2 q; exact so_ne hso2 h3 q)] at hR
          refine hG.br rfl rfl rfl rfl (fun h4 => ?_) (fun h4 => ?_)
          · rw [a0, b0] at h4
            rw [if_pos h4] at hR
            refine hG.cV lk_W_284 mi_R_hasPlaces rfl rfl (c_R_hasPlaces76 pl many) rfl rfl rfl rfl rfl rfl rfl rfl ?_
            rintro x σ' ⟨rfl, rfl⟩
            rw [a1, show (decide (0 ≤ pl) && decide (pl ≤ nI Z) && decide (0 ≤ many) && decide (many ≤ nI Z - pl)) = hpB pl many (nI Z) from rfl]
            refine hG.br rfl rfl rfl rfl (fun h5 => ?_) (fun h5 => ?_)
            · rw [bi_eq0.mp h5, Bool.false_and, if_neg (by decide)] at hR
              refine hG.rt hR rfl rfl rfl rfl ?_
              exact ⟨rfl, Sm.rf, hH⟩
            · have h5 := bi_ne0.mp h5
              rw [h5, Bool.true_and] at hR
              refine hG.cV lk_W_284 mi_R_hasPlaces rfl rfl (c_R_hasPlaces72 at_ many) rfl rfl rfl rfl rfl rfl rfl rfl ?_
              rintro x σ' ⟨rfl, rfl⟩
              rw [b1, show (decide (0 ≤ at_) && decide (at_ ≤ nI Z2) && decide (0 ≤ many) && decide (many ≤ nI Z2 - at_)) = hpB at_ many (nI Z2) from rfl]
              refine hG.br rfl rfl rfl rfl (fun h6 => ?_) (fun h6 => ?_)
              · have h6 := bi_ne0.mp h6
                rw [if_pos h6] at hR
                obtain ⟨P, M, rfl, rfl, hPM⟩ := (hpB_iff hZ).mp h5
                obtain ⟨A, M', rfl, eM, hAM⟩ := (hpB_iff hZ2).mp h6
                have : M = M' := (nI_eq (by omega) (by omega)).mp eM
                subst this
                rw [nI_clamp (by omega), nI_clamp (by omega), nI_clamp (by omega)] at hR
                refine hG.acp rfl lk_W_287 rfl P A M rfl rfl rfl rfl rfl rfl rfl rfl rfl (by omega) (by omega) ?_
                refine hG.rt hR rfl rfl rfl rfl ?_
                exact ⟨rfl, Sm.rf.upc (by decide), hH.cpy 3 1 P A M (by omega) (by omega) (by omega) (by omega)⟩
              · rw [bi_eq0.mp h6, if_neg (by decide)] at hR
                refine hG.rt hR rfl rfl rfl rfl ?_
                exact ⟨rfl, Sm.rf, hH⟩
          · rw [a0, b0] at h4
            rw [if_neg h4] at hR
            refine hG.rt hR rfl rfl rfl rfl ?_
            exact ⟨rfl, Sm.rf, hH⟩
        · rw [b0] at h3
          rw [if_pos (Or.inr (so_eq h3))] at hR
          refine hG.rt hR rfl rfl rfl rfl ?_
          exact ⟨rfl, Sm.rf, hH⟩
    · exact absurd (bi_eq0.mp h1) (by decide)
theorem o_W_copy3_2 (pl at_ many : Int32) (hH : SH σ so sz ce) (hs : SOk so sz) : Ci l θ 5 m_W_copy [.inr 0, .inl (nI 3), .inl pl, .inl (nI 2), .inl at_, .inl many] σ (fun r σ' => r = (cpyF so sz ce (nI 3) pl (nI 2) at_ many).1 ∧ Sm [71, 73, 75, 77] σ σ' ∧ SH σ' so sz (cpyF so sz ce (nI 3) pl (nI 2) at_ many).2) := by
  obtain ⟨hso, Z, hZ, hsz⟩ := hs 3 (by omega)
  obtain ⟨hso2, Z2, hZ2, hsz2⟩ := hs 2 (by omega)
  skip
  have a0 : σ 76 0 = so 3 := (hH 3 (by omega)).1
  have a1 : σ 76 1 = nI Z := (hH 3 (by omega)).2.1.trans hsz
  have b0 : σ 74 0 = so 2 := (hH 2 (by omega)).1
  have b1 : σ 74 1 = nI Z2 := (hH 2 (by omega)).2.1.trans hsz2
  have hg : cpyF so sz ce (nI 3) pl (nI 2) at_ many = if so 3 < 0 ∨ so 2 < 0 then (-1000000011, ce) else if so 3 = so 2 then (if hpB pl many (nI Z) && hpB at_ many (nI Z2) then (many, va_cpy ce ce (24 * 3 + pl.toNatClampNeg) (24 * 2 + at_.toNatClampNeg) many.toNatClampNeg) else (-1000000013, ce)) else (-1000000012, ce) := by
    rw [cpyF, show (inB (nI 3) 0 3 && inB (nI 2) 0 3) = true by decide, if_pos rfl, show (nI 3).toNatClampNeg = 3 from nI_clamp (by omega), show (nI 2).toNatClampNeg = 2 from nI_clamp (by omega), hsz, hsz2, cpyG_eq hZ hZ2]
  rw [hg]
  refine Ci.of (Or.inl mi_W_copy) pk_W_copy (nb rfl) (Or.inl rfl) [some (.inr 0), some (.inl (nI 3)), some (.inl pl), some (.inl (nI 2)), some (.inl at_), some (.inl many), none, none] rfl fun Γ hG hR => ?_
  refine hG.cS lk_W_206 mi_W_isSheet rfl rfl (c_W_isSheet (nI 3)) rfl rfl rfl rfl rfl rfl ?_
  rintro x σ' ⟨rfl, rfl⟩
  refine hG.br rfl rfl rfl rfl (fun h1 => ?_) (fun h1 => ?_)
  · exact absurd (bi_eq0.mp h1) (by decide)
  · refine hG.cS lk_W_206 mi_W_isSheet rfl rfl (c_W_isSheet (nI 2)) rfl rfl rfl rfl rfl rfl ?_
    rintro x σ' ⟨rfl, rfl⟩
    refine hG.br rfl rfl rfl rfl (fun h1 => ?_) (fun h1 => ?_)
    · refine hG.lda rfl 3 rfl rfl rfl (Or.inr (Or.inl rfl)) rfl (by decide) rfl ?_
      refine hG.lda rfl 2 rfl rfl rfl (Or.inr (Or.inl rfl)) rfl (by decide) rfl ?_
      refine hG.br rfl rfl rfl rfl (fun h2 => ?_) (fun h2 => ?_)
      · rw [a0] at h2
        rw [if_pos (Or.inl (so_eq h2))] at hR
        refine hG.rt hR rfl rfl rfl rfl ?_
        exact ⟨rfl, Sm.rf, hH⟩
      · rw [a0] at h2
        refine hG.br rfl rfl rfl rfl (fun h3 => ?_) (fun h3 => ?_)
        · rw [b0] at h3
          rw [if_neg (fun q => by rcases q with q | q; exact so_ne hso h2 q; exact so_ne hso2 h3 q)] at hR
          refine hG.br rfl rfl rfl rfl (fun h4 => ?_) (fun h4 => ?_)
          · rw [a0, b0] at h4
            rw [if_pos h4] at hR
            refine hG.cV lk_W_284 mi_R_hasPlaces rfl rfl (c_R_hasPlaces76 pl many) rfl rfl rfl rfl rfl rfl rfl rfl ?_
            rintro x σ' ⟨rfl, rfl⟩
            rw [a1, show (decide (0 ≤ pl) && decide (pl ≤ nI Z) && decide (0 ≤ many) && decide (many ≤ nI Z - pl)) = hpB pl many (nI Z) from rfl]
            refine hG.br rfl rfl rfl rfl (fun h5 => ?_) (fun h5 => ?_)
            · rw [bi_eq0.mp h5, Bool.false_and, if_neg (by decide)] at hR
              refine hG.rt hR rfl rfl rfl rfl ?_
              exact ⟨rfl, Sm.rf, hH⟩
            · have h5 := bi_ne0.mp h5
              rw [h5, Bool.true_and] at hR
              refine hG.cV lk_W_284 mi_R_hasPlaces rfl rfl (c_R_hasPlaces74 at_ many) rfl rfl rfl rfl rfl rfl rfl rfl ?_
              rintro x σ' ⟨rfl, rfl⟩
              rw [b1, show (decide (0 ≤ at_) && decide (at_ ≤ nI Z2) && decide (0 ≤ many) && decide (many ≤ nI Z2 - at_)) = hpB at_ many (nI Z2) from rfl]
              refine hG.br rfl rfl rfl rfl (fun h6 => ?_) (fun h6 => ?_)
              · have h6 := bi_ne0.mp h6
                rw [if_pos h6] at hR
                obtain ⟨P, M, rfl, rfl, hPM⟩ := (hpB_iff hZ).mp h5
                obtain ⟨A, M', rfl, eM, hAM⟩ := (hpB_iff hZ2).mp h6
                have : M = M' := (nI_eq (by omega) (by omega)).mp eM
                subst this
                rw [nI_clamp (by omega), nI_clamp (by omega), nI_clamp (by omega)] at hR
                refine hG.acp rfl lk_W_287 rfl P A M rfl rfl rfl rfl rfl rfl rfl rfl rfl (by omega) (by omega) ?_
                refine hG.rt hR rfl rfl rfl rfl ?_
                exact ⟨rfl, Sm.rf.upc (by decide), hH.cpy 3 2 P A M (by omega) (by omega) (by omega) (by omega)⟩
              · rw [bi_eq0.mp h6, if_neg (by decide)] at hR
                refine hG.rt hR rfl rfl rfl rfl ?_
                exact ⟨rfl, Sm.rf, hH⟩
          · rw [a0, b0] at h4
            rw [if_neg h4] at hR
            refine hG.rt hR rfl rfl rfl rfl ?_
            exact ⟨rfl, Sm.rf, hH⟩
        · rw [b0] at h3
          rw [if_pos (Or.inr (so_eq h3))] at hR
          refine hG.rt hR rfl rfl rfl rfl ?_
          exact ⟨rfl, Sm.rf, hH⟩
    · exact absurd (bi_eq0.mp h1) (by decide)
theorem o_W_copy3_3 (pl at_ many : Int32) (hH : SH σ so sz ce) (hs : SOk so sz) : Ci l θ 5 m_W_copy [.inr 0, .inl (nI 3), .inl pl, .inl (nI 3), .inl at_, .inl many] σ (fun r σ' => r = (cpyF so sz ce (nI 3) pl (nI 3) at_ many).1 ∧ Sm [71, 73, 75, 77] σ σ' ∧ SH σ' so sz (cpyF so sz ce (nI 3) pl (nI 3) at_ many).2) := by
  obtain ⟨hso, Z, hZ, hsz⟩ := hs 3 (by omega)
  obtain ⟨hso2, Z2, hZ2, hsz2⟩ := hs 3 (by omega)
  have eZ : Z2 = Z := (nI_eq (by omega) (by omega)).mp (hsz2.symm.trans hsz)
  have a0 : σ 76 0 = so 3 := (hH 3 (by omega)).1
  have a1 : σ 76 1 = nI Z := (hH 3 (by omega)).2.1.trans hsz
  have b0 : σ 76 0 = so 3 := (hH 3 (by omega)).1
  have b1 : σ 76 1 = nI Z2 := (hH 3 (by omega)).2.1.trans hsz2
  have hg : cpyF so sz ce (nI 3) pl (nI 3) at_ many = if so 3 < 0 ∨ so 3 < 0 then (-1000000011, ce) else if so 3 = so 3 then (if hpB pl many (nI Z) && hpB at_ many (nI Z2) then (many, va_cpy ce ce (24 * 3 + pl.toNatClampNeg) (24 * 3 + at_.toNatClampNeg) many.toNatClampNeg) else (-1000000013, ce)) else (-1000000012, ce) := by
    rw [cpyF, show (inB (nI 3) 0 3 && inB (nI 3) 0 3) = true by decide, if_pos rfl, show (nI 3).toNatClampNeg = 3 from nI_clamp (by omega), hsz, eZ, cpyG_eq hZ hZ]
  rw [hg]
  refine Ci.of (Or.inl mi_W_copy) pk_W_copy (nb rfl) (Or.inl rfl) [some (.inr 0), some (.inl (nI 3)), some (.inl pl), some (.inl (nI 3)), some (.inl at_), some (.inl many), none, none] rfl fun Γ hG hR => ?_
  refine hG.cS lk_W_206 mi_W_isSheet rfl rfl (c_W_isSheet (nI 3)) rfl rfl rfl rfl rfl rfl ?_
  rintro x σ' ⟨rfl, rfl⟩
  refine hG.br rfl rfl rfl rfl (fun h1 => ?_) (fun h1 => ?_)
  · exact absurd (bi_eq0.mp h1) (by decide)
  · refine hG.cS lk_W_206 mi_W_isSheet rfl rfl (c_W_isSheet (nI 3)) rfl rfl rfl rfl rfl rfl ?_
    rintro x σ' ⟨rfl, rfl⟩
    refine hG.br rfl rfl rfl rfl (fun h1 => ?_) (fun h1 => ?_)
    · refine hG.lda rfl 3 rfl rfl rfl (Or.inr (Or.inl rfl)) rfl (by decide) rfl ?_
      refine hG.lda rfl 3 rfl rfl rfl (Or.inr (Or.inl rfl)) rfl (by decide) rfl ?_
      refine hG.br rfl rfl rfl rfl (fun h2 => ?_) (fun h2 => ?_)
      · rw [a0] at h2
        rw [if_pos (Or.inl (so_eq h2))] at hR
        refine hG.rt hR rfl rfl rfl rfl ?_
        exact ⟨rfl, Sm.rf, hH⟩
      · rw [a0] at h2
        refine hG.br rfl rfl rfl rfl (fun h3 => ?_) (fun h3 => ?_)
        · rw [b0] at h3
          rw [if_neg (fun q => by rcases q with q | q; exact so_ne hso h2 q; exact so_ne hso2 h3 q)] at hR
          refine hG.br rfl rfl rfl rfl (fun h4 => ?_) (fun h4 => ?_)
          · rw [a0] at h4
            rw [if_pos h4] at hR
            refine hG.cV lk_W_284 mi_R_hasPlaces rfl rfl (c_R_hasPlaces76 pl many) rfl rfl rfl rfl rfl rfl rfl rfl ?_
            rintro x σ' ⟨rfl, rfl⟩
            rw [a1, show (decide (0 ≤ pl) && decide (pl ≤ nI Z) && decide (0 ≤ many) && decide (many ≤ nI Z - pl)) = hpB pl many (nI Z) from rfl]
            refine hG.br rfl rfl rfl rfl (fun h5 => ?_) (fun h5 => ?_)
            · rw [bi_eq0.mp h5, Bool.false_and, if_neg (by decide)] at hR
              refine hG.rt hR rfl rfl rfl rfl ?_
              exact ⟨rfl, Sm.rf, hH⟩
            · have h5 := bi_ne0.mp h5
              rw [h5, Bool.true_and] at hR
              refine hG.cV lk_W_284 mi_R_hasPlaces rfl rfl (c_R_hasPlaces76 at_ many) rfl rfl rfl rfl rfl rfl rfl rfl ?_
              rintro x σ' ⟨rfl, rfl⟩
              rw [b1, show (decide (0 ≤ at_) && decide (at_ ≤ nI Z2) && decide (0 ≤ many) && decide (many ≤ nI Z2 - at_)) = hpB at_ many (nI Z2) from rfl]
              refine hG.br rfl rfl rfl rfl (fun h6 => ?_) (fun h6 => ?_)
              · have h6 := bi_ne0.mp h6
                rw [if_pos h6] at hR
                obtain ⟨P, M, rfl, rfl, hPM⟩ := (hpB_iff hZ).mp h5
                obtain ⟨A, M', rfl, eM, hAM⟩ := (hpB_iff hZ2).mp h6
                have : M = M' := (nI_eq (by omega) (by omega)).mp eM
                subst this
                rw [nI_clamp (by omega), nI_clamp (by omega), nI_clamp (by omega)] at hR
                refine hG.acp rfl lk_W_287 rfl P A M rfl rfl rfl rfl rfl rfl rfl rfl rfl (by omega) (by omega) ?_
                refine hG.rt hR rfl rfl rfl rfl ?_
                exact ⟨rfl, Sm.rf.upc (by decide), hH.cpy 3 3 P A M (by omega) (by omega) (by omega) (by omega)⟩
              · rw [bi_eq0.mp h6, if_neg (by decide)] at hR
                refine hG.rt hR rfl rfl rfl rfl ?_
                exact ⟨rfl, Sm.rf, hH⟩
          · rw [a0] at h4
            rw [if_neg h4] at hR
            refine hG.rt hR rfl rfl rfl rfl ?_
            exact ⟨rfl, Sm.rf, hH⟩
        · rw [b0] at h3
          rw [if_pos (Or.inr (so_eq h3))] at hR
          refine hG.rt hR rfl rfl rfl rfl ?_
          exact ⟨rfl, Sm.rf, hH⟩
    · exact absurd (bi_eq0.mp h1) (by decide)
theorem o_W_copy (fr pl to at_ many : Int32) (hH : SH σ so sz ce) (hs : SOk so sz) : Ci l θ 5 m_W_copy [.inr 0, .inl fr, .inl pl, .inl to, .inl at_, .inl many] σ (fun r σ' => r = (cpyF so sz ce fr pl to at_ many).1 ∧ Sm [71, 73, 75, 77] σ σ' ∧ SH σ' so sz (cpyF so sz ce fr pl to at_ many).2) := by
  have bad : (inB fr 0 3 && inB to 0 3) = false → cpyF so sz ce fr pl to at_ many = (-1000000001, ce) := fun h => by rw [cpyF, h]; rfl
  cases hb : inB fr 0 3 with
  | false =>
    rw [bad (by rw [hb]; rfl)]
    refine Ci.of (Or.inl mi_W_copy) pk_W_copy (nb rfl) (Or.inl rfl) [some (.inr 0), some (.inl fr), some (.inl pl), some (.inl to), some (.inl at_), some (.inl many), none, none] rfl fun Γ hG hR => ?_
    refine hG.cS lk_W_206 mi_W_isSheet rfl rfl (c_W_isSheet fr) rfl rfl rfl rfl rfl rfl ?_
    rintro x σ' ⟨rfl, rfl⟩
    refine hG.br rfl rfl rfl rfl (fun h1 => ?_) (fun h1 => ?_)
    · refine hG.rt hR rfl rfl rfl rfl ?_
      exact ⟨rfl, Sm.rf, hH⟩
    · exact absurd (bi_ne0.mp h1) (by rw [hb]; decide)
  | true =>
    cases hb2 : inB to 0 3 with
    | false =>
      rw [bad (by rw [hb2, Bool.and_false])]
      refine Ci.of (Or.inl mi_W_copy) pk_W_copy (nb rfl) (Or.inl rfl) [some (.inr 0), some (.inl fr), some (.inl pl), some (.inl to), some (.inl at_), some (.inl many), none, none] rfl fun Γ hG hR => ?_
      refine hG.cS lk_W_206 mi_W_isSheet rfl rfl (c_W_isSheet fr) rfl rfl rfl rfl rfl rfl ?_
      rintro x σ' ⟨rfl, rfl⟩
      refine hG.br rfl rfl rfl rfl (fun h1 => ?_) (fun h1 => ?_)
      · exact absurd (bi_eq0.mp h1) (by rw [hb]; decide)
      · refine hG.cS lk_W_206 mi_W_isSheet rfl rfl (c_W_isSheet to) rfl rfl rfl rfl rfl rfl ?_
        rintro x σ' ⟨rfl, rfl⟩
        refine hG.br rfl rfl rfl rfl (fun h2 => ?_) (fun h2 => ?_)
        · exact absurd (bi_ne0.mp h2) (by rw [hb2]; decide)
        · refine hG.rt hR rfl rfl rfl rfl ?_
          exact ⟨rfl, Sm.rf, hH⟩
    | true =>
      obtain ⟨F, hF, rfl⟩ := (inB_nI (m := 3) (by omega)).mp hb
      obtain ⟨T, hT, rfl⟩ := (inB_nI (m := 3) (by omega)).mp hb2
      rcases (by omega : F = 0 ∨ F = 1 ∨ F = 2 ∨ F = 3) with rfl | rfl | rfl | rfl
      · rcases (by omega : T = 0 ∨ T = 1 ∨ T = 2 ∨ T = 3) with rfl | rfl | rfl | rfl
        · exact o_W_copy0_0 pl at_ many hH hs
        · exact o_W_copy0_1 pl at_ many hH hs
        · exact o_W_copy0_2 pl at_ many hH hs
        · exact o_W_copy0_3 pl at_ many hH hs
      · rcases (by omega : T = 0 ∨ T = 1 ∨ T = 2 ∨ T = 3) with rfl | rfl | rfl | rfl
        · exact o_W_copy1_0 pl at_ many hH hs
        · exact o_W_copy1_1 pl at_ many hH hs
        · exact o_W_copy1_2 pl at_ many hH hs
        · exact o_W_copy1_3 pl at_ many hH hs
      · rcases (by omega : T = 0 ∨ T = 1 ∨ T = 2 ∨ T = 3) with rfl | rfl | rfl | rfl
        · exact o_W_copy2_0 pl at_ many hH hs
        · exact o_W_copy2_1 pl at_ many hH hs
        · exact o_W_copy2_2 pl at_ many hH hs
        · exact o_W_copy2_3 pl at_ many hH hs
      · rcases (by omega : T = 0 ∨ T = 1 ∨ T = 2 ∨ T = 3) with rfl | rfl | rfl | rfl
        · exact o_W_copy3_0 pl at_ many hH hs
        · exact o_W_copy3_1 pl at_ many hH hs
        · exact o_W_copy3_2 pl at_ many hH hs
        · exact o_W_copy3_3 pl at_ many hH hs
end
