/-! the class's calls: mark, reads -/
section
variable {l : Launch} {θ : Th} {σ σ' : Sg} {n c t y : Nat} {f so sz ce : Nat → Int32}
theorem o_W_mark0 (p v : Int32) (hH : SH σ so sz ce) (hs : SOk so sz) : Ci l θ 5 m_W_mark [.inr 0, .inl (nI 0), .inl p, .inl v] σ (fun r σ' => r = (mrkF so sz ce (nI 0) p v).1 ∧ Sm [71, 73, 75, 77] σ σ' ∧ SH σ' so sz (mrkF so sz ce (nI 0) p v).2) := by
  obtain ⟨hso, Z, hZ, hsz⟩ := hs 0 (by omega)
  have a0 : σ 70 0 = so 0 := (hH 0 (by omega)).1
  have a1 : σ 70 1 = nI Z := (hH 0 (by omega)).2.1.trans hsz
  have hg : mrkF so sz ce (nI 0) p v = if so 0 < 0 then (-1000000011, ce) else if inB p 0 (nI Z - 1) then (match mrkG (so 0) v with
      | some r => (r, ce)
      | none => (1, upd ce (24 * 0 + p.toNatClampNeg) (if so 0 = 0 then v.toInt16.toInt32 else v))) else (-1000000013, ce) := by
    rw [mrkF, show inB (nI 0) 0 3 = true by decide, if_pos rfl, nI_clamp (by omega), hsz]; rfl
  rw [hg]
  refine Ci.of (Or.inl mi_W_mark) pk_W_mark (nb rfl) (Or.inl rfl) [some (.inr 0), some (.inl (nI 0)), some (.inl p), some (.inl v), none] rfl fun Γ hG hR => ?_
  refine hG.cS lk_W_206 mi_W_isSheet rfl rfl (c_W_isSheet (nI 0)) rfl rfl rfl rfl rfl rfl ?_
  rintro x σ' ⟨rfl, rfl⟩
  refine hG.br rfl rfl rfl rfl (fun h1 => ?_) (fun h1 => ?_)
  · refine hG.lda rfl 0 rfl rfl rfl (Or.inr (Or.inl rfl)) rfl (by decide) rfl ?_
    refine hG.br rfl rfl rfl rfl (fun h2 => ?_) (fun h2 => ?_)
    · rw [a0] at h2
      rw [if_neg (so_ne hso h2)] at hR
      refine hG.cV lk_W_275 mi_R_hasPlace rfl rfl (c_R_hasPlace70 p) rfl rfl rfl rfl rfl rfl rfl rfl ?_
      rintro x σ' ⟨rfl, rfl⟩
      rw [a1, ← inB_m1 p Z (by omega)]
      refine hG.br rfl rfl rfl rfl (fun h3 => ?_) (fun h3 => ?_)
      · have h3 := bi_ne0.mp h3
        rw [if_pos h3] at hR
        obtain ⟨P, hP, rfl⟩ := (inB_lt (by omega)).mp h3
        rw [nI_clamp (by omega)] at hR
        refine hG.br rfl rfl rfl rfl (fun h4 => ?_) (fun h4 => ?_)
        · rw [a0] at h4
          have e1 : so 0 = 1 := by
            rcases hso with h | h | h
            · exact absurd h h2
            · exact absurd h h4
            · exact h
          have bad : mrkG (so 0) v = some (-1000000001) → X Γ 91 [some (.inr 0), some (.inl (nI 0)), some (.inl (nI P)), some (.inl v), some (.inr 70)] [] σ' := by
            intro hm
            rw [hm] at hR
            refine hG.rt hR rfl rfl rfl rfl ?_
            exact ⟨rfl, Sm.rf, hH⟩
          have fin : mrkG (so 0) v = none → X Γ 94 [some (.inr 0), some (.inl (nI 0)), some (.inl (nI P)), some (.inl v), some (.inr 70)] [] σ' := by
            intro hm
            rw [hm] at hR
            dsimp only at hR
            rw [if_neg h4] at hR
            refine hG.sti rfl P rfl rfl rfl rfl (by omega) ?_
            refine hG.rt hR rfl rfl rfl rfl ?_
            exact ⟨rfl, Sm.rf.up (by decide), hH.cell 0 P (by omega) (by omega) v⟩
          have h0 : ¬ (so 0 = 0 ∧ v = -1000000005) := fun q => h4 q.1
          refine hG.br rfl rfl rfl rfl (fun h5 => ?_) (fun h5 => ?_)
          · exact fin (by rw [mrkG, if_neg h0, if_neg (fun q => q.2.1 h5)])
          · refine hG.br rfl rfl rfl rfl (fun h6 => ?_) (fun h6 => ?_)
            · exact bad (by rw [mrkG, if_neg h0, if_pos ⟨e1, h5, by rw [inB, decide_eq_false (i32_nle.mpr h6)]; rfl⟩])
            · refine hG.br rfl rfl rfl rfl (fun h7 => ?_) (fun h7 => ?_)
              · exact fin (by rw [mrkG, if_neg h0, if_neg (fun q => by
                  have := q.2.2
                  rw [inB, decide_eq_true (i32_nlt.mp h6), decide_eq_true h7] at this
                  cases this)])
              · exact bad (by rw [mrkG, if_neg h0, if_pos ⟨e1, h5, by rw [inB, decide_eq_false (p := v ≤ 99999) h7, Bool.and_false]⟩])
        · rw [a0] at h4
          refine hG.br rfl rfl rfl rfl (fun h5 => ?_) (fun h5 => ?_)
          · have hm : mrkG (so 0) v = none := by rw [mrkG, if_neg (fun q => h5 q.2), if_neg (fun q => by rw [h4] at q; exact absurd q.1 (by decide))]
            rw [hm] at hR
            dsimp only at hR
            rw [if_pos h4] at hR
            refine hG.sti rfl P rfl rfl rfl rfl (by omega) ?_
            refine hG.rt hR rfl rfl rfl rfl ?_
            exact ⟨rfl, Sm.rf.up (by decide), hH.cell 0 P (by omega) (by omega) _⟩
          · have hm : mrkG (so 0) v = some (-1000000012) := by rw [mrkG, if_pos ⟨h4, h5⟩]
            rw [hm] at hR
            refine hG.rt hR rfl rfl rfl rfl ?_
            exact ⟨rfl, Sm.rf, hH⟩
      · rw [bi_eq0.mp h3, if_neg (by decide)] at hR
        refine hG.rt hR rfl rfl rfl rfl ?_
        exact ⟨rfl, Sm.rf, hH⟩
    · rw [a0] at h2
      rw [if_pos (so_eq h2)] at hR
      refine hG.rt hR rfl rfl rfl rfl ?_
      exact ⟨rfl, Sm.rf, hH⟩
  · exact absurd (bi_eq0.mp h1) (by decide)
theorem o_W_reads0 (hS : SV σ f n c t y) (hH : SH σ so sz ce) (hs : SOk so sz) : Ci l θ 5 m_W_reads [.inr 0, .inl (nI 0)] σ (fun r σ' => r = rdsR f so sz ce n (nI 0) ∧ σ' = σ) := by
  obtain ⟨hso, Z, hZ, hsz⟩ := hs 0 (by omega)
  have hn := hS.n10
  have a0 : σ 70 0 = so 0 := (hH 0 (by omega)).1
  have a1 : σ 70 1 = nI Z := (hH 0 (by omega)).2.1.trans hsz
  have ac : ∀ j, j < 24 → σ 71 j = ce (24 * 0 + j) := (hH 0 (by omega)).2.2
  generalize hcs : (fun k => ce (24 * 0 + k)) = cs
  have ac : ∀ j, j < 24 → σ 71 j = cs j := fun j hj => by rw [ac j hj, ← hcs]
  have hg : rdsR f so sz ce n (nI 0) = if so 0 < 0 then -1000000011 else rdsF f cs n Z := by
    rw [rdsR, show inB (nI 0) 0 3 = true by decide, if_pos rfl, nI_clamp (by omega), hsz, nI_clamp (by omega), hcs]
  rw [hg]
  generalize hP : (fun k => decide (¬ cs k = -1000000005) && (!decide (k < n) || decide (¬ cs k = f (18 + 4 * k + 1)))) = P
  have hg2 : rdsF f cs n Z = optN (-1000000005) (fndB P 0 Z) := by rw [rdsF, ← hP]
  rw [hg2]
  have pn := hS.rv.pn
  refine Ci.of (Or.inl mi_W_reads) pk_W_reads (nb rfl) (Or.inl rfl) [some (.inr 0), some (.inl (nI 0)), none, none] rfl fun Γ hG hR => ?_
  refine hG.cS lk_W_206 mi_W_isSheet rfl rfl (c_W_isSheet (nI 0)) rfl rfl rfl rfl rfl rfl ?_
  rintro x σ' ⟨rfl, rfl⟩
  refine hG.br rfl rfl rfl rfl (fun h1 => ?_) (fun h1 => ?_)
  · refine hG.lda rfl 0 rfl rfl rfl (Or.inr (Or.inl rfl)) rfl (by decide) rfl ?_
    refine hG.br rfl rfl rfl rfl (fun h2 => ?_) (fun h2 => ?_)
    · rw [a0] at h2
      rw [if_neg (so_ne hso h2)] at hR
      have loop : ∀ m k, k + m = Z → fndB P 0 Z = fndB P k m → X Γ 30 [some (.inr 0), some (.inl (nI 0)), some (.inr 70), some (.inl (nI k))] [] σ' := by
        intro m
        induction m with
        | zero =>
          intro k hk he
          refine hG.br rfl rfl rfl rfl (fun k3 => ?_) (fun k3 => ?_)
          · refine hG.rt hR rfl rfl rfl rfl ?_
            exact ⟨by rw [he]; rfl, rfl⟩
          · exact absurd (by rw [a1]; exact nI_le (show Z ≤ k by omega) (by omega)) k3
        | succ m ih =>
          intro k hk he
          rw [fndB_s _ _ m] at he
          have hPk : P k = (decide (¬ cs k = -1000000005) && (!decide (k < n) || decide (¬ cs k = f (18 + 4 * k + 1)))) := by rw [← hP]
          have next : P k = false → X Γ 83 [some (.inr 0), some (.inl (nI 0)), some (.inr 70), some (.inl (nI k))] [] σ' := by
            intro hp
            refine hG.jp rfl rfl rfl ?_
            rw [nI_1]
            exact ih (k + 1) (by omega) (by rw [he, hp]; rfl)
          have found : P k = true → X Γ 81 [some (.inr 0), some (.inl (nI 0)), some (.inr 70), some (.inl (nI k))] [] σ' := by
            intro hp
            refine hG.rt hR rfl rfl rfl rfl ?_
            exact ⟨by rw [he, hp]; rfl, rfl⟩
          refine hG.br rfl rfl rfl rfl (fun k3 => ?_) (fun k3 => ?_)
          · rw [a1] at k3; exact absurd k3 (nI_ge (by omega) (by omega))
          · refine hG.ld rfl k rfl rfl rfl rfl rfl (by omega) ?_
            rw [ac k (by omega)]
            refine hG.br rfl rfl rfl rfl (fun k4 => ?_) (fun k4 => ?_)
            · refine hG.br rfl rfl rfl rfl (fun k5 => ?_) (fun k5 => ?_)
              · have hkn : ¬ k < n := fun q => absurd (show nI n ≤ nI k by rw [← pn]; exact k5) (nI_ge q (by omega))
                exact found (by rw [hPk]; simp [k4, hkn])
              · have hkn : k < n := Nat.not_le.mp (fun q => k5 (by rw [pn]; exact nI_le q (by omega)))
                refine hG.ld rfl k rfl rfl rfl rfl rfl (by omega) ?_
                rw [ac k (by omega)]
                refine hG.ld rfl k rfl rfl rfl rfl rfl (by omega) ?_
                rw [hS.rv.nm hkn]
                refine hG.br rfl rfl rfl rfl (fun k6 => ?_) (fun k6 => ?_)
                · exact next (by rw [hPk]; simp [hkn, k6])
                · exact found (by rw [hPk]; simp [k4, k6])
            · refine hG.go 1 rfl rfl (next (by rw [hPk]; simp [k4]))
      exact hG.go 2 rfl rfl (loop Z 0 (by omega) rfl)
    · rw [a0] at h2
      rw [if_pos (so_eq h2)] at hR
      refine hG.rt hR rfl rfl rfl rfl ?_
      exact ⟨rfl, rfl⟩
  · exact absurd (bi_eq0.mp h1) (by decide)
theorem o_W_mark1 (p v : Int32) (hH : SH σ so sz ce) (hs : SOk so sz) : Ci l θ 5 m_W_mark [.inr 0, .inl (nI 1), .inl p, .inl v] σ (fun r σ' => r = (mrkF so sz ce (nI 1) p v).1 ∧ Sm [71, 73, 75, 77] σ σ' ∧ SH σ' so sz (mrkF so sz ce (nI 1) p v).2) := by
  obtain ⟨hso, Z, hZ, hsz⟩ := hs 1 (by omega)
  have a0 : σ 72 0 = so 1 := (hH 1 (by omega)).1
  have a1 : σ 72 1 = nI Z := (hH 1 (by omega)).2.1.trans hsz
  have hg : mrkF so sz ce (nI 1) p v = if so 1 < 0 then (-1000000011, ce) else if inB p 0 (nI Z - 1) then (match mrkG (so 1) v with
      | some r => (r, ce)
      | none => (1, upd ce (24 * 1 + p.toNatClampNeg) (if so 1 = 0 then v.toInt16.toInt32 else v))) else (-1000000013, ce) := by
    rw [mrkF, show inB (nI 1) 0 3 = true by decide, if_pos rfl, nI_clamp (by omega), hsz]; rfl
  rw [hg]
  refine Ci.of (Or.inl mi_W_mark) pk_W_mark (nb rfl) (Or.inl rfl) [some (.inr 0), some (.inl (nI 1)), some (.inl p), some (.inl v), none] rfl fun Γ hG hR => ?_
  refine hG.cS lk_W_206 mi_W_isSheet rfl rfl (c_W_isSheet (nI 1)) rfl rfl rfl rfl rfl rfl ?_
  rintro x σ' ⟨rfl, rfl⟩
  refine hG.br rfl rfl rfl rfl (fun h1 => ?_) (fun h1 => ?_)
  · refine hG.lda rfl 1 rfl rfl rfl (Or.inr (Or.inl rfl)) rfl (by decide) rfl ?_
    refine hG.br rfl rfl rfl rfl (fun h2 => ?_) (fun h2 => ?_)
    · rw [a0] at h2
      rw [if_neg (so_ne hso h2)] at hR
      refine hG.cV lk_W_275 mi_R_hasPlace rfl rfl (c_R_hasPlace72 p) rfl rfl rfl rfl rfl rfl rfl rfl ?_
      rintro x σ' ⟨rfl, rfl⟩
      rw [a1, ← inB_m1 p Z (by omega)]
      refine hG.br rfl rfl rfl rfl (fun h3 => ?_) (fun h3 => ?_)
      · have h3 := bi_ne0.mp h3
        rw [if_pos h3] at hR
        obtain ⟨P, hP, rfl⟩ := (inB_lt (by omega)).mp h3
        rw [nI_clamp (by omega)] at hR
        refine hG.br rfl rfl rfl rfl (fun h4 => ?_) (fun h4 => ?_)
        · rw [a0] at h4
          have e1 : so 1 = 1 := by
            rcases hso with h | h | h
            · exact absurd h h2
            · exact absurd h h4
            · exact h
          have bad : mrkG (so 1) v = some (-1000000001) → X Γ 91 [some (.inr 0), some (.inl (nI 1)), some (.inl (nI P)), some (.inl v), some (.inr 72)] [] σ' := by
            intro hm
            rw [hm] at hR
            refine hG.rt hR rfl rfl rfl rfl ?_
            exact ⟨rfl, Sm.rf, hH⟩
          have fin : mrkG (so 1) v = none → X Γ 94 [some (.inr 0), some (.inl (nI 1)), some (.inl (nI P)), some (.inl v), some (.inr 72)] [] σ' := by
            intro hm
            rw [hm] at hR
            dsimp only at hR
            rw [if_neg h4] at hR
            refine hG.sti rfl P rfl rfl rfl rfl (by omega) ?_
            refine hG.rt hR rfl rfl rfl rfl ?_
            exact ⟨rfl, Sm.rf.up (by decide), hH.cell 1 P (by omega) (by omega) v⟩
          have h0 : ¬ (so 1 = 0 ∧ v = -1000000005) := fun q => h4 q.1
          refine hG.br rfl rfl rfl rfl (fun h5 => ?_) (fun h5 => ?_)
          · exact fin (by rw [mrkG, if_neg h0, if_neg (fun q => q.2.1 h5)])
          · refine hG.br rfl rfl rfl rfl (fun h6 => ?_) (fun h6 => ?_)
            · exact bad (by rw [mrkG, if_neg h0, if_pos ⟨e1, h5, by rw [inB, decide_eq_false (i32_nle.mpr h6)]; rfl⟩])
            · refine hG.br rfl rfl rfl rfl (fun h7 => ?_) (fun h7 => ?_)
              · exact fin (by rw [mrkG, if_neg h0, if_neg (fun q => by
                  have := q.2.2
                  rw [inB, decide_eq_true (i32_nlt.mp h6), decide_eq_true h7] at this
                  cases this)])
              · exact bad (by rw [mrkG, if_neg h0, if_pos ⟨e1, h5, by rw [inB, decide_eq_false (p := v ≤ 99999) h7, Bool.and_false]⟩])
        · rw [a0] at h4
          refine hG.br rfl rfl rfl rfl (fun h5 => ?_) (fun h5 => ?_)
          · have hm : mrkG (so 1) v = none := by rw [mrkG, if_neg (fun q => h5 q.2), if_neg (fun q => by rw [h4] at q; exact absurd q.1 (by decide))]
            rw [hm] at hR
            dsimp only at hR
            rw [if_pos h4] at hR
            refine hG.sti rfl P rfl rfl rfl rfl (by omega) ?_
            refine hG.rt hR rfl rfl rfl rfl ?_
            exact ⟨rfl, Sm.rf.up (by decide), hH.cell 1 P (by omega) (by omega) _⟩
          · have hm : mrkG (so 1) v = some (-1000000012) := by rw [mrkG, if_pos ⟨h4, h5⟩]
            rw [hm] at hR
            refine hG.rt hR rfl rfl rfl rfl ?_
            exact ⟨rfl, Sm.rf, hH⟩
      · rw [bi_eq0.mp h3, if_neg (by decide)] at hR
        refine hG.rt hR rfl rfl rfl rfl ?_
        exact ⟨rfl, Sm.rf, hH⟩
    · rw [a0] at h2
      rw [if_pos (so_eq h2)] at hR
      refine hG.rt hR rfl rfl rfl rfl ?_
      exact ⟨rfl, Sm.rf, hH⟩
  · exact absurd (bi_eq0.mp h1) (by decide)
theorem o_W_reads1 (hS : SV σ f n c t y) (hH : SH σ so sz ce) (hs : SOk so sz) : Ci l θ 5 m_W_reads [.inr 0, .inl (nI 1)] σ (fun r σ' => r = rdsR f so sz ce n (nI 1) ∧ σ' = σ) := by
  obtain ⟨hso, Z, hZ, hsz⟩ := hs 1 (by omega)
  have hn := hS.n10
  have a0 : σ 72 0 = so 1 := (hH 1 (by omega)).1
  have a1 : σ 72 1 = nI Z := (hH 1 (by omega)).2.1.trans hsz
  have ac : ∀ j, j < 24 → σ 73 j = ce (24 * 1 + j) := (hH 1 (by omega)).2.2
  generalize hcs : (fun k => ce (24 * 1 + k)) = cs
  have ac : ∀ j, j < 24 → σ 73 j = cs j := fun j hj => by rw [ac j hj, ← hcs]
  have hg : rdsR f so sz ce n (nI 1) = if so 1 < 0 then -1000000011 else rdsF f cs n Z := by
    rw [rdsR, show inB (nI 1) 0 3 = true by decide, if_pos rfl, nI_clamp (by omega), hsz, nI_clamp (by omega), hcs]
  rw [hg]
  generalize hP : (fun k => decide (¬ cs k = -1000000005) && (!decide (k < n) || decide (¬ cs k = f (18 + 4 * k + 1)))) = P
  have hg2 : rdsF f cs n Z = optN (-1000000005) (fndB P 0 Z) := by rw [rdsF, ← hP]
  rw [hg2]
  have pn := hS.rv.pn
  refine Ci.of (Or.inl mi_W_reads) pk_W_reads (nb rfl) (Or.inl rfl) [some (.inr 0), some (.inl (nI 1)), none, none] rfl fun Γ hG hR => ?_
  refine hG.cS lk_W_206 mi_W_isSheet rfl rfl (c_W_isSheet (nI 1)) rfl rfl rfl rfl rfl rfl ?_
  rintro x σ' ⟨rfl, rfl⟩
  refine hG.br rfl rfl rfl rfl (fun h1 => ?_) (fun h1 => ?_)
  · refine hG.lda rfl 1 rfl rfl rfl (Or.inr (Or.inl rfl)) rfl (by decide) rfl ?_
    refine hG.br rfl rfl rfl rfl (fun h2 => ?_) (fun h2 => ?_)
    · rw [a0] at h2
      rw [if_neg (so_ne hso h2)] at hR
      have loop : ∀ m k, k + m = Z → fndB P 0 Z = fndB P k m → X Γ 30 [some (.inr 0), some (.inl (nI 1)), some (.inr 72), some (.inl (nI k))] [] σ' := by
        intro m
        induction m with
        | zero =>
          intro k hk he
          refine hG.br rfl rfl rfl rfl (fun k3 => ?_) (fun k3 => ?_)
          · refine hG.rt hR rfl rfl rfl rfl ?_
            exact ⟨by rw [he]; rfl, rfl⟩
          · exact absurd (by rw [a1]; exact nI_le (show Z ≤ k by omega) (by omega)) k3
        | succ m ih =>
          intro k hk he
          rw [fndB_s _ _ m] at he
          have hPk : P k = (decide (¬ cs k = -1000000005) && (!decide (k < n) || decide (¬ cs k = f (18 + 4 * k + 1)))) := by rw [← hP]
          have next : P k = false → X Γ 83 [some (.inr 0), some (.inl (nI 1)), some (.inr 72), some (.inl (nI k))] [] σ' := by
            intro hp
            refine hG.jp rfl rfl rfl ?_
            rw [nI_1]
            exact ih (k + 1) (by omega) (by rw [he, hp]; rfl)
          have found : P k = true → X Γ 81 [some (.inr 0), some (.inl (nI 1)), some (.inr 72), some (.inl (nI k))] [] σ' := by
            intro hp
            refine hG.rt hR rfl rfl rfl rfl ?_
            exact ⟨by rw [he, hp]; rfl, rfl⟩
          refine hG.br rfl rfl rfl rfl (fun k3 => ?_) (fun k3 => ?_)
          · rw [a1] at k3; exact absurd k3 (nI_ge (by omega) (by omega))
          · refine hG.ld rfl k rfl rfl rfl rfl rfl (by omega) ?_
            rw [ac k (by omega)]
            refine hG.br rfl rfl rfl rfl (fun k4 => ?_) (fun k4 => ?_)
            · refine hG.br rfl rfl rfl rfl (fun k5 => ?_) (fun k5 => ?_)
              · have hkn : ¬ k < n := fun q => absurd (show nI n ≤ nI k by rw [← pn]; exact k5) (nI_ge q (by omega))
                exact found (by rw [hPk]; simp [k4, hkn])
              · have hkn : k < n := Nat.not_le.mp (fun q => k5 (by rw [pn]; exact nI_le q (by omega)))
                refine hG.ld rfl k rfl rfl rfl rfl rfl (by omega) ?_
                rw [ac k (by omega)]
                refine hG.ld rfl k rfl rfl rfl rfl rfl (by omega) ?_
                rw [hS.rv.nm hkn]
                refine hG.br rfl rfl rfl rfl (fun k6 => ?_) (fun k6 => ?_)
                · exact next (by rw [hPk]; simp [hkn, k6])
                · exact found (by rw [hPk]; simp [k4, k6])
            · refine hG.go 1 rfl rfl (next (by rw [hPk]; simp [k4]))
      exact hG.go 2 rfl rfl (loop Z 0 (by omega) rfl)
    · rw [a0] at h2
      rw [if_pos (so_eq h2)] at hR
      refine hG.rt hR rfl rfl rfl rfl ?_
      exact ⟨rfl, rfl⟩
  · exact absurd (bi_eq0.mp h1) (by decide)
theorem o_W_mark2 (p v : Int32) (hH : SH σ so sz ce) (hs : SOk so sz) : Ci l θ 5 m_W_mark [.inr 0, .inl (nI 2), .inl p, .inl v] σ (fun r σ' => r = (mrkF so sz ce (nI 2) p v).1 ∧ Sm [71, 73, 75, 77] σ σ' ∧ SH σ' so sz (mrkF so sz ce (nI 2) p v).2) := by
  obtain ⟨hso, Z, hZ, hsz⟩ := hs 2 (by omega)
  have a0 : σ 74 0 = so 2 := (hH 2 (by omega)).1
  have a1 : σ 74 1 = nI Z := (hH 2 (by omega)).2.1.trans hsz
  have hg : mrkF so sz ce (nI 2) p v = if so 2 < 0 then (-1000000011, ce) else if inB p 0 (nI Z - 1) then (match mrkG (so 2) v with
      | some r => (r, ce)
      | none => (1, upd ce (24 * 2 + p.toNatClampNeg) (if so 2 = 0 then v.toInt16.toInt32 else v))) else (-1000000013, ce) := by
    rw [mrkF, show inB (nI 2) 0 3 = true by decide, if_pos rfl, nI_clamp (by omega), hsz]; rfl
  rw [hg]
  refine Ci.of (Or.inl mi_W_mark) pk_W_mark (nb rfl) (Or.inl rfl) [some (.inr 0), some (.inl (nI 2)), some (.inl p), some (.inl v), none] rfl fun Γ hG hR => ?_
  refine hG.cS lk_W_206 mi_W_isSheet rfl rfl (c_W_isSheet (nI 2)) rfl rfl rfl rfl rfl rfl ?_
  rintro x σ' ⟨rfl, rfl⟩
  refine hG.br rfl rfl rfl rfl (fun h1 => ?_) (fun h1 => ?_)
  · refine hG.lda rfl 2 rfl rfl rfl (Or.inr (Or.inl rfl)) rfl (by decide) rfl ?_
    refine hG.br rfl rfl rfl rfl (fun h2 => ?_) (fun h2 => ?_)
    · rw [a0] at h2
      rw [if_neg (so_ne hso h2)] at hR
      refine hG.cV lk_W_275 mi_R_hasPlace rfl rfl (c_R_hasPlace74 p) rfl rfl rfl rfl rfl rfl rfl rfl ?_
      rintro x σ' ⟨rfl, rfl⟩
      rw [a1, ← inB_m1 p Z (by omega)]
      refine hG.br rfl rfl rfl rfl (fun h3 => ?_) (fun h3 => ?_)
      · have h3 := bi_ne0.mp h3
        rw [if_pos h3] at hR
        obtain ⟨P, hP, rfl⟩ := (inB_lt (by omega)).mp h3
        rw [nI_clamp (by omega)] at hR
        refine hG.br rfl rfl rfl rfl (fun h4 => ?_) (fun h4 => ?_)
        · rw [a0] at h4
          have e1 : so 2 = 1 := by
            rcases hso with h | h | h
            · exact absurd h h2
            · exact absurd h h4
            · exact h
          have bad : mrkG (so 2) v = some (-1000000001) → X Γ 91 [some (.inr 0), some (.inl (nI 2)), some (.inl (nI P)), some (.inl v), some (.inr 74)] [] σ' := by
            intro hm
            rw [hm] at hR
            refine hG.rt hR rfl rfl rfl rfl ?_
            exact ⟨rfl, Sm.rf, hH⟩
          have fin : mrkG (so 2) v = none → X Γ 94 [some (.inr 0), some (.inl (nI 2)), some (.inl (nI P)), some (.inl v), some (.inr 74)] [] σ' := by
            intro hm
            rw [hm] at hR
            dsimp only at hR
            rw [if_neg h4] at hR
            refine hG.sti rfl P rfl rfl rfl rfl (by omega) ?_
            refine hG.rt hR rfl rfl rfl rfl ?_
            exact ⟨rfl, Sm.rf.up (by decide), hH.cell 2 P (by omega) (by omega) v⟩
          have h0 : ¬ (so 2 = 0 ∧ v = -1000000005) := fun q => h4 q.1
          refine hG.br rfl rfl rfl rfl (fun h5 => ?_) (fun h5 => ?_)
          · exact fin (by rw [mrkG, if_neg h0, if_neg (fun q => q.2.1 h5)])
          · refine hG.br rfl rfl rfl rfl (fun h6 => ?_) (fun h6 => ?_)
            · exact bad (by rw [mrkG, if_neg h0, if_pos ⟨e1, h5, by rw [inB, decide_eq_false (i32_nle.mpr h6)]; rfl⟩])
            · refine hG.br rfl rfl rfl rfl (fun h7 => ?_) (fun h7 => ?_)
              · exact fin (by rw [mrkG, if_neg h0, if_neg (fun q => by
                  have := q.2.2
                  rw [inB, decide_eq_true (i32_nlt.mp h6), decide_eq_true h7] at this
                  cases this)])
              · exact bad (by rw [mrkG, if_neg h0, if_pos ⟨e1, h5, by rw [inB, decide_eq_false (p := v ≤ 99999) h7, Bool.and_false]⟩])
        · rw [a0] at h4
          refine hG.br rfl rfl rfl rfl (fun h5 => ?_) (fun h5 => ?_)
          · have hm : mrkG (so 2) v = none := by rw [mrkG, if_neg (fun q => h5 q.2), if_neg (fun q => by rw [h4] at q; exact absurd q.1 (by decide))]
            rw [hm] at hR
            dsimp only at hR
            rw [if_pos h4] at hR
            refine hG.sti rfl P rfl rfl rfl rfl (by omega) ?_
            refine hG.rt hR rfl rfl rfl rfl ?_
            exact ⟨rfl, Sm.rf.up (by decide), hH.cell 2 P (by omega) (by omega) _⟩
          · have hm : mrkG (so 2) v = some (-1000000012) := by rw [mrkG, if_pos ⟨h4, h5⟩]
            rw [hm] at hR
            refine hG.rt hR rfl rfl rfl rfl ?_
            exact ⟨rfl, Sm.rf, hH⟩
      · rw [bi_eq0.mp h3, if_neg (by decide)] at hR
        refine hG.rt hR rfl rfl rfl rfl ?_
        exact ⟨rfl, Sm.rf, hH⟩
    · rw [a0] at h2
      rw [if_pos (so_eq h2)] at hR
      refine hG.rt hR rfl rfl rfl rfl ?_
      exact ⟨rfl, Sm.rf, hH⟩
  · exact absurd (bi_eq0.mp h1) (by decide)
theorem o_W_reads2 (hS : SV σ f n c t y) (hH : SH σ so sz ce) (hs : SOk so sz) : Ci l θ 5 m_W_reads [.inr 0, .inl (nI 2)] σ (fun r σ' => r = rdsR f so sz ce n (nI 2) ∧ σ' = σ) := by
  obtain ⟨hso, Z, hZ, hsz⟩ := hs 2 (by omega)
  have hn := hS.n10
  have a0 : σ 74 0 = so 2 := (hH 2 (by omega)).1
  have a1 : σ 74 1 = nI Z := (hH 2 (by omega)).2.1.trans hsz
  have ac : ∀ j, j < 24 → σ 75 j = ce (24 * 2 + j) := (hH 2 (by omega)).2.2
  generalize hcs : (fun k => ce (24 * 2 + k)) = cs
  have ac : ∀ j, j < 24 → σ 75 j = cs j := fun j hj => by rw [ac j hj, ← hcs]
  have hg : rdsR f so sz ce n (nI 2) = if so 2 < 0 then -1000000011 else rdsF f cs n Z := by
    rw [rdsR, show inB (nI 2) 0 3 = true by decide, if_pos rfl, nI_clamp (by omega), hsz, nI_clamp (by omega), hcs]
  rw [hg]
  generalize hP : (fun k => decide (¬ cs k = -1000000005) && (!decide (k < n) || decide (¬ cs k = f (18 + 4 * k + 1)))) = P
  have hg2 : rdsF f cs n Z = optN (-1000000005) (fndB P 0 Z) := by rw [rdsF, ← hP]
  rw [hg2]
  have pn := hS.rv.pn
  refine Ci.of (Or.inl mi_W_reads) pk_W_reads (nb rfl) (Or.inl rfl) [some (.inr 0), some (.inl (nI 2)), none, none] rfl fun Γ hG hR => ?_
  refine hG.cS lk_W_206 mi_W_isSheet rfl rfl (c_W_isSheet (nI 2)) rfl rfl rfl rfl rfl rfl ?_
  rintro x σ' ⟨rfl, rfl⟩
  refine hG.br rfl rfl rfl rfl (fun h1 => ?_) (fun h1 => ?_)
  · refine hG.lda rfl 2 rfl rfl rfl (Or.inr (Or.inl rfl)) rfl (by decide) rfl ?_
    refine hG.br rfl rfl rfl rfl (fun h2 => ?_) (fun h2 => ?_)
    · rw [a0] at h2
      rw [if_neg (so_ne hso h2)] at hR
      have loop : ∀ m k, k + m = Z → fndB P 0 Z = fndB P k m → X Γ 30 [some (.inr 0), some (.inl (nI 2)), some (.inr 74), some (.inl (nI k))] [] σ' := by
        intro m
        induction m with
        | zero =>
          intro k hk he
          refine hG.br rfl rfl rfl rfl (fun k3 => ?_) (fun k3 => ?_)
          · refine hG.rt hR rfl rfl rfl rfl ?_
            exact ⟨by rw [he]; rfl, rfl⟩
          · exact absurd (by rw [a1]; exact nI_le (show Z ≤ k by omega) (by omega)) k3
        | succ m ih =>
          intro k hk he
          rw [fndB_s _ _ m] at he
          have hPk : P k = (decide (¬ cs k = -1000000005) && (!decide (k < n) || decide (¬ cs k = f (18 + 4 * k + 1)))) := by rw [← hP]
          have next : P k = false → X Γ 83 [some (.inr 0), some (.inl (nI 2)), some (.inr 74), some (.inl (nI k))] [] σ' := by
            intro hp
            refine hG.jp rfl rfl rfl ?_
            rw [nI_1]
            exact ih (k + 1) (by omega) (by rw [he, hp]; rfl)
          have found : P k = true → X Γ 81 [some (.inr 0), some (.inl (nI 2)), some (.inr 74), some (.inl (nI k))] [] σ' := by
            intro hp
            refine hG.rt hR rfl rfl rfl rfl ?_
            exact ⟨by rw [he, hp]; rfl, rfl⟩
          refine hG.br rfl rfl rfl rfl (fun k3 => ?_) (fun k3 => ?_)
          · rw [a1] at k3; exact absurd k3 (nI_ge (by omega) (by omega))
          · refine hG.ld rfl k rfl rfl rfl rfl rfl (by omega) ?_
            rw [ac k (by omega)]
            refine hG.br rfl rfl rfl rfl (fun k4 => ?_) (fun k4 => ?_)
            · refine hG.br rfl rfl rfl rfl (fun k5 => ?_) (fun k5 => ?_)
              · have hkn : ¬ k < n := fun q => absurd (show nI n ≤ nI k by rw [← pn]; exact k5) (nI_ge q (by omega))
                exact found (by rw [hPk]; simp [k4, hkn])
              · have hkn : k < n := Nat.not_le.mp (fun q => k5 (by rw [pn]; exact nI_le q (by omega)))
                refine hG.ld rfl k rfl rfl rfl rfl rfl (by omega) ?_
                rw [ac k (by omega)]
                refine hG.ld rfl k rfl rfl rfl rfl rfl (by omega) ?_
                rw [hS.rv.nm hkn]
                refine hG.br rfl rfl rfl rfl (fun k6 => ?_) (fun k6 => ?_)
                · exact next (by rw [hPk]; simp [hkn, k6])
                · exact found (by rw [hPk]; simp [k4, k6])
            · refine hG.go 1 rfl rfl (next (by rw [hPk]; simp [k4]))
      exact hG.go 2 rfl rfl (loop Z 0 (by omega) rfl)
    · rw [a0] at h2
      rw [if_pos (so_eq h2)] at hR
      refine hG.rt hR rfl rfl rfl rfl ?_
      exact ⟨rfl, rfl⟩
  · exact absurd (bi_eq0.mp h1) (by decide)
theorem o_W_mark3 (p v : Int32) (hH : SH σ so sz ce) (hs : SOk so sz) : Ci l θ 5 m_W_mark [.inr 0, .inl (nI 3), .inl p, .inl v] σ (fun r σ' => r = (mrkF so sz ce (nI 3) p v).1 ∧ Sm [71, 73, 75, 77] σ σ' ∧ SH σ' so sz (mrkF so sz ce (nI 3) p v).2) := by
  obtain ⟨hso, Z, hZ, hsz⟩ := hs 3 (by omega)
  have a0 : σ 76 0 = so 3 := (hH 3 (by omega)).1
  have a1 : σ 76 1 = nI Z := (hH 3 (by omega)).2.1.trans hsz
  have hg : mrkF so sz ce (nI 3) p v = if so 3 < 0 then (-1000000011, ce) else if inB p 0 (nI Z - 1) then (match mrkG (so 3) v with
      | some r => (r, ce)
      | none => (1, upd ce (24 * 3 + p.toNatClampNeg) (if so 3 = 0 then v.toInt16.toInt32 else v))) else (-1000000013, ce) := by
    rw [mrkF, show inB (nI 3) 0 3 = true by decide, if_pos rfl, nI_clamp (by omega), hsz]; rfl
  rw [hg]
  refine Ci.of (Or.inl mi_W_mark) pk_W_mark (nb rfl) (Or.inl rfl) [some (.inr 0), some (.inl (nI 3)), some (.inl p), some (.inl v), none] rfl fun Γ hG hR => ?_
  refine hG.cS lk_W_206 mi_W_isSheet rfl rfl (c_W_isSheet (nI 3)) rfl rfl rfl rfl rfl rfl ?_
  rintro x σ' ⟨rfl, rfl⟩
  refine hG.br rfl rfl rfl rfl (fun h1 => ?_) (fun h1 => ?_)
  · refine hG.lda rfl 3 rfl rfl rfl (Or.inr (Or.inl rfl)) rfl (by decide) rfl ?_
    refine hG.br rfl rfl rfl rfl (fun h2 => ?_) (fun h2 => ?_)
    · rw [a0] at h2
      rw [if_neg (so_ne hso h2)] at hR
      refine hG.cV lk_W_275 mi_R_hasPlace rfl rfl (c_R_hasPlace76 p) rfl rfl rfl rfl rfl rfl rfl rfl ?_
      rintro x σ' ⟨rfl, rfl⟩
      rw [a1, ← inB_m1 p Z (by omega)]
      refine hG.br rfl rfl rfl rfl (fun h3 => ?_) (fun h3 => ?_)
      · have h3 := bi_ne0.mp h3
        rw [if_pos h3] at hR
        obtain ⟨P, hP, rfl⟩ := (inB_lt (by omega)).mp h3
        rw [nI_clamp (by omega)] at hR
        refine hG.br rfl rfl rfl rfl (fun h4 => ?_) (fun h4 => ?_)
        · rw [a0] at h4
          have e1 : so 3 = 1 := by
            rcases hso with h | h | h
            · exact absurd h h2
            · exact absurd h h4
            · exact h
          have bad : mrkG (so 3) v = some (-1000000001) → X Γ 91 [some (.inr 0), some (.inl (nI 3)), some (.inl (nI P)), some (.inl v), some (.inr 76)] [] σ' := by
            intro hm
            rw [hm] at hR
            refine hG.rt hR rfl rfl rfl rfl ?_
            exact ⟨rfl, Sm.rf, hH⟩
          have fin : mrkG (so 3) v = none → X Γ 94 [some (.inr 0), some (.inl (nI 3)), some (.inl (nI P)), some (.inl v), some (.inr 76)] [] σ' := by
            intro hm
            rw [hm] at hR
            dsimp only at hR
            rw [if_neg h4] at hR
            refine hG.sti rfl P rfl rfl rfl rfl (by omega) ?_
            refine hG.rt hR rfl rfl rfl rfl ?_
            exact ⟨rfl, Sm.rf.up (by decide), hH.cell 3 P (by omega) (by omega) v⟩
          have h0 : ¬ (so 3 = 0 ∧ v = -1000000005) := fun q => h4 q.1
          refine hG.br rfl rfl rfl rfl (fun h5 => ?_) (fun h5 => ?_)
          · exact fin (by rw [mrkG, if_neg h0, if_neg (fun q => q.2.1 h5)])
          · refine hG.br rfl rfl rfl rfl (fun h6 => ?_) (fun h6 => ?_)
            · exact bad (by rw [mrkG, if_neg h0, if_pos ⟨e1, h5, by rw [inB, decide_eq_false (i32_nle.mpr h6)]; rfl⟩])
            · refine hG.br rfl rfl rfl rfl (fun h7 => ?_) (fun h7 => ?_)
              · exact fin (by rw [mrkG, if_neg h0, if_neg (fun q => by
                  have := q.2.2
                  rw [inB, decide_eq_true (i32_nlt.mp h6), decide_eq_true h7] at this
                  cases this)])
              · exact bad (by rw [mrkG, if_neg h0, if_pos ⟨e1, h5, by rw [inB, decide_eq_false (p := v ≤ 99999) h7, Bool.and_false]⟩])
        · rw [a0] at h4
          refine hG.br rfl rfl rfl rfl (fun h5 => ?_) (fun h5 => ?_)
          · have hm : mrkG (so 3) v = none := by rw [mrkG, if_neg (fun q => h5 q.2), if_neg (fun q => by rw [h4] at q; exact absurd q.1 (by decide))]
            rw [hm] at hR
            dsimp only at hR
            rw [if_pos h4] at hR
            refine hG.sti rfl P rfl rfl rfl rfl (by omega) ?_
            refine hG.rt hR rfl rfl rfl rfl ?_
            exact ⟨rfl, Sm.rf.up (by decide), hH.cell 3 P (by omega) (by omega) _⟩
          · have hm : mrkG (so 3) v = some (-1000000012) := by rw [mrkG, if_pos ⟨h4, h5⟩]
            rw [hm] at hR
            refine hG.rt hR rfl rfl rfl rfl ?_
            exact ⟨rfl, Sm.rf, hH⟩
      · rw [bi_eq0.mp h3, if_neg (by decide)] at hR
        refine hG.rt hR rfl rfl rfl rfl ?_
        exact ⟨rfl, Sm.rf, hH⟩
    · rw [a0] at h2
      rw [if_pos (so_eq h2)] at hR
      refine hG.rt hR rfl rfl rfl rfl ?_
      exact ⟨rfl, Sm.rf, hH⟩
  · exact absurd (bi_eq0.mp h1) (by decide)
theorem o_W_reads3 (hS : SV σ f n c t y) (hH : SH σ so sz ce) (hs : SOk so sz) : Ci l θ 5 m_W_reads [.inr 0, .inl (nI 3)] σ (fun r σ' => r = rdsR f so sz ce n (nI 3) ∧ σ' = σ) := by
  obtain ⟨hso, Z, hZ, hsz⟩ := hs 3 (by omega)
  have hn := hS.n10
  have a0 : σ 76 0 = so 3 := (hH 3 (by omega)).1
  have a1 : σ 76 1 = nI Z := (hH 3 (by omega)).2.1.trans hsz
  have ac : ∀ j, j < 24 → σ 77 j = ce (24 * 3 + j) := (hH 3 (by omega)).2.2
  generalize hcs : (fun k => ce (24 * 3 + k)) = cs
  have ac : ∀ j, j < 24 → σ 77 j = cs j := fun j hj => by rw [ac j hj, ← hcs]
  have hg : rdsR f so sz ce n (nI 3) = if so 3 < 0 then -1000000011 else rdsF f cs n Z := by
    rw [rdsR, show inB (nI 3) 0 3 = true by decide, if_pos rfl, nI_clamp (by omega), hsz, nI_clamp (by omega), hcs]
  rw [hg]
  generalize hP : (fun k => decide (¬ cs k = -1000000005) && (!decide (k < n) || decide (¬ cs k = f (18 + 4 * k + 1)))) = P
  have hg2 : rdsF f cs n Z = optN (-1000000005) (fndB P 0 Z) := by rw [rdsF, ← hP]
  rw [hg2]
  have pn := hS.rv.pn
  refine Ci.of (Or.inl mi_W_reads) pk_W_reads (nb rfl) (Or.inl rfl) [some (.inr 0), some (.inl (nI 3)), none, none] rfl fun Γ hG hR => ?_
  refine hG.cS lk_W_206 mi_W_isSheet rfl rfl (c_W_isSheet (nI 3)) rfl rfl rfl rfl rfl rfl ?_
  rintro x σ' ⟨rfl, rfl⟩
  refine hG.br rfl rfl rfl rfl (fun h1 => ?_) (fun h1 => ?_)
  · refine hG.lda rfl 3 rfl rfl rfl (Or.inr (Or.inl rfl)) rfl (by decide) rfl ?_
    refine hG.br rfl rfl rfl rfl (fun h2 => ?_) (fun h2 => ?_)
    · rw [a0] at h2
      rw [if_neg (so_ne hso h2)] at hR
      have loop : ∀ m k, k + m = Z → fndB P 0 Z = fndB P k m → X Γ 30 [some (.inr 0), some (.inl (nI 3)), some (.inr 76), some (.inl (nI k))] [] σ' := by
        intro m
        induction m with
        | zero =>
          intro k hk he
          refine hG.br rfl rfl rfl rfl (fun k3 => ?_) (fun k3 => ?_)
          · refine hG.rt hR rfl rfl rfl rfl ?_
            exact ⟨by rw [he]; rfl, rfl⟩
          · exact absurd (by rw [a1]; exact nI_le (show Z ≤ k by omega) (by omega)) k3
        | succ m ih =>
          intro k hk he
          rw [fndB_s _ _ m] at he
          have hPk : P k = (decide (¬ cs k = -1000000005) && (!decide (k < n) || decide (¬ cs k = f (18 + 4 * k + 1)))) := by rw [← hP]
          have next : P k = false → X Γ 83 [some (.inr 0), some (.inl (nI 3)), some (.inr 76), some (.inl (nI k))] [] σ' := by
            intro hp
            refine hG.jp rfl rfl rfl ?_
            rw [nI_1]
            exact ih (k + 1) (by omega) (by rw [he, hp]; rfl)
          have found : P k = true → X Γ 81 [some (.inr 0), some (.inl (nI 3)), some (.inr 76), some (.inl (nI k))] [] σ' := by
            intro hp
            refine hG.rt hR rfl rfl rfl rfl ?_
            exact ⟨by rw [he, hp]; rfl, rfl⟩
          refine hG.br rfl rfl rfl rfl (fun k3 => ?_) (fun k3 => ?_)
          · rw [a1] at k3; exact absurd k3 (nI_ge (by omega) (by omega))
          · refine hG.ld rfl k rfl rfl rfl rfl rfl (by omega) ?_
            rw [ac k (by omega)]
            refine hG.br rfl rfl rfl rfl (fun k4 => ?_) (fun k4 => ?_)
            · refine hG.br rfl rfl rfl rfl (fun k5 => ?_) (fun k5 => ?_)
              · have hkn : ¬ k < n := fun q => absurd (show nI n ≤ nI k by rw [← pn]; exact k5) (nI_ge q (by omega))
                exact found (by rw [hPk]; simp [k4, hkn])
              · have hkn : k < n := Nat.not_le.mp (fun q => k5 (by rw [pn]; exact nI_le q (by omega)))
                refine hG.ld rfl k rfl rfl rfl rfl rfl (by omega) ?_
                rw [ac k (by omega)]
                refine hG.ld rfl k rfl rfl rfl rfl rfl (by omega) ?_
                rw [hS.rv.nm hkn]
                refine hG.br rfl rfl rfl rfl (fun k6 => ?_) (fun k6 => ?_)
                · exact next (by rw [hPk]; simp [hkn, k6])
                · exact found (by rw [hPk]; simp [k4, k6])
            · refine hG.go 1 rfl rfl (next (by rw [hPk]; simp [k4]))
      exact hG.go 2 rfl rfl (loop Z 0 (by omega) rfl)
    · rw [a0] at h2
      rw [if_pos (so_eq h2)] at hR
      refine hG.rt hR rfl rfl rfl rfl ?_
      exact ⟨rfl, rfl⟩
  · exact absurd (bi_eq0.mp h1) (by decide)
theorem o_W_mark (s p v : Int32) (hH : SH σ so sz ce) (hs : SOk so sz) : Ci l θ 5 m_W_mark [.inr 0, .inl s, .inl p, .inl v] σ (fun r σ' => r = (mrkF so sz ce s p v).1 ∧ Sm [71, 73, 75, 77] σ σ' ∧ SH σ' so sz (mrkF so sz ce s p v).2) := by
  cases hb : inB s 0 3 with
  | false =>
    have eg : mrkF so sz ce s p v = (-1000000001, ce) := by rw [mrkF, hb]; rfl
    rw [eg]
    refine Ci.of (Or.inl mi_W_mark) pk_W_mark (nb rfl) (Or.inl rfl) [some (.inr 0), some (.inl s), some (.inl p), some (.inl v), none] rfl fun Γ hG hR => ?_
    refine hG.cS lk_W_206 mi_W_isSheet rfl rfl (c_W_isSheet s) rfl rfl rfl rfl rfl rfl ?_
    rintro x σ' ⟨rfl, rfl⟩
    refine hG.br rfl rfl rfl rfl (fun h1 => ?_) (fun h1 => ?_)
    · exact absurd (bi_ne0.mp h1) (by rw [hb]; decide)
    · refine hG.rt hR rfl rfl rfl rfl ?_
      exact ⟨rfl, Sm.rf, hH⟩
  | true =>
    obtain ⟨S, hS, rfl⟩ := (inB_nI (m := 3) (by omega)).mp hb
    rcases (by omega : S = 0 ∨ S = 1 ∨ S = 2 ∨ S = 3) with rfl | rfl | rfl | rfl
    · exact o_W_mark0 p v hH hs
    · exact o_W_mark1 p v hH hs
    · exact o_W_mark2 p v hH hs
    · exact o_W_mark3 p v hH hs
theorem o_W_reads (s : Int32) (hS : SV σ f n c t y) (hH : SH σ so sz ce) (hs : SOk so sz) : Ci l θ 5 m_W_reads [.inr 0, .inl s] σ (fun r σ' => r = rdsR f so sz ce n s ∧ σ' = σ) := by
  cases hb : inB s 0 3 with
  | false =>
    have eg : rdsR f so sz ce n s = -1000000001 := by rw [rdsR, hb]; rfl
    rw [eg]
    refine Ci.of (Or.inl mi_W_reads) pk_W_reads (nb rfl) (Or.inl rfl) [some (.inr 0), some (.inl s), none, none] rfl fun Γ hG hR => ?_
    refine hG.cS lk_W_206 mi_W_isSheet rfl rfl (c_W_isSheet s) rfl rfl rfl rfl rfl rfl ?_
    rintro x σ' ⟨rfl, rfl⟩
    refine hG.br rfl rfl rfl rfl (fun h1 => ?_) (fun h1 => ?_)
    · exact absurd (bi_ne0.mp h1) (by rw [hb]; decide)
    · refine hG.rt hR rfl rfl rfl rfl ?_
      exact ⟨rfl, rfl⟩
  | true =>
    obtain ⟨S, hS', rfl⟩ := (inB_nI (m := 3) (by omega)).mp hb
    rcases (by omega : S = 0 ∨ S = 1 ∨ S = 2 ∨ S = 3) with rfl | rfl | rfl | rfl
    · exact o_W_reads0 hS hH hs
    · exact o_W_reads1 hS hH hs
    · exact o_W_reads2 hS hH hs
    · exact o_W_reads3 hS hH hs
end
