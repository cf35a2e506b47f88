/-! the class's calls: line -/
section
variable {l : Launch} {θ : Th} {σ σ' : Sg} {n c t y : Nat} {f so sz ce : Nat → Int32}
theorem c_W_isNearGiven (nm : Int32) (m : Nat) (hm : m ≤ 24) (hS : SV σ f n c t y) : Ci l θ 3 m_W_isNearGiven [.inr 0, .inl nm, .inl (nI m)] σ (fun r σ' => σ' = σ ∧ r = bi (!allB (fun i => !nearT f t (nrIx nm (σ 94 i))) 0 m)) := by
  refine Ci.of (Or.inl mi_W_isNearGiven) pk_W_isNearGiven (nb rfl) (Or.inr rfl) [some (.inr 0), some (.inl nm), some (.inl (nI m)), none] rfl fun Γ hG hR => ?_
  generalize hP : (fun i => !nearT f t (nrIx nm (σ 94 i))) = P
  have loop : ∀ q k, k + q = m → allB P 0 m = allB P k q → X Γ 2 [some (.inr 0), some (.inl nm), some (.inl (nI m)), some (.inl (nI k))] [] σ := by
    intro q
    induction q with
    | zero =>
      intro k hk he
      refine hG.br rfl rfl rfl rfl (fun k1 => ?_) (fun k1 => ?_)
      · refine hG.rz hR rfl rfl rfl rfl (Or.inl rfl) ?_
        exact ⟨rfl, by rw [hP, he]; rfl⟩
      · exact absurd (nI_le (show m ≤ k by omega) (by omega)) k1
    | succ q ih =>
      intro k hk he
      rw [allB_s _ _ q] at he
      have hPk : P k = !nearT f t (nrIx nm (σ 94 k)) := by rw [← hP]
      refine hG.br rfl rfl rfl rfl (fun k1 => ?_) (fun k1 => ?_)
      · exact absurd k1 (nI_ge (by omega) (by omega))
      · refine hG.ld rfl k rfl rfl rfl rfl rfl (by omega) ?_
        refine hG.cV lk_W_142 mi_V_areNear rfl rfl (c_V_areNear32 nm (σ 94 k) hS.rv) rfl rfl rfl rfl rfl rfl rfl rfl ?_
        rintro x σ' ⟨rfl, rfl⟩
        refine hG.br rfl rfl rfl rfl (fun k2 => ?_) (fun k2 => ?_)
        · refine hG.jp rfl rfl rfl ?_
          rw [nI_1]
          refine ih (k + 1) (by omega) ?_
          rw [he, hPk, bi_eq0.mp k2]; rfl
        · refine hG.rz hR rfl rfl rfl rfl (Or.inr rfl) ?_
          exact ⟨rfl, by rw [hP, he, hPk, bi_ne0.mp k2]; rfl⟩
  exact hG.go 2 rfl rfl (loop m 0 (by omega) rfl)
theorem o_W_line0 (hS : SV σ f n c t y) (hH : SH σ so sz ce) (hs : SOk so sz) : Ci l θ 5 m_W_line [.inr 0, .inl (nI 0)] σ (fun r σ' => r = lineR f so sz ce n t (nI 0) ∧ Sm [32, 40, 94] σ σ' ∧ SV σ' f n c t y) := by
  obtain ⟨hso, Z, hZ, hsz⟩ := hs 0 (by omega)
  have a0 : σ 70 0 = so 0 := (hH 0 (by omega)).1
  have a1 : σ 70 1 = nI Z := (hH 0 (by omega)).2.1.trans hsz
  have ac : ∀ j, j < 24 → σ 71 j = ce (24 * 0 + j) := (hH 0 (by omega)).2.2
  generalize hcs : (fun k => ce (24 * 0 + k)) = cs
  have ecs : ∀ k, ce (24 * 0 + k) = cs k := fun k => by rw [← hcs]
  generalize hP : (fun k => inB (cs k) 0 124 && (!freeG (nearT f t) f n (cs k) (f 2) || erlB (nearT f t) cs k)) = P
  have hg : lineR f so sz ce n t (nI 0) = if so 0 < 0 then -1000000011 else optN (-1000000005) (fndB P 0 Z) := by
    rw [lineR, show inB (nI 0) 0 3 = true by decide, if_pos rfl, nI_clamp (by omega), hsz, nI_clamp (by omega), hcs, lineF, hP]
  rw [hg]
  have ey := hS.rv.y
  refine Ci.of (Or.inl mi_W_line) pk_W_line (nb rfl) (Or.inl rfl) [some (.inr 0), some (.inl (nI 0)), none, none, none, none] rfl fun Γ hG hR => ?_
  refine hG.cS lk_W_206 mi_W_isSheet rfl rfl (c_W_isSheet (nI 0)) rfl rfl rfl rfl rfl rfl ?_
  rintro x σ' ⟨rfl, rfl⟩
  refine hG.br rfl rfl rfl rfl (fun h1 => ?_) (fun h1 => ?_)
  · refine hG.lda rfl 0 rfl rfl rfl (Or.inr (Or.inl rfl)) rfl (by decide) rfl ?_
    refine hG.br rfl rfl rfl rfl (fun h2 => ?_) (fun h2 => ?_)
    · rw [a0] at h2
      rw [if_neg (so_ne hso h2)] at hR
      refine hG.cVv lk_W_159 mi_V_gatherHeld rfl rfl (c_V_gatherHeld32 _ hS.n10 hS.rv) rfl rfl rfl rfl rfl rfl rfl rfl ?_
      rintro τ0 ⟨hh, hgh⟩
      rw [ey] at hgh
      have hS0 := hS.hm hh
      have hh1 : Sm [32, 40, 94] σ' τ0 := hh.1.mono (by simp)
      have loop : ∀ m k (j : Nat) (τ : Sg) (w5 : Option AV), k + m = Z → j ≤ k → Sm [32, 40, 94] σ' τ → Sm [94] τ0 τ → (∀ nm, allB (fun i => !nearT f t (nrIx nm (τ 94 i))) 0 j = allB (fun i => !(inB (cs i) 0 124 && nearT f t (nrIx nm (cs i)))) 0 k) → fndB P 0 Z = fndB P k m → X Γ 47 [some (.inr 0), some (.inl (nI 0)), some (.inr 70), some (.inl (nI j)), some (.inl (nI k)), w5] [] τ := by
        intro m
        induction m with
        | zero =>
          intro k j τ w5 hk hj hs1 hs2 hgl he
          have hSt : SV τ f n c t y := hS0.sm hs2 (fun k h1 h2 => by simp; omega)
          refine hG.br rfl rfl rfl rfl (fun k3 => ?_) (fun k3 => ?_)
          · refine hG.rt hR rfl rfl rfl rfl ?_
            exact ⟨by rw [he]; rfl, hs1, hSt⟩
          · exact absurd (by rw [hs1 70 (by decide), a1]; exact nI_le (show Z ≤ k by omega) (by omega)) k3
        | succ m ih =>
          intro k j τ w5 hk hj hs1 hs2 hgl he
          have hSt : SV τ f n c t y := hS0.sm hs2 (fun k h1 h2 => by simp; omega)
          have hght : GH τ 32 f n (f 2) := by
            obtain ⟨m', q1, q2, q3⟩ := hgh
            exact ⟨m', q1, by rw [hs2 32 (by decide)]; exact q2, fun g nm => by rw [hs2 40 (by decide)]; exact q3 g nm⟩
          rw [fndB_s _ _ m] at he
          have hPk : P k = (inB (cs k) 0 124 && (!freeG (nearT f t) f n (cs k) (f 2) || erlB (nearT f t) cs k)) := by rw [← hP]
          have ec : τ 71 k = cs k := by rw [hs1 71 (by decide), ac k (by omega), ecs]
          refine hG.br rfl rfl rfl rfl (fun k3 => ?_) (fun k3 => ?_)
          · rw [hs1 70 (by decide), a1] at k3; exact absurd k3 (nI_ge (by omega) (by omega))
          · refine hG.ld rfl k rfl rfl rfl rfl rfl (by omega) ?_
            rw [ec]
            have next : ∀ (j' : Nat) (τ' : Sg), j' ≤ k + 1 → Sm [94] τ τ' → (∀ nm, allB (fun i => !nearT f t (nrIx nm (τ' 94 i))) 0 j' = allB (fun i => !(inB (cs i) 0 124 && nearT f t (nrIx nm (cs i)))) 0 (k + 1)) → P k = false → X Γ 112 [some (.inr 0), some (.inl (nI 0)), some (.inr 70), some (.inl (nI j')), some (.inl (nI k)), some (.inl (cs k))] [] τ' := by
              intro j' τ' hj' hs3 hgl' hp
              refine hG.jp rfl rfl rfl ?_
              rw [nI_1]
              exact ih (k + 1) j' τ' _ (by omega) hj' (hs1.tr (hs3.mono (by simp))) (hs2.tr hs3) hgl' (by rw [he, hp]; rfl)
            have found : P k = true → X Γ 98 [some (.inr 0), some (.inl (nI 0)), some (.inr 70), some (.inl (nI j)), some (.inl (nI k)), some (.inl (cs k))] [] τ := by
              intro hp
              refine hG.rt hR rfl rfl rfl rfl ?_
              exact ⟨by rw [he, hp]; rfl, hs1, hSt⟩
            refine hG.cS lk_W_70 mi_W_isName rfl rfl (c_W_isName (cs k)) rfl rfl rfl rfl rfl rfl ?_
            rintro x τ1 ⟨rfl, rfl⟩
            refine hG.br rfl rfl rfl rfl (fun k4 => ?_) (fun k4 => ?_)
            · have k4 := bi_ne0.mp k4
              refine hG.cV lk_W_163 mi_V_isClear rfl rfl (c_V_isClear32 (cs k) (f 2) hSt.rv hght) rfl rfl rfl rfl rfl rfl rfl rfl ?_
              rintro x τ1 ⟨rfl, rfl⟩
              refine hG.br rfl rfl rfl rfl (fun k5 => ?_) (fun k5 => ?_)
              · exact found (by rw [hPk, k4, bi_eq0.mp k5]; rfl)
              · have k5 := bi_ne0.mp k5
                refine hG.cV lk_W_219 mi_W_isNearGiven rfl rfl (c_W_isNearGiven (cs k) j (by omega) hSt) rfl rfl rfl rfl rfl rfl rfl rfl ?_
                rintro x τ1 ⟨rfl, rfl⟩
                rw [hgl]
                have eer : erlB (nearT f t) cs k = !allB (fun i => !(inB (cs i) 0 124 && nearT f t (nrIx (cs k) (cs i)))) 0 k := rfl
                rw [← eer]
                refine hG.br rfl rfl rfl rfl (fun k6 => ?_) (fun k6 => ?_)
                · refine hG.sti rfl j rfl rfl rfl rfl (by omega) ?_
                  refine hG.go 1 rfl rfl ?_
                  rw [nI_1]
                  refine next (j + 1) _ (by omega) (Sm.rf.up (by decide)) (fun nm => ?_) (by rw [hPk, k4, k5, bi_eq0.mp k6]; rfl)
                  rw [allB_snoc, allB_snoc, ← hgl nm, Nat.zero_add, Nat.zero_add, up_self, k4, Bool.true_and]
                  congr 1
                  exact allB_congr _ _ (fun i _ h2 => by rw [up_j _ _ _ _ (by omega)])
                · exact found (by rw [hPk, k4, bi_ne0.mp k6]; simp)
            · have k4 := bi_eq0.mp k4
              refine hG.go 1 rfl rfl (next j τ1 (by omega) Sm.rf (fun nm => ?_) (by rw [hPk, k4]; rfl))
              rw [allB_snoc, ← hgl nm, Nat.zero_add, k4]; simp
      exact hG.go 4 rfl rfl (loop Z 0 0 τ0 none (by omega) (by omega) hh1 Sm.rf (fun nm => rfl) rfl)
    · rw [a0] at h2
      rw [if_pos (so_eq h2)] at hR
      refine hG.rt hR rfl rfl rfl rfl ?_
      exact ⟨rfl, Sm.rf, hS⟩
  · exact absurd (bi_eq0.mp h1) (by decide)
theorem o_W_line1 (hS : SV σ f n c t y) (hH : SH σ so sz ce) (hs : SOk so sz) : Ci l θ 5 m_W_line [.inr 0, .inl (nI 1)] σ (fun r σ' => r = lineR f so sz ce n t (nI 1) ∧ Sm [32, 40, 94] σ σ' ∧ SV σ' f n c t y) := by
  obtain ⟨hso, Z, hZ, hsz⟩ := hs 1 (by omega)
  have a0 : σ 72 0 = so 1 := (hH 1 (by omega)).1
  have a1 : σ 72 1 = nI Z := (hH 1 (by omega)).2.1.trans hsz
  have ac : ∀ j, j < 24 → σ 73 j = ce (24 * 1 + j) := (hH 1 (by omega)).2.2
  generalize hcs : (fun k => ce (24 * 1 + k)) = cs
  have ecs : ∀ k, ce (24 * 1 + k) = cs k := fun k => by rw [← hcs]
  generalize hP : (fun k => inB (cs k) 0 124 && (!freeG (nearT f t) f n (cs k) (f 2) || erlB (nearT f t) cs k)) = P
  have hg : lineR f so sz ce n t (nI 1) = if so 1 < 0 then -1000000011 else optN (-1000000005) (fndB P 0 Z) := by
    rw [lineR, show inB (nI 1) 0 3 = true by decide, if_pos rfl, nI_clamp (by omega), hsz, nI_clamp (by omega), hcs, lineF, hP]
  rw [hg]
  have ey := hS.rv.y
  refine Ci.of (Or.inl mi_W_line) pk_W_line (nb rfl) (Or.inl rfl) [some (.inr 0), some (.inl (nI 1)), none, none, none, none] rfl fun Γ hG hR => ?_
  refine hG.cS lk_W_206 mi_W_isSheet rfl rfl (c_W_isSheet (nI 1)) rfl rfl rfl rfl rfl rfl ?_
  rintro x σ' ⟨rfl, rfl⟩
  refine hG.br rfl rfl rfl rfl (fun h1 => ?_) (fun h1 => ?_)
  · refine hG.lda rfl 1 rfl rfl rfl (Or.inr (Or.inl rfl)) rfl (by decide) rfl ?_
    refine hG.br rfl rfl rfl rfl (fun h2 => ?_) (fun h2 => ?_)
    · rw [a0] at h2
      rw [if_neg (so_ne hso h2)] at hR
      refine hG.cVv lk_W_159 mi_V_gatherHeld rfl rfl (c_V_gatherHeld32 _ hS.n10 hS.rv) rfl rfl rfl rfl rfl rfl rfl rfl ?_
      rintro τ0 ⟨hh, hgh⟩
      rw [ey] at hgh
      have hS0 := hS.hm hh
      have hh1 : Sm [32, 40, 94] σ' τ0 := hh.1.mono (by simp)
      have loop : ∀ m k (j : Nat) (τ : Sg) (w5 : Option AV), k + m = Z → j ≤ k → Sm [32, 40, 94] σ' τ → Sm [94] τ0 τ → (∀ nm, allB (fun i => !nearT f t (nrIx nm (τ 94 i))) 0 j = allB (fun i => !(inB (cs i) 0 124 && nearT f t (nrIx nm (cs i)))) 0 k) → fndB P 0 Z = fndB P k m → X Γ 47 [some (.inr 0), some (.inl (nI 1)), some (.inr 72), some (.inl (nI j)), some (.inl (nI k)), w5] [] τ := by
        intro m
        induction m with
        | zero =>
          intro k j τ w5 hk hj hs1 hs2 hgl he
          have hSt : SV τ f n c t y := hS0.sm hs2 (fun k h1 h2 => by simp; omega)
          refine hG.br rfl rfl rfl rfl (fun k3 => ?_) (fun k3 => ?_)
          · refine hG.rt hR rfl rfl rfl rfl ?_
            exact ⟨by rw [he]; rfl, hs1, hSt⟩
          · exact absurd (by rw [hs1 72 (by decide), a1]; exact nI_le (show Z ≤ k by omega) (by omega)) k3
        | succ m ih =>
          intro k j τ w5 hk hj hs1 hs2 hgl he
          have hSt : SV τ f n c t y := hS0.sm hs2 (fun k h1 h2 => by simp; omega)
          have hght : GH τ 32 f n (f 2) := by
            obtain ⟨m', q1, q2, q3⟩ := hgh
            exact ⟨m', q1, by rw [hs2 32 (by decide)]; exact q2, fun g nm => by rw [hs2 40 (by decide)]; exact q3 g nm⟩
          rw [fndB_s _ _ m] at he
          have hPk : P k = (inB (cs k) 0 124 && (!freeG (nearT f t) f n (cs k) (f 2) || erlB (nearT f t) cs k)) := by rw [← hP]
          have ec : τ 73 k = cs k := by rw [hs1 73 (by decide), ac k (by omega), ecs]
          refine hG.br rfl rfl rfl rfl (fun k3 => ?_) (fun k3 => ?_)
          · rw [hs1 72 (by decide), a1] at k3; exact absurd k3 (nI_ge (by omega) (by omega))
          · refine hG.ld rfl k rfl rfl rfl rfl rfl (by omega) ?_
            rw [ec]
            have next : ∀ (j' : Nat) (τ' : Sg), j' ≤ k + 1 → Sm [94] τ τ' → (∀ nm, allB (fun i => !nearT f t (nrIx nm (τ' 94 i))) 0 j' = allB (fun i => !(inB (cs i) 0 124 && nearT f t (nrIx nm (cs i)))) 0 (k + 1)) → P k = false → X Γ 112 [some (.inr 0), some (.inl (nI 1)), some (.inr 72), some (.inl (nI j')), some (.inl (nI k)), some (.inl (cs k))] [] τ' := by
              intro j' τ' hj' hs3 hgl' hp
              refine hG.jp rfl rfl rfl ?_
              rw [nI_1]
              exact ih (k + 1) j' τ' _ (by omega) hj' (hs1.tr (hs3.mono (by simp))) (hs2.tr hs3) hgl' (by rw [he, hp]; rfl)
            have found : P k = true → X Γ 98 [some (.inr 0), some (.inl (nI 1)), some (.inr 72), some (.inl (nI j)), some (.inl (nI k)), some (.inl (cs k))] [] τ := by
              intro hp
              refine hG.rt hR rfl rfl rfl rfl ?_
              exact ⟨by rw [he, hp]; rfl, hs1, hSt⟩
            refine hG.cS lk_W_70 mi_W_isName rfl rfl (c_W_isName (cs k)) rfl rfl rfl rfl rfl rfl ?_
            rintro x τ1 ⟨rfl, rfl⟩
            refine hG.br rfl rfl rfl rfl (fun k4 => ?_) (fun k4 => ?_)
            · have k4 := bi_ne0.mp k4
              refine hG.cV lk_W_163 mi_V_isClear rfl rfl (c_V_isClear32 (cs k) (f 2) hSt.rv hght) rfl rfl rfl rfl rfl rfl rfl rfl ?_
              rintro x τ1 ⟨rfl, rfl⟩
              refine hG.br rfl rfl rfl rfl (fun k5 => ?_) (fun k5 => ?_)
              · exact found (by rw [hPk, k4, bi_eq0.mp k5]; rfl)
              · have k5 := bi_ne0.mp k5
                refine hG.cV lk_W_219 mi_W_isNearGiven rfl rfl (c_W_isNearGiven (cs k) j (by omega) hSt) rfl rfl rfl rfl rfl rfl rfl rfl ?_
                rintro x τ1 ⟨rfl, rfl⟩
                rw [hgl]
                have eer : erlB (nearT f t) cs k = !allB (fun i => !(inB (cs i) 0 124 && nearT f t (nrIx (cs k) (cs i)))) 0 k := rfl
                rw [← eer]
                refine hG.br rfl rfl rfl rfl (fun k6 => ?_) (fun k6 => ?_)
                · refine hG.sti rfl j rfl rfl rfl rfl (by omega) ?_
                  refine hG.go 1 rfl rfl ?_
                  rw [nI_1]
                  refine next (j + 1) _ (by omega) (Sm.rf.up (by decide)) (fun nm => ?_) (by rw [hPk, k4, k5, bi_eq0.mp k6]; rfl)
                  rw [allB_snoc, allB_snoc, ← hgl nm, Nat.zero_add, Nat.zero_add, up_self, k4, Bool.true_and]
                  congr 1
                  exact allB_congr _ _ (fun i _ h2 => by rw [up_j _ _ _ _ (by omega)])
                · exact found (by rw [hPk, k4, bi_ne0.mp k6]; simp)
            · have k4 := bi_eq0.mp k4
              refine hG.go 1 rfl rfl (next j τ1 (by omega) Sm.rf (fun nm => ?_) (by rw [hPk, k4]; rfl))
              rw [allB_snoc, ← hgl nm, Nat.zero_add, k4]; simp
      exact hG.go 4 rfl rfl (loop Z 0 0 τ0 none (by omega) (by omega) hh1 Sm.rf (fun nm => rfl) rfl)
    · rw [a0] at h2
      rw [if_pos (so_eq h2)] at hR
      refine hG.rt hR rfl rfl rfl rfl ?_
      exact ⟨rfl, Sm.rf, hS⟩
  · exact absurd (bi_eq0.mp h1) (by decide)
theorem o_W_line2 (hS : SV σ f n c t y) (hH : SH σ so sz ce) (hs : SOk so sz) : Ci l θ 5 m_W_line [.inr 0, .inl (nI 2)] σ (fun r σ' => r = lineR f so sz ce n t (nI 2) ∧ Sm [32, 40, 94] σ σ' ∧ SV σ' f n c t y) := by
  obtain ⟨hso, Z, hZ, hsz⟩ := hs 2 (by omega)
  have a0 : σ 74 0 = so 2 := (hH 2 (by omega)).1
  have a1 : σ 74 1 = nI Z := (hH 2 (by omega)).2.1.trans hsz
  have ac : ∀ j, j < 24 → σ 75 j = ce (24 * 2 + j) := (hH 2 (by omega)).2.2
  generalize hcs : (fun k => ce (24 * 2 + k)) = cs
  have ecs : ∀ k, ce (24 * 2 + k) = cs k := fun k => by rw [← hcs]
  generalize hP : (fun k => inB (cs k) 0 124 && (!freeG (nearT f t) f n (cs k) (f 2) || erlB (nearT f t) cs k)) = P
  have hg : lineR f so sz ce n t (nI 2) = if so 2 < 0 then -1000000011 else optN (-1000000005) (fndB P 0 Z) := by
    rw [lineR, show inB (nI 2) 0 3 = true by decide, if_pos rfl, nI_clamp (by omega), hsz, nI_clamp (by omega), hcs, lineF, hP]
  rw [hg]
  have ey := hS.rv.y
  refine Ci.of (Or.inl mi_W_line) pk_W_line (nb rfl) (Or.inl rfl) [some (.inr 0), some (.inl (nI 2)), none, none, none, none] rfl fun Γ hG hR => ?_
  refine hG.cS lk_W_206 mi_W_isSheet rfl rfl (c_W_isSheet (nI 2)) rfl rfl rfl rfl rfl rfl ?_
  rintro x σ' ⟨rfl, rfl⟩
  refine hG.br rfl rfl rfl rfl (fun h1 => ?_) (fun h1 => ?_)
  · refine hG.lda rfl 2 rfl rfl rfl (Or.inr (Or.inl rfl)) rfl (by decide) rfl ?_
    refine hG.br rfl rfl rfl rfl (fun h2 => ?_) (fun h2 => ?_)
    · rw [a0] at h2
      rw [if_neg (so_ne hso h2)] at hR
      refine hG.cVv lk_W_159 mi_V_gatherHeld rfl rfl (c_V_gatherHeld32 _ hS.n10 hS.rv) rfl rfl rfl rfl rfl rfl rfl rfl ?_
      rintro τ0 ⟨hh, hgh⟩
      rw [ey] at hgh
      have hS0 := hS.hm hh
      have hh1 : Sm [32, 40, 94] σ' τ0 := hh.1.mono (by simp)
      have loop : ∀ m k (j : Nat) (τ : Sg) (w5 : Option AV), k + m = Z → j ≤ k → Sm [32, 40, 94] σ' τ → Sm [94] τ0 τ → (∀ nm, allB (fun i => !nearT f t (nrIx nm (τ 94 i))) 0 j = allB (fun i => !(inB (cs i) 0 124 && nearT f t (nrIx nm (cs i)))) 0 k) → fndB P 0 Z = fndB P k m → X Γ 47 [some (.inr 0), some (.inl (nI 2)), some (.inr 74), some (.inl (nI j)), some (.inl (nI k)), w5] [] τ := by
        intro m
        induction m with
        | zero =>
          intro k j τ w5 hk hj hs1 hs2 hgl he
          have hSt : SV τ f n c t y := hS0.sm hs2 (fun k h1 h2 => by simp; omega)
          refine hG.br rfl rfl rfl rfl (fun k3 => ?_) (fun k3 => ?_)
          · refine hG.rt hR rfl rfl rfl rfl ?_
            exact ⟨by rw [he]; rfl, hs1, hSt⟩
          · exact absurd (by rw [hs1 74 (by decide), a1]; exact nI_le (show Z ≤ k by omega) (by omega)) k3
        | succ m ih =>
          intro k j τ w5 hk hj hs1 hs2 hgl he
          have hSt : SV τ f n c t y := hS0.sm hs2 (fun k h1 h2 => by simp; omega)
          have hght : GH τ 32 f n (f 2) := by
            obtain ⟨m', q1, q2, q3⟩ := hgh
            exact ⟨m', q1, by rw [hs2 32 (by decide)]; exact q2, fun g nm => by rw [hs2 40 (by decide)]; exact q3 g nm⟩
          rw [fndB_s _ _ m] at he
          have hPk : P k = (inB (cs k) 0 124 && (!freeG (nearT f t) f n (cs k) (f 2) || erlB (nearT f t) cs k)) := by rw [← hP]
          have ec : τ 75 k = cs k := by rw [hs1 75 (by decide), ac k (by omega), ecs]
          refine hG.br rfl rfl rfl rfl (fun k3 => ?_) (fun k3 => ?_)
          · rw [hs1 74 (by decide), a1] at k3; exact absurd k3 (nI_ge (by omega) (by omega))
          · refine hG.ld rfl k rfl rfl rfl rfl rfl (by omega) ?_
            rw [ec]
            have next : ∀ (j' : Nat) (τ' : Sg), j' ≤ k + 1 → Sm [94] τ τ' → (∀ nm, allB (fun i => !nearT f t (nrIx nm (τ' 94 i))) 0 j' = allB (fun i => !(inB (cs i) 0 124 && nearT f t (nrIx nm (cs i)))) 0 (k + 1)) → P k = false → X Γ 112 [some (.inr 0), some (.inl (nI 2)), some (.inr 74), some (.inl (nI j')), some (.inl (nI k)), some (.inl (cs k))] [] τ' := by
              intro j' τ' hj' hs3 hgl' hp
              refine hG.jp rfl rfl rfl ?_
              rw [nI_1]
              exact ih (k + 1) j' τ' _ (by omega) hj' (hs1.tr (hs3.mono (by simp))) (hs2.tr hs3) hgl' (by rw [he, hp]; rfl)
            have found : P k = true → X Γ 98 [some (.inr 0), some (.inl (nI 2)), some (.inr 74), some (.inl (nI j)), some (.inl (nI k)), some (.inl (cs k))] [] τ := by
              intro hp
              refine hG.rt hR rfl rfl rfl rfl ?_
              exact ⟨by rw [he, hp]; rfl, hs1, hSt⟩
            refine hG.cS lk_W_70 mi_W_isName rfl rfl (c_W_isName (cs k)) rfl rfl rfl rfl rfl rfl ?_
            rintro x τ1 ⟨rfl, rfl⟩
            refine hG.br rfl rfl rfl rfl (fun k4 => ?_) (fun k4 => ?_)
            · have k4 := bi_ne0.mp k4
              refine hG.cV lk_W_163 mi_V_isClear rfl rfl (c_V_isClear32 (cs k) (f 2) hSt.rv hght) rfl rfl rfl rfl rfl rfl rfl rfl ?_
              rintro x τ1 ⟨rfl, rfl⟩
              refine hG.br rfl rfl rfl rfl (fun k5 => ?_) (fun k5 => ?_)
              · exact found (by rw [hPk, k4, bi_eq0.mp k5]; rfl)
              · have k5 := bi_ne0.mp k5
                refine hG.cV lk_W_219 mi_W_isNearGiven rfl rfl (c_W_isNearGiven (cs k) j (by omega) hSt) rfl rfl rfl rfl rfl rfl rfl rfl ?_
                rintro x τ1 ⟨rfl, rfl⟩
                rw [hgl]
                have eer : erlB (nearT f t) cs k = !allB (fun i => !(inB (cs i) 0 124 && nearT f t (nrIx (cs k) (cs i)))) 0 k := rfl
                rw [← eer]
                refine hG.br rfl rfl rfl rfl (fun k6 => ?_) (fun k6 => ?_)
                · refine hG.sti rfl j rfl rfl rfl rfl (by omega) ?_
                  refine hG.go 1 rfl rfl ?_
                  rw [nI_1]
                  refine next (j + 1) _ (by omega) (Sm.rf.up (by decide)) (fun nm => ?_) (by rw [hPk, k4, k5, bi_eq0.mp k6]; rfl)
                  rw [allB_snoc, allB_snoc, ← hgl nm, Nat.zero_add, Nat.zero_add, up_self, k4, Bool.true_and]
                  congr 1
                  exact allB_congr _ _ (fun i _ h2 => by rw [up_j _ _ _ _ (by omega)])
                · exact found (by rw [hPk, k4, bi_ne0.mp k6]; simp)
            · have k4 := bi_eq0.mp k4
              refine hG.go 1 rfl rfl (next j τ1 (by omega) Sm.rf (fun nm => ?_) (by rw [hPk, k4]; rfl))
              rw [allB_snoc, ← hgl nm, Nat.zero_add, k4]; simp
      exact hG.go 4 rfl rfl (loop Z 0 0 τ0 none (by omega) (by omega) hh1 Sm.rf (fun nm => rfl) rfl)
    · rw [a0] at h2
      rw [if_pos (so_eq h2)] at hR
      refine hG.rt hR rfl rfl rfl rfl ?_
      exact ⟨rfl, Sm.rf, hS⟩
  · exact absurd (bi_eq0.mp h1) (by decide)
theorem o_W_line3 (hS : SV σ f n c t y) (hH : SH σ so sz ce) (hs : SOk so sz) : Ci l θ 5 m_W_line [.inr 0, .inl (nI 3)] σ (fun r σ' => r = lineR f so sz ce n t (nI 3) ∧ Sm [32, 40, 94] σ σ' ∧ SV σ' f n c t y) := by
  obtain ⟨hso, Z, hZ, hsz⟩ := hs 3 (by omega)
  have a0 : σ 76 0 = so 3 := (hH 3 (by omega)).1
  have a1 : σ 76 1 = nI Z := (hH 3 (by omega)).2.1.trans hsz
  have ac : ∀ j, j < 24 → σ 77 j = ce (24 * 3 + j) := (hH 3 (by omega)).2.2
  generalize hcs : (fun k => ce (24 * 3 + k)) = cs
  have ecs : ∀ k, ce (24 * 3 + k) = cs k := fun k => by rw [← hcs]
  generalize hP : (fun k => inB (cs k) 0 124 && (!freeG (nearT f t) f n (cs k) (f 2) || erlB (nearT f t) cs k)) = P
  have hg : lineR f so sz ce n t (nI 3) = if so 3 < 0 then -1000000011 else optN (-1000000005) (fndB P 0 Z) := by
    rw [lineR, show inB (nI 3) 0 3 = true by decide, if_pos rfl, nI_clamp (by omega), hsz, nI_clamp (by omega), hcs, lineF, hP]
  rw [hg]
  have ey := hS.rv.y
  refine Ci.of (Or.inl mi_W_line) pk_W_line (nb rfl) (Or.inl rfl) [some (.inr 0), some (.inl (nI 3)), none, none, none, none] rfl fun Γ hG hR => ?_
  refine hG.cS lk_W_206 mi_W_isSheet rfl rfl (c_W_isSheet (nI 3)) rfl rfl rfl rfl rfl rfl ?_
  rintro x σ' ⟨rfl, rfl⟩
  refine hG.br rfl rfl rfl rfl (fun h1 => ?_) (fun h1 => ?_)
  · refine hG.lda rfl 3 rfl rfl rfl (Or.inr (Or.inl rfl)) rfl (by decide) rfl ?_
    refine hG.br rfl rfl rfl rfl (fun h2 => ?_) (fun h2 => ?_)
    · rw [a0] at h2
      rw [if_neg (so_ne hso h2)] at hR
      refine hG.cVv lk_W_159 mi_V_gatherHeld rfl rfl (c_V_gatherHeld32 _ hS.n10 hS.rv) rfl rfl rfl rfl rfl rfl rfl rfl ?_
      rintro τ0 ⟨hh, hgh⟩
      rw [ey] at hgh
      have hS0 := hS.hm hh
      have hh1 : Sm [32, 40, 94] σ' τ0 := hh.1.mono (by simp)
      have loop : ∀ m k (j : Nat) (τ : Sg) (w5 : Option AV), k + m = Z → j ≤ k → Sm [32, 40, 94] σ' τ → Sm [94] τ0 τ → (∀ nm, allB (fun i => !nearT f t (nrIx nm (τ 94 i))) 0 j = allB (fun i => !(inB (cs i) 0 124 && nearT f t (nrIx nm (cs i)))) 0 k) → fndB P 0 Z = fndB P k m → X Γ 47 [some (.inr 0), some (.inl (nI 3)), some (.inr 76), some (.inl (nI j)), some (.inl (nI k)), w5] [] τ := by
        intro m
        induction m with
        | zero =>
          intro k j τ w5 hk hj hs1 hs2 hgl he
          have hSt : SV τ f n c t y := hS0.sm hs2 (fun k h1 h2 => by simp; omega)
          refine hG.br rfl rfl rfl rfl (fun k3 => ?_) (fun k3 => ?_)
          · refine hG.rt hR rfl rfl rfl rfl ?_
            exact ⟨by rw [he]; rfl, hs1, hSt⟩
          · exact absurd (by rw [hs1 76 (by decide), a1]; exact nI_le (show Z ≤ k by omega) (by omega)) k3
        | succ m ih =>
          intro k j τ w5 hk hj hs1 hs2 hgl he
          have hSt : SV τ f n c t y := hS0.sm hs2 (fun k h1 h2 => by simp; omega)
          have hght : GH τ 32 f n (f 2) := by
            obtain ⟨m', q1, q2, q3⟩ := hgh
            exact ⟨m', q1, by rw [hs2 32 (by decide)]; exact q2, fun g nm => by rw [hs2 40 (by decide)]; exact q3 g nm⟩
          rw [fndB_s _ _ m] at he
          have hPk : P k = (inB (cs k) 0 124 && (!freeG (nearT f t) f n (cs k) (f 2) || erlB (nearT f t) cs k)) := by rw [← hP]
          have ec : τ 77 k = cs k := by rw [hs1 77 (by decide), ac k (by omega), ecs]
          refine hG.br rfl rfl rfl rfl (fun k3 => ?_) (fun k3 => ?_)
          · rw [hs1 76 (by decide), a1] at k3; exact absurd k3 (nI_ge (by omega) (by omega))
          · refine hG.ld rfl k rfl rfl rfl rfl rfl (by omega) ?_
            rw [ec]
            have next : ∀ (j' : Nat) (τ' : Sg), j' ≤ k + 1 → Sm [94] τ τ' → (∀ nm, allB (fun i => !nearT f t (nrIx nm (τ' 94 i))) 0 j' = allB (fun i => !(inB (cs i) 0 124 && nearT f t (nrIx nm (cs i)))) 0 (k + 1)) → P k = false → X Γ 112 [some (.inr 0), some (.inl (nI 3)), some (.inr 76), some (.inl (nI j')), some (.inl (nI k)), some (.inl (cs k))] [] τ' := by
              intro j' τ' hj' hs3 hgl' hp
              refine hG.jp rfl rfl rfl ?_
              rw [nI_1]
              exact ih (k + 1) j' τ' _ (by omega) hj' (hs1.tr (hs3.mono (by simp))) (hs2.tr hs3) hgl' (by rw [he, hp]; rfl)
            have found : P k = true → X Γ 98 [some (.inr 0), some (.inl (nI 3)), some (.inr 76), some (.inl (nI j)), some (.inl (nI k)), some (.inl (cs k))] [] τ := by
              intro hp
              refine hG.rt hR rfl rfl rfl rfl ?_
              exact ⟨by rw [he, hp]; rfl, hs1, hSt⟩
            refine hG.cS lk_W_70 mi_W_isName rfl rfl (c_W_isName (cs k)) rfl rfl rfl rfl rfl rfl ?_
            rintro x τ1 ⟨rfl, rfl⟩
            refine hG.br rfl rfl rfl rfl (fun k4 => ?_) (fun k4 => ?_)
            · have k4 := bi_ne0.mp k4
              refine hG.cV lk_W_163 mi_V_isClear rfl rfl (c_V_isClear32 (cs k) (f 2) hSt.rv hght) rfl rfl rfl rfl rfl rfl rfl rfl ?_
              rintro x τ1 ⟨rfl, rfl⟩
              refine hG.br rfl rfl rfl rfl (fun k5 => ?_) (fun k5 => ?_)
              · exact found (by rw [hPk, k4, bi_eq0.mp k5]; rfl)
              · have k5 := bi_ne0.mp k5
                refine hG.cV lk_W_219 mi_W_isNearGiven rfl rfl (c_W_isNearGiven (cs k) j (by omega) hSt) rfl rfl rfl rfl rfl rfl rfl rfl ?_
                rintro x τ1 ⟨rfl, rfl⟩
                rw [hgl]
                have eer : erlB (nearT f t) cs k = !allB (fun i => !(inB (cs i) 0 124 && nearT f t (nrIx (cs k) (cs i)))) 0 k := rfl
                rw [← eer]
                refine hG.br rfl rfl rfl rfl (fun k6 => ?_) (fun k6 => ?_)
                · refine hG.sti rfl j rfl rfl rfl rfl (by omega) ?_
                  refine hG.go 1 rfl rfl ?_
                  rw [nI_1]
                  refine next (j + 1) _ (by omega) (Sm.rf.up (by decide)) (fun nm => ?_) (by rw [hPk, k4, k5, bi_eq0.mp k6]; rfl)
                  rw [allB_snoc, allB_snoc, ← hgl nm, Nat.zero_add, Nat.zero_add, up_self, k4, Bool.true_and]
                  congr 1
                  exact allB_congr _ _ (fun i _ h2 => by rw [up_j _ _ _ _ (by omega)])
                · exact found (by rw [hPk, k4, bi_ne0.mp k6]; simp)
            · have k4 := bi_eq0.mp k4
              refine hG.go 1 rfl rfl (next j τ1 (by omega) Sm.rf (fun nm => ?_) (by rw [hPk, k4]; rfl))
              rw [allB_snoc, ← hgl nm, Nat.zero_add, k4]; simp
      exact hG.go 4 rfl rfl (loop Z 0 0 τ0 none (by omega) (by omega) hh1 Sm.rf (fun nm => rfl) rfl)
    · rw [a0] at h2
      rw [if_pos (so_eq h2)] at hR
      refine hG.rt hR rfl rfl rfl rfl ?_
      exact ⟨rfl, Sm.rf, hS⟩
  · exact absurd (bi_eq0.mp h1) (by decide)
theorem o_W_line (s : Int32) (hS : SV σ f n c t y) (hH : SH σ so sz ce) (hs : SOk so sz) : Ci l θ 5 m_W_line [.inr 0, .inl s] σ (fun r σ' => r = lineR f so sz ce n t s ∧ Sm [32, 40, 94] σ σ' ∧ SV σ' f n c t y) := by
  cases hb : inB s 0 3 with
  | false =>
    have eg : lineR f so sz ce n t s = -1000000001 := by rw [lineR, hb]; rfl
    rw [eg]
    refine Ci.of (Or.inl mi_W_line) pk_W_line (nb rfl) (Or.inl rfl) [some (.inr 0), some (.inl s), none, none, none, none] rfl fun Γ hG hR => ?_
    refine hG.cS lk_W_206 mi_W_isSheet rfl rfl (c_W_isSheet s) rfl rfl rfl rfl rfl rfl ?_
    rintro x σ' ⟨rfl, rfl⟩
    refine hG.br rfl rfl rfl rfl (fun h1 => ?_) (fun h1 => ?_)
    · exact absurd (bi_ne0.mp h1) (by rw [hb]; decide)
    · refine hG.rt hR rfl rfl rfl rfl ?_
      exact ⟨rfl, Sm.rf, hS⟩
  | true =>
    obtain ⟨S, hS', rfl⟩ := (inB_nI (m := 3) (by omega)).mp hb
    rcases (by omega : S = 0 ∨ S = 1 ∨ S = 2 ∨ S = 3) with rfl | rfl | rfl | rfl
    · exact o_W_line0 hS hH hs
    · exact o_W_line1 hS hH hs
    · exact o_W_line2 hS hH hs
    · exact o_W_line3 hS hH hs
end
