theorem chkL_le (te : Nat → Int32) (many n t : Nat) : ∀ (m k : Nat) (f : Nat → Int32), 2 * k ≤ chkL te many n t f k m ∧ chkL te many n t f k m ≤ 2 * (k + m)
  | 0, k, f => by simp [chkL]
  | m + 1, k, f => by
    have ih := chkL_le te many n t m (k + 1) (yearF f n t).1
    rw [chkL]
    split
    · split <;> omega
    · omega
theorem i32_p0 (x : Int32) : x + 0 = x := Int32.add_zero x
section
variable {l : Launch} {θ : Th} {σ : Sg} {n c t y : Nat}
theorem o_M_check (k : Int32) (W : Nat) (h : Bool) (hW : σ 95 37 = nI W) (hW60 : W ≤ 60) (hh : σ 95 3 = bi h) (hf : h = true → FOk (σ 97) n c t y ∧ y ≤ 9999) : Ci l θ 7 m_M_check [.inr 95, .inl k] σ (fun r σ' => r = chkR (σ 119) W n t y (mix (σ 97) (σ 96)) h k ∧ Sm [98, 99, 109, 110] (up σ 95 37 0) σ') := by
  refine Ci.of (Or.inl mi_M_check) pk_M_check (nb rfl) (Or.inl rfl) [some (.inr 95), some (.inl k), none, none, none, none, none] rfl fun Γ hG hR => ?_
  refine hG.cS lk_M_84 mi_M_in rfl rfl (c_M_in k 1 30) rfl rfl rfl rfl rfl rfl ?_
  rintro x σ0 ⟨rfl, rfl⟩
  rw [hW]
  refine hG.br rfl rfl rfl rfl (fun k1 => ?_) (fun k1 => ?_)
  · obtain ⟨K, hK1, hK2, rfl⟩ := inB_ab 1 30 (by omega) (by omega) (bi_ne0.mp k1)
    refine hG.br rfl rfl rfl rfl (fun k2 => ?_) (fun k2 => ?_)
    · rw [up_j _ _ _ _ (show 3 ≠ 37 by decide), hh] at k2
      have hb := bi_ne0.mp k2
      obtain ⟨hf, hy⟩ := hf hb
      generalize hM : min K (9999 - y) = M
      have hg : chkR (σ 119) W n t y (mix (σ 97) (σ 96)) h (nI K) = if chkL (σ 119) W n t (mix (σ 97) (σ 96)) 0 M = W ∧ chkL (σ 119) W n t (mix (σ 97) (σ 96)) 0 M = 2 * M then 0 else nI (1 + chkL (σ 119) W n t (mix (σ 97) (σ 96)) 0 M) := by
        rw [chkR, bi_ne0.mp k1, if_pos rfl, hb, if_pos rfl, nI_clamp (by omega), hM]
      refine hG.cSv lk_M_281 mi_M_copyAll rfl rfl (c_M_copyAll 96 98 rfl rfl (by decide)) rfl rfl rfl rfl rfl rfl ?_
      rintro τ1 rfl
      refine hG.cSv lk_M_281 mi_M_copyAll rfl rfl (c_M_copyAll 97 96 rfl rfl (by decide)) rfl rfl rfl rfl rfl rfl ?_
      rintro τ2 rfl
      generalize hτ1 : upc (up σ 95 37 0) 98 (fun k => if k < 1430 then up σ 95 37 0 96 k else up σ 95 37 0 98 k) = τ1
      have e197 : τ1 97 = σ 97 := by rw [← hτ1, upc_c _ _ _ (by decide), up_c _ _ _ _ (by decide)]
      have e196 : τ1 96 = σ 96 := by rw [← hτ1, upc_c _ _ _ (by decide), up_c _ _ _ _ (by decide)]
      have e198 : τ1 98 = mix (σ 96) (σ 98) := by rw [← hτ1, upc_same, up_c _ _ _ _ (by decide), up_c _ _ _ _ (by decide)]; rfl
      have hS1 : Sm [96, 98, 99, 109, 110] (up σ 95 37 0) τ1 := by rw [← hτ1]; exact Sm.rf.upc (by decide)
      have e2 : upc τ1 96 (fun k => if k < 1430 then τ1 97 k else τ1 96 k) = upc τ1 96 (mix (σ 97) (σ 96)) := by rw [e197, e196]; rfl
      rw [e2]
      have hf2 : FOk (mix (σ 97) (σ 96)) n c t y := FOk_congr hf (fun k hk => mix_lt hk)
      have hS2 : Sm [96, 98, 99, 109, 110] (up σ 95 37 0) (upc τ1 96 (mix (σ 97) (σ 96))) := hS1.upc (by decide)
      refine hG.cVv lk_M_137 mi_M_findNears rfl rfl (c_M_findNears t (by rw [upc_same]; exact hf2.2.2.2.2.1) hf2.2.2.2.2.2.1 (by rw [upc_same]; exact hf2.2.2.2.2.2.2.2.2.1)) rfl rfl rfl rfl rfl rfl rfl rfl ?_
      rintro τ3 ⟨hS3, hN3⟩
      rw [upc_same] at hN3
      have e396 : τ3 96 = mix (σ 97) (σ 96) := by rw [hS3 96 (by decide), upc_same]
      have e398 : τ3 98 = mix (σ 96) (σ 98) := by rw [hS3 98 (by decide), upc_c _ _ _ (by decide), e198]
      have hS4 : Sm [96, 98, 99, 109, 110] (up σ 95 37 0) τ3 := hS2.tr (hS3.mono (by decide))
      have fin : ∀ (R j : Nat) (w : Option AV) (τ : Sg), R = chkL (σ 119) W n t (mix (σ 97) (σ 96)) 0 M → Sm [96, 98, 99, 109, 110] (up σ 95 37 0) τ → τ 98 = mix (σ 96) (σ 98) → (∀ i, 58 ≤ i → τ 96 i = mix (σ 97) (σ 96) i) → X Γ 184 [some (.inr 95), some (.inl (nI K)), some (.inl (nI W)), some (.inl (nI (2 * M))), some (.inl (nI R)), some (.inl (nI j)), w] [] τ := by
        intro R j w τ hR1 hS h98 hhi
        have hRle := (chkL_le (σ 119) W n t M 0 (mix (σ 97) (σ 96))).2
        refine hG.cSv lk_M_281 mi_M_copyAll rfl rfl (c_M_copyAll 98 96 rfl rfl (by decide)) rfl rfl rfl rfl rfl rfl ?_
        rintro τ4 rfl
        have hS5 : Sm [98, 99, 109, 110] (up σ 95 37 0) (upc τ 96 (fun k => if k < 1430 then τ 98 k else τ 96 k)) := Sm.fix 96 (hS.upc (by decide)) (by
          rw [upc_same, up_c _ _ _ _ (show 96 ≠ 95 by decide)]
          funext q
          by_cases hq : q < 1430
          · rw [if_pos hq, h98, mix_lt hq]
          · rw [if_neg hq, hhi q (by omega)]; simp [mix, hq])
        rw [← hR1] at hg
        refine hG.br rfl rfl rfl rfl (fun k3 => ?_) (fun k3 => ?_)
        · rw [if_neg (fun q => k3 (by rw [q.1]))] at hg
          refine hG.rt hR rfl rfl rfl rfl ?_
          exact ⟨by rw [hg]; exact nI_add 1 R, hS5⟩
        · have eR : R = W := (nI_eq (by omega) (by omega)).mp k3
          refine hG.br rfl rfl rfl rfl (fun k4 => ?_) (fun k4 => ?_)
          · rw [if_neg (fun q => k4 (by rw [q.2]))] at hg
            refine hG.rt hR rfl rfl rfl rfl ?_
            exact ⟨by rw [hg]; exact nI_add 1 R, hS5⟩
          · have eM : R = 2 * M := (nI_eq (by omega) (by omega)).mp k4
            rw [if_pos ⟨eR, eM⟩] at hg
            refine hG.rt hR rfl rfl rfl rfl ?_
            exact ⟨hg.symm, hS5⟩
      have loop : ∀ m j, j + m = M → ∀ (τ : Sg) (w : Option AV), Sm [96, 98, 99, 109, 110] (up σ 95 37 0) τ → τ 98 = mix (σ 96) (σ 98) → NT (nearT (τ 96) t) τ → FOk (τ 96) n c t (y + j) → (∀ i, 58 ≤ i → τ 96 i = mix (σ 97) (σ 96) i) → chkL (σ 119) W n t (mix (σ 97) (σ 96)) 0 M = chkL (σ 119) W n t (τ 96) j m → X Γ 84 [some (.inr 95), some (.inl (nI K)), some (.inl (nI W)), some (.inl (nI (2 * M))), some (.inl (nI (2 * j))), some (.inl (nI j)), w] [] τ := by
        intro m
        induction m with
        | zero =>
          intro j hj τ w hS h98 hN hF hhi he
          have he : chkL (σ 119) W n t (mix (σ 97) (σ 96)) 0 M = 2 * j := he
          refine hG.br rfl rfl rfl rfl (fun k3 => ?_) (fun k3 => ?_)
          · exact fin (2 * j) j w τ he.symm hS h98 hhi
          · exact absurd (show nI (2 * M) ≤ 2 * nI j by rw [show (2 : Int32) * nI j = nI (2 * j) from pk_mul 2 j]; exact nI_le (by omega) (by omega)) k3
        | succ m ih =>
          intro j hj τ w hS h98 hN hF hhi he
          rw [show chkL (σ 119) W n t (τ 96) j (m + 1) = if 2 * j < W ∧ σ 119 (2 * j) = nI (sumB (aliveF (yearF (τ 96) n t).1) 0 n) then (if 2 * j + 1 < W ∧ σ 119 (2 * j + 1) = manyF (yearF (τ 96) n t).1 n t then chkL (σ 119) W n t (yearF (τ 96) n t).1 (j + 1) m else 2 * j + 1) else 2 * j from rfl] at he
          refine hG.br rfl rfl rfl rfl (fun k3 => ?_) (fun k3 => ?_)
          · rw [show (2 : Int32) * nI j = nI (2 * j) from pk_mul 2 j] at k3
            exact absurd k3 (nI_ge (by omega) (by omega))
          · refine hG.br rfl rfl rfl rfl (fun k4 => ?_) (fun k4 => ?_)
            · exact absurd (show nI (2 * j) = 2 * nI j from (pk_mul 2 j).symm) k4
            · refine hG.cV lk_M_180 mi_M_year rfl rfl (c_M_yearF hF) rfl rfl rfl rfl rfl rfl rfl rfl ?_
              rintro x τ5 ⟨rfl, g1, hS5⟩
              have hF5 : FOk (τ5 96) n c t (y + (j + 1)) := by rw [g1]; exact FOk_year (y := y + j) hF (by omega)
              have hN5 : NT (nearT (τ5 96) t) τ5 := by rw [g1, nearT_year hF]; intro q hq; rw [hS5 99 (by decide)]; exact hN q hq
              have hS6 := hS.tr (hS5.mono (ds := [96, 98, 99, 109, 110]) (by decide))
              have hhi5 : ∀ i, 58 ≤ i → τ5 96 i = mix (σ 97) (σ 96) i := fun i hi => by rw [g1, yearF_hi hF.2.1 hi]; exact hhi i hi
              have h985 : τ5 98 = mix (σ 96) (σ 98) := by rw [hS5 98 (by decide)]; exact h98
              have e119 : τ5 119 = σ 119 := by rw [hS6 119 (by decide), up_c _ _ _ _ (by decide)]
              rw [← g1] at he
              -- a step that stops
              have stop : ∀ (R : Nat) (w : Option AV), R ≠ 2 * (j + 1) → R ≤ 200 → chkL (σ 119) W n t (mix (σ 97) (σ 96)) 0 M = R → X Γ 84 [some (.inr 95), some (.inl (nI K)), some (.inl (nI W)), some (.inl (nI (2 * M))), some (.inl (nI R)), some (.inl (nI (j + 1))), w] [] τ5 := by
                intro R w hne hle hr
                refine hG.br rfl rfl rfl rfl (fun q3 => ?_) (fun q3 => ?_)
                · exact fin R (j + 1) w τ5 hr.symm hS6 h985 hhi5
                · refine hG.br rfl rfl rfl rfl (fun q4 => ?_) (fun q4 => ?_)
                  · exact fin R (j + 1) w τ5 hr.symm hS6 h985 hhi5
                  · exfalso
                    rw [show (2 : Int32) * nI (j + 1) = nI (2 * (j + 1)) from pk_mul 2 (j + 1)] at q4
                    exact hne ((nI_eq (by omega) (by omega)).mp q4)
              -- the second of the pair
              have j137a : 2 * j < W ∧ σ 119 (2 * j) = nI (sumB (aliveF (τ5 96)) 0 n) → X Γ 134 [some (.inr 95), some (.inl (nI K)), some (.inl (nI W)), some (.inl (nI (2 * M))), some (.inl (nI (2 * j))), some (.inl (nI j)), some (.inl (nI (yearF (τ 96) n t).2))] [.inl 1, .inl (nI (2 * j))] τ5 := by
                intro h1
                rw [if_pos h1] at he
                have no : ¬ (2 * j + 1 < W ∧ σ 119 (2 * j + 1) = manyF (τ5 96) n t) → X Γ 174 [some (.inr 95), some (.inl (nI K)), some (.inl (nI W)), some (.inl (nI (2 * M))), some (.inl (nI (2 * j + 1))), some (.inl (nI j)), some (.inl (nI (yearF (τ 96) n t).2))] [.inl (nI (2 * j + 1))] τ5 := by
                  intro h2
                  rw [if_neg h2] at he
                  refine hG.jp rfl rfl rfl ?_
                  rw [nI_1, show nI (2 * j + 1) + 0 = nI (2 * j + 1 + 0) from nI_add _ 0]
                  exact stop (2 * j + 1) _ (by omega) (by omega) he
                refine hG.br rfl rfl rfl rfl (fun q1 => ?_) (fun q1 => ?_)
                · exact absurd (show nI (2 * j) + 1 = 2 * nI j + 1 by rw [show (2 : Int32) * nI j = nI (2 * j) from pk_mul 2 j]) q1
                · rw [nI_1]
                  refine hG.br rfl rfl rfl rfl (fun q2 => ?_) (fun q2 => ?_)
                  · exact no (fun q => absurd q2 (nI_ge q.1 (by omega)))
                  · have hlt : 2 * j + 1 < W := Nat.not_le.mp (fun q => q2 (nI_le q (by omega)))
                    refine hG.ld rfl (2 * j + 1) rfl rfl rfl rfl rfl (by omega) ?_
                    rw [e119]
                    refine hG.cV lk_M_151 mi_M_freeMany rfl rfl (c_M_freeMany (nearT (τ5 96) t) n hN5 hF5.1 hF5.2.1) rfl rfl rfl rfl rfl rfl rfl rfl ?_
                    rintro x τ6 ⟨rfl, rfl⟩
                    refine hG.br rfl rfl rfl rfl (fun q3 => ?_) (fun q3 => ?_)
                    · exact no (fun q => q3 q.2)
                    · rw [if_pos ⟨hlt, q3⟩] at he
                      refine hG.jp rfl rfl rfl ?_
                      rw [nI_1, nI_1, show 2 * j + 1 + 1 = 2 * (j + 1) by omega]
                      exact ih (j + 1) (by omega) τ6 _ hS6 h985 hN5 hF5 hhi5 he
              have no1 : ¬ (2 * j < W ∧ σ 119 (2 * j) = nI (sumB (aliveF (τ5 96)) 0 n)) → X Γ 133 [some (.inr 95), some (.inl (nI K)), some (.inl (nI W)), some (.inl (nI (2 * M))), some (.inl (nI (2 * j))), some (.inl (nI j)), some (.inl (nI (yearF (τ 96) n t).2))] [.inl (nI (2 * j))] τ5 := by
                intro h1
                rw [if_neg h1] at he
                refine hG.br rfl rfl rfl rfl (fun q1 => ?_) (fun q1 => ?_)
                · refine hG.jp rfl rfl rfl ?_
                  rw [nI_1, i32_p0, i32_p0]
                  exact stop (2 * j) _ (by omega) (by omega) he
                · exfalso
                  rw [show nI (2 * j) + 0 = nI (2 * j + 0) from nI_add _ 0, show (2 : Int32) * nI j = nI (2 * j) from pk_mul 2 j, nI_1] at q1
                  have := (nI_eq (by omega) (by omega)).mp q1
                  omega
              refine hG.br rfl rfl rfl rfl (fun k5 => ?_) (fun k5 => ?_)
              · exact no1 (fun q => absurd k5 (nI_ge q.1 (by omega)))
              · have hlt : 2 * j < W := Nat.not_le.mp (fun q => k5 (nI_le q (by omega)))
                refine hG.ld rfl (2 * j) rfl rfl rfl rfl rfl (by omega) ?_
                rw [e119]
                refine hG.cV lk_M_186 mi_M_aliveMany rfl rfl (c_M_aliveMany n hF5.1 hF5.2.1) rfl rfl rfl rfl rfl rfl rfl rfl ?_
                rintro x τ6 ⟨rfl, rfl⟩
                refine hG.br rfl rfl rfl rfl (fun k6 => ?_) (fun k6 => ?_)
                · exact no1 (fun q => k6 q.2)
                · exact hG.go 2 rfl rfl (j137a ⟨hlt, k6⟩)
      refine hG.ld rfl 2 rfl rfl rfl rfl rfl (by decide) ?_
      rw [e396, hf2.2.2.2.2.2.2.1]
      refine hG.go 3 rfl rfl ?_
      rw [show (9999 : Int32) - nI y = nI (9999 - y) from pk_sub (a := 9999) hy]
      refine hG.cS lk_M_174 mi_M_within rfl rfl (c_M_within (nI (9999 - y)) 0 (nI K)) rfl rfl rfl rfl rfl rfl ?_
      rintro x τ6 ⟨rfl, rfl⟩
      have ew : withinF (nI (9999 - y)) 0 (nI K) = nI M := by
        rw [withinF, if_neg (nI_pos (by omega))]
        by_cases hq : K < 9999 - y
        · rw [if_pos (nI_lt hq (by omega)), show M = K by omega]
        · rw [if_neg (nI_nlt (by omega) (by omega)), show M = 9999 - y by omega]
      rw [ew]
      refine hG.go 6 rfl rfl ?_
      rw [show (2 : Int32) * nI M = nI (2 * M) from pk_mul 2 M]
      exact loop M 0 (by omega) τ6 none hS4 e398 (by rw [e396]; exact hN3) (by rw [e396]; exact hf2) (fun i _ => by rw [e396]) (by rw [e396])
    · rw [up_j _ _ _ _ (show 3 ≠ 37 by decide), hh] at k2
      refine hG.rt hR rfl rfl rfl rfl ?_
      exact ⟨by rw [chkR, bi_ne0.mp k1, if_pos rfl, bi_eq0.mp k2]; rfl, Sm.rf⟩
  · refine hG.rt hR rfl rfl rfl rfl ?_
    exact ⟨by rw [chkR, bi_eq0.mp k1]; rfl, Sm.rf⟩
end
