/-! the class's calls, eighth part: check -/
section
variable {l : Launch} {θ : Th} {σ σ' : Sg} {n c t y : Nat} {f : Nat → Int32}
theorem c_W_waitedAt (p W : Nat) (v : Int32) (hp : p < 2 ^ 20) (hW : W ≤ 60) : Ci l θ 1 m_W_waitedAt [.inr 0, .inl (nI p), .inl (nI W), .inl v] σ (fun r σ' => σ' = σ ∧ r = bi (decide (p < W) && decide (σ 93 p = v))) := by
  refine Ci.of (Or.inl mi_W_waitedAt) pk_W_waitedAt (nb rfl) (Or.inr rfl) [some (.inr 0), some (.inl (nI p)), some (.inl (nI W)), some (.inl v)] rfl fun Γ hG hR => ?_
  refine hG.br rfl rfl rfl rfl (fun h1 => ?_) (fun h1 => ?_)
  · refine hG.rz hR rfl rfl rfl rfl (Or.inl rfl) ?_
    exact ⟨rfl, by rw [decide_eq_false (fun h => nI_ge h (by omega) h1)]; rfl⟩
  · have h1 : p < W := Nat.lt_of_not_le (fun h => h1 (nI_le h (by omega)))
    refine hG.br rfl rfl rfl rfl (fun h2 => ?_) (fun h2 => ?_)
    · exact absurd (show nI 60 ≤ nI p from h2) (nI_ge (by omega) (by omega))
    · refine hG.ld rfl p rfl rfl rfl rfl rfl (by omega) ?_
      refine hG.br rfl rfl rfl rfl (fun h3 => ?_) (fun h3 => ?_)
      · refine hG.rz hR rfl rfl rfl rfl (Or.inl rfl) ?_
        exact ⟨rfl, by rw [decide_eq_false h3, Bool.and_false]; rfl⟩
      · refine hG.rz hR rfl rfl rfl rfl (Or.inr rfl) ?_
        exact ⟨rfl, by rw [decide_eq_true h1, decide_eq_true h3]; rfl⟩
theorem o_W_check (k : Int32) (W : Nat) (h : Bool) (hW : σ 0 10 = nI W) (hW60 : W ≤ 60) (hh : σ 0 4 = bi h) (hf : h = true → FOk f n c t y ∧ y ≤ 9999 ∧ RV σ 41 f n c t ∧ TXS σ f t) : Ci l θ 6 m_W_check [.inr 0, .inl k] σ (fun r σ' => r = chkR (σ 93) W n t y f h k ∧ Sm [3, 50, 51, 52, 53, 54, 55, 56, 57, 58] (up σ 0 10 0) σ') := by
  refine Ci.of (Or.inl mi_W_check) pk_W_check (nb rfl) (Or.inl rfl) [some (.inr 0), some (.inl k), none, none, none, none] rfl fun Γ hG hR => ?_
  refine hG.go 6 rfl rfl ?_
  rw [hW]
  have s0 : Sm [0] σ (up σ 0 10 0) := Sm.rf.up (by decide)
  have e93 : up σ 0 10 0 93 = σ 93 := s0 93 (by decide)
  have e04 : up σ 0 10 0 0 4 = bi h := by rw [up_j _ _ _ _ (by decide)]; exact hh
  generalize hτ0 : up σ 0 10 0 = τ0 at *
  have bad : inB k 1 30 = false → X Γ 21 [some (.inr 0), some (.inl k), some (.inl (nI W)), none, none, none] [] τ0 := by
    intro hb
    refine hG.rt hR rfl rfl rfl rfl ?_
    rw [chkR, hb]
    exact ⟨rfl, Sm.rf⟩
  refine hG.br rfl rfl rfl rfl (fun h1 => ?_) (fun h1 => ?_)
  · exact bad (by rw [inB, decide_eq_false (i32_nle.mpr h1)]; rfl)
  · refine hG.br rfl rfl rfl rfl (fun h2 => ?_) (fun h2 => ?_)
    · have hk : inB k 1 30 = true := by rw [inB, decide_eq_true (i32_nlt.mp h1), decide_eq_true h2]; rfl
      obtain ⟨K, hK1, hK2, rfl⟩ := inB_ab 1 30 (by omega) (by omega) hk
      have e : chkR (σ 93) W n t y f h (nI K) = (if h then (if chkL (σ 93) W n t f 0 (min K (9999 - y)) = W ∧ chkL (σ 93) W n t f 0 (min K (9999 - y)) = 2 * min K (9999 - y) then 0 else nI (1 + chkL (σ 93) W n t f 0 (min K (9999 - y)))) else -1000000002) := by rw [chkR, hk, if_pos rfl, nI_clamp (by omega)]
      rw [e] at hR
      refine hG.br rfl rfl rfl rfl (fun h3 => ?_) (fun h3 => ?_)
      · rw [e04] at h3
        have h3 := bi_ne0.mp h3
        rw [h3, if_pos rfl] at hR
        obtain ⟨hF, hy, hV, hT⟩ := hf h3
        have hn : n ≤ 10 := hF.2.1
        have hc : c ≤ 6 := hF.2.2.2.1
        have htl : t ≤ 14 := hF.2.2.2.2.2.1
        have hV0 : RV τ0 41 f n c t := hV.sm s0 (fun k hk => by simp)
        have hT0 : TXS τ0 f t := hT.sm s0 htl (fun k h1 h2 => by simp; omega)
        refine hG.cVv lk_W_200 mi_V_become rfl rfl (c_V_become50_41 hn hc hV0) rfl rfl rfl rfl rfl rfl rfl rfl ?_
        rintro τ ⟨hs, hv⟩
        have hTV : TV τ f n c t y := ⟨hF, hv, hT0.sm hs htl (fun k h1 h2 => by simp; omega)⟩
        refine hG.mn rfl lk_W_148 rfl rfl rfl rfl rfl ?_
        have ey : τ 41 9 = nI y := by rw [hs 41 (by decide), hV0.y]; exact hF.2.2.2.2.2.2.1
        have em : (if (9999 : Int32) - τ 41 9 < nI K then (9999 : Int32) - τ 41 9 else nI K) = nI (min K (9999 - y)) := by
          rw [ey, show (9999 : Int32) = nI 9999 from rfl, lit_sub hy]
          exact min_nI rfl (by omega) (by omega)
        rw [em]
        generalize hM : min K (9999 - y) = M at *
        have loop : ∀ m i, i + m = M → ∀ (τ : Sg) (g : Nat → Int32), Sm [3, 50, 51, 52, 53, 54, 55, 56, 57, 58] τ0 τ → TV τ g n c t (y + i) → chkL (σ 93) W n t f 0 M = chkL (σ 93) W n t g i m → X Γ 68 [some (.inr 0), some (.inl (nI K)), some (.inl (nI W)), some (.inl (nI M)), some (.inl (nI (2 * i))), some (.inl (nI i))] [] τ := by
          intro m
          induction m with
          | zero =>
            intro i hi τ g hs hT' hd
            have hi : i = M := by omega
            subst hi
            have hd : chkL (σ 93) W n t f 0 i = 2 * i := hd
            rw [hd] at hR
            refine hG.br rfl rfl rfl rfl (fun h5 => ?_) (fun h5 => ?_)
            · refine hG.br rfl rfl rfl rfl (fun h6 => ?_) (fun h6 => ?_)
              · refine hG.rt hR rfl rfl rfl rfl ?_
                rw [if_neg (fun h => h6 (by rw [h.1])), ← nI_add]
                exact ⟨rfl, hs⟩
              · have h6 : 2 * i = W := (nI_eq (by omega) (by omega)).mp h6
                refine hG.rt hR rfl rfl rfl rfl ?_
                rw [if_pos ⟨h6, rfl⟩]
                exact ⟨rfl, hs⟩
            · exact absurd (show nI i ≤ nI i from nI_le (Nat.le_refl i) (by omega)) h5
          | succ m ih =>
            intro i hi τ g hs hT' hd
            have hd : chkL (σ 93) W n t f 0 M = if 2 * i < W ∧ σ 93 (2 * i) = nI (sumB (aliveF (yearF g n t).1) 0 n) then (if 2 * i + 1 < W ∧ σ 93 (2 * i + 1) = manyF (yearF g n t).1 n t then chkL (σ 93) W n t (yearF g n t).1 (i + 1) m else 2 * i + 1) else 2 * i := hd
            refine hG.br rfl rfl rfl rfl (fun h5 => ?_) (fun h5 => ?_)
            · exact absurd (show nI M ≤ nI i from h5) (nI_ge (by omega) (by omega))
            · refine hG.cV lk_W_196 mi_V_passYear rfl rfl (c_V_passYear50 hn hT'.c6 hT'.t14 hT'.to hT'.2.1 hT'.2.2) rfl rfl rfl rfl rfl rfl rfl rfl ?_
              rintro x τ1 ⟨hs1, hv1, rfl⟩
              have hT1 := hT'.year (by omega) hs1 hv1
              have hsA := sm50y hs hs1
              have eA : τ1 93 = σ 93 := (hsA 93 (by decide)).trans e93
              refine hG.cV lk_W_203 mi_V_countAlive rfl rfl (c_V_countAlive50 hn hT1.2.1) rfl rfl rfl rfl rfl rfl rfl rfl ?_
              rintro x τ2 ⟨rfl, rfl⟩
              refine hG.cV lk_W_323 mi_W_waitedAt rfl rfl (c_W_waitedAt (2 * i) W (nI (sumB (aliveF (yearF g n t).1) 0 n)) (by omega) hW60) rfl rfl rfl rfl rfl rfl rfl rfl ?_
              rintro x τ3 ⟨rfl, rfl⟩
              rw [eA]
              refine hG.br rfl rfl rfl rfl (fun h6 => ?_) (fun h6 => ?_)
              · have h6 := bi_ne0.mp h6
                simp only [Bool.and_eq_true, decide_eq_true_eq] at h6
                rw [if_pos h6] at hd
                refine hG.cV lk_W_166 mi_V_countFree rfl rfl (c_V_countFree50 hn hT1.2.1) rfl rfl rfl rfl rfl rfl rfl rfl ?_
                rintro x τ4 ⟨hH, rfl⟩
                have hT2 := hT1.hm hH
                have hsB := sm50h hsA hH
                have eB : τ4 93 = σ 93 := (hsB 93 (by decide)).trans e93
                rw [nI_1]
                refine hG.cV lk_W_323 mi_W_waitedAt rfl rfl (c_W_waitedAt (2 * i + 1) W (manyF (yearF g n t).1 n t) (by omega) hW60) rfl rfl rfl rfl rfl rfl rfl rfl ?_
                rintro x τ5 ⟨rfl, rfl⟩
                rw [eB]
                refine hG.br rfl rfl rfl rfl (fun h7 => ?_) (fun h7 => ?_)
                · have h7 := bi_ne0.mp h7
                  simp only [Bool.and_eq_true, decide_eq_true_eq] at h7
                  rw [if_pos h7] at hd
                  refine hG.jp rfl rfl rfl ?_
                  rw [nI_1, nI_1]
                  exact ih (i + 1) (by omega) τ5 _ hsB hT2 hd
                · have h7 := bi_eq0.mp h7
                  rw [if_neg (fun h => absurd h7 (by rw [decide_eq_true h.1, decide_eq_true h.2]; decide))] at hd
                  rw [hd] at hR
                  refine hG.rt hR rfl rfl rfl rfl ?_
                  rw [if_neg (fun h => absurd h.2 (by omega)), ← nI_add 1]
                  exact ⟨rfl, hsB⟩
              · have h6 := bi_eq0.mp h6
                rw [if_neg (fun h => absurd h6 (by rw [decide_eq_true h.1, decide_eq_true h.2]; decide))] at hd
                rw [hd] at hR
                refine hG.rt hR rfl rfl rfl rfl ?_
                rw [if_neg (fun h => absurd h.2 (by omega)), ← nI_add]
                exact ⟨rfl, hsA⟩
        exact hG.go 5 rfl rfl (loop M 0 (by omega) τ f (sm50 hs) hTV rfl)
      · rw [e04] at h3
        have h3 := bi_eq0.mp h3
        rw [h3] at hR
        refine hG.rt hR rfl rfl rfl rfl ?_
        exact ⟨rfl, Sm.rf⟩
    · exact bad (by rw [inB, decide_eq_false h2, Bool.and_false])
end
