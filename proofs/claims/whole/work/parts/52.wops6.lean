/-! the class's calls, sixth part -/
section
variable {l : Launch} {θ : Th} {σ σ' : Sg} {n c t y : Nat} {f : Nat → Int32}
theorem o_W_stays (nm k : Int32) (hS : SV σ f n c t y) : Ci l θ 6 m_W_stays [.inr 0, .inl nm, .inl k] σ (fun r σ' => r = stayR f n t nm k ∧ Sm [3, 50, 51, 52, 53, 54, 55, 56, 57, 58] σ σ') := by
  have hn := hS.n10
  have hy := hS.y9
  refine Ci.of (Or.inl mi_W_stays) pk_W_stays (nb rfl) (Or.inl rfl) [some (.inr 0), some (.inl nm), some (.inl k), none, none] rfl fun Γ hG hR => ?_
  have bad : (inB nm 0 124 && inB k 0 100) = false → X Γ 17 [some (.inr 0), some (.inl nm), some (.inl k), none, none] [] σ := by
    intro hb
    refine hG.rt hR rfl rfl rfl rfl ?_
    rw [stayR, hb]
    exact ⟨rfl, Sm.rf⟩
  refine hG.cS lk_W_70 mi_W_isName rfl rfl (c_W_isName nm) rfl rfl rfl rfl rfl rfl ?_
  rintro x σ' ⟨rfl, rfl⟩
  refine hG.br rfl rfl rfl rfl (fun h1 => ?_) (fun h1 => ?_)
  · exact bad (by rw [bi_eq0.mp h1]; rfl)
  · have h1 := bi_ne0.mp h1
    refine hG.br rfl rfl rfl rfl (fun h2 => ?_) (fun h2 => ?_)
    · exact bad (by rw [h1, inB, decide_eq_false (p := 0 ≤ k) (i32_nle.mpr h2)]; rfl)
    · refine hG.br rfl rfl rfl rfl (fun h3 => ?_) (fun h3 => ?_)
      · have hk : inB k 0 100 = true := by rw [inB, decide_eq_true (i32_nlt.mp h2), decide_eq_true h3]; rfl
        obtain ⟨K, hK, rfl⟩ := (inB_nI (m := 100) (by omega)).mp hk
        have e : stayR f n t nm (nI K) = nI (stayL f n t nm K) := by rw [stayR, h1, hk, Bool.and_self, if_pos rfl, nI_clamp (by omega)]
        rw [e] at hR
        refine hG.cVv lk_W_200 mi_V_become rfl rfl (c_V_become50_32 hn hS.c6 hS.rv) rfl rfl rfl rfl rfl rfl rfl rfl ?_
        rintro τ ⟨hs, hv⟩
        have hT := hS.thought hs hv
        have loop : ∀ m i, i + m = K → ∀ (τ : Sg) (g : Nat → Int32) (d : Nat), Sm [3, 50, 51, 52, 53, 54, 55, 56, 57, 58] σ' τ → TV τ g n c t (y + i) → stayL f n t nm K = d + stayL g n t nm m → X Γ 36 [some (.inr 0), some (.inl nm), some (.inl (nI K)), some (.inl (nI d)), some (.inl (nI i))] [] τ := by
          intro m
          induction m with
          | zero =>
            intro i hi τ g d hs hT' hd
            have hi : i = K := by omega
            subst hi
            have fin : ∀ (τ : Sg), Sm [3, 50, 51, 52, 53, 54, 55, 56, 57, 58] σ' τ → X Γ 36 [some (.inr 0), some (.inl nm), some (.inl (nI i)), some (.inl (nI (stayL f n t nm i))), some (.inl (nI (i + 1)))] [] τ := by
              intro τ hs
              refine hG.br rfl rfl rfl rfl (fun h5 => ?_) (fun h5 => ?_)
              · refine hG.rt hR rfl rfl rfl rfl ?_
                exact ⟨rfl, hs⟩
              · exact absurd (show nI i < nI (i + 1) from nI_lt (by omega) (by omega)) h5
            refine hG.br rfl rfl rfl rfl (fun h5 => ?_) (fun h5 => ?_)
            · exact absurd (show nI i < nI i from h5) (nI_nlt (Nat.le_refl i) (by omega))
            · refine hG.cVv lk_W_159 mi_V_gatherHeld rfl rfl (c_V_gatherHeld50 (τ 50 9) hn hT'.2.1) rfl rfl rfl rfl rfl rfl rfl rfl ?_
              rintro τ1 ⟨hH, hg⟩
              have hT1 := hT'.hm hH
              rw [hT'.2.1.y] at hg
              refine hG.cV lk_W_163 mi_V_isClear rfl rfl (c_V_isClear50 nm (g 2) hT1.2.1 hg) rfl rfl rfl rfl rfl rfl rfl rfl ?_
              rintro x τ2 ⟨rfl, rfl⟩
              have hd : stayL f n t nm i = d + (if freeG (nearT g t) g n nm (g 2) then 1 else 0) := hd
              refine hG.br rfl rfl rfl rfl (fun h6 => ?_) (fun h6 => ?_)
              · rw [bi_eq0.mp h6] at hd
                refine hG.cV lk_W_196 mi_V_passYear rfl rfl (c_V_passYear50 hn hT1.c6 hT1.t14 hT1.to hT1.2.1 hT1.2.2) rfl rfl rfl rfl rfl rfl rfl rfl ?_
                rintro x τ3 ⟨hs1, hv1, rfl⟩
                refine hG.jp rfl rfl rfl ?_
                rw [nI_1]
                have := fin τ3 (sm50y (sm50h hs hH) hs1)
                rw [hd] at this
                exact this
              · rw [bi_ne0.mp h6] at hd
                refine hG.cV lk_W_196 mi_V_passYear rfl rfl (c_V_passYear50 hn hT1.c6 hT1.t14 hT1.to hT1.2.1 hT1.2.2) rfl rfl rfl rfl rfl rfl rfl rfl ?_
                rintro x τ3 ⟨hs1, hv1, rfl⟩
                refine hG.jp rfl rfl rfl ?_
                rw [nI_1, nI_1]
                have := fin τ3 (sm50y (sm50h hs hH) hs1)
                rw [hd] at this
                exact this
          | succ m ih =>
            intro i hi τ g d hs hT' hd
            refine hG.br rfl rfl rfl rfl (fun h5 => ?_) (fun h5 => ?_)
            · exact absurd (show nI K < nI i from h5) (nI_nlt (by omega) (by omega))
            · refine hG.cVv lk_W_159 mi_V_gatherHeld rfl rfl (c_V_gatherHeld50 (τ 50 9) hn hT'.2.1) rfl rfl rfl rfl rfl rfl rfl rfl ?_
              rintro τ1 ⟨hH, hg⟩
              have hT1 := hT'.hm hH
              rw [hT'.2.1.y] at hg
              refine hG.cV lk_W_163 mi_V_isClear rfl rfl (c_V_isClear50 nm (g 2) hT1.2.1 hg) rfl rfl rfl rfl rfl rfl rfl rfl ?_
              rintro x τ2 ⟨rfl, rfl⟩
              have hd : stayL f n t nm K = d + ((if freeG (nearT g t) g n nm (g 2) then 1 else 0) + stayL (yearF g n t).1 n t nm m) := hd
              refine hG.br rfl rfl rfl rfl (fun h6 => ?_) (fun h6 => ?_)
              · rw [bi_eq0.mp h6] at hd
                refine hG.cV lk_W_196 mi_V_passYear rfl rfl (c_V_passYear50 hn hT1.c6 hT1.t14 hT1.to hT1.2.1 hT1.2.2) rfl rfl rfl rfl rfl rfl rfl rfl ?_
                rintro x τ3 ⟨hs1, hv1, rfl⟩
                refine hG.jp rfl rfl rfl ?_
                rw [nI_1]
                refine ih (i + 1) (by omega) τ3 _ d (sm50y (sm50h hs hH) hs1) (hT1.year (by omega) hs1 hv1) ?_
                rw [hd, if_neg (by decide), Nat.zero_add]
              · rw [bi_ne0.mp h6] at hd
                refine hG.cV lk_W_196 mi_V_passYear rfl rfl (c_V_passYear50 hn hT1.c6 hT1.t14 hT1.to hT1.2.1 hT1.2.2) rfl rfl rfl rfl rfl rfl rfl rfl ?_
                rintro x τ3 ⟨hs1, hv1, rfl⟩
                refine hG.jp rfl rfl rfl ?_
                rw [nI_1, nI_1]
                refine ih (i + 1) (by omega) τ3 _ (d + 1) (sm50y (sm50h hs hH) hs1) (hT1.year (by omega) hs1 hv1) ?_
                rw [hd, if_pos rfl, Nat.add_assoc]
        exact hG.go 4 rfl rfl (loop K 0 (by omega) τ f 0 (sm50 hs) hT (by rw [Nat.zero_add]))
      · exact bad (by rw [h1, inB, decide_eq_false (p := k ≤ 100) h3, Bool.and_false]; rfl)
theorem o_W_fine (hS : SV σ f n c t y) : Ci l θ 5 m_W_fine [.inr 0] σ (fun r σ' => r = fineR f n t ∧ Sm [3] σ σ') := by
  have hn := hS.n10
  refine Ci.of (Or.inl mi_W_fine) pk_W_fine (nb rfl) (Or.inl rfl) [some (.inr 0), none] rfl fun Γ hG hR => ?_
  refine hG.ld rfl 2 rfl rfl rfl rfl rfl (by decide) ?_
  have ec : σ 39 2 = optN (-1000000005) (cntO f 2 t) := hS.rv.ct (k := 2) (by omega)
  rw [ec]
  cases hc : cntO f 2 t with
  | none =>
    rw [optN]
    refine hG.br rfl rfl rfl rfl (fun h1 => ?_) (fun h1 => ?_)
    · exact absurd rfl h1
    · refine hG.rt hR rfl rfl rfl rfl ?_
      exact ⟨by rw [fineR, hc], Sm.rf⟩
  | some i =>
    obtain ⟨hi, ln, htx⟩ := cntO_ok (k := 2) hS.to (by omega) hc
    have ht := hS.t14
    rw [optN]
    refine hG.br rfl rfl rfl rfl (fun h1 => ?_) (fun h1 => ?_)
    · refine hG.cV lk_W_203 mi_V_countAlive rfl rfl (c_V_countAlive32 hn hS.rv) rfl rfl rfl rfl rfl rfl rfl rfl ?_
      rintro x σ' ⟨rfl, rfl⟩
      refine hG.cV lk_W_225 mi_L_work rfl rfl (c_L_work f i 2 ln (σ' 32 9) (nI (sumB (aliveF f) 0 n)) 0 (by omega) htx (hS.tx i 2 ln hi htx).1) rfl rfl rfl rfl rfl rfl rfl rfl ?_
      rintro v τ ⟨hs, rfl⟩
      refine hG.rt hR rfl rfl rfl rfl ?_
      exact ⟨by rw [fineR, hc, hS.rv.y], hs⟩
    · have h1 : nI i = (-1000000005 : Int32) := h1
      exact absurd (show (0 : Int32) ≤ nI i from nI_pos' (by omega)) (by rw [h1]; decide)
theorem o_W_why (k : Int32) (hS : SV σ f n c t y) : Ci l θ 5 m_W_why [.inr 0, .inl k] σ (fun r σ' => r = whyR f t k ∧ σ' = σ) := by
  refine Ci.of (Or.inl mi_W_why) pk_W_why (nb rfl) (Or.inl rfl) [some (.inr 0), some (.inl k)] rfl fun Γ hG hR => ?_
  have bad : inB k 0 2 = false → X Γ 9 [some (.inr 0), some (.inl k)] [] σ := by
    intro hb
    refine hG.rt hR rfl rfl rfl rfl ?_
    exact ⟨by rw [whyR, hb]; rfl, rfl⟩
  have hi := inB_hi (a := k) (b := 0) (x := 2) (y := 3) rfl
  refine hG.br rfl rfl rfl rfl (fun h1 => ?_) (fun h1 => ?_)
  · exact bad (by rw [hi, decide_eq_false (i32_nle.mpr h1)]; rfl)
  · refine hG.br rfl rfl rfl rfl (fun h2 => ?_) (fun h2 => ?_)
    · have hk : inB k 0 2 = true := by rw [hi, decide_eq_true (i32_nlt.mp h1), decide_eq_true h2]; rfl
      obtain ⟨K, hK, rfl⟩ := (inB_nI (m := 2) (by omega)).mp hk
      refine hG.ld rfl K rfl rfl rfl rfl rfl (by omega) ?_
      refine hG.rt hR rfl rfl rfl rfl ?_
      exact ⟨by rw [whyR, hk, if_pos rfl]; exact hS.rv.ct (by omega), rfl⟩
    · exact bad (by rw [hi, decide_eq_false h2, Bool.and_false])
theorem o_W_tell (v : Int32) (W : Nat) (hW : σ 0 10 = nI W) (hW60 : W ≤ 60) : Ci l θ 5 m_W_tell [.inr 0, .inl v] σ (fun r σ' => (W = 60 → r = -1000000003 ∧ σ' = σ) ∧ (W ≠ 60 → r = nI (W + 1) ∧ σ' = up (up σ 93 W v) 0 10 (nI (W + 1)))) := by
  refine Ci.of (Or.inl mi_W_tell) pk_W_tell (nb rfl) (Or.inl rfl) [some (.inr 0), some (.inl v)] rfl fun Γ hG hR => ?_
  refine hG.br rfl rfl rfl rfl (fun h1 => ?_) (fun h1 => ?_)
  · rw [hW] at h1
    have h1 : W < 60 := (nI_ltI (b := 60) (by omega) (by omega)).mp h1
    refine hG.sti rfl W rfl rfl rfl hW (by omega) ?_
    refine hG.rt hR rfl rfl rfl rfl ?_
    refine ⟨fun h => absurd h (by omega), fun _ => ?_⟩
    have e : up σ 93 W v 0 10 = nI W := by rw [up_c _ _ _ _ (by decide)]; exact hW
    rw [e, nI_1]
    exact ⟨up_self _ _ _ _, rfl⟩
  · rw [hW] at h1
    have h1 : ¬ W < 60 := fun h => h1 ((nI_ltI (b := 60) (by omega) (by omega)).mpr h)
    refine hG.rt hR rfl rfl rfl rfl ?_
    exact ⟨fun _ => ⟨rfl, rfl⟩, fun h => absurd h (by omega)⟩
theorem o_W_trim (v : Int32) (T : Nat) (hT : σ 64 1 = nI T) (hT96 : T ≤ 96) : Ci l θ 5 m_W_trim [.inr 0, .inl v] σ (fun r σ' => (inB v 0 (nI T) = false → r = -1000000001 ∧ σ' = σ) ∧ (inB v 0 (nI T) = true → r = v ∧ σ' = up σ 64 1 v)) := by
  rw [← hT]
  refine Ci.of (Or.inl mi_W_trim) pk_W_trim (nb rfl) (Or.inl rfl) [some (.inr 0), some (.inl v)] rfl fun Γ hG hR => ?_
  have bad : inB v 0 (σ 64 1) = false → X Γ 15 [some (.inr 0), some (.inl v)] [] σ := by
    intro hb
    refine hG.rt hR rfl rfl rfl rfl ?_
    exact ⟨fun _ => ⟨rfl, rfl⟩, fun h => absurd h (by rw [hb]; decide)⟩
  refine hG.br rfl rfl rfl rfl (fun h1 => ?_) (fun h1 => ?_)
  · exact bad (by rw [inB, decide_eq_false (i32_nle.mpr h1)]; rfl)
  · refine hG.br rfl rfl rfl rfl (fun h2 => ?_) (fun h2 => ?_)
    · have hk : inB v 0 (σ 64 1) = true := by rw [inB, decide_eq_true (i32_nlt.mp h1), decide_eq_true h2]; rfl
      refine hG.rt hR rfl rfl rfl rfl ?_
      exact ⟨fun h => absurd h (by rw [hk]; decide), fun _ => ⟨rfl, rfl⟩⟩
    · exact bad (by rw [inB, decide_eq_false h2, Bool.and_false])
theorem o_W_keep (hS : SV σ f n c t y) : Ci l θ 5 m_W_keep [.inr 0] σ (fun r σ' => r = nI n ∧ Sm [0, 41, 42, 43, 44, 45, 46, 47, 48] σ σ' ∧ RV σ' 41 f n c t ∧ σ' 0 4 = 1 ∧ ∀ j, j ≠ 4 → σ' 0 j = σ 0 j) := by
  have hn := hS.n10
  refine Ci.of (Or.inl mi_W_keep) pk_W_keep (nb rfl) (Or.inl rfl) [some (.inr 0)] rfl fun Γ hG hR => ?_
  refine hG.cVv lk_W_200 mi_V_become rfl rfl (c_V_become41_32 hn hS.c6 hS.rv) rfl rfl rfl rfl rfl rfl rfl rfl ?_
  rintro τ ⟨hs, hv⟩
  refine hG.ptz rfl rfl rfl rfl rfl rfl (by decide +kernel) ?_
  refine hG.rt hR rfl rfl rfl rfl ?_
  have hv' : RV (up τ 0 4 1) 41 f n c t := hv.sm (cs := [0]) (Sm.rf.up (by decide)) (fun k hk => by simp)
  refine ⟨hv'.pn, (hs.mono (by simp)).up (by decide), hv', up_self _ _ _ _, fun j hj => ?_⟩
  rw [up_j _ _ _ _ hj, hs 0 (by decide)]
theorem o_W_back (h : Bool) (hh : σ 0 4 = bi h) (hf : h = true → n ≤ 10 ∧ c ≤ 6 ∧ RV σ 41 f n c t) : Ci l θ 5 m_W_back [.inr 0] σ (fun r σ' => (h = false → r = -1000000002 ∧ σ' = σ) ∧ (h = true → r = nI n ∧ Sm [32, 33, 34, 35, 36, 37, 38, 39] σ σ' ∧ RV σ' 32 f n c t)) := by
  refine Ci.of (Or.inl mi_W_back) pk_W_back (nb rfl) (Or.inl rfl) [some (.inr 0)] rfl fun Γ hG hR => ?_
  refine hG.br rfl rfl rfl rfl (fun h1 => ?_) (fun h1 => ?_)
  · rw [hh] at h1
    have h1 := bi_ne0.mp h1
    obtain ⟨hn, hc, hv⟩ := hf h1
    refine hG.cVv lk_W_200 mi_V_become rfl rfl (c_V_become32_41 hn hc hv) rfl rfl rfl rfl rfl rfl rfl rfl ?_
    rintro τ ⟨hs, hv1⟩
    refine hG.rt hR rfl rfl rfl rfl ?_
    exact ⟨fun h2 => absurd h2 (by rw [h1]; decide), fun _ => ⟨hv1.pn, hs, hv1⟩⟩
  · rw [hh] at h1
    have h1 := bi_eq0.mp h1
    refine hG.rt hR rfl rfl rfl rfl ?_
    exact ⟨fun _ => ⟨rfl, rfl⟩, fun h2 => absurd h2 (by rw [h1]; decide)⟩
end
