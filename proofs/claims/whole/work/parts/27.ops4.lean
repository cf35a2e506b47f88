theorem back58 {f g h s : Nat → Int32} (hs : s = fun k => if k < 58 then f k else g k) (hh : ∀ j, 58 ≤ j → h j = f j) : (fun k => if k < 58 then s k else h k) = f := by
  funext k
  subst hs
  by_cases hk : k < 58
  · simp [hk]
  · simp [hk, hh k (by omega)]
theorem Sm.fix {cs : List Nat} {σ τ : Sg} (c0 : Nat) (h : Sm (c0 :: cs) σ τ) (hc : τ c0 = σ c0) : Sm cs σ τ := fun c hcs => by
  by_cases e : c = c0
  · subst e; exact hc
  · exact h c (by simp [e, hcs])
/-- the first place of a row at which a name can't be given -/
def erlB (g : Nat → Bool) (cs : Nat → Int32) (p : Nat) : Bool := !allB (fun k => !(inB (cs k) 0 124 && g (nrIx (cs p) (cs k)))) 0 p
def lineF (f : Nat → Int32) (n t : Nat) (cs : Nat → Int32) (sz : Nat) : Int32 := optN (-1000000005) (fndB (fun k => inB (cs k) 0 124 && (!freeG (nearT f t) f n (cs k) (f 2) || erlB (nearT f t) cs k)) 0 sz)
def SOk (so sz : Nat → Int32) : Prop := ∀ s, s < 4 → (so s = -1 ∨ so s = 0 ∨ so s = 1) ∧ ∃ k, k ≤ 24 ∧ sz s = nI k
def lineR (f so sz ce : Nat → Int32) (n t : Nat) (s : Int32) : Int32 := if inB s 0 3 then (if so s.toNatClampNeg < 0 then -1000000011 else lineF f n t (fun k => ce (24 * s.toNatClampNeg + k)) (sz s.toNatClampNeg).toNatClampNeg) else -1000000001
section
variable {l : Launch} {θ : Th} {σ : Sg} {n c t y : Nat}
theorem o_M_behind (k w : Int32) (hf : FOk (σ 96) n c t y) (hy : y ≤ 9999) : Ci l θ 7 m_M_behind [.inr 95, .inl k, .inl w] σ (fun r σ' => r = behR (σ 96) n t k w ∧ Sm [99, 102, 109, 110] σ σ') := by
  refine Ci.of (Or.inl mi_M_behind) pk_M_behind (nb rfl) (Or.inl rfl) [some (.inr 95), some (.inl k), some (.inl w), none, none] rfl fun Γ hG hR => ?_
  have bad : (inB k 0 100 && inB w 0 2) = false → X Γ 19 [some (.inr 95), some (.inl k), some (.inl w), none, none] [] σ := by
    intro hb
    refine hG.rt hR rfl rfl rfl rfl ?_
    exact ⟨by rw [behR, hb]; rfl, Sm.rf⟩
  refine hG.cS lk_M_84 mi_M_in rfl rfl (c_M_in k 0 100) rfl rfl rfl rfl rfl rfl ?_
  rintro x σ' ⟨rfl, rfl⟩
  refine hG.br rfl rfl rfl rfl (fun k1 => ?_) (fun k1 => ?_)
  · exact bad (by rw [bi_eq0.mp k1]; rfl)
  · refine hG.cS lk_M_84 mi_M_in rfl rfl (c_M_in w 0 2) rfl rfl rfl rfl rfl rfl ?_
    rintro x σ' ⟨rfl, rfl⟩
    refine hG.br rfl rfl rfl rfl (fun k2 => ?_) (fun k2 => ?_)
    · obtain ⟨K, hK1, hK2, rfl⟩ := inB_ab 0 100 (by omega) (by omega) (bi_ne0.mp k1)
      have hg : behR (σ' 96) n t (nI K) w = if w = 0 then manyF (yrsL (σ' 96) n t K).1 n t else if w = 1 then nI (sumB (aliveF (yrsL (σ' 96) n t K).1) 0 n) else leastF (yrsL (σ' 96) n t K).1 n t := by
        rw [behR, bi_ne0.mp k1, bi_ne0.mp k2, nI_clamp (by omega), Bool.and_self, if_pos rfl]
      refine hG.cVv lk_M_183 mi_M_thinks rfl rfl c_M_thinks rfl rfl rfl rfl rfl rfl rfl rfl ?_
      rintro τ0 rfl
      have loop : ∀ m j, j + m = K → ∀ (τ : Sg) (w4 : Option AV), Sm [96, 99, 102, 109, 110] σ' τ → τ 102 = (fun k => if k < 58 then σ' 96 k else σ' 102 k) → FOk (τ 96) n c t (y + j) → (∀ i, 58 ≤ i → τ 96 i = σ' 96 i) → (yrsL (σ' 96) n t K).1 = (yrsL (τ 96) n t m).1 → X Γ 28 [some (.inr 95), some (.inl (nI K)), some (.inl w), some (.inl (nI j)), w4] [] τ := by
        intro m
        induction m with
        | zero =>
          intro j hj τ w4 hS h102 hF hhi he
          have he : (yrsL (σ' 96) n t K).1 = τ 96 := he
          obtain ⟨h1, hn, h4, hc, h5, ht, h2, h2y, hT, hW⟩ := hF
          refine hG.br rfl rfl rfl rfl (fun k3 => ?_) (fun k3 => ?_)
          · refine hG.cVv lk_M_137 mi_M_findNears rfl rfl (c_M_findNears t h5 ht hT) rfl rfl rfl rfl rfl rfl rfl rfl ?_
            rintro τ1 ⟨hS1, hN⟩
            have e96 : τ1 96 = τ 96 := hS1 96 (by decide)
            have fin : ∀ v : Int32, v = behR (σ' 96) n t (nI K) w → X Γ 76 [some (.inr 95), some (.inl (nI K)), some (.inl w), some (.inl (nI j)), w4] [.inl v] τ1 := by
              rintro v rfl
              refine hG.cVv lk_M_189 mi_M_putsBack rfl rfl c_M_putsBack rfl rfl rfl rfl rfl rfl rfl rfl ?_
              rintro τ2 rfl
              refine hG.rt hR rfl rfl rfl rfl ?_
              refine ⟨rfl, Sm.fix 96 ((hS.tr (hS1.mono (by decide))).upc (by decide)) ?_⟩
              rw [upc_same, e96, hS1 102 (by decide)]
              exact back58 h102 hhi
            rw [hg, he] at fin
            refine hG.br rfl rfl rfl rfl (fun k4 => ?_) (fun k4 => ?_)
            · refine hG.br rfl rfl rfl rfl (fun k5 => ?_) (fun k5 => ?_)
              · refine hG.cV lk_M_154 mi_M_leastFree rfl rfl (c_M_leastFree (nearT (τ 96) t) n hN (by rw [e96]; exact h1) hn) rfl rfl rfl rfl rfl rfl rfl rfl ?_
                rintro x τ2 ⟨rfl, rfl⟩
                exact fin _ (by rw [if_neg k4, if_neg k5, leastF, e96])
              · refine hG.cV lk_M_186 mi_M_aliveMany rfl rfl (c_M_aliveMany n (by rw [e96]; exact h1) hn) rfl rfl rfl rfl rfl rfl rfl rfl ?_
                rintro x τ2 ⟨rfl, rfl⟩
                exact hG.go 1 rfl rfl (fin _ (by rw [if_neg k4, if_pos k5, e96]))
            · refine hG.cV lk_M_151 mi_M_freeMany rfl rfl (c_M_freeMany (nearT (τ 96) t) n hN (by rw [e96]; exact h1) hn) rfl rfl rfl rfl rfl rfl rfl rfl ?_
              rintro x τ2 ⟨rfl, rfl⟩
              exact hG.go 1 rfl rfl (fin _ (by rw [if_pos k4, manyF, e96]))
          · exact absurd (nI_le (show K ≤ j by omega) (by omega)) k3
        | succ m ih =>
          intro j hj τ w4 hS h102 hF hhi he
          refine hG.br rfl rfl rfl rfl (fun k3 => ?_) (fun k3 => ?_)
          · exact absurd k3 (nI_ge (by omega) (by omega))
          · refine hG.cV lk_M_180 mi_M_year rfl rfl (c_M_yearF hF) rfl rfl rfl rfl rfl rfl rfl rfl ?_
            rintro x τ1 ⟨rfl, g1, hS1⟩
            refine hG.jp rfl rfl rfl ?_
            rw [nI_1]
            exact ih (j + 1) (by omega) τ1 _ (hS.tr (hS1.mono (by decide))) (by rw [hS1 102 (by decide)]; exact h102) (by rw [g1]; exact FOk_year (y := y + j) hF (by omega)) (fun i hi => by rw [g1, yearF_hi hF.2.1 hi]; exact hhi i hi) (by rw [he, g1]; rfl)
      refine hG.go 2 rfl rfl (loop K 0 (by omega) _ none (Sm.rf.upc (by decide)) (by rw [upc_same]) (by rw [upc_c _ _ _ (by decide)]; exact hf) (fun i _ => by rw [upc_c _ _ _ (by decide)]) (by rw [upc_c _ _ _ (by decide)]))
    · exact bad (by rw [bi_eq0.mp k2]; simp)
theorem o_M_ends (hf : FOk (σ 96) n c t y) (hy : y ≤ 9999) : Ci l θ 7 m_M_ends [.inr 95] σ (fun r σ' => r = endsR (σ 96) n t ∧ Sm [99, 102, 109, 110] σ σ') := by
  refine Ci.of (Or.inl mi_M_ends) pk_M_ends (nb rfl) (Or.inl rfl) [some (.inr 95), none, none] rfl fun Γ hG hR => ?_
  refine hG.cVv lk_M_183 mi_M_thinks rfl rfl c_M_thinks rfl rfl rfl rfl rfl rfl rfl rfl ?_
  rintro τ0 rfl
  have hf0 := hf
  obtain ⟨h1, hn, h4, hc, h5, ht, h2, h2y, hT, hW⟩ := hf
  have e960 : upc σ 102 (fun k => if k < 58 then σ 96 k else σ 102 k) 96 = σ 96 := upc_c _ _ _ (by decide)
  refine hG.cVv lk_M_137 mi_M_findNears rfl rfl (c_M_findNears t (by rw [e960]; exact h5) ht (by rw [e960]; exact hT)) rfl rfl rfl rfl rfl rfl rfl rfl ?_
  rintro τ1 ⟨hS1, hN⟩
  rw [e960] at hN
  have e961 : τ1 96 = σ 96 := by rw [hS1 96 (by decide), e960]
  have loop : ∀ m j, j + m = 201 → ∀ (τ : Sg) (w2 : Option AV), Sm [96, 99, 102, 109, 110] σ τ → τ 102 = (fun k => if k < 58 then σ 96 k else σ 102 k) → NT (nearT (τ 96) t) τ → FOk (τ 96) n c t (y + j) → (∀ i, 58 ≤ i → τ 96 i = σ 96 i) → endsL (σ 96) n t 0 201 = endsL (τ 96) n t j m → X Γ 10 [some (.inr 95), some (.inl (nI j)), w2] [] τ := by
    intro m
    induction m with
    | zero =>
      intro j hj τ w2 hS h102 hN hF hhi he
      have hj : j = 201 := by omega
      subst hj
      refine hG.br rfl rfl rfl rfl (fun k3 => ?_) (fun k3 => ?_)
      · refine hG.cVv lk_M_189 mi_M_putsBack rfl rfl c_M_putsBack rfl rfl rfl rfl rfl rfl rfl rfl ?_
        rintro τ2 rfl
        have hS2 : Sm [99, 102, 109, 110] σ (upc τ 96 (fun k => if k < 58 then τ 102 k else τ 96 k)) := Sm.fix 96 (hS.upc (by decide)) (by rw [upc_same]; exact back58 h102 hhi)
        refine hG.br rfl rfl rfl rfl (fun k4 => ?_) (fun k4 => ?_)
        · refine hG.rt hR rfl rfl rfl rfl ?_
          exact ⟨by rw [endsR, he]; rfl, hS2⟩
        · exact absurd (show nI 200 < nI 201 from nI_lt (by omega) (by omega)) k4
      · exact absurd (show nI 200 < nI 201 from nI_lt (by omega) (by omega)) k3
    | succ m ih =>
      intro j hj τ w2 hS h102 hN hF hhi he
      have he : endsL (σ 96) n t 0 201 = if leastF (τ 96) n t = -1000000005 then some j else endsL (yearF (τ 96) n t).1 n t (j + 1) m := he
      refine hG.br rfl rfl rfl rfl (fun k3 => ?_) (fun k3 => ?_)
      · exact absurd (show nI 200 < nI j from k3) (nI_nlt (by omega) (by omega))
      · refine hG.cV lk_M_154 mi_M_leastFree rfl rfl (c_M_leastFree (nearT (τ 96) t) n hN hF.1 hn) rfl rfl rfl rfl rfl rfl rfl rfl ?_
        rintro x τ ⟨rfl, rfl⟩
        refine hG.br rfl rfl rfl rfl (fun k4 => ?_) (fun k4 => ?_)
        · rw [if_pos (show leastF (τ 96) n t = -1000000005 from k4)] at he
          refine hG.cVv lk_M_189 mi_M_putsBack rfl rfl c_M_putsBack rfl rfl rfl rfl rfl rfl rfl rfl ?_
          rintro τ2 rfl
          have hS2 : Sm [99, 102, 109, 110] σ (upc τ 96 (fun k => if k < 58 then τ 102 k else τ 96 k)) := Sm.fix 96 (hS.upc (by decide)) (by rw [upc_same]; exact back58 h102 hhi)
          refine hG.br rfl rfl rfl rfl (fun k5 => ?_) (fun k5 => ?_)
          · exact absurd (show nI 200 < nI j from k5) (nI_nlt (by omega) (by omega))
          · refine hG.rt hR rfl rfl rfl rfl ?_
            exact ⟨by rw [endsR, he]; rfl, hS2⟩
        · rw [if_neg (show ¬ leastF (τ 96) n t = -1000000005 from k4)] at he
          refine hG.cV lk_M_180 mi_M_year rfl rfl (c_M_yearF hF) rfl rfl rfl rfl rfl rfl rfl rfl ?_
          rintro x τ1 ⟨rfl, g1, hS1⟩
          refine hG.jp rfl rfl rfl ?_
          rw [nI_1]
          exact ih (j + 1) (by omega) τ1 _ (hS.tr (hS1.mono (by decide))) (by rw [hS1 102 (by decide)]; exact h102) (by rw [g1, nearT_year hF]; intro q hq; rw [hS1 99 (by decide)]; exact hN q hq) (by rw [g1]; exact FOk_year (y := y + j) hF (by omega)) (fun i hi => by rw [g1, yearF_hi hF.2.1 hi]; exact hhi i hi) (by rw [he, g1])
  exact hG.go 2 rfl rfl (loop 201 0 rfl τ1 none ((Sm.rf.upc (by decide)).tr (hS1.mono (by decide))) (by rw [hS1 102 (by decide), upc_same]) (by rw [e961]; exact hN) (by rw [e961]; exact hf0) (fun i _ => by rw [e961]) (by rw [e961]))
theorem o_M_stays (nm k : Int32) (hf : FOk (σ 96) n c t y) (hy : y ≤ 9999) : Ci l θ 7 m_M_stays [.inr 95, .inl nm, .inl k] σ (fun r σ' => r = stayR (σ 96) n t nm k ∧ Sm [99, 102, 109, 110] σ σ') := by
  refine Ci.of (Or.inl mi_M_stays) pk_M_stays (nb rfl) (Or.inl rfl) [some (.inr 95), some (.inl nm), some (.inl k), none, none, none] rfl fun Γ hG hR => ?_
  have bad : (inB nm 0 124 && inB k 0 100) = false → X Γ 17 [some (.inr 95), some (.inl nm), some (.inl k), none, none, none] [] σ := by
    intro hb
    refine hG.rt hR rfl rfl rfl rfl ?_
    exact ⟨by rw [stayR, hb]; rfl, Sm.rf⟩
  refine hG.cS lk_M_93 mi_M_isCalled rfl rfl (c_M_isCalled nm) rfl rfl rfl rfl rfl rfl ?_
  rintro x σ' ⟨rfl, rfl⟩
  refine hG.br rfl rfl rfl rfl (fun k1 => ?_) (fun k1 => ?_)
  · exact bad (by rw [bi_eq0.mp k1]; rfl)
  · refine hG.cS lk_M_84 mi_M_in rfl rfl (c_M_in k 0 100) rfl rfl rfl rfl rfl rfl ?_
    rintro x σ' ⟨rfl, rfl⟩
    refine hG.br rfl rfl rfl rfl (fun k2 => ?_) (fun k2 => ?_)
    · obtain ⟨K, hK1, hK2, rfl⟩ := inB_ab 0 100 (by omega) (by omega) (bi_ne0.mp k2)
      have hg : stayR (σ' 96) n t nm (nI K) = nI (stayL (σ' 96) n t nm K) := by
        rw [stayR, bi_ne0.mp k1, bi_ne0.mp k2, nI_clamp (by omega), Bool.and_self, if_pos rfl]
      refine hG.cVv lk_M_183 mi_M_thinks rfl rfl c_M_thinks rfl rfl rfl rfl rfl rfl rfl rfl ?_
      rintro τ0 rfl
      have hf0 := hf
      obtain ⟨h1, hn, h4, hc, h5, ht, h2, h2y, hT, hW⟩ := hf
      have e960 : upc σ' 102 (fun k => if k < 58 then σ' 96 k else σ' 102 k) 96 = σ' 96 := upc_c _ _ _ (by decide)
      refine hG.cVv lk_M_137 mi_M_findNears rfl rfl (c_M_findNears t (by rw [e960]; exact h5) ht (by rw [e960]; exact hT)) rfl rfl rfl rfl rfl rfl rfl rfl ?_
      rintro τ1 ⟨hS1, hN⟩
      rw [e960] at hN
      have e961 : τ1 96 = σ' 96 := by rw [hS1 96 (by decide), e960]
      have loop : ∀ m j s, j + m = K → ∀ (τ : Sg) (w5 : Option AV), Sm [96, 99, 102, 109, 110] σ' τ → τ 102 = (fun k => if k < 58 then σ' 96 k else σ' 102 k) → NT (nearT (τ 96) t) τ → FOk (τ 96) n c t (y + j) → (∀ i, 58 ≤ i → τ 96 i = σ' 96 i) → (∃ b : Nat, b = (if freeG (nearT (τ 96) t) (τ 96) n nm (τ 96 2) then 1 else 0) ∧ stayL (σ' 96) n t nm K + b = s + stayL (τ 96) n t nm m) → X Γ 51 [some (.inr 95), some (.inl nm), some (.inl (nI K)), some (.inl (nI s)), some (.inl (nI j)), w5] [] τ := by
        intro m
        induction m with
        | zero =>
          intro j s hj τ w5 hS h102 hN hF hhi he
          obtain ⟨b, hb, he⟩ := he
          rw [stayL, ← hb] at he
          refine hG.br rfl rfl rfl rfl (fun k3 => ?_) (fun k3 => ?_)
          · refine hG.cVv lk_M_189 mi_M_putsBack rfl rfl c_M_putsBack rfl rfl rfl rfl rfl rfl rfl rfl ?_
            rintro τ2 rfl
            refine hG.rt hR rfl rfl rfl rfl ?_
            exact ⟨by rw [hg, show stayL (σ' 96) n t nm K = s by omega], Sm.fix 96 (hS.upc (by decide)) (by rw [upc_same]; exact back58 h102 hhi)⟩
          · exact absurd (nI_le (show K ≤ j by omega) (by omega)) k3
        | succ m ih =>
          intro j s hj τ w5 hS h102 hN hF hhi he
          obtain ⟨b, hb, he⟩ := he
          rw [stayL, ← hb] at he
          refine hG.br rfl rfl rfl rfl (fun k3 => ?_) (fun k3 => ?_)
          · exact absurd k3 (nI_ge (by omega) (by omega))
          · refine hG.cV lk_M_180 mi_M_year rfl rfl (c_M_yearF hF) rfl rfl rfl rfl rfl rfl rfl rfl ?_
            rintro x τ1 ⟨rfl, g1, hS1⟩
            have hF1 : FOk (τ1 96) n c t (y + (j + 1)) := by rw [g1]; exact FOk_year (y := y + j) hF (by omega)
            have hN1 : NT (nearT (τ1 96) t) τ1 := by rw [g1, nearT_year hF]; intro q hq; rw [hS1 99 (by decide)]; exact hN q hq
            have hS2 := hS.tr (hS1.mono (ds := [96, 99, 102, 109, 110]) (by decide))
            have hhi1 : ∀ i, 58 ≤ i → τ1 96 i = σ' 96 i := fun i hi => by rw [g1, yearF_hi hF.2.1 hi]; exact hhi i hi
            refine hG.ld rfl 2 rfl rfl rfl rfl rfl (by decide) ?_
            refine hG.cV lk_M_148 mi_M_isFree rfl rfl (c_M_isFree (nearT (τ1 96) t) n nm (τ1 96 2) hN1 hF1.1 hn) rfl rfl rfl rfl rfl rfl rfl rfl ?_
            rintro x τ2 ⟨rfl, rfl⟩
            rw [← g1] at he
            refine hG.br rfl rfl rfl rfl (fun k4 => ?_) (fun k4 => ?_)
            · refine hG.jp rfl rfl rfl ?_
              rw [nI_1, show nI s + 0 = nI (s + 0) from nI_add s 0]
              exact ih (j + 1) (s + 0) (by omega) τ2 _ hS2 (by rw [hS1 102 (by decide)]; exact h102) hN1 hF1 hhi1 ⟨0, by rw [bi_eq0.mp k4]; rfl, by omega⟩
            · refine hG.jp rfl rfl rfl ?_
              rw [nI_1, nI_1]
              exact ih (j + 1) (s + 1) (by omega) τ2 _ hS2 (by rw [hS1 102 (by decide)]; exact h102) hN1 hF1 hhi1 ⟨1, by rw [bi_ne0.mp k4]; rfl, by omega⟩
      refine hG.ld rfl 2 rfl rfl rfl rfl rfl (by decide) ?_
      refine hG.cV lk_M_148 mi_M_isFree rfl rfl (c_M_isFree (nearT (σ' 96) t) n nm (τ1 96 2) hN (by rw [e961]; exact h1) hn) rfl rfl rfl rfl rfl rfl rfl rfl ?_
      rintro x τ2 ⟨rfl, rfl⟩
      have hNx : NT (nearT (τ2 96) t) τ2 := by rw [e961]; exact hN
      have hFx : FOk (τ2 96) n c t (y + 0) := by rw [e961]; exact hf0
      have hSx : Sm [96, 99, 102, 109, 110] σ' τ2 := (Sm.rf.upc (by decide)).tr (hS1.mono (by decide))
      have h102x : τ2 102 = (fun k => if k < 58 then σ' 96 k else σ' 102 k) := by rw [hS1 102 (by decide), upc_same]
      refine hG.br rfl rfl rfl rfl (fun k3 => ?_) (fun k3 => ?_)
      · exact hG.go 4 rfl rfl (loop K 0 0 (by omega) τ2 none hSx h102x hNx hFx (fun i _ => by rw [e961]) ⟨0, by rw [e961]; rw [e961] at k3; rw [bi_eq0.mp k3]; rfl, by rw [e961]; omega⟩)
      · exact hG.go 5 rfl rfl (loop K 0 1 (by omega) τ2 none hSx h102x hNx hFx (fun i _ => by rw [e961]) ⟨1, by rw [e961]; rw [e961] at k3; rw [bi_ne0.mp k3]; rfl, by rw [e961]; omega⟩)
    · exact bad (by rw [bi_eq0.mp k2]; simp)
theorem c_M_isNearEarlier (g : Nat → Bool) (s p : Nat) (hs : s < 4) (hp : p < 24) (hN : NT g σ) : Ci l θ 3 m_M_isNearEarlier [.inr 95, .inl (nI s), .inl (nI p)] σ (fun r σ' => σ' = σ ∧ r = bi (erlB g (fun k => σ 113 (24 * s + k)) p)) := by
  refine Ci.of (Or.inl mi_M_isNearEarlier) pk_M_isNearEarlier (nb rfl) (Or.inr rfl) [some (.inr 95), some (.inl (nI s)), some (.inl (nI p)), none, none, none] rfl fun Γ hG hR => ?_
  have loop : ∀ m k, k + m = p → ∀ w : Option AV, erlB g (fun k => σ 113 (24 * s + k)) p = !allB (fun k => !(inB (σ 113 (24 * s + k)) 0 124 && g (nrIx (σ 113 (24 * s + p)) (σ 113 (24 * s + k))))) k m → X Γ 15 [some (.inr 95), some (.inl (nI s)), some (.inl (nI p)), some (.inl (σ 113 (24 * s + p))), some (.inl (nI k)), w] [] σ := by
    intro m
    induction m with
    | zero =>
      intro k hk w he
      refine hG.br rfl rfl rfl rfl (fun k1 => ?_) (fun k1 => ?_)
      · refine hG.rz hR rfl rfl rfl rfl (Or.inl rfl) ?_
        exact ⟨rfl, by rw [he]; rfl⟩
      · exact absurd (nI_le (show p ≤ k by omega) (by omega)) k1
    | succ m ih =>
      intro k hk w he
      rw [allB_s _ _ m] at he
      refine hG.br rfl rfl rfl rfl (fun k1 => ?_) (fun k1 => ?_)
      · exact absurd k1 (nI_ge (by omega) (by omega))
      · refine hG.ld rfl (24 * s + k) rfl rfl rfl rfl (by simp only [lit_nI, pk_mul, nI_add, nI_1]; first | done | rfl | (congr 1; omega)) (by omega) ?_
        refine hG.cS lk_M_93 mi_M_isCalled rfl rfl (c_M_isCalled _) rfl rfl rfl rfl rfl rfl ?_
        rintro x σ' ⟨rfl, rfl⟩
        refine hG.br rfl rfl rfl rfl (fun k2 => ?_) (fun k2 => ?_)
        · refine hG.jp rfl rfl rfl ?_
          rw [nI_1]
          exact ih (k + 1) (by omega) _ (by rw [he, bi_eq0.mp k2]; rfl)
        · refine hG.cV lk_M_140 mi_M_areNear rfl rfl (c_M_areNear g _ _ hN) rfl rfl rfl rfl rfl rfl rfl rfl ?_
          rintro x σ' ⟨rfl, rfl⟩
          refine hG.br rfl rfl rfl rfl (fun k3 => ?_) (fun k3 => ?_)
          · refine hG.jp rfl rfl rfl ?_
            rw [nI_1]
            exact ih (k + 1) (by omega) _ (by rw [he, bi_eq0.mp k3]; simp)
          · refine hG.rz hR rfl rfl rfl rfl (Or.inr rfl) ?_
            exact ⟨rfl, by rw [he, bi_ne0.mp k2, bi_ne0.mp k3]; rfl⟩
  refine hG.ld rfl (24 * s + p) rfl rfl rfl rfl (by simp only [lit_nI, pk_mul, nI_add, nI_1]; first | done | rfl | (congr 1; omega)) (by omega) ?_
  exact hG.go 3 rfl rfl (loop p 0 (by omega) none rfl)
theorem o_M_line (s : Int32) (hf : FOk (σ 96) n c t y) (hs : SOk (σ 111) (σ 112)) : Ci l θ 6 m_M_line [.inr 95, .inl s] σ (fun r σ' => r = lineR (σ 96) (σ 111) (σ 112) (σ 113) n t s ∧ Sm [99, 109, 110] σ σ') := by
  obtain ⟨h1, hn, h4, hc, h5, ht, h2, h2y, hT, hW⟩ := hf
  refine Ci.of (Or.inl mi_M_line) pk_M_line (nb rfl) (Or.inl rfl) [some (.inr 95), some (.inl s), none, none] rfl fun Γ hG hR => ?_
  refine hG.cS lk_M_192 mi_M_isSheet rfl rfl (c_M_isSheet s) rfl rfl rfl rfl rfl rfl ?_
  rintro x σ' ⟨rfl, rfl⟩
  refine hG.br rfl rfl rfl rfl (fun k1 => ?_) (fun k1 => ?_)
  · obtain ⟨S, hS1, hS2, rfl⟩ := inB_ab 0 3 (by omega) (by omega) (bi_ne0.mp k1)
    obtain ⟨hso, Z, hZ, hsz⟩ := hs S (by omega)
    refine hG.ld rfl S rfl rfl rfl rfl rfl (by omega) ?_
    refine hG.br rfl rfl rfl rfl (fun k2 => ?_) (fun k2 => ?_)
    · have hg : lineR (σ' 96) (σ' 111) (σ' 112) (σ' 113) n t (nI S) = lineF (σ' 96) n t (fun k => σ' 113 (24 * S + k)) Z := by
        rw [lineR, bi_ne0.mp k1, if_pos rfl, nI_clamp (by omega), if_neg (i32_nlt.mpr k2), hsz, nI_clamp (by omega)]
      refine hG.cVv lk_M_137 mi_M_findNears rfl rfl (c_M_findNears t h5 ht hT) rfl rfl rfl rfl rfl rfl rfl rfl ?_
      rintro τ ⟨hS, hN⟩
      have e96 : τ 96 = σ' 96 := hS 96 (by decide)
      have e112 : τ 112 = σ' 112 := hS 112 (by decide)
      have e113 : τ 113 = σ' 113 := hS 113 (by decide)
      generalize hP : (fun k => inB (σ' 113 (24 * S + k)) 0 124 && (!freeG (nearT (σ' 96) t) (σ' 96) n (σ' 113 (24 * S + k)) (σ' 96 2) || erlB (nearT (σ' 96) t) (fun k => σ' 113 (24 * S + k)) k)) = P
      have hg2 : lineF (σ' 96) n t (fun k => σ' 113 (24 * S + k)) Z = optN (-1000000005) (fndB P 0 Z) := by rw [lineF, ← hP]
      have loop : ∀ m k, k + m = Z → ∀ w : Option AV, fndB P 0 Z = fndB P k m → X Γ 28 [some (.inr 95), some (.inl (nI S)), some (.inl (nI k)), w] [] τ := by
        intro m
        induction m with
        | zero =>
          intro k hk w he
          refine hG.ld rfl S rfl rfl rfl rfl rfl (by omega) ?_
          rw [e112, hsz]
          refine hG.br rfl rfl rfl rfl (fun k3 => ?_) (fun k3 => ?_)
          · refine hG.rt hR rfl rfl rfl rfl ?_
            exact ⟨by rw [hg, hg2, he]; rfl, hS⟩
          · exact absurd (nI_le (show Z ≤ k by omega) (by omega)) k3
        | succ m ih =>
          intro k hk w he
          rw [fndB_s _ _ m] at he
          have hPk : P k = (inB (σ' 113 (24 * S + k)) 0 124 && (!freeG (nearT (σ' 96) t) (σ' 96) n (σ' 113 (24 * S + k)) (σ' 96 2) || erlB (nearT (σ' 96) t) (fun k => σ' 113 (24 * S + k)) k)) := by rw [← hP]
          refine hG.ld rfl S rfl rfl rfl rfl rfl (by omega) ?_
          rw [e112, hsz]
          refine hG.br rfl rfl rfl rfl (fun k3 => ?_) (fun k3 => ?_)
          · exact absurd k3 (nI_ge (by omega) (by omega))
          · refine hG.ld rfl (24 * S + k) rfl rfl rfl rfl (by simp only [lit_nI, pk_mul, nI_add, nI_1]; first | done | rfl | (congr 1; omega)) (by omega) ?_
            rw [e113]
            refine hG.cS lk_M_93 mi_M_isCalled rfl rfl (c_M_isCalled _) rfl rfl rfl rfl rfl rfl ?_
            rintro x τ ⟨rfl, rfl⟩
            refine hG.br rfl rfl rfl rfl (fun k4 => ?_) (fun k4 => ?_)
            · refine hG.jp rfl rfl rfl ?_
              rw [nI_1]
              exact ih (k + 1) (by omega) _ (by rw [he, hPk, bi_eq0.mp k4]; rfl)
            · refine hG.ld rfl 2 rfl rfl rfl rfl rfl (by decide) ?_
              rw [e96]
              refine hG.cV lk_M_148 mi_M_isFree rfl rfl (c_M_isFree (nearT (σ' 96) t) n _ _ hN (by rw [e96]; exact h1) hn) rfl rfl rfl rfl rfl rfl rfl rfl ?_
              rintro x τ ⟨rfl, rfl⟩
              rw [e96]
              have found : P k = true → X Γ 80 [some (.inr 95), some (.inl (nI S)), some (.inl (nI k)), some (.inl (σ' 113 (24 * S + k)))] [] τ := by
                intro hp
                refine hG.rt hR rfl rfl rfl rfl ?_
                exact ⟨by rw [hg, hg2, he, hp]; rfl, hS⟩
              refine hG.br rfl rfl rfl rfl (fun k5 => ?_) (fun k5 => ?_)
              · exact found (by rw [hPk, bi_ne0.mp k4, bi_eq0.mp k5]; rfl)
              · refine hG.cV lk_M_196 mi_M_isNearEarlier rfl rfl (c_M_isNearEarlier (nearT (σ' 96) t) S k (by omega) (by omega) hN) rfl rfl rfl rfl rfl rfl rfl rfl ?_
                rintro x τ ⟨rfl, rfl⟩
                rw [e113]
                refine hG.br rfl rfl rfl rfl (fun k6 => ?_) (fun k6 => ?_)
                · refine hG.jp rfl rfl rfl ?_
                  rw [nI_1]
                  exact ih (k + 1) (by omega) _ (by rw [he, hPk, bi_ne0.mp k5, bi_eq0.mp k6]; simp)
                · exact found (by rw [hPk, bi_ne0.mp k4, bi_ne0.mp k6]; simp)
      exact hG.go 2 rfl rfl (loop Z 0 (by omega) none rfl)
    · refine hG.rt hR rfl rfl rfl rfl ?_
      exact ⟨by rw [lineR, bi_ne0.mp k1, if_pos rfl, nI_clamp (by omega), if_pos (i32_nle.mp k2)], Sm.rf⟩
  · refine hG.rt hR rfl rfl rfl rfl ?_
    exact ⟨by rw [lineR, bi_eq0.mp k1]; rfl, Sm.rf⟩
end
