/-! the class's reading: levels and pieces, against the reference's turns -/
def LvR (k : Nat) (σ : Sg) (tp : Nat → Int32) (T key : Nat) (L : Lx) (w : List Nat) (o : List Int32) (lv : Nat) (tst : List Bool) (r : Int32) (σ' : Sg) : Prop := Sm [64, 66, 67] σ σ' ∧ ((r = 0 ∧ ∃ s, σ' 64 2 = nI s ∧ Fl tp T key (L, w, o, lv, true, cntN w, tst) s) ∨ (r = 1 ∧ ∃ L' u om lv' tst', CPs σ' tp T key L' (fl u om) lv' ∧ (fl u om).length + w.length ≤ L'.1 ∧ L.1 ≤ L'.1 ∧ dpL (fl u om) = dpL o + 1 ∧ (∀ s ∈ u, 1 ≤ s ∧ s ≤ 9 ∧ k + 1 ≤ rnk s) ∧ Go tp T key (L, w, o, lv, true, cntN w, tst) (L', u ++ w, om, lv', false, cntN w, tst') ∧ tst'.length = tst.length ∧ tst'.tail = tst.tail ∧ (3 ≤ k → tst' = tst) ∧ (opL tp L' = 0 ∨ rnk (opL tp L') ≤ k ∨ (rnk (opL tp L') = 3 ∧ tst'.headD false = true))))
def PcR (σ : Sg) (tp : Nat → Int32) (T key : Nat) (L : Lx) (w : List Nat) (o : List Int32) (lv : Nat) (tst : List Bool) (r : Int32) (σ' : Sg) : Prop := Sm [64, 66, 67] σ σ' ∧ ((r = 0 ∧ ∃ s, σ' 64 2 = nI s ∧ Fl tp T key (L, w, o, lv, true, cntN w, tst) s) ∨ (r = 1 ∧ ∃ L' oc lv', CPs σ' tp T key L' oc lv' ∧ oc.length + w.length ≤ L'.1 ∧ L.1 ≤ L'.1 ∧ dpL oc = dpL o + 1 ∧ Go tp T key (L, w, o, lv, true, cntN w, tst) (L', (stl 6 w oc).1, (stl 6 w oc).2, lv', false, cntN (stl 6 w oc).1, tst)))
section
variable {l : Launch} {θ : Th} {σ σ' : Sg} {T key : Nat} {tp : Nat → Int32}
theorem syN_leaf {L : Lx} {w : List Nat} {o : List Int32} {lv nots : Nat} {tst : List Bool} (c1 : (sgnIs tp L 33 && decide (nots < 8)) = false) (c2 : (sgnIs tp L 40 && decide (tst.length < 9)) = false) : syN tp T key (L, w, o, lv, true, nots, tst) = match leafL tp key L with
      | none => none
      | some v => some (advL tp T L, (stl 6 w (nI v :: o)).1, (stl 6 w (nI v :: o)).2, lv + 1, false, cntN (stl 6 w (nI v :: o)).1, tst) := by
  unfold syN
  dsimp only
  rw [if_pos rfl, c1, if_neg (by decide), c2, if_neg (by decide)]
  rfl
theorem syN_not {L : Lx} {w : List Nat} {o : List Int32} {lv nots : Nat} {tst : List Bool} (c1 : (sgnIs tp L 33 && decide (nots < 8)) = true) : syN tp T key (L, w, o, lv, true, nots, tst) = some (advL tp T L, 10 :: w, o, lv, true, cntN (10 :: w), tst) := by
  unfold syN
  dsimp only
  rw [if_pos rfl, if_pos c1]
theorem syN_opn {L : Lx} {w : List Nat} {o : List Int32} {lv nots : Nat} {tst : List Bool} (c1 : (sgnIs tp L 33 && decide (nots < 8)) = false) (c2 : (sgnIs tp L 40 && decide (tst.length < 9)) = true) : syN tp T key (L, w, o, lv, true, nots, tst) = some (advL tp T L, 11 :: w, o, lv, true, cntN (11 :: w), false :: tst) := by
  unfold syN
  dsimp only
  rw [if_pos rfl, c1, if_neg (by decide), if_pos c2]
theorem syN_cls {L : Lx} {w : List Nat} {o : List Int32} {lv nots : Nat} {tst : List Bool} (c1 : (sgnIs tp L 41 && decide (1 < tst.length)) = true) : syN tp T key (L, w, o, lv, false, nots, tst) = some (advL tp T L, (stl 6 (stl 0 w o).1.tail (stl 0 w o).2).1, (stl 6 (stl 0 w o).1.tail (stl 0 w o).2).2, lv, false, cntN (stl 6 (stl 0 w o).1.tail (stl 0 w o).2).1, tst.tail) := by
  unfold syN
  dsimp only
  rw [if_neg (by decide), if_pos c1]
theorem sgn_nleaf {L : Lx} {x : Int32} (h : sgnIs tp L x = true) : leafL tp key L = none := by
  simp only [sgnIs, Bool.and_eq_true, decide_eq_true_eq] at h
  rw [leafL, if_neg (by omega), if_neg (by omega)]
theorem sgn_kd {L : Lx} {x : Int32} (h : sgnIs tp L x = true) : L.2.2 = 3 ∧ tp L.1 = x := by
  simpa only [sgnIs, Bool.and_eq_true, decide_eq_true_eq] using h
theorem sgn_ne {L : Lx} {x y : Int32} (h : sgnIs tp L x = true) (hxy : x ≠ y) : sgnIs tp L y = false := by
  obtain ⟨h1, h2⟩ := sgn_kd h
  rw [sgnIs, h2, decide_eq_false hxy, Bool.and_false]
theorem sgn_op {L : Lx} (h : opL tp L ≠ 0) : sgnIs tp L 41 = false := by
  obtain ⟨h1, h2⟩ := opL_3 h
  cases hs : sgnIs tp L 41 with
  | false => rfl
  | true =>
    obtain ⟨-, h3⟩ := sgn_kd hs
    rw [h2, h3] at h
    exact absurd (by decide) h
set_option maxHeartbeats 2000000 in
theorem c_P_read : ∀ D : Nat,
    (∀ (k opens nots lv : Nat) (L : Lx) (w : List Nat) (o : List Int32) (tst : List Bool) (σ : Sg), k ≤ 5 → opens ≤ 8 → nots ≤ 8 → 7 * (8 - opens) + (8 - nots) + 14 - k ≤ D → CPs σ tp T key L o lv → Blk (k + 1) w → opens = w.count 11 → nots = cntN w → tst.length = opens + 1 → (k ≤ 2 → tst.headD false = false) → o.length + w.length ≤ L.1 → Ci l θ D m_P_readLevel [.inr 64, .inl (nI k), .inl (nI opens), .inl (nI nots)] σ (LvR k σ tp T key L w o lv tst))
    ∧ (∀ (opens nots lv : Nat) (L : Lx) (w : List Nat) (o : List Int32) (tst : List Bool) (σ : Sg), opens ≤ 8 → nots ≤ 8 → 7 * (8 - opens) + (8 - nots) + 8 ≤ D → CPs σ tp T key L o lv → opens = w.count 11 → nots = cntN w → tst.length = opens + 1 → o.length + w.length ≤ L.1 → Ci l θ D m_P_readPiece [.inr 64, .inl (nI opens), .inl (nI nots)] σ (PcR σ tp T key L w o lv tst)) := by
  intro D
  induction D with
  | zero =>
    refine ⟨fun k opens nots lv L w o tst σ h1 h2 h3 h4 => ?_, fun opens nots lv L w o tst σ h1 h2 h3 => ?_⟩ <;> omega
  | succ D ih =>
    obtain ⟨ihL, ihP⟩ := ih
    refine ⟨?_, ?_⟩
    · intro k opens nots lv L w o tst σ hk5 hop hno hD hC hB hcw hcn htl hhd hle
      refine Ci.of (Or.inl mi_P_readLevel) pk_P_readLevel (nb rfl) (Or.inr rfl) [some (.inr 64), some (.inl (nI k)), some (.inl (nI opens)), some (.inl (nI nots)), none, none, none] rfl fun Γ hG hR => ?_
      refine hG.br rfl rfl rfl rfl (fun k1 => ?_) (fun k1 => ?_)
      · -- a level of its own
        have hk : k < 5 := (nI_ltI (b := 5) (by omega) (by omega)).mp k1
        refine hG.go 6 rfl rfl ?_
        rw [nI_1]
        refine hG.cV lk_P_43 mi_P_readLevel rfl rfl (ihL (k + 1) opens nots lv L w o tst σ (by omega) hop hno (by omega) hC (hB.mono (by omega)) hcw hcn htl (fun q => hhd (by omega)) hle) rfl rfl (Nat.ble_eq_true_of_le (by omega)) rfl rfl rfl rfl rfl ?_
        rintro r τ0 ⟨hs0, hr⟩
        rcases hr with ⟨rfl, s, hs, hf⟩ | ⟨rfl, L1, u1, om1, lv1, tst1, hC1, hle1, hLL1, hdp1, hu1, hgo1, htl1, htt1, ht31, hnx1⟩
        · refine hG.br rfl rfl rfl rfl (fun k2 => ?_) (fun k2 => ?_)
          · exact absurd rfl k2
          · refine hG.rz hR rfl rfl rfl rfl (Or.inl rfl) ?_
            exact ⟨hs0, Or.inl ⟨rfl, s, hs, hf⟩⟩
        · -- the rounds
          generalize hRd : (if k = 2 then 1 else 96 : Nat) = Rd
          have loop : ∀ m (rd : Nat) (L1 : Lx) (u : List Nat) (om : List Int32) (lv1 : Nat) (tst1 : List Bool) (τ : Sg) (w6 : Option AV), T - L1.1 < m → Sm [64, 66, 67] σ τ → CPs τ tp T key L1 (fl u om) lv1 → (fl u om).length + w.length ≤ L1.1 → L.1 ≤ L1.1 → dpL (fl u om) = dpL o + 1 → (∀ s ∈ u, 1 ≤ s ∧ s ≤ 9 ∧ k + 1 ≤ rnk s) → Go tp T key (L, w, o, lv, true, cntN w, tst) (L1, u ++ w, om, lv1, false, cntN w, tst1) → tst1.length = tst.length → tst1.tail = tst.tail → (3 ≤ k → tst1 = tst) → (k = 2 → (rd = 0 ∧ tst1.headD false = false) ∨ (rd = 1 ∧ tst1.headD false = true)) → (k ≠ 2 → rd ≤ L1.1) → (opL tp L1 = 0 ∨ rnk (opL tp L1) ≤ k + 1 ∨ (rnk (opL tp L1) = 3 ∧ tst1.headD false = true)) → X Γ 42 [some (.inr 64), some (.inl (nI k)), some (.inl (nI opens)), some (.inl (nI nots)), some (.inl (nI Rd)), some (.inl (nI rd)), w6] [] τ := by
            intro m
            induction m with
            | zero => intro rd L1 u om lv1 tst1 τ w6 hm; omega
            | succ m ihm =>
              intro rd L1 u om lv1 tst1 τ w6 hm hsm hC1 hle1 hLL hdp hu hgo htl1 htt h3k h2k hrd hnx
              have hok1 := hC1.2.2.2.1
              have hT96 := hC1.2.2.1
              have hLe := LxOk_le hok1
              have out : (opL tp L1 = 0 ∨ rnk (opL tp L1) ≤ k ∨ (rnk (opL tp L1) = 3 ∧ tst1.headD false = true)) → X Γ 101 [some (.inr 64), some (.inl (nI k)), some (.inl (nI opens)), some (.inl (nI nots)), some (.inl (nI Rd)), some (.inl (nI rd)), w6] [] τ := by
                intro hx
                refine hG.rz hR rfl rfl rfl rfl (Or.inr rfl) ?_
                exact ⟨hsm, Or.inr ⟨rfl, L1, u, om, lv1, tst1, hC1, hle1, hLL, hdp, hu, hgo, htl1, htt, h3k, hx⟩⟩
              have hRd96 : Rd ≤ 96 := by rw [← hRd]; split <;> omega
              have hrd96 : rd ≤ 96 := by
                by_cases h2 : k = 2
                · rcases h2k h2 with h | h <;> omega
                · have := hrd h2; omega
              refine hG.br rfl rfl rfl rfl (fun j1 => ?_) (fun j1 => ?_)
              · -- no more rounds
                have j1 : Rd ≤ rd := (nI_leI (by omega) (by omega)).mp j1
                refine out ?_
                by_cases h2 : k = 2
                · rw [if_pos h2] at hRd
                  rcases h2k h2 with ⟨h, -⟩ | ⟨-, h⟩
                  · omega
                  · rcases hnx with q | q | q
                    · exact Or.inl q
                    · by_cases e : rnk (opL tp L1) = 3
                      · exact Or.inr (Or.inr ⟨e, h⟩)
                      · exact Or.inr (Or.inl (by omega))
                    · exact Or.inr (Or.inr q)
                · rw [if_neg h2] at hRd
                  have := hrd h2
                  by_cases h0 : opL tp L1 = 0
                  · exact Or.inl h0
                  · have := (LxOk_3 hok1 (opL_3 h0).1).1
                    omega
              · have j1 : rd < Rd := Nat.not_le.mp (fun q => j1 (nI_le q (by omega)))
                refine hG.cV lk_P_70 mi_P_signOfLevel rfl rfl (c_P_signOfLevel k (by omega) hC1.1 hC1.2.1 hC1.2.2.1 hok1 hC1.2.2.2.2.1) rfl rfl (Nat.ble_eq_true_of_le (by omega)) rfl rfl rfl rfl rfl ?_
                rintro x τ' ⟨rfl, rfl⟩
                refine hG.br rfl rfl rfl rfl (fun j2 => ?_) (fun j2 => ?_)
                · -- another sign
                  have j2 := bi_eq0.mp j2
                  refine out ?_
                  by_cases h0 : opL tp L1 = 0
                  · exact Or.inl h0
                  · have hne : ¬ rnk (opL tp L1) = k + 1 := fun e => by rw [lvL, decide_eq_true h0, decide_eq_true e] at j2; cases j2
                    rcases hnx with q | q | q
                    · exact absurd q h0
                    · exact Or.inr (Or.inl (by omega))
                    · exact Or.inr (Or.inr q)
                · have j2 := bi_ne0.mp j2
                  simp only [lvL, Bool.and_eq_true, decide_eq_true_eq] at j2
                  obtain ⟨h0, hrk⟩ := j2
                  obtain ⟨hk3, hob⟩ := opL_3 h0
                  have hs9 := opL_le tp L1
                  generalize hsg : opL tp L1 = sg at *
                  have hsg1 : 1 ≤ sg := by omega
                  have hL3 := LxOk_3 hok1 hk3
                  have hadv := advL_ok hok1
                  refine hG.ld rfl L1.1 rfl rfl rfl rfl hC1.2.2.2.2.1.1 (by omega) ?_
                  rw [hC1.1]
                  refine hG.cVv lk_P_32 mi_P_advance rfl rfl hC1.cadv rfl rfl (Nat.ble_eq_true_of_le (by omega)) rfl rfl rfl rfl rfl ?_
                  rintro τ1 ⟨hC2, hs2⟩
                  -- the reference's turn
                  have hhead : ¬ (rnk sg = 3 ∧ tst1.headD false = true) := by
                    rintro ⟨e1, e2⟩
                    have h2 : k = 2 := by omega
                    rw [if_pos h2] at hRd
                    rcases h2k h2 with ⟨-, h⟩ | ⟨h, -⟩
                    · rw [h] at e2; cases e2
                    · omega
                  have hpre : stl (rnk sg) (u ++ w) om = (w, fl u om) := by
                    rw [hrk, stl_pre _ u w om (fun s hs => ⟨by have := hu s hs; omega, (hu s hs).2.2⟩), hB.eq]
                  have hstep : syN tp T key (L1, u ++ w, om, lv1, false, cntN w, tst1) = some (advL tp T L1, sg :: w, fl u om, lv1, true, cntN w, (decide (rnk sg = 3) || (decide (3 < rnk sg) && tst1.headD false)) :: tst1.tail) := by
                    rw [syN_op (by rw [sgn_op (by rw [hsg]; exact h0)]; rfl), hsg, if_neg (by
                      rintro (q | q)
                      · exact h0 q
                      · exact hhead q), hpre]
                  have hgo2 := hgo.tr (Go.step hstep (fun q => by rw [hk3] at q; cases q.2))
                  generalize htst2 : (decide (rnk sg = 3) || (decide (3 < rnk sg) && tst1.headD false)) :: tst1.tail = tst2 at hgo2
                  have htl0 : 1 ≤ tst1.length := by omega
                  have ht2l : tst2.length = tst.length := by rw [← htst2, List.length_cons, List.length_tail]; omega
                  have ht2t : tst2.tail = tst.tail := by rw [← htst2]; exact htt
                  have ht2h : tst2.headD false = (decide (rnk sg = 3) || (decide (3 < rnk sg) && tst1.headD false)) := by rw [← htst2]; rfl
                  have hc10 : cntN (sg :: w) = cntN w := cntN_ne (by omega)
                  have hgo2 : Go tp T key (L, w, o, lv, true, cntN w, tst) (advL tp T L1, sg :: w, fl u om, lv1, true, cntN (sg :: w), tst2) := by rw [hc10]; exact hgo2
                  have hc11 : (sg :: w).count 11 = w.count 11 := by rw [List.count_cons, if_neg (by simp; omega), Nat.add_zero]
                  refine hG.go 6 rfl rfl ?_
                  rw [nI_1]
                  refine hG.cV lk_P_43 mi_P_readLevel rfl rfl (ihL (k + 1) opens nots lv1 (advL tp T L1) (sg :: w) (fl u om) tst2 τ1 (by omega) hop hno (by omega) hC2 (Or.inr ⟨sg, w, rfl, Or.inr (by omega)⟩) (by rw [hc11]; exact hcw) (by rw [hc10]; exact hcn) (by omega) (fun q => by rw [ht2h, decide_eq_false (by omega), decide_eq_false (by omega)]; rfl) (by simp only [List.length_cons]; omega)) rfl rfl (Nat.ble_eq_true_of_le (by omega)) rfl rfl rfl rfl rfl ?_
                  rintro r τ2 ⟨hs3, hr⟩
                  have hsm3 : Sm [64, 66, 67] σ τ2 := (hsm.tr (hs2.mono (by simp))).tr hs3
                  rcases hr with ⟨rfl, s, hs, hf⟩ | ⟨rfl, L3, u3, om3, lv3, tst3, hC3, hle3, hLL3, hdp3, hu3, hgo3, htl3, htt3, ht33, hnx3⟩
                  · refine hG.br rfl rfl rfl rfl (fun j3 => ?_) (fun j3 => ?_)
                    · exact absurd rfl j3
                    · refine hG.rz hR rfl rfl rfl rfl (Or.inl rfl) ?_
                      exact ⟨hsm3, Or.inl ⟨rfl, s, hs, hgo2.fl hf⟩⟩
                  · simp only [List.length_cons] at hle3
                    have hLe3 := LxOk_le hC3.2.2.2.1
                    obtain ⟨o1, o2, o3⟩ := opI_neg sg (by omega) hsg1
                    have hst : stC (opI sg) = -(tp L1.1) := by rw [hob]; exact stC_op _ (by rw [← hob]; exact h0)
                    refine hG.br rfl rfl rfl rfl (fun j3 => ?_) (fun j3 => ?_)
                    · refine hG.cVv lk_P_73 mi_X_addSign rfl rfl (hC3.csign (opI sg) (tp L1.1) hst ⟨hC3.2.2.2.2.2.2.2.2.2.2, fun q => absurd q o1, fun _ q => absurd q o2, fun _ _ => ⟨by omega, o3⟩⟩ (by omega)) rfl rfl (Nat.ble_eq_true_of_le (by omega)) rfl rfl rfl rfl rfl ?_
                      rintro τ3 ⟨hC4, hs4⟩
                      refine hG.jp rfl rfl rfl ?_
                      rw [nI_1]
                      rw [← fl_snoc] at hC4
                      have hfl : (fl (u3 ++ [sg]) om3).length = (fl u3 om3).length + 1 := by rw [fl_snoc]; rfl
                      refine ihm (rd + 1) L3 (u3 ++ [sg]) om3 lv3 tst3 τ3 _ (by omega) (hsm3.tr (hs4.mono (by simp))) hC4 (by omega) (by omega) ?_ ?_ ?_ (by omega) (by rw [htt3, ht2t]) ?_ ?_ (fun h2 => by have := hrd h2; omega) ?_
                      · rw [fl_snoc, dpL, if_neg o1, if_neg o2]; omega
                      · intro s hs
                        rcases List.mem_append.mp hs with h | h
                        · have := hu3 s h; omega
                        · have := List.mem_singleton.mp h; subst this; omega
                      · rw [List.append_assoc, List.singleton_append]
                        have g4 := hgo2.tr hgo3
                        rw [hc10] at g4
                        exact g4
                      · intro h3
                        have e1 := h3k h3
                        rw [ht33 (by omega), ← htst2, decide_eq_false (by omega), decide_eq_true (by omega), Bool.false_or, Bool.true_and, e1]
                        cases tst with
                        | nil => rw [List.length_nil] at htl; omega
                        | cons a b => rfl
                      · intro h2
                        refine Or.inr ⟨?_, ?_⟩
                        · rcases h2k h2 with h | h
                          · omega
                          · rw [if_pos h2] at hRd; omega
                        · rw [ht33 (by omega), ht2h, decide_eq_true (by omega)]; rfl
                      · exact hnx3
                    · exact absurd j3 (by decide)
          have at37 : X Γ 37 [some (.inr 64), some (.inl (nI k)), some (.inl (nI opens)), some (.inl (nI nots)), none, none, none] [.inl (nI Rd)] τ0 := by
            refine hG.go 3 rfl rfl ?_
            refine loop (T - L1.1 + 1) 0 L1 u1 om1 lv1 tst1 τ0 none (by omega) hs0 hC1 hle1 hLL1 hdp1 (fun s hs => by have := hu1 s hs; omega) hgo1 htl1 htt1 (fun h => ht31 (by omega)) (fun h2 => Or.inl ⟨rfl, ?_⟩) (fun _ => Nat.zero_le _) hnx1
            rw [ht31 (by omega)]
            exact hhd (by omega)
          refine hG.br rfl rfl rfl rfl (fun k2 => ?_) (fun k2 => ?_)
          · refine hG.br rfl rfl rfl rfl (fun k3 => ?_) (fun k3 => ?_)
            · have : ¬ k = 2 := fun e => k3 (by rw [e]; rfl)
              rw [if_neg this] at hRd
              subst hRd
              exact hG.go 1 rfl rfl at37
            · have : k = 2 := (nI_eq (b := 2) (by omega) (by omega)).mp k3
              rw [if_pos this] at hRd
              subst hRd
              exact hG.go 2 rfl rfl at37
          · exact absurd k2 (by decide)
      · -- a piece
        have hk : k = 5 := by
          have : ¬ k < 5 := fun h => k1 (show nI k < nI 5 from nI_lt h (by omega))
          omega
        subst hk
        refine hG.cV lk_P_66 mi_P_readPiece rfl rfl (ihP opens nots lv L w o tst σ hop hno (by omega) hC hcw hcn htl hle) rfl rfl (Nat.ble_eq_true_of_le (by omega)) rfl rfl rfl rfl rfl ?_
        rintro r τ0 ⟨hs0, hr⟩
        rcases hr with ⟨rfl, s, hs, hf⟩ | ⟨rfl, L1, oc, lv1, hC1, hle1, hLL1, hdp1, hgo1⟩
        · refine hG.rz hR rfl rfl rfl rfl (Or.inl rfl) ?_
          exact ⟨hs0, Or.inl ⟨rfl, s, hs, hf⟩⟩
        · refine hG.rz hR rfl rfl rfl rfl (Or.inr rfl) ?_
          rw [hB.eq] at hgo1
          refine ⟨hs0, Or.inr ⟨rfl, L1, [], oc, lv1, tst, hC1, hle1, hLL1, hdp1, fun s hs => absurd hs List.not_mem_nil, hgo1, rfl, rfl, fun _ => rfl, ?_⟩⟩
          by_cases h0 : opL tp L1 = 0
          · exact Or.inl h0
          · have := rnk_5 (opL tp L1) (by have := opL_le tp L1; omega) (by omega)
            exact Or.inr (Or.inl this.2)
    · intro opens nots lv L w o tst σ hop hno hD hC hcw hcn htl hle
      have hok := hC.2.2.2.1
      have hT96 := hC.2.2.1
      have hLe := LxOk_le hok
      have hk4 := LxOk_k4 hok
      have l1 := hC.2.2.2.2.1.1
      have l3 := hC.2.2.2.2.1.2.2
      have hadv := advL_ok hok
      have hnd : ¬ (true = false ∧ L.2.2 = 0) := fun q => by cases q.1
      subst hcn
      refine Ci.of (Or.inl mi_P_readPiece) pk_P_readPiece (nb rfl) (Or.inr rfl) [some (.inr 64), some (.inl (nI opens)), some (.inl (nI (cntN w)))] rfl fun Γ hG hR => ?_
      have leaf : L.2.2 = 1 ∨ L.2.2 = 2 → X Γ 16 [some (.inr 64), some (.inl (nI opens)), some (.inl (nI (cntN w)))] [] σ := by
        intro hk
        have hw := LxOk_w hok hk
        have n33 : ∀ x, sgnIs tp L x = false := fun x => by rw [sgnIs, decide_eq_false (by omega)]; rfl
        have hsy := syN_leaf (tp := tp) (T := T) (key := key) (L := L) (w := w) (o := o) (lv := lv) (nots := cntN w) (tst := tst) (by rw [n33]; rfl) (by rw [n33]; rfl)
        refine hG.cV lk_P_80 mi_P_readLeaf rfl rfl (c_P_readLeaf hC hk (by omega)) rfl rfl (Nat.ble_eq_true_of_le (by omega)) rfl rfl rfl rfl rfl ?_
        rintro r τ ⟨p1, p2⟩
        cases hlf : leafL tp key L with
        | none =>
          obtain ⟨rfl, rfl⟩ := p1 hlf
          rw [hlf] at hsy
          refine hG.rz hR rfl rfl rfl rfl (Or.inl rfl) ?_
          exact ⟨Sm.rf, Or.inl ⟨rfl, L.1, l1, Fl.of hsy hnd⟩⟩
        | some v =>
          obtain ⟨rfl, q1, q2⟩ := p2 v hlf
          rw [hlf] at hsy
          have h0 : (0 : Int32) ≤ nI v := by
            have := leafL_lt hok hlf
            have : nmK key ≤ 3 := by unfold nmK; split <;> omega
            exact nI_pos' (by omega)
          refine hG.rz hR rfl rfl rfl rfl (Or.inr rfl) ?_
          exact ⟨q2, Or.inr ⟨rfl, advL tp T L, nI v :: o, lv + 1, q1, by simp only [List.length_cons]; omega, by omega, by rw [dpL, if_pos h0], Go.step hsy hnd⟩⟩
      -- nothing goes on so
      have no : (sgnIs tp L 33 && decide (cntN w < 8)) = false → (sgnIs tp L 40 && decide (opens < 8)) = false → leafL tp key L = none → X Γ 112 [some (.inr 64), some (.inl (nI opens)), some (.inl (nI (cntN w)))] [] σ := by
        intro c1 c2 c3
        have hsy := syN_leaf (tp := tp) (T := T) (key := key) (L := L) (w := w) (o := o) (lv := lv) (nots := cntN w) (tst := tst) c1 (by rw [htl]; rw [← c2]; congr 2; exact propext ⟨fun q => by omega, fun q => by omega⟩)
        rw [c3] at hsy
        refine hG.rz hR rfl rfl rfl rfl (Or.inl rfl) ?_
        exact ⟨Sm.rf, Or.inl ⟨rfl, L.1, l1, Fl.of hsy hnd⟩⟩
      -- an opening bracket
      have opn : (sgnIs tp L 33 && decide (cntN w < 8)) = false → leafL tp key L = none → X Γ 64 [some (.inr 64), some (.inl (nI opens)), some (.inl (nI (cntN w)))] [] σ := by
        intro c1 c3
        refine hG.cV lk_P_76 mi_P_atHand rfl rfl (hC.chand 40) rfl rfl (Nat.ble_eq_true_of_le (by omega)) rfl rfl rfl rfl rfl ?_
        rintro x σ' ⟨rfl, rfl⟩
        refine hG.br rfl rfl rfl rfl (fun j1 => ?_) (fun j1 => ?_)
        · exact no c1 (by rw [bi_eq0.mp j1]; rfl) c3
        · have j1 := bi_ne0.mp j1
          obtain ⟨h3, -⟩ := sgn_kd j1
          have hL3 := LxOk_3 hok h3
          refine hG.br rfl rfl rfl rfl (fun j2 => ?_) (fun j2 => ?_)
          · have : ¬ opens < 8 := fun q => absurd (show nI 8 ≤ nI opens from j2) (nI_ge q (by omega))
            exact no c1 (by rw [decide_eq_false this, Bool.and_false]) c3
          · have h8 : opens < 8 := Nat.not_le.mp (fun q => j2 (show nI 8 ≤ nI opens from nI_le q (by omega)))
            have hsy := syN_opn (tp := tp) (T := T) (key := key) (L := L) (w := w) (o := o) (lv := lv) (nots := cntN w) (tst := tst) c1 (by rw [j1, decide_eq_true (by omega)]; rfl)
            have hgo := Go.step hsy hnd
            have hc11 : cntN (11 :: w) = cntN w := cntN_ne (by decide)
            refine hG.cVv lk_P_32 mi_P_advance rfl rfl hC.cadv rfl rfl (Nat.ble_eq_true_of_le (by omega)) rfl rfl rfl rfl rfl ?_
            rintro τ1 ⟨hC1, hs1⟩
            refine hG.go 5 rfl rfl ?_
            rw [nI_1]
            refine hG.cV lk_P_43 mi_P_readLevel rfl rfl (ihL 0 (opens + 1) (cntN w) lv (advL tp T L) (11 :: w) o (false :: tst) τ1 (by omega) (by omega) hno (by omega) hC1 (Or.inr ⟨11, w, rfl, Or.inl rfl⟩) (by rw [List.count_cons]; simp; omega) hc11.symm (by simp only [List.length_cons]; omega) (fun _ => rfl) (by simp only [List.length_cons]; omega)) rfl rfl (Nat.ble_eq_true_of_le (by omega)) rfl rfl rfl rfl rfl ?_
            rintro r τ2 ⟨hs2, hr⟩
            have hsm2 : Sm [64, 66, 67] σ' τ2 := Sm.tr (hs1.mono (by simp)) hs2
            rcases hr with ⟨rfl, s, hs, hf⟩ | ⟨rfl, L3, u3, om3, lv3, tst3, hC3, hle3, hLL3, hdp3, hu3, hgo3, htl3, htt3, ht33, hnx3⟩
            · refine hG.br rfl rfl rfl rfl (fun j3 => ?_) (fun j3 => ?_)
              · refine hG.rz hR rfl rfl rfl rfl (Or.inl rfl) ?_
                exact ⟨hsm2, Or.inl ⟨rfl, s, hs, hgo.fl hf⟩⟩
              · exact absurd rfl j3
            · have hgo4 := hgo.tr hgo3
              have hok3 := hC3.2.2.2.1
              have hadv3 := advL_ok hok3
              have hLe3 := LxOk_le hok3
              simp only [List.length_cons] at htl3 hle3
              rw [List.tail_cons] at htt3
              refine hG.br rfl rfl rfl rfl (fun j3 => ?_) (fun j3 => ?_)
              · exact absurd j3 (by decide)
              · refine hG.cV lk_P_76 mi_P_atHand rfl rfl (hC3.chand 41) rfl rfl (Nat.ble_eq_true_of_le (by omega)) rfl rfl rfl rfl rfl ?_
                rintro x τ3 ⟨rfl, rfl⟩
                refine hG.br rfl rfl rfl rfl (fun j4 => ?_) (fun j4 => ?_)
                · have j4 := bi_ne0.mp j4
                  obtain ⟨k3, -⟩ := sgn_kd j4
                  have hL33 := LxOk_3 hok3 k3
                  have hst0 : stl 0 (u3 ++ 11 :: w) om3 = (11 :: w, fl u3 om3) := by
                    rw [stl_pre 0 u3 (11 :: w) om3 (fun s hs => ⟨by have := hu3 s hs; omega, Nat.zero_le _⟩), (show Blk 0 (11 :: w) from Or.inr ⟨11, w, rfl, Or.inl rfl⟩).eq]
                  have hsy2 := syN_cls (tp := tp) (T := T) (key := key) (L := L3) (w := u3 ++ 11 :: w) (o := om3) (lv := lv3) (nots := cntN (11 :: w)) (tst := tst3) (by rw [j4, decide_eq_true (by omega)]; rfl)
                  rw [hst0, List.tail_cons, htt3] at hsy2
                  refine hG.cVv lk_P_32 mi_P_advance rfl rfl hC3.cadv rfl rfl (Nat.ble_eq_true_of_le (by omega)) rfl rfl rfl rfl rfl ?_
                  rintro τ4 ⟨hC4, hs4⟩
                  refine hG.rz hR rfl rfl rfl rfl (Or.inr rfl) ?_
                  refine ⟨hsm2.tr (hs4.mono (by simp)), Or.inr ⟨rfl, advL tp T L3, fl u3 om3, lv3, hC4, by omega, by omega, hdp3, ?_⟩⟩
                  exact hgo4.tr (Go.step hsy2 (fun q => by rw [k3] at q; cases q.2))
                · have j4 := bi_eq0.mp j4
                  refine hG.rz hR rfl rfl rfl rfl (Or.inl rfl) ?_
                  refine ⟨hsm2, Or.inl ⟨rfl, L3.1, hC3.2.2.2.2.1.1, hgo4.fl ?_⟩⟩
                  by_cases h0 : L3.2.2 = 0
                  · exact ⟨1, by rw [syR, if_pos ⟨rfl, h0⟩, if_neg (by omega)]⟩
                  · refine Fl.of ?_ (fun q => h0 q.2)
                    rw [syN_op (by rw [j4]; rfl), if_pos]
                    rcases hnx3 with q | q | q
                    · exact Or.inl q
                    · have := rnk_1 (opL tp L3); omega
                    · exact Or.inr q
      have nleaf : ¬ (L.2.2 = 1 ∨ L.2.2 = 2) → leafL tp key L = none := fun h => by rw [leafL, if_neg (fun q => h (Or.inr q)), if_neg (fun q => h (Or.inl q))]
      refine hG.br rfl rfl rfl rfl (fun i1 => ?_) (fun i1 => ?_)
      · rw [l3] at i1
        exact leaf (Or.inr ((nI_eq (b := 2) (by omega) (by omega)).mp i1))
      · rw [l3] at i1
        have i1 : ¬ L.2.2 = 2 := fun e => i1 (by rw [e]; rfl)
        refine hG.br rfl rfl rfl rfl (fun i2 => ?_) (fun i2 => ?_)
        · rw [l3] at i2
          have i2 : ¬ L.2.2 = 1 := fun e => i2 (by rw [e]; rfl)
          have hnl := nleaf (fun q => by rcases q with q | q; exact i2 q; exact i1 q)
          refine hG.cV lk_P_76 mi_P_atHand rfl rfl (hC.chand 33) rfl rfl (Nat.ble_eq_true_of_le (by omega)) rfl rfl rfl rfl rfl ?_
          rintro x σ' ⟨rfl, rfl⟩
          refine hG.br rfl rfl rfl rfl (fun j1 => ?_) (fun j1 => ?_)
          · exact opn (by rw [bi_eq0.mp j1]; rfl) hnl
          · have j1 := bi_ne0.mp j1
            obtain ⟨h3, -⟩ := sgn_kd j1
            have hL3 := LxOk_3 hok h3
            refine hG.br rfl rfl rfl rfl (fun j2 => ?_) (fun j2 => ?_)
            · have : ¬ cntN w < 8 := fun q => absurd (show nI 8 ≤ nI (cntN w) from j2) (nI_ge q (by omega))
              exact opn (by rw [decide_eq_false this, Bool.and_false]) hnl
            · have h8 : cntN w < 8 := Nat.not_le.mp (fun q => j2 (show nI 8 ≤ nI (cntN w) from nI_le q (by omega)))
              have hsy := syN_not (tp := tp) (T := T) (key := key) (L := L) (w := w) (o := o) (lv := lv) (nots := cntN w) (tst := tst) (by rw [j1, decide_eq_true h8]; rfl)
              have hgo := Go.step hsy hnd
              have hc10 : cntN (10 :: w) = cntN w + 1 := by rw [cntN, cntN, List.count_cons]; simp
              refine hG.cVv lk_P_32 mi_P_advance rfl rfl hC.cadv rfl rfl (Nat.ble_eq_true_of_le (by omega)) rfl rfl rfl rfl rfl ?_
              rintro τ1 ⟨hC1, hs1⟩
              refine hG.go 5 rfl rfl ?_
              rw [nI_1]
              refine hG.cV lk_P_66 mi_P_readPiece rfl rfl (ihP opens (cntN w + 1) lv (advL tp T L) (10 :: w) o tst τ1 hop (by omega) (by omega) hC1 (by rw [List.count_cons]; simp; omega) hc10.symm htl (by simp only [List.length_cons]; omega)) rfl rfl (Nat.ble_eq_true_of_le (by omega)) rfl rfl rfl rfl rfl ?_
              rintro r τ2 ⟨hs2, hr⟩
              have hsm2 : Sm [64, 66, 67] σ' τ2 := Sm.tr (hs1.mono (by simp)) hs2
              rcases hr with ⟨rfl, s, hs, hf⟩ | ⟨rfl, L3, oc, lv3, hC3, hle3, hLL3, hdp3, hgo3⟩
              · refine hG.br rfl rfl rfl rfl (fun j3 => ?_) (fun j3 => ?_)
                · exact absurd rfl j3
                · refine hG.rz hR rfl rfl rfl rfl (Or.inl rfl) ?_
                  exact ⟨hsm2, Or.inl ⟨rfl, s, hs, hgo.fl hf⟩⟩
              · simp only [List.length_cons] at hle3
                have hLe3 := LxOk_le hC3.2.2.2.1
                refine hG.br rfl rfl rfl rfl (fun j3 => ?_) (fun j3 => ?_)
                · refine hG.cVv lk_P_73 mi_X_addSign rfl rfl (hC3.csign (-10) 33 (by decide) ⟨hC3.2.2.2.2.2.2.2.2.2.2, fun q => absurd q (by decide), fun _ _ => by omega, fun _ q => absurd rfl q⟩ (by omega)) rfl rfl (Nat.ble_eq_true_of_le (by omega)) rfl rfl rfl rfl rfl ?_
                  rintro τ3 ⟨hC4, hs4⟩
                  refine hG.rz hR rfl rfl rfl rfl (Or.inr rfl) ?_
                  refine ⟨hsm2.tr (hs4.mono (by simp)), Or.inr ⟨rfl, L3, (-10) :: oc, lv3, hC4, by simp only [List.length_cons]; omega, by omega, ?_, ?_⟩⟩
                  · rw [dpL, if_neg (by decide), if_pos rfl]; exact hdp3
                  · have e : stl 6 (10 :: w) oc = stl 6 w ((-10) :: oc) := by rw [stl, if_pos ⟨by decide, by decide⟩]; rfl
                    rw [e] at hgo3
                    exact hgo.tr hgo3
                · exact absurd j3 (by decide)
        · rw [l3] at i2
          exact leaf (Or.inl ((nI_eq (b := 1) (by omega) (by omega)).mp i2))
end
