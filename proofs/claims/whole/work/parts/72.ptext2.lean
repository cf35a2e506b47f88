/-! the class's text: what counts, what is near -/
section
variable {l : Launch} {θ : Th} {σ σ' : Sg} {n c t y T : Nat} {f : Nat → Int32} {tp : Nat → Int32}
def nrW (f : Nat → Int32) (t w : Nat) : Bool := decide (¬ evT f t (fa3 (nI (3 - pcN w)) (nI (w % 2)) (nI (w / 4))) = 0)
theorem c_V_findNearWays (ln : Nat) (ht : t < 14) (hx : TxOk f t 0 ln) (hr : TxR σ f t ln) (h39 : σ 39 0 = nI t) : Cv l θ 4 m_V_findNearWays [.inr 32, .inr 1] σ (fun σ' => Sm [3, 32] σ σ' ∧ (∀ j, j ≠ 13 → σ' 32 j = σ 32 j) ∧ ∀ w, w < 8 → nwB (σ' 32 13) w = nrW f t w) := by
  refine Cv.of (Or.inl mi_V_findNearWays) pk_V_findNearWays (nb rfl) rfl [some (.inr 32), some (.inr 1), none, none, none] rfl fun Γ hG hR => ?_
  have loop : ∀ m k (v : Nat) (τ : Sg) (w3 w4 : Option AV), k + m = 8 → Sm [3, 32] σ τ → (∀ j, j ≠ 13 → τ 32 j = σ 32 j) → τ 32 13 = nI v → v < 2 ^ k → (∀ w, w < 8 → v.testBit w = (decide (w < k) && nrW f t w)) → X Γ 7 [some (.inr 32), some (.inr 1), some (.inl (nI k)), w3, w4] [] τ := by
    intro m
    induction m with
    | zero =>
      intro k v τ w3 w4 hk hs hf h13 hv hb
      have hk : k = 8 := by omega
      subst hk
      refine hG.br rfl rfl rfl rfl (fun k1 => ?_) (fun k1 => ?_)
      · refine hG.rv hR rfl rfl rfl ?_
        refine ⟨hs, hf, fun w hw => ?_⟩
        rw [h13, tb_nw v (by omega) w hw, hb w hw, decide_eq_true hw, Bool.true_and]
      · exact absurd (show nI 7 < nI 8 by decide) k1
    | succ m ih =>
      intro k v τ w3 w4 hk hs hf h13 hv hb
      have hk8 : k < 8 := by omega
      have hv256 : v < 256 := Nat.lt_of_lt_of_le hv (pw8 k (by omega))
      refine hG.br rfl rfl rfl rfl (fun k1 => ?_) (fun k1 => ?_)
      · exact absurd (show nI 7 < nI k from k1) (nI_nlt (by omega) (by omega))
      · have step : X Γ 44 [some (.inr 32), some (.inr 1), some (.inl (nI k)), some (.inl (nI (k % 2))), some (.inl (nI (k / 4)))] [] τ := by
          have e39 : τ 39 0 = nI t := by rw [hs 39 (by decide)]; exact h39
          have hrt : TxR τ f t ln := by
            unfold TxR
            rw [hs (4 + 2 * t) (by simp; omega), hs (5 + 2 * t) (by simp; omega)]
            exact hr
          refine hG.ld rfl 0 rfl rfl rfl rfl rfl (by decide) ?_
          rw [e39]
          refine hG.cS lk_V_132 mi_E_unlike rfl rfl (c_E_unlike k hk8) rfl rfl rfl rfl rfl rfl ?_
          rintro x τ1 ⟨rfl, rfl⟩
          refine hG.cV lk_V_110 mi_L_work rfl rfl (c_L_work f t 0 ln (nI (3 - pcN k)) (nI (k % 2)) (nI (k / 4)) ht hx hrt) rfl rfl rfl rfl rfl rfl rfl rfl ?_
          rintro x τ2 ⟨hs2, rfl⟩
          have hs2' : Sm [3, 32] σ τ2 := hs.tr (hs2.mono (by simp))
          have hf2 : ∀ j, j ≠ 13 → τ2 32 j = σ 32 j := fun j hj => by rw [hs2 32 (by decide)]; exact hf j hj
          have g13 : τ2 32 13 = nI v := by rw [hs2 32 (by decide)]; exact h13
          refine hG.br rfl rfl rfl rfl (fun j1 => ?_) (fun j1 => ?_)
          · have hnr : nrW f t k = false := by rw [nrW, j1]; decide
            refine hG.jp rfl rfl rfl ?_
            rw [nI_1]
            refine ih (k + 1) v τ2 _ _ (by omega) hs2' hf2 g13 (by rw [Nat.pow_succ]; omega) (fun w hw => ?_)
            rw [hb w hw]
            by_cases e : w = k
            · subst e
              rw [hnr, Bool.and_false, Bool.and_false]
            · congr 1
              exact decide_eq_decide.mpr ⟨fun q => by omega, fun q => by omega⟩
          · have hnr : nrW f t k = true := by rw [nrW, decide_eq_true j1]
            refine hG.jp rfl rfl rfl ?_
            rw [nI_1, g13, tb_or k hk8 v hv]
            refine ih (k + 1) (v + 2 ^ k) _ _ _ (by omega) (hs2'.up (by decide)) (fun j hj => by rw [up_j _ _ _ _ hj]; exact hf2 j hj) (up_self _ _ _ _) (by rw [Nat.pow_succ]; omega) (fun w hw => ?_)
            rw [tb_add k hk8 v hv w hw, hb w hw]
            by_cases e : w = k
            · subst e
              rw [hnr, decide_eq_true rfl, decide_eq_true (Nat.lt_succ_self w)]; simp
            · rw [decide_eq_false e, Bool.or_false]
              congr 1
              exact decide_eq_decide.mpr ⟨fun q => by omega, fun q => by omega⟩
        have last : X Γ 28 [some (.inr 32), some (.inr 1), some (.inl (nI k)), some (.inl (nI (k % 2))), w4] [] τ := by
          refine hG.br rfl rfl rfl rfl (fun j2 => ?_) (fun j2 => ?_)
          · have e := (an4 k hk8).mp j2
            refine hG.bit (Or.inr ⟨rfl, rfl⟩) mi_W_bit rfl rfl (c_W_bit false) rfl rfl rfl rfl rfl rfl rfl ?_
            rintro x τ1 ⟨rfl, rfl⟩
            refine hG.go 1 rfl rfl ?_
            rw [e] at step
            exact step
          · have e : k / 4 = 1 := by
              have : ¬ k / 4 = 0 := fun q => j2 ((an4 k hk8).mpr q)
              omega
            refine hG.bit (Or.inr ⟨rfl, rfl⟩) mi_W_bit rfl rfl (c_W_bit true) rfl rfl rfl rfl rfl rfl rfl ?_
            rintro x τ1 ⟨rfl, rfl⟩
            refine hG.go 1 rfl rfl ?_
            rw [e] at step
            exact step
        refine hG.br rfl rfl rfl rfl (fun j1 => ?_) (fun j1 => ?_)
        · have e := (an1 k hk8).mp j1
          refine hG.bit (Or.inr ⟨rfl, rfl⟩) mi_W_bit rfl rfl (c_W_bit false) rfl rfl rfl rfl rfl rfl rfl ?_
          rintro x τ1 ⟨rfl, rfl⟩
          refine hG.go 1 rfl rfl ?_
          rw [e] at last
          exact last
        · have e : k % 2 = 1 := by
            have : ¬ k % 2 = 0 := fun q => j1 ((an1 k hk8).mpr q)
            omega
          refine hG.bit (Or.inr ⟨rfl, rfl⟩) mi_W_bit rfl rfl (c_W_bit true) rfl rfl rfl rfl rfl rfl rfl ?_
          rintro x τ1 ⟨rfl, rfl⟩
          refine hG.go 1 rfl rfl ?_
          rw [e] at last
          exact last
  refine hG.go 5 rfl rfl ?_
  exact loop 8 0 0 _ none none (by omega) (Sm.rf.up (by decide)) (fun j hj => up_j _ _ _ _ hj) (up_self _ _ _ _) (by decide) (fun w hw => by simp)
theorem c_V_takeText (k : Nat) (hk3 : k < 3) (ht : t < 14) (h11 : σ 32 11 = nI t) (h0 : k = 0 → ∃ ln, TxOk f t 0 ln ∧ TxR σ f t ln) : Ci l θ 5 m_V_takeText [.inr 32, .inl (nI k), .inr 1] σ (fun r σ' => r = nI t ∧ Sm [3, 32, 39] σ σ' ∧ (∀ j, j ≠ 11 → j ≠ 13 → σ' 32 j = σ 32 j) ∧ σ' 32 11 = nI (t + 1) ∧ σ' 39 = upd (σ 39) k (nI t) ∧ (k ≠ 0 → σ' 32 13 = σ 32 13) ∧ (k = 0 → ∀ w, w < 8 → nwB (σ' 32 13) w = nrW f t w)) := by
  refine Ci.of (Or.inl mi_V_takeText) pk_V_takeText (nb rfl) (Or.inl rfl) [some (.inr 32), some (.inl (nI k)), some (.inr 1), none] rfl fun Γ hG hR => ?_
  refine hG.sti rfl k rfl rfl rfl rfl hk3 ?_
  generalize hτ : up (up σ 39 k (σ 32 11)) 32 11 (up σ 39 k (σ 32 11) 32 11 + 1) = τ
  have hs : Sm [3, 32, 39] σ τ := by rw [← hτ]; exact (Sm.rf.up (by decide)).up (by decide)
  have hf : ∀ j, j ≠ 11 → τ 32 j = σ 32 j := fun j hj => by rw [← hτ, up_j _ _ _ _ hj, up_c _ _ _ _ (by decide)]
  have e11 : τ 32 11 = nI (t + 1) := by rw [← hτ, up_self, up_c _ _ _ _ (by decide), h11, nI_1]
  have e39 : τ 39 = upd (σ 39) k (nI t) := by rw [← hτ, up_c _ _ _ _ (by decide), up_same, h11]
  subst hτ
  refine hG.br rfl rfl rfl rfl (fun k1 => ?_) (fun k1 => ?_)
  · have hk0 : k ≠ 0 := fun e => k1 (by rw [e]; rfl)
    refine hG.rt hR rfl rfl rfl rfl ?_
    exact ⟨h11, hs, fun j h1 _ => hf j h1, e11, e39, fun _ => hf 13 (by decide), fun e => absurd e hk0⟩
  · have hk0 : k = 0 := (nI_eq (b := 0) (by omega) (by omega)).mp k1
    obtain ⟨ln, hx, hr⟩ := h0 hk0
    have hr2 : TxR (up (up σ 39 k (σ 32 11)) 32 11 (up σ 39 k (σ 32 11) 32 11 + 1)) f t ln := by
      unfold TxR
      rw [hs (4 + 2 * t) (by simp; omega), hs (5 + 2 * t) (by simp; omega)]
      exact hr
    refine hG.cVv lk_V_124 mi_V_findNearWays rfl rfl (c_V_findNearWays ln ht hx hr2 (by rw [e39, hk0, upd_same])) rfl rfl rfl rfl rfl rfl rfl rfl ?_
    rintro τ2 ⟨q1, q2, q3⟩
    refine hG.rt hR rfl rfl rfl rfl ?_
    refine ⟨h11, hs.tr (q1.mono (by simp)), fun j h1 h2 => by rw [q2 j h2]; exact hf j h1, by rw [q2 11 (by decide)]; exact e11, by rw [q1 39 (by decide)]; exact e39, fun q => absurd hk0 q, fun _ => q3⟩
end
