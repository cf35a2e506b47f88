/-! the class's tape: words and signs at hand -/
def F64 (σ σ' : Sg) : Prop := ∀ j, j ≠ 2 → j ≠ 3 → j ≠ 4 → σ' 64 j = σ 64 j
theorem F64.rf {σ : Sg} : F64 σ σ := fun _ _ _ _ => rfl
theorem F64.tr {σ σ1 σ2 : Sg} (h : F64 σ σ1) (h2 : F64 σ1 σ2) : F64 σ σ2 := fun j a b c => (h2 j a b c).trans (h j a b c)
theorem F64.sm {σ σ1 : Sg} {cs : List Nat} (h : Sm cs σ σ1) (hc : 64 ∉ cs) : F64 σ σ1 := fun j _ _ _ => by rw [h 64 hc]
theorem F64.up {σ σ1 : Sg} (h : F64 σ σ1) {j : Nat} {v : Int32} (hj : j = 2 ∨ j = 3 ∨ j = 4) : F64 σ (up σ1 64 j v) := fun x a b c => by rw [up_j _ _ _ _ (j' := x) (fun e => by omega)]; exact h x a b c
def LxC (σ : Sg) (L : Lx) : Prop := σ 64 2 = nI L.1 ∧ σ 64 3 = nI L.2.1 ∧ σ 64 4 = nI L.2.2
theorem skp_s (tp : Nat → Int32) (m p : Nat) : skp tp (m + 1) p = if tp p = 32 then skp tp m (p + 1) else p := rfl
theorem rnE_s (tp : Nat → Int32) (k m p : Nat) : rnE tp k (m + 1) p = if kdB (tp p) = k then rnE tp k m (p + 1) else p := rfl
theorem LxOk_k4 {tp : Nat → Int32} {T : Nat} {L : Lx} (h : LxOk tp T L) : L.2.2 ≤ 4 := by
  rcases LxOk_kind h with h | h | h | h | h <;> omega
section
variable {l : Launch} {θ : Th} {σ σ' : Sg} {T : Nat} {tp : Nat → Int32} {L : Lx}
theorem c_P_sortOf (x : Int32) : Ci l θ 1 m_P_sortOf [.inl x] σ (fun r σ' => σ' = σ ∧ r = nI (kdB x)) := by
  have e : kdB x = if isL x then 1 else if isD x then 2 else 3 := rfl
  rw [e]
  refine Ci.of (Or.inr mi_P_sortOf) pk_P_sortOf (nb rfl) (Or.inl rfl) [some (.inl x)] rfl fun Γ hG hR => ?_
  have at14 : isL x = false → X Γ 14 [some (.inl x)] [] σ := by
    intro h
    rw [h, if_neg (by decide)] at hR
    refine hG.br rfl rfl rfl rfl (fun k1 => ?_) (fun k1 => ?_)
    · have : isD x = false := by rw [isD, decide_eq_false (i32_nle.mpr k1)]; rfl
      rw [this, if_neg (by decide)] at hR
      refine hG.rt hR rfl rfl rfl rfl ?_
      exact ⟨rfl, rfl⟩
    · refine hG.br rfl rfl rfl rfl (fun k2 => ?_) (fun k2 => ?_)
      · have : isD x = false := by rw [isD, decide_eq_false (i32_nle.mpr k2), Bool.and_false]
        rw [this, if_neg (by decide)] at hR
        refine hG.rt hR rfl rfl rfl rfl ?_
        exact ⟨rfl, rfl⟩
      · have : isD x = true := by rw [isD, decide_eq_true (i32_nlt.mp k1), decide_eq_true (i32_nlt.mp k2)]; rfl
        rw [if_pos this] at hR
        refine hG.rt hR rfl rfl rfl rfl ?_
        exact ⟨rfl, rfl⟩
  refine hG.br rfl rfl rfl rfl (fun k1 => ?_) (fun k1 => ?_)
  · exact at14 (by rw [isL, decide_eq_false (i32_nle.mpr k1)]; rfl)
  · refine hG.br rfl rfl rfl rfl (fun k2 => ?_) (fun k2 => ?_)
    · exact at14 (by rw [isL, decide_eq_false (i32_nle.mpr k2), Bool.and_false])
    · have : isL x = true := by rw [isL, decide_eq_true (i32_nlt.mp k1), decide_eq_true (i32_nlt.mp k2)]; rfl
      rw [if_pos this] at hR
      refine hG.rt hR rfl rfl rfl rfl ?_
      exact ⟨rfl, rfl⟩
theorem c_P_advance (p : Nat) (pw : Bool) (hT : σ 64 1 = nI T) (hT96 : T ≤ 96) (hp : p ≤ T) (h3 : σ 64 3 = nI p) (hpw : pw = true ↔ (σ 64 4 = 1 ∨ σ 64 4 = 2)) : Cv l θ 2 m_P_advance [.inr 64] σ (fun σ' => LxC σ' (lexN (σ 65) T p pw) ∧ Sm [64] σ σ' ∧ F64 σ σ') := by
  refine Cv.of (Or.inl mi_P_advance) pk_P_advance (nb rfl) rfl [some (.inr 64), none, none] rfl fun Γ hG hR => ?_
  -- behind the blanks
  have fin : ∀ (s : Nat) (σ1 : Sg), s = skp (σ 65) (T - p) p → p ≤ s → s ≤ T → Sm [64] σ σ1 → F64 σ σ1 → σ1 64 2 = nI s → X Γ 73 [some (.inr 64), some (.inl (bi pw)), some (.inl (nI p))] [] σ1 := by
    intro s σ1 hs hps hsT hS hF e2
    have e1 : σ1 64 1 = nI T := by rw [hF 1 (by decide) (by decide) (by decide)]; exact hT
    have e65 : σ1 65 = σ 65 := hS 65 (by decide)
    have hlex : lexN (σ 65) T p pw = if s = T then (T, T, 0) else if kdB (σ 65 s) = 3 then (s, s + 1, 3) else (s, rnE (σ 65) (kdB (σ 65 s)) (T - s) s, if pw && decide (s = p) then 4 else kdB (σ 65 s)) := by rw [lexN, ← hs]
    rw [hlex] at hR
    refine hG.br rfl rfl rfl rfl (fun k1 => ?_) (fun k1 => ?_)
    · rw [e2, e1] at k1
      have hlt : s < T := (nI_ltI (by omega) (by omega)).mp k1
      rw [if_neg (by omega)] at hR
      refine hG.ld rfl s rfl rfl rfl rfl e2 (by omega) ?_
      rw [e65]
      refine hG.cS lk_P_50 mi_P_sortOf rfl rfl (c_P_sortOf (σ 65 s)) rfl rfl rfl rfl rfl rfl ?_
      rintro x σ2 ⟨rfl, rfl⟩
      generalize hk : kdB (σ 65 s) = k at hR
      have hk123 : k = 1 ∨ k = 2 ∨ k = 3 := by rw [← hk]; exact kdB_cases _
      -- the end
      have last : ∀ (E : Nat) (τ : Sg), Sm [64] σ τ → F64 σ τ → τ 64 2 = nI s → τ 64 3 = nI E → τ 64 4 = nI k → (if k = 3 then (s, s + 1, 3) else (s, rnE (σ 65) k (T - s) s, if pw && decide (s = p) then 4 else k)) = (s, E, if k = 3 then 3 else if pw && decide (s = p) then 4 else k) → X Γ 175 [some (.inr 64), some (.inl (bi pw)), some (.inl (nI p))] [] τ := by
        intro E τ hSt hFt g2 g3 g4 hE
        rw [hE] at hR
        have stay : (if k = 3 then 3 else if pw && decide (s = p) then 4 else k) = k → X Γ 200 [some (.inr 64), some (.inl (bi pw)), some (.inl (nI p))] [] τ := by
          intro h
          rw [h] at hR
          refine hG.rv hR rfl rfl rfl ?_
          exact ⟨⟨g2, g3, g4⟩, hSt, hFt⟩
        refine hG.br rfl rfl rfl rfl (fun j1 => ?_) (fun j1 => ?_)
        · refine stay ?_
          rw [bi_eq0.mp j1]
          split
          · omega
          · rfl
        · have j1 := bi_ne0.mp j1
          refine hG.br rfl rfl rfl rfl (fun j2 => ?_) (fun j2 => ?_)
          · rw [g4] at j2
            have : k = 3 := (nI_eq (b := 3) (by omega) (by omega)).mp j2
            exact stay (by rw [this]; rfl)
          · rw [g4] at j2
            have hk3 : ¬ k = 3 := fun e => j2 (by rw [e]; rfl)
            refine hG.br rfl rfl rfl rfl (fun j3 => ?_) (fun j3 => ?_)
            · rw [g2] at j3
              have : ¬ s = p := fun e => j3 (by rw [e])
              refine stay ?_
              rw [if_neg hk3, decide_eq_false this, Bool.and_false, if_neg (by decide)]
            · rw [g2] at j3
              have : s = p := (nI_eq (by omega) (by omega)).mp j3
              rw [if_neg hk3, decide_eq_true this, j1, Bool.and_self, if_pos rfl] at hR
              refine hG.rv hR rfl rfl rfl ?_
              refine ⟨⟨?_, ?_, up_self _ _ _ _⟩, hSt.up (by decide), hFt.up (Or.inr (Or.inr rfl))⟩
              · rw [up_j _ _ _ _ (by decide)]; exact g2
              · rw [up_j _ _ _ _ (by decide)]; exact g3
      -- a word goes on
      have loop : ∀ m i (τ : Sg), i + m = T → s < i → Sm [64] σ τ → F64 σ τ → τ 64 2 = nI s → τ 64 3 = nI i → τ 64 4 = nI k → (k ≠ 3 → rnE (σ 65) k (T - s) s = rnE (σ 65) k m i) → (k = 3 → i = s + 1) → X Γ 124 [some (.inr 64), some (.inl (bi pw)), some (.inl (nI p))] [] τ := by
        intro m
        induction m with
        | zero =>
          intro i τ hi hsi hSt hFt g2 g3 g4 he h3'
          have g1 : τ 64 1 = nI T := by rw [hFt 1 (by decide) (by decide) (by decide)]; exact hT
          have done : X Γ 175 [some (.inr 64), some (.inl (bi pw)), some (.inl (nI p))] [] τ := by
            refine last i τ hSt hFt g2 g3 g4 ?_
            by_cases hk3 : k = 3
            · rw [if_pos hk3, if_pos hk3, h3' hk3]
            · rw [if_neg hk3, if_neg hk3, he hk3]; rfl
          refine hG.br rfl rfl rfl rfl (fun j1 => ?_) (fun j1 => ?_)
          · exact done
          · refine hG.br rfl rfl rfl rfl (fun j2 => ?_) (fun j2 => ?_)
            · exact done
            · exact absurd (by rw [g3, g1]; exact nI_le (by omega) (by omega)) j2
        | succ m ih =>
          intro i τ hi hsi hSt hFt g2 g3 g4 he h3'
          have g1 : τ 64 1 = nI T := by rw [hFt 1 (by decide) (by decide) (by decide)]; exact hT
          have g65 : τ 65 = σ 65 := hSt 65 (by decide)
          refine hG.br rfl rfl rfl rfl (fun j1 => ?_) (fun j1 => ?_)
          · rw [g4] at j1
            have hk3 : k = 3 := (nI_eq (b := 3) (by omega) (by omega)).mp j1
            refine last i τ hSt hFt g2 g3 g4 ?_
            rw [if_pos hk3, if_pos hk3, h3' hk3]
          · rw [g4] at j1
            have hk3 : ¬ k = 3 := fun e => j1 (by rw [e]; rfl)
            refine hG.br rfl rfl rfl rfl (fun j2 => ?_) (fun j2 => ?_)
            · rw [g3, g1] at j2
              exact absurd j2 (nI_ge (by omega) (by omega))
            · refine hG.ld rfl i rfl rfl rfl rfl g3 (by omega) ?_
              rw [g65]
              refine hG.cS lk_P_50 mi_P_sortOf rfl rfl (c_P_sortOf (σ 65 i)) rfl rfl rfl rfl rfl rfl ?_
              rintro x τ1 ⟨rfl, rfl⟩
              have hk1 := kdB_cases (σ 65 i)
              have he := he hk3
              rw [rnE_s] at he
              refine hG.br rfl rfl rfl rfl (fun j3 => ?_) (fun j3 => ?_)
              · rw [g4] at j3
                have : ¬ kdB (σ 65 i) = k := fun e => j3 (by rw [e])
                rw [if_neg this] at he
                refine last i τ1 hSt hFt g2 g3 g4 ?_
                rw [if_neg hk3, if_neg hk3, he]
              · rw [g4] at j3
                have : kdB (σ 65 i) = k := (nI_eq (by omega) (by omega)).mp j3
                rw [if_pos this] at he
                refine hG.jp rfl rfl rfl ?_
                rw [g3, nI_1]
                refine ih (i + 1) _ (by omega) (by omega) (hSt.up (by decide)) (hFt.up (Or.inr (Or.inl rfl))) ?_ (up_self _ _ _ _) ?_ (fun _ => he) (fun e => absurd e hk3)
                · rw [up_j _ _ _ _ (by decide)]; exact g2
                · rw [up_j _ _ _ _ (by decide)]; exact g4
      refine hG.go 7 rfl rfl ?_
      rw [up_j _ _ _ _ (show 2 ≠ 4 by decide), e2, nI_1]
      refine loop (T - (s + 1)) (s + 1) _ (by omega) (by omega) ((hS.up (by decide)).up (by decide)) ((hF.up (Or.inr (Or.inr rfl))).up (Or.inr (Or.inl rfl))) ?_ (up_self _ _ _ _) ?_ (fun hk3 => ?_) (fun _ => rfl)
      · rw [up_j _ _ _ _ (by decide), up_j _ _ _ _ (by decide)]; exact e2
      · rw [up_j _ _ _ _ (by decide), up_self]
      · obtain ⟨q, hq⟩ : ∃ q, T - s = q + 1 := ⟨T - s - 1, by omega⟩
        rw [hq, rnE_s, if_pos hk]
        congr 1; omega
    · rw [e2, e1] at k1
      have hsT2 : s = T := by
        have : ¬ s < T := fun h => k1 (nI_lt h (by omega))
        omega
      rw [if_pos hsT2] at hR
      refine hG.rv hR rfl rfl rfl ?_
      refine ⟨⟨?_, ?_, up_self _ _ _ _⟩, (hS.up (by decide)).up (by decide), (hF.up (Or.inr (Or.inl rfl))).up (Or.inr (Or.inr rfl))⟩
      · rw [up_j _ _ _ _ (by decide), up_j _ _ _ _ (by decide), e2, hsT2]
      · rw [up_j _ _ _ _ (by decide), up_self]; exact e1
  -- blanks
  have skip : ∀ m i (τ : Sg), i + m = T → p ≤ i → Sm [64] σ τ → F64 σ τ → τ 64 2 = nI i → skp (σ 65) (T - p) p = skp (σ 65) m i → X Γ 35 [some (.inr 64), some (.inl (bi pw)), some (.inl (nI p))] [] τ := by
    intro m
    induction m with
    | zero =>
      intro i τ hi hpi hSt hFt g2 he
      have g1 : τ 64 1 = nI T := by rw [hFt 1 (by decide) (by decide) (by decide)]; exact hT
      refine hG.br rfl rfl rfl rfl (fun k1 => ?_) (fun k1 => ?_)
      · exact fin i τ (by rw [he]; rfl) hpi (by omega) hSt hFt g2
      · exact absurd (by rw [g2, g1]; exact nI_le (by omega) (by omega)) k1
    | succ m ih =>
      intro i τ hi hpi hSt hFt g2 he
      have g1 : τ 64 1 = nI T := by rw [hFt 1 (by decide) (by decide) (by decide)]; exact hT
      have g65 : τ 65 = σ 65 := hSt 65 (by decide)
      rw [skp_s] at he
      refine hG.br rfl rfl rfl rfl (fun k1 => ?_) (fun k1 => ?_)
      · rw [g2, g1] at k1
        exact absurd k1 (nI_ge (by omega) (by omega))
      · refine hG.ld rfl i rfl rfl rfl rfl g2 (by omega) ?_
        rw [g65]
        refine hG.br rfl rfl rfl rfl (fun k2 => ?_) (fun k2 => ?_)
        · rw [if_neg k2] at he
          exact fin i τ he.symm hpi (by omega) hSt hFt g2
        · rw [if_pos k2] at he
          refine hG.jp rfl rfl rfl ?_
          rw [g2, nI_1]
          exact ih (i + 1) _ (by omega) (by omega) (hSt.up (by decide)) (hFt.up (Or.inl rfl)) (up_self _ _ _ _) he
  have at21 : X Γ 21 [some (.inr 64), none, none] [.inl (bi pw)] σ := by
    refine hG.go 8 rfl rfl ?_
    rw [h3]
    exact skip (T - p) p _ (by omega) (by omega) (Sm.rf.up (by decide)) (F64.rf.up (Or.inl rfl)) (up_self _ _ _ _) rfl
  refine hG.br rfl rfl rfl rfl (fun k1 => ?_) (fun k1 => ?_)
  · rw [hpw.mpr (Or.inl k1)] at at21
    exact hG.go 2 rfl rfl at21
  · refine hG.br rfl rfl rfl rfl (fun k2 => ?_) (fun k2 => ?_)
    · have : pw = false := by
        cases pw with
        | false => rfl
        | true =>
          rcases hpw.mp rfl with h | h
          · exact absurd h k1
          · exact absurd h k2
      rw [this] at at21
      exact hG.go 1 rfl rfl at21
    · rw [hpw.mpr (Or.inr k2)] at at21
      exact hG.go 2 rfl rfl at21
theorem c_P_adv (htp : σ 65 = tp) (hT : σ 64 1 = nI T) (hT96 : T ≤ 96) (hok : LxOk tp T L) (hL : LxC σ L) : Cv l θ 2 m_P_advance [.inr 64] σ (fun σ' => LxC σ' (advL tp T L) ∧ Sm [64] σ σ' ∧ F64 σ σ') := by
  subst htp
  have h4 := LxOk_k4 hok
  refine c_P_advance L.2.1 (isW L) hT hT96 (LxOk_le hok).2.1 hL.2.1 ?_
  rw [hL.2.2, isW]
  simp only [Bool.or_eq_true, decide_eq_true_eq]
  constructor
  · rintro (h | h)
    · rw [h]; exact Or.inl rfl
    · rw [h]; exact Or.inr rfl
  · rintro (h | h)
    · exact Or.inl ((nI_eq (b := 1) (by omega) (by omega)).mp h)
    · exact Or.inr ((nI_eq (b := 2) (by omega) (by omega)).mp h)
theorem c_P_atHand (x : Int32) (htp : σ 65 = tp) (hT : σ 64 1 = nI T) (hT96 : T ≤ 96) (hok : LxOk tp T L) (hL : LxC σ L) : Ci l θ 1 m_P_atHand [.inr 64, .inl x] σ (fun r σ' => σ' = σ ∧ r = bi (sgnIs tp L x)) := by
  subst htp
  have h4 := LxOk_k4 hok
  obtain ⟨l1, l2, l3⟩ := hL
  refine Ci.of (Or.inl mi_P_atHand) pk_P_atHand (nb rfl) (Or.inr rfl) [some (.inr 64), some (.inl x)] rfl fun Γ hG hR => ?_
  refine hG.br rfl rfl rfl rfl (fun k1 => ?_) (fun k1 => ?_)
  · rw [l3] at k1
    have : ¬ L.2.2 = 3 := fun e => k1 (by rw [e]; rfl)
    refine hG.rz hR rfl rfl rfl rfl (Or.inl rfl) ?_
    exact ⟨rfl, by rw [sgnIs, decide_eq_false this]; rfl⟩
  · rw [l3] at k1
    have hk : L.2.2 = 3 := (nI_eq (b := 3) (by omega) (by omega)).mp k1
    have hlt : L.1 < T := by
      rcases hok with ⟨h, -⟩ | ⟨-, h, -⟩ | ⟨h, -⟩ <;> omega
    refine hG.br rfl rfl rfl rfl (fun k2 => ?_) (fun k2 => ?_)
    · rw [l1, hT] at k2
      exact absurd k2 (nI_ge hlt (by omega))
    · refine hG.ld rfl L.1 rfl rfl rfl rfl l1 (by omega) ?_
      refine hG.br rfl rfl rfl rfl (fun k3 => ?_) (fun k3 => ?_)
      · refine hG.rz hR rfl rfl rfl rfl (Or.inl rfl) ?_
        exact ⟨rfl, by rw [sgnIs, decide_eq_false k3, Bool.and_false]; rfl⟩
      · refine hG.rz hR rfl rfl rfl rfl (Or.inr rfl) ?_
        exact ⟨rfl, by rw [sgnIs, decide_eq_true hk, decide_eq_true k3]; rfl⟩
end
