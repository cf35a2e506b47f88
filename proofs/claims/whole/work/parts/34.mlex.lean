/-! the reference reads words and signs -/
/-- what the reference's fields say of the word or sign at hand -/
def LxM (σ : Sg) (tp : Nat → Int32) (L : Lx) : Prop := σ 95 13 = nI L.1 ∧ σ 95 12 = nI L.2.1 ∧ (L.2.2 = 0 → σ 95 14 = 0) ∧ (L.2.2 = 1 → σ 95 14 = 1 ∧ σ 95 15 = tp L.1) ∧ (L.2.2 = 2 → (L.2.1 - L.1 ≤ 4 → σ 95 14 = 2 ∧ σ 95 15 = nI (numN tp (L.2.1 - L.1) L.1 0)) ∧ (¬ L.2.1 - L.1 ≤ 4 → σ 95 14 = 4)) ∧ (L.2.2 = 3 → σ 95 14 = 3 ∧ σ 95 15 = tp L.1) ∧ (L.2.2 = 4 → σ 95 14 = 4) ∧ ((L.2.2 = 1 ∨ L.2.2 = 2) → σ 95 16 = nI L.2.1) ∧ (L.2.2 = 3 → ∀ q, L.2.1 ≤ q → q ≤ 96 → σ 95 16 ≠ nI q)
/-- of the object's fields only some are others -/
def F95 (js : List Nat) (σ σ' : Sg) : Prop := ∀ j, j ∉ js → σ' 95 j = σ 95 j
theorem F95.rf {js : List Nat} {σ : Sg} : F95 js σ σ := fun _ _ => rfl
theorem F95.tr {js : List Nat} {σ σ1 σ2 : Sg} (h : F95 js σ σ1) (h2 : F95 js σ1 σ2) : F95 js σ σ2 := fun j hj => (h2 j hj).trans (h j hj)
theorem F95.upo {js : List Nat} {σ σ1 : Sg} (h : F95 js σ σ1) {c j : Nat} {v : Int32} (hc : 95 ≠ c) : F95 js σ (up σ1 c j v) := fun x hx => by rw [up_c _ _ _ _ hc]; exact h x hx
theorem F95.up {js : List Nat} {σ σ1 : Sg} (h : F95 js σ σ1) {j : Nat} {v : Int32} (hj : j ∈ js) : F95 js σ (up σ1 95 j v) := fun x hx => by rw [up_j _ _ _ _ (j' := x) (fun e => hx (by rw [e]; exact hj))]; exact h x hx
theorem F95.mono {js ks : List Nat} {σ σ1 : Sg} (h : F95 js σ σ1) (hs : ∀ c ∈ js, c ∈ ks) : F95 ks σ σ1 := fun c hc => h c (fun h1 => hc (hs c h1))
section
variable {l : Launch} {θ : Th} {σ : Sg} {T : Nat}
theorem c_M_isLetter (k : Nat) (hT : σ 95 11 = nI T) (hT96 : T ≤ 96) (hk : k ≤ 96) : Ci l θ 1 m_M_isLetter [.inr 95, .inl (nI k)] σ (fun r σ' => σ' = σ ∧ r = bi (decide (k < T) && isL (σ 103 k))) := by
  refine Ci.of (Or.inl mi_M_isLetter) pk_M_isLetter (nb rfl) (Or.inr rfl) [some (.inr 95), some (.inl (nI k))] rfl fun Γ hG hR => ?_
  refine hG.br rfl rfl rfl rfl (fun k1 => ?_) (fun k1 => ?_)
  · rw [hT] at k1
    have q : ¬ k < T := fun z => absurd k1 (nI_ge z (by omega))
    refine hG.rz hR rfl rfl rfl rfl (Or.inl rfl) ?_
    exact ⟨rfl, by simp [q, bi]⟩
  · rw [hT] at k1
    have q : k < T := Nat.not_le.mp (fun z => k1 (nI_le z (by omega)))
    refine hG.ld rfl k rfl rfl rfl rfl rfl (by omega) ?_
    refine hG.br rfl rfl rfl rfl (fun k2 => ?_) (fun k2 => ?_)
    · refine hG.rz hR rfl rfl rfl rfl (Or.inl rfl) ?_
      exact ⟨rfl, by simp [isL, i32_nle.mpr k2, bi]⟩
    · refine hG.ld rfl k rfl rfl rfl rfl rfl (by omega) ?_
      refine hG.br rfl rfl rfl rfl (fun k3 => ?_) (fun k3 => ?_)
      · refine hG.rz hR rfl rfl rfl rfl (Or.inl rfl) ?_
        exact ⟨rfl, by simp [isL, i32_nle.mpr k3, bi]⟩
      · refine hG.rz hR rfl rfl rfl rfl (Or.inr rfl) ?_
        exact ⟨rfl, by simp [isL, q, i32_nlt.mp k2, i32_nlt.mp k3, bi]⟩
theorem c_M_isFigure (k : Nat) (hT : σ 95 11 = nI T) (hT96 : T ≤ 96) (hk : k ≤ 96) : Ci l θ 1 m_M_isFigure [.inr 95, .inl (nI k)] σ (fun r σ' => σ' = σ ∧ r = bi (decide (k < T) && isD (σ 103 k))) := by
  refine Ci.of (Or.inl mi_M_isFigure) pk_M_isFigure (nb rfl) (Or.inr rfl) [some (.inr 95), some (.inl (nI k))] rfl fun Γ hG hR => ?_
  refine hG.br rfl rfl rfl rfl (fun k1 => ?_) (fun k1 => ?_)
  · rw [hT] at k1
    have q : ¬ k < T := fun z => absurd k1 (nI_ge z (by omega))
    refine hG.rz hR rfl rfl rfl rfl (Or.inl rfl) ?_
    exact ⟨rfl, by simp [q, bi]⟩
  · rw [hT] at k1
    have q : k < T := Nat.not_le.mp (fun z => k1 (nI_le z (by omega)))
    refine hG.ld rfl k rfl rfl rfl rfl rfl (by omega) ?_
    refine hG.br rfl rfl rfl rfl (fun k2 => ?_) (fun k2 => ?_)
    · refine hG.rz hR rfl rfl rfl rfl (Or.inl rfl) ?_
      exact ⟨rfl, by simp [isD, i32_nle.mpr k2, bi]⟩
    · refine hG.ld rfl k rfl rfl rfl rfl rfl (by omega) ?_
      refine hG.br rfl rfl rfl rfl (fun k3 => ?_) (fun k3 => ?_)
      · refine hG.rz hR rfl rfl rfl rfl (Or.inl rfl) ?_
        exact ⟨rfl, by simp [isD, i32_nle.mpr k3, bi]⟩
      · refine hG.rz hR rfl rfl rfl rfl (Or.inr rfl) ?_
        exact ⟨rfl, by simp [isD, q, i32_nlt.mp k2, i32_nlt.mp k3, bi]⟩
set_option maxHeartbeats 1000000 in
theorem c_M_go (p : Nat) (pw : Bool) (hT : σ 95 11 = nI T) (hT96 : T ≤ 96) (hp : p ≤ T) (h12 : σ 95 12 = nI p) (hpw : pw = true → σ 95 16 = nI p) (hpn : pw = false → ∀ q, p ≤ q → q ≤ 96 → σ 95 16 ≠ nI q) : Cv l θ 2 m_M_go [.inr 95] σ (fun σ' => LxM σ' (σ 103) (lexN (σ 103) T p pw) ∧ Sm [95] σ σ' ∧ F95 [12, 13, 14, 15, 16] σ σ') := by
  refine Cv.of (Or.inl mi_M_go) pk_M_go (nb rfl) rfl [some (.inr 95), none] rfl fun Γ hG hR => ?_
  -- behind the blanks
  have fin : ∀ (s : Nat) (σ1 : Sg), s = skp (σ 103) (T - p) p → p ≤ s → s ≤ T → Sm [95] σ σ1 → F95 [12] σ σ1 → σ1 95 12 = nI s → X Γ 38 [some (.inr 95), none] [] σ1 := by
    intro s σ1 hs hps hsT hS hF e12
    have e11 : σ1 95 11 = nI T := by rw [hF 11 (by decide)]; exact hT
    have e103 : σ1 103 = σ 103 := hS 103 (by decide)
    have e16 : σ1 95 16 = σ 95 16 := hF 16 (by decide)
    -- whether it stands close to a word
    have hclose : (nI s = σ 95 16) ↔ (pw && decide (s = p)) = true := by
      cases pw with
      | true =>
        rw [hpw rfl]
        simp only [Bool.true_and, decide_eq_true_eq]
        exact nI_eq (by omega) (by omega)
      | false =>
        simp only [Bool.false_and, Bool.false_eq_true, iff_false]
        exact fun h => hpn rfl s hps (by omega) h.symm
    have hlex : lexN (σ 103) T p pw = if s = T then (T, T, 0) else if kdB (σ 103 s) = 3 then (s, s + 1, 3) else (s, rnE (σ 103) (kdB (σ 103 s)) (T - s) s, if pw && decide (s = p) then 4 else kdB (σ 103 s)) := by rw [lexN, ← hs]
    generalize hσ2 : up σ1 95 13 (nI s) = σ2
    have hS2 : Sm [95] σ σ2 := by rw [← hσ2]; exact hS.up (by decide)
    have hF2 : F95 [12, 13, 14, 15, 16] σ σ2 := by rw [← hσ2]; exact (hF.mono (by decide)).up (by decide)
    have f11 : σ2 95 11 = nI T := by rw [hF2 11 (by decide)]; exact hT
    have f12 : σ2 95 12 = nI s := by rw [← hσ2, up_j _ _ _ _ (by decide)]; exact e12
    have f13 : σ2 95 13 = nI s := by rw [← hσ2, up_self]
    have f16 : σ2 95 16 = σ 95 16 := by rw [← hσ2, up_j _ _ _ _ (by decide)]; exact e16
    have f103 : σ2 103 = σ 103 := hS2 103 (by decide)
    have j62 : ∀ cl : Bool, cl = (pw && decide (s = p)) → X Γ 62 [some (.inr 95), none] [.inl (bi cl)] σ2 := by
      intro cl hcl
      refine hG.br rfl rfl rfl rfl (fun k1 => ?_) (fun k1 => ?_)
      · rw [f13, f11] at k1
        have hsT' : s ≠ T := fun e => k1 (by rw [e])
        have hslt : s < T := by omega
        rw [if_neg hsT'] at hlex
        refine hG.go 3 rfl rfl ?_
        rw [f13]
        refine hG.cV lk_M_214 mi_M_isLetter rfl rfl (c_M_isLetter (T := T) s f11 hT96 (by omega)) rfl rfl rfl rfl rfl rfl rfl rfl ?_
        rintro x σ3 ⟨rfl, rfl⟩
        rw [f103]
        refine hG.br rfl rfl rfl rfl (fun k2 => ?_) (fun k2 => ?_)
        · -- no letter
          have hnl : isL (σ 103 s) = false := by
            have := bi_eq0.mp k2
            simpa [hslt] using this
          refine hG.go 3 rfl rfl ?_
          rw [f13]
          refine hG.cV lk_M_220 mi_M_isFigure rfl rfl (c_M_isFigure (T := T) s f11 hT96 (by omega)) rfl rfl rfl rfl rfl rfl rfl rfl ?_
          rintro x σ3 ⟨rfl, rfl⟩
          rw [f103]
          refine hG.br rfl rfl rfl rfl (fun k3 => ?_) (fun k3 => ?_)
          · -- a sign
            have hnd : isD (σ 103 s) = false := by
              have := bi_eq0.mp k3
              simpa [hslt] using this
            have hk3 : kdB (σ 103 s) = 3 := by rw [kdB, hnl, hnd]; rfl
            rw [if_pos hk3] at hlex
            refine hG.ld rfl s rfl rfl rfl rfl (by rw [up_j _ _ _ _ (by decide)]; exact f13) (by omega) ?_
            refine hG.rv hR rfl rfl rfl ?_
            rw [hlex]
            refine ⟨⟨?_, ?_, fun h => (by cases h), fun h => (by cases h), fun h => (by cases h), fun _ => ⟨?_, ?_⟩, fun h => (by cases h), fun h => (by rcases h with h | h <;> cases h), fun _ q hq1 hq2 => ?_⟩, (((hS2.up (by decide)).up (by decide)).up (by decide)), ((hF2.up (by decide)).up (by decide)).up (by decide)⟩
            · rw [up_j _ _ _ _ (by decide), up_j _ _ _ _ (by decide), up_j _ _ _ _ (by decide)]; exact f13
            · rw [up_self, up_j _ _ _ _ (by decide), up_j _ _ _ _ (by decide), f12, nI_1]
            · rw [up_j _ _ _ _ (by decide), up_j _ _ _ _ (by decide), up_self]
            · rw [up_j _ _ _ _ (by decide), up_self, up_c _ _ _ _ (by decide), f103]
            · rw [up_j _ _ _ _ (by decide), up_j _ _ _ _ (by decide), up_j _ _ _ _ (by decide), f16]
              dsimp only at hq1
              cases pw with
              | true => rw [hpw rfl]; intro e; have := (nI_eq (by omega) (by omega)).mp e; omega
              | false => exact hpn rfl q (by omega) hq2
          · -- a number
            have hd : isD (σ 103 s) = true := by
              have := bi_ne0.mp k3
              simpa [hslt] using this
            have hk2 : kdB (σ 103 s) = 2 := isD_2.mp hd
            have hk3 : ¬ kdB (σ 103 s) = 3 := by rw [hk2]; decide
            rw [if_neg hk3, hk2] at hlex
            generalize hE : rnE (σ 103) 2 (T - s) s = E at hlex
            have hEle := rnE_le (σ 103) 2 (T - s) s
            rw [hE] at hEle
            have loop : ∀ m i v, i + m = T → s ≤ i → rnE (σ 103) 2 (T - s) s = rnE (σ 103) 2 m i → ∀ σ4 : Sg, Sm [95] σ σ4 → F95 [12, 13, 14, 15, 16] σ σ4 → σ4 95 12 = nI i → σ4 95 13 = nI s → σ4 95 15 = nI v → (E - s ≤ 4 → i ≤ E → numN (σ 103) (E - s) s 0 = numN (σ 103) (E - i) i v) → v < 10000 → (i - s < 4 → v < 10 ^ (i - s)) → X Γ 170 [some (.inr 95), some (.inl (bi cl))] [] σ4 := by
              intro m
              induction m with
              | zero =>
                intro i v hi hsi he σ4 hS4 hF4 g12 g13 g15 hnum hv hv2
                have hiE : i = E := by rw [← hE, he]; rfl
                refine hG.go 3 rfl rfl ?_
                rw [g12]
                refine hG.cV lk_M_220 mi_M_isFigure rfl rfl (c_M_isFigure (T := T) i (by rw [hF4 11 (by decide)]; exact hT) hT96 (by omega)) rfl rfl rfl rfl rfl rfl rfl rfl ?_
                rintro x σ5 ⟨rfl, rfl⟩
                have hend : X Γ 238 [some (.inr 95), some (.inl (bi cl))] [] σ5 := by
                  have j261 : ∀ tk : Int32, tk = (if cl then 4 else if E - s ≤ 4 then 2 else 4) → X Γ 261 [some (.inr 95), some (.inl (bi cl))] [.inl tk, .inr 95] σ5 := by
                    intro tk htk
                    refine hG.rv hR rfl rfl rfl ?_
                    rw [hlex]
                    refine ⟨⟨?_, ?_, fun h => ?_, fun h => ?_, fun h => ⟨fun hle => ⟨?_, ?_⟩, fun hle => ?_⟩, fun h => ?_, fun h => ?_, fun h => ?_, fun h => ?_⟩, (hS4.up (by decide)).up (by decide), (hF4.up (by decide)).up (by decide)⟩
                    · rw [up_j _ _ _ _ (by decide), up_j _ _ _ _ (by decide)]; exact g13
                    · rw [up_j _ _ _ _ (by decide), up_j _ _ _ _ (by decide), g12, hiE]
                    · dsimp only at h; split at h <;> cases h
                    · dsimp only at h; split at h <;> cases h
                    · dsimp only at h hle ⊢
                      rw [up_j _ _ _ _ (by decide), up_self, htk]
                      split at h
                      · cases h
                      · rename_i hc; rw [hcl, if_neg hc, if_pos hle]
                    · dsimp only at hle ⊢
                      rw [up_j _ _ _ _ (by decide), up_j _ _ _ _ (by decide), g15, hnum hle (by omega), hiE, Nat.sub_self]; rfl
                    · dsimp only at h hle ⊢
                      rw [up_j _ _ _ _ (by decide), up_self, htk]
                      split at h
                      · cases h
                      · rename_i hc; rw [hcl, if_neg hc, if_neg hle]
                    · dsimp only at h; split at h <;> cases h
                    · dsimp only at h ⊢
                      rw [up_j _ _ _ _ (by decide), up_self, htk]
                      split at h
                      · rename_i hc; rw [hcl, if_pos hc]
                      · cases h
                    · rw [up_self, up_j _ _ _ _ (by decide), g12, hiE]
                    · dsimp only at h; split at h <;> cases h
                  refine hG.br rfl rfl rfl rfl (fun q1 => ?_) (fun q1 => ?_)
                  · have hc := bi_ne0.mp q1
                    exact hG.go 2 rfl rfl (j261 4 (by rw [hc, if_pos rfl]))
                  · have hc := bi_eq0.mp q1
                    refine hG.br rfl rfl rfl rfl (fun q2 => ?_) (fun q2 => ?_)
                    · rw [g12, g13, hiE, pk_sub (by omega)] at q2
                      have hle : E - s ≤ 4 := (nI_leI (by omega) (by omega)).mp (show nI (E - s) ≤ nI 4 from q2)
                      exact hG.go 1 rfl rfl (j261 2 (by rw [hc, if_pos hle]; rfl))
                    · rw [g12, g13, hiE, pk_sub (by omega)] at q2
                      have hle : ¬ E - s ≤ 4 := fun z => q2 (show nI (E - s) ≤ nI 4 from nI_le z (by omega))
                      exact hG.go 2 rfl rfl (j261 4 (by rw [hc, if_neg hle]; rfl))
                refine hG.br rfl rfl rfl rfl (fun q1 => ?_) (fun q1 => ?_)
                · exact hend
                · exfalso
                  have := bi_ne0.mp q1
                  simp at this
                  omega
              | succ m ih =>
                intro i v hi hsi he σ4 hS4 hF4 g12 g13 g15 hnum hv hv2
                refine hG.go 3 rfl rfl ?_
                rw [g12]
                refine hG.cV lk_M_220 mi_M_isFigure rfl rfl (c_M_isFigure (T := T) i (by rw [hF4 11 (by decide)]; exact hT) hT96 (by omega)) rfl rfl rfl rfl rfl rfl rfl rfl ?_
                rintro x σ5 ⟨rfl, rfl⟩
                rw [hS4 103 (by decide)]
                have he : rnE (σ 103) 2 (T - s) s = if kdB (σ 103 i) = 2 then rnE (σ 103) 2 m (i + 1) else i := he
                refine hG.br rfl rfl rfl rfl (fun q1 => ?_) (fun q1 => ?_)
                · -- the end of the number
                  have hnd : ¬ kdB (σ 103 i) = 2 := fun z => by
                    have h1 := bi_eq0.mp q1
                    rw [isD_2.mpr z] at h1
                    simp at h1
                    omega
                  rw [if_neg hnd] at he
                  have hiE : i = E := by rw [← hE, he]
                  have j261 : ∀ tk : Int32, tk = (if cl then 4 else if E - s ≤ 4 then 2 else 4) → X Γ 261 [some (.inr 95), some (.inl (bi cl))] [.inl tk, .inr 95] σ5 := by
                    intro tk htk
                    refine hG.rv hR rfl rfl rfl ?_
                    rw [hlex]
                    refine ⟨⟨?_, ?_, fun h => ?_, fun h => ?_, fun h => ⟨fun hle => ⟨?_, ?_⟩, fun hle => ?_⟩, fun h => ?_, fun h => ?_, fun h => ?_, fun h => ?_⟩, (hS4.up (by decide)).up (by decide), (hF4.up (by decide)).up (by decide)⟩
                    · rw [up_j _ _ _ _ (by decide), up_j _ _ _ _ (by decide)]; exact g13
                    · rw [up_j _ _ _ _ (by decide), up_j _ _ _ _ (by decide), g12, hiE]
                    · dsimp only at h; split at h <;> cases h
                    · dsimp only at h; split at h <;> cases h
                    · dsimp only at h hle ⊢
                      rw [up_j _ _ _ _ (by decide), up_self, htk]
                      split at h
                      · cases h
                      · rename_i hc; rw [hcl, if_neg hc, if_pos hle]
                    · dsimp only at hle ⊢
                      rw [up_j _ _ _ _ (by decide), up_j _ _ _ _ (by decide), g15, hnum hle (by omega), hiE, Nat.sub_self]; rfl
                    · dsimp only at h hle ⊢
                      rw [up_j _ _ _ _ (by decide), up_self, htk]
                      split at h
                      · cases h
                      · rename_i hc; rw [hcl, if_neg hc, if_neg hle]
                    · dsimp only at h; split at h <;> cases h
                    · dsimp only at h ⊢
                      rw [up_j _ _ _ _ (by decide), up_self, htk]
                      split at h
                      · rename_i hc; rw [hcl, if_pos hc]
                      · cases h
                    · rw [up_self, up_j _ _ _ _ (by decide), g12, hiE]
                    · dsimp only at h; split at h <;> cases h
                  refine hG.br rfl rfl rfl rfl (fun q2 => ?_) (fun q2 => ?_)
                  · have hc := bi_ne0.mp q2
                    exact hG.go 2 rfl rfl (j261 4 (by rw [hc, if_pos rfl]))
                  · have hc := bi_eq0.mp q2
                    refine hG.br rfl rfl rfl rfl (fun q3 => ?_) (fun q3 => ?_)
                    · rw [g12, g13, hiE, pk_sub (by omega)] at q3
                      have hle : E - s ≤ 4 := (nI_leI (by omega) (by omega)).mp (show nI (E - s) ≤ nI 4 from q3)
                      exact hG.go 1 rfl rfl (j261 2 (by rw [hc, if_pos hle]; rfl))
                    · rw [g12, g13, hiE, pk_sub (by omega)] at q3
                      have hle : ¬ E - s ≤ 4 := fun z => q3 (show nI (E - s) ≤ nI 4 from nI_le z (by omega))
                      exact hG.go 2 rfl rfl (j261 4 (by rw [hc, if_neg hle]; rfl))
                · have hd : kdB (σ 103 i) = 2 := by
                    have h1 := bi_ne0.mp q1
                    simp at h1
                    exact isD_2.mp h1.2
                  rw [if_pos hd] at he
                  have hiE : i < E := by
                    rw [← hE, he]
                    have := rnE_le (σ 103) 2 m (i + 1)
                    omega
                  obtain ⟨dg, hdg, edg⟩ := isD_nI (kdB_2 hd)
                  have j222 : ∀ v2 : Nat, (i - s < 4 → v2 = 10 * v + dg) → (¬ i - s < 4 → v2 = v) → X Γ 222 [some (.inr 95), some (.inl (bi cl))] [.inl (nI v2), .inr 95] σ5 := by
                    intro v2 hv2a hv2b
                    have hlt : v2 < 10000 := by
                      by_cases h4 : i - s < 4
                      · rw [hv2a h4]
                        have := hv2 h4
                        have h3 : 10 ^ (i - s) ≤ 10 ^ 3 := Nat.pow_le_pow_right (by omega) (by omega)
                        omega
                      · rw [hv2b h4]; exact hv
                    refine hG.jp rfl rfl rfl ?_
                    refine ih (i + 1) v2 (by omega) (by omega) he _ ((hS4.up (by decide)).up (by decide)) ((hF4.up (by decide)).up (by decide)) ?_ ?_ ?_ ?_ hlt ?_
                    · rw [up_self, up_j _ _ _ _ (by decide), g12, nI_1]
                    · rw [up_j _ _ _ _ (by decide), up_j _ _ _ _ (by decide)]; exact g13
                    · rw [up_j _ _ _ _ (by decide), up_self]
                    · intro hle hile
                      have h4 : i - s < 4 := by omega
                      rw [hnum hle (by omega), show E - i = (E - (i + 1)) + 1 by omega, numN]
                      congr 1
                      rw [hv2a h4, edg, show nI (48 + dg) - 48 = nI (48 + dg - 48) from pk_sub (b := 48) (by omega), nI_clamp (by omega)]
                      omega
                    · intro h4
                      rw [hv2a (by omega)]
                      have := hv2 (by omega)
                      rw [show i + 1 - s = (i - s) + 1 by omega, Nat.pow_succ]
                      omega
                  refine hG.br rfl rfl rfl rfl (fun q2 => ?_) (fun q2 => ?_)
                  · rw [g12, g13, pk_sub (by omega)] at q2
                    have h4 : ¬ i - s < 4 := fun z => absurd (show nI 4 ≤ nI (i - s) from q2) (nI_ge z (by omega))
                    refine hG.go 2 rfl rfl ?_
                    rw [g15]
                    exact j222 v (fun z => absurd z h4) (fun _ => rfl)
                  · rw [g12, g13, pk_sub (by omega)] at q2
                    have h4 : i - s < 4 := Nat.not_le.mp (fun z => q2 (show nI 4 ≤ nI (i - s) from nI_le z (by omega)))
                    refine hG.ld rfl i rfl rfl rfl rfl g12 (by omega) ?_
                    rw [g15, hS4 103 (by decide), edg]
                    refine hG.go 4 rfl rfl ?_
                    rw [show (10 : Int32) * nI v = nI (10 * v) from pk_mul 10 v, nI_add, show nI (10 * v + (48 + dg)) - 48 = nI (10 * v + (48 + dg) - 48) from pk_sub (b := 48) (by omega), show 10 * v + (48 + dg) - 48 = 10 * v + dg by omega]
                    exact j222 (10 * v + dg) (fun _ => rfl) (fun z => absurd h4 z)
            refine hG.go 3 rfl rfl ?_
            refine loop (T - s) s 0 (by omega) (Nat.le_refl _) rfl _ (hS2.up (by decide)) (hF2.up (by decide)) ?_ ?_ (up_self _ _ _ _) (fun _ _ => rfl) (by omega) (fun _ => by simp)
            · rw [up_j _ _ _ _ (by decide)]; exact f12
            · rw [up_j _ _ _ _ (by decide)]; exact f13
        · -- a word
          have hl : isL (σ 103 s) = true := by
            have := bi_ne0.mp k2
            simpa [hslt] using this
          have hk1 : kdB (σ 103 s) = 1 := isL_1.mp hl
          have hk3 : ¬ kdB (σ 103 s) = 3 := by rw [hk1]; decide
          rw [if_neg hk3, hk1] at hlex
          generalize hE : rnE (σ 103) 1 (T - s) s = E at hlex
          have hEle := rnE_le (σ 103) 1 (T - s) s
          rw [hE] at hEle
          have hend : ∀ σ5 : Sg, Sm [95] σ σ5 → F95 [12, 13, 14, 15, 16] σ σ5 → σ5 95 12 = nI E → σ5 95 13 = nI s → X Γ 117 [some (.inr 95), some (.inl (bi cl))] [] σ5 := by
            intro σ5 hS4 hF4 g12 g13
            have j127 : ∀ tk : Int32, tk = (if cl then 4 else 1) → X Γ 127 [some (.inr 95), some (.inl (bi cl))] [.inl tk, .inr 95] σ5 := by
              intro tk htk
              refine hG.ld rfl s rfl rfl rfl rfl (by rw [up_j _ _ _ _ (by decide)]; exact g13) (by omega) ?_
              rw [up_c _ _ _ _ (by decide), hS4 103 (by decide)]
              refine hG.rv hR rfl rfl rfl ?_
              rw [hlex]
              refine ⟨⟨?_, ?_, fun h => ?_, fun h => ⟨?_, ?_⟩, fun h => ?_, fun h => ?_, fun h => ?_, fun h => ?_, fun h => ?_⟩, ((hS4.up (by decide)).up (by decide)).up (by decide), ((hF4.up (by decide)).up (by decide)).up (by decide)⟩
              · rw [up_j _ _ _ _ (by decide), up_j _ _ _ _ (by decide), up_j _ _ _ _ (by decide)]; exact g13
              · rw [up_j _ _ _ _ (by decide), up_j _ _ _ _ (by decide), up_j _ _ _ _ (by decide), g12]
              · dsimp only at h; split at h <;> cases h
              · dsimp only at h
                rw [up_j _ _ _ _ (by decide), up_j _ _ _ _ (by decide), up_self, htk]
                split at h
                · cases h
                · rename_i hc; rw [hcl, if_neg hc]
              · rw [up_j _ _ _ _ (by decide), up_self]
              · dsimp only at h; split at h <;> cases h
              · dsimp only at h; split at h <;> cases h
              · dsimp only at h
                rw [up_j _ _ _ _ (by decide), up_j _ _ _ _ (by decide), up_self, htk]
                split at h
                · rename_i hc; rw [hcl, if_pos hc]
                · cases h
              · rw [up_self, up_j _ _ _ _ (by decide), up_j _ _ _ _ (by decide), g12]
              · dsimp only at h; split at h <;> cases h
            refine hG.br rfl rfl rfl rfl (fun q1 => ?_) (fun q1 => ?_)
            · exact hG.go 1 rfl rfl (j127 1 (by rw [bi_eq0.mp q1]; rfl))
            · exact hG.go 2 rfl rfl (j127 4 (by rw [bi_ne0.mp q1]; rfl))
          have loop : ∀ m i, i + m = T → s ≤ i → rnE (σ 103) 1 (T - s) s = rnE (σ 103) 1 m i → ∀ σ4 : Sg, Sm [95] σ σ4 → F95 [12, 13, 14, 15, 16] σ σ4 → σ4 95 12 = nI i → σ4 95 13 = nI s → X Γ 93 [some (.inr 95), some (.inl (bi cl))] [] σ4 := by
            intro m
            induction m with
            | zero =>
              intro i hi hsi he σ4 hS4 hF4 g12 g13
              refine hG.go 3 rfl rfl ?_
              rw [g12]
              refine hG.cV lk_M_214 mi_M_isLetter rfl rfl (c_M_isLetter (T := T) i (by rw [hF4 11 (by decide)]; exact hT) hT96 (by omega)) rfl rfl rfl rfl rfl rfl rfl rfl ?_
              rintro x σ5 ⟨rfl, rfl⟩
              refine hG.br rfl rfl rfl rfl (fun q1 => ?_) (fun q1 => ?_)
              · exact hend σ5 hS4 hF4 (by rw [g12, ← hE, he]; rfl) g13
              · exfalso
                have := bi_ne0.mp q1
                simp at this
                omega
            | succ m ih =>
              intro i hi hsi he σ4 hS4 hF4 g12 g13
              have he : rnE (σ 103) 1 (T - s) s = if kdB (σ 103 i) = 1 then rnE (σ 103) 1 m (i + 1) else i := he
              refine hG.go 3 rfl rfl ?_
              rw [g12]
              refine hG.cV lk_M_214 mi_M_isLetter rfl rfl (c_M_isLetter (T := T) i (by rw [hF4 11 (by decide)]; exact hT) hT96 (by omega)) rfl rfl rfl rfl rfl rfl rfl rfl ?_
              rintro x σ5 ⟨rfl, rfl⟩
              rw [hS4 103 (by decide)]
              refine hG.br rfl rfl rfl rfl (fun q1 => ?_) (fun q1 => ?_)
              · have hnl : ¬ kdB (σ 103 i) = 1 := fun z => by
                  have h1 := bi_eq0.mp q1
                  rw [isL_1.mpr z] at h1
                  simp at h1
                  omega
                rw [if_neg hnl] at he
                exact hend σ5 hS4 hF4 (by rw [g12, ← hE, he]) g13
              · have hll : kdB (σ 103 i) = 1 := by
                  have h1 := bi_ne0.mp q1
                  simp at h1
                  exact isL_1.mp h1.2
                rw [if_pos hll] at he
                refine hG.jp rfl rfl rfl ?_
                exact ih (i + 1) (by omega) (by omega) he _ (hS4.up (by decide)) (hF4.up (by decide)) (by rw [up_self, g12, nI_1]) (by rw [up_j _ _ _ _ (by decide)]; exact g13)
          exact loop (T - s) s (by omega) (Nat.le_refl _) rfl σ3 hS2 hF2 f12 f13
      · rw [f13, f11] at k1
        have hsT' : s = T := (nI_eq (by omega) (by omega)).mp k1
        rw [if_pos hsT'] at hlex
        refine hG.rv hR rfl rfl rfl ?_
        rw [hlex]
        refine ⟨⟨?_, ?_, fun _ => ?_, fun h => (by cases h), fun h => (by cases h), fun h => (by cases h), fun h => (by cases h), fun h => (by rcases h with h | h <;> cases h), fun h => (by cases h)⟩, hS2.up (by decide), hF2.up (by decide)⟩
        · rw [up_j _ _ _ _ (by decide), f13, hsT']
        · rw [up_j _ _ _ _ (by decide), f12, hsT']
        · rw [up_self]
    refine hG.br rfl rfl rfl rfl (fun k1 => ?_) (fun k1 => ?_)
    · rw [e12, hσ2] at k1 ⊢
      rw [f13, f16] at k1
      refine hG.go 1 rfl rfl (j62 false ?_)
      have : ¬ (pw && decide (s = p)) = true := fun z => k1 (hclose.mpr z)
      simpa using this
    · rw [e12, hσ2] at k1 ⊢
      rw [f13, f16] at k1
      exact hG.go 2 rfl rfl (j62 true (hclose.mp k1).symm)
  have loop : ∀ m i, i + m = T → p ≤ i → skp (σ 103) (T - p) p = skp (σ 103) m i → ∀ σ1 : Sg, Sm [95] σ σ1 → F95 [12] σ σ1 → σ1 95 12 = nI i → X Γ 0 [some (.inr 95), none] [] σ1 := by
    intro m
    induction m with
    | zero =>
      intro i hi hpi he σ1 hS hF e12
      have e11 : σ1 95 11 = nI T := by rw [hF 11 (by decide)]; exact hT
      refine hG.br rfl rfl rfl rfl (fun k1 => ?_) (fun k1 => ?_)
      · exact fin i σ1 he.symm hpi (by omega) hS hF e12
      · rw [e12, e11] at k1
        exact absurd (nI_le (show T ≤ i by omega) (by omega)) k1
    | succ m ih =>
      intro i hi hpi he σ1 hS hF e12
      have e11 : σ1 95 11 = nI T := by rw [hF 11 (by decide)]; exact hT
      have he : skp (σ 103) (T - p) p = if σ 103 i = 32 then skp (σ 103) m (i + 1) else i := he
      refine hG.br rfl rfl rfl rfl (fun k1 => ?_) (fun k1 => ?_)
      · rw [e12, e11] at k1
        exact absurd k1 (nI_ge (by omega) (by omega))
      · refine hG.ld rfl i rfl rfl rfl rfl e12 (by omega) ?_
        rw [hS 103 (by decide)]
        refine hG.br rfl rfl rfl rfl (fun k2 => ?_) (fun k2 => ?_)
        · rw [if_neg k2] at he
          exact fin i σ1 he.symm hpi (by omega) hS hF e12
        · rw [if_pos k2] at he
          refine hG.jp rfl rfl rfl ?_
          exact ih (i + 1) (by omega) (by omega) he _ (hS.up (by decide)) (hF.up (by decide)) (by rw [up_self, e12, nI_1])
  exact loop (T - p) p (by omega) (Nat.le_refl _) rfl σ Sm.rf F95.rf h12
end
