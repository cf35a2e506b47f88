/-! the class's calls, ninth part: sheets -/
def SH (σ : Sg) (so sz ce : Nat → Int32) : Prop := ∀ s, s < 4 → σ (70 + 2 * s) 0 = so s ∧ σ (70 + 2 * s) 1 = sz s ∧ ∀ j, j < 24 → σ (71 + 2 * s) j = ce (24 * s + j)
section
variable {l : Launch} {θ : Th} {σ σ' : Sg} {n c t y : Nat} {f so sz ce : Nat → Int32}
theorem SH.put (h : SH σ so sz ce) (S : Nat) (hS : S < 4) (a b : Int32) (g : Nat → Int32) (hs : Sm [70 + 2 * S, 71 + 2 * S] σ σ') (h0 : σ' (70 + 2 * S) 0 = a) (h1 : σ' (70 + 2 * S) 1 = b) (hc : ∀ j, j < 24 → σ' (71 + 2 * S) j = g (24 * S + j)) (hg : ∀ j, ¬ (24 * S ≤ j ∧ j < 24 * S + 24) → g j = ce j) : SH σ' (upd so S a) (upd sz S b) g := by
  intro s hs4
  by_cases e : s = S
  · subst e
    rw [upd_same, upd_same]
    exact ⟨h0, h1, hc⟩
  · rw [upd_ne e, upd_ne e, hs (70 + 2 * s) (by simp; omega), hs (71 + 2 * s) (by simp; omega)]
    obtain ⟨a1, a2, a3⟩ := h s hs4
    exact ⟨a1, a2, fun j hj => by rw [a3 j hj, hg _ (by omega)]⟩
theorem o_W_sheet0 (t' nn : Int32) (hH : SH σ so sz ce) : Ci l θ 5 m_W_sheet [.inr 0, .inl (nI 0), .inl t', .inl nn] σ (fun r σ' => (shtG (nI 0) t' nn = false → r = -1000000001 ∧ σ' = σ) ∧ (shtG (nI 0) t' nn = true → shtZ t' nn = true → r = -1000000014 ∧ σ' = σ) ∧ (shtG (nI 0) t' nn = true → shtZ t' nn = false → r = (if t' < 0 then 0 else nn) ∧ Sm [70, 71] σ σ' ∧ SH σ' (upd so 0 t') (upd sz 0 (if t' < 0 then 0 else nn)) (zr24 ce 0))) := by
  have eg : shtG (nI 0) t' nn = (inB t' (-1) 1 && !(decide (0 ≤ t') && decide (24 < nn))) := by rw [shtG, show inB (nI 0) 0 3 = true by decide, Bool.true_and]
  rw [eg, shtZ]
  have fin : ∀ (τ : Sg) (a b : Int32), Sm [70, 71] σ τ → τ 70 0 = a → τ 70 1 = b → (∀ j, j < 24 → τ 71 j = 0) → SH τ (upd so 0 a) (upd sz 0 b) (zr24 ce 0) := fun τ a b hs h0 h1 hz => hH.put 0 (by omega) a b _ hs h0 h1 (fun j hj => by rw [zr24, if_pos ⟨by omega, by omega⟩]; exact hz j hj) (fun j hj => by rw [zr24, if_neg hj])
  refine Ci.of (Or.inl mi_W_sheet) pk_W_sheet (nb rfl) (Or.inl rfl) [some (.inr 0), some (.inl (nI 0)), some (.inl t'), some (.inl nn)] rfl fun Γ hG hR => ?_
  have bad : (inB t' (-1) 1 && !(decide (0 ≤ t') && decide (24 < nn))) = false → X Γ 17 [some (.inr 0), some (.inl (nI 0)), some (.inl t'), some (.inl nn)] [] σ := by
    intro hb
    refine hG.rt hR rfl rfl rfl rfl ?_
    exact ⟨fun _ => ⟨rfl, rfl⟩, fun h => absurd h (by rw [hb]; decide), fun h => absurd h (by rw [hb]; decide)⟩
  refine hG.cS lk_W_206 mi_W_isSheet rfl rfl (c_W_isSheet (nI 0)) rfl rfl rfl rfl rfl rfl ?_
  rintro x σ' ⟨rfl, rfl⟩
  refine hG.br rfl rfl rfl rfl (fun h1 => ?_) (fun h1 => ?_)
  · exact absurd (bi_eq0.mp h1) (by decide)
  · refine hG.br rfl rfl rfl rfl (fun h2 => ?_) (fun h2 => ?_)
    · exact bad (by rw [inB, decide_eq_false (i32_nle.mpr h2)]; rfl)
    · refine hG.br rfl rfl rfl rfl (fun h3 => ?_) (fun h3 => ?_)
      · have ht : inB t' (-1) 1 = true := by rw [inB, decide_eq_true (i32_nlt.mp h2), decide_eq_true h3]; rfl
        rw [ht, Bool.true_and] at hR
        refine hG.br rfl rfl rfl rfl (fun h4 => ?_) (fun h4 => ?_)
        · have h0 : 0 ≤ t' := by
            rcases inB_ab 0 2 (x := t' + 1) (by omega) (by omega) (by
              have e1 : (-1 : Int32).toInt = -1 := by decide
              have e2 : (1 : Int32).toInt = 1 := by decide
              have a1 := Int32.le_iff_toInt_le.mp (i32_nlt.mp h2)
              have a2 := Int32.le_iff_toInt_le.mp h3
              rw [e1] at a1
              rw [e2] at a2
              rcases (by omega : t'.toInt = -1 ∨ t'.toInt = 0 ∨ t'.toInt = 1) with e | e | e
              · have : t' = -1 := Int32.toInt_inj.mp (e.trans e1.symm)
                rw [this]; decide
              · have : t' = 0 := Int32.toInt_inj.mp e
                rw [this]; decide
              · have : t' = 1 := Int32.toInt_inj.mp (e.trans e2.symm)
                rw [this]; decide) with ⟨k, _, hk, e⟩
            have e1 : t' = nI k - 1 := by rw [← e, Int32.add_sub_cancel]
            cases k with
            | zero => exact absurd (show t' = -1 by rw [e1]; decide) h4
            | succ k => rw [e1, nI_pred]; exact nI_pos' (by omega)
          rw [decide_eq_true h0, Bool.true_and, Bool.true_and, if_neg (i32_nlt.mpr h0)] at hR
          refine hG.br rfl rfl rfl rfl (fun h5 => ?_) (fun h5 => ?_)
          · rw [decide_eq_false (i32_nlt.mpr h5)] at hR
            refine hG.br rfl rfl rfl rfl (fun h6 => ?_) (fun h6 => ?_)
            · rw [decide_eq_false (i32_nlt.mpr h6)] at hR
              refine hG.lda rfl 0 rfl rfl rfl (Or.inr (Or.inl rfl)) rfl (by decide) rfl ?_
              refine hG.cVv lk_W_270 mi_R_clear rfl rfl (c_R_clear70 t' nn) rfl rfl rfl rfl rfl rfl rfl rfl ?_
              rintro τ ⟨hs, q0, q1, qz⟩
              refine hG.rt hR rfl rfl rfl rfl ?_
              exact ⟨fun h => absurd h (by decide), fun _ h => absurd h (by decide), fun _ _ => ⟨rfl, hs, fin τ _ _ hs q0 q1 qz⟩⟩
            · rw [decide_eq_true (i32_nle.mp h6)] at hR
              refine hG.rt hR rfl rfl rfl rfl ?_
              exact ⟨fun h => absurd h (by decide), fun _ _ => ⟨rfl, rfl⟩, fun _ h => absurd h (by decide)⟩
          · rw [decide_eq_true (i32_nle.mp h5)] at hR
            refine hG.rt hR rfl rfl rfl rfl ?_
            exact ⟨fun _ => ⟨rfl, rfl⟩, fun h => absurd h (by decide), fun h => absurd h (by decide)⟩
        · subst h4
          refine hG.lda rfl 0 rfl rfl rfl (Or.inr (Or.inl rfl)) rfl (by decide) rfl ?_
          refine hG.cVv lk_W_270 mi_R_clear rfl rfl (c_R_clear70 (-1) 0) rfl rfl rfl rfl rfl rfl rfl rfl ?_
          rintro τ ⟨hs, q0, q1, qz⟩
          refine hG.rt hR rfl rfl rfl rfl ?_
          rw [decide_eq_false (show ¬ (0 : Int32) ≤ -1 by decide), Bool.false_and, Bool.false_and, if_pos (show (-1 : Int32) < 0 by decide)]
          exact ⟨fun h => absurd h (by decide), fun _ h => absurd h (by decide), fun _ _ => ⟨rfl, hs, fin τ _ _ hs q0 q1 qz⟩⟩
      · exact bad (by rw [inB, decide_eq_false (p := t' ≤ 1) h3, Bool.and_false]; rfl)
theorem o_W_sheet1 (t' nn : Int32) (hH : SH σ so sz ce) : Ci l θ 5 m_W_sheet [.inr 0, .inl (nI 1), .inl t', .inl nn] σ (fun r σ' => (shtG (nI 1) t' nn = false → r = -1000000001 ∧ σ' = σ) ∧ (shtG (nI 1) t' nn = true → shtZ t' nn = true → r = -1000000014 ∧ σ' = σ) ∧ (shtG (nI 1) t' nn = true → shtZ t' nn = false → r = (if t' < 0 then 0 else nn) ∧ Sm [72, 73] σ σ' ∧ SH σ' (upd so 1 t') (upd sz 1 (if t' < 0 then 0 else nn)) (zr24 ce 1))) := by
  have eg : shtG (nI 1) t' nn = (inB t' (-1) 1 && !(decide (0 ≤ t') && decide (24 < nn))) := by rw [shtG, show inB (nI 1) 0 3 = true by decide, Bool.true_and]
  rw [eg, shtZ]
  have fin : ∀ (τ : Sg) (a b : Int32), Sm [72, 73] σ τ → τ 72 0 = a → τ 72 1 = b → (∀ j, j < 24 → τ 73 j = 0) → SH τ (upd so 1 a) (upd sz 1 b) (zr24 ce 1) := fun τ a b hs h0 h1 hz => hH.put 1 (by omega) a b _ hs h0 h1 (fun j hj => by rw [zr24, if_pos ⟨by omega, by omega⟩]; exact hz j hj) (fun j hj => by rw [zr24, if_neg hj])
  refine Ci.of (Or.inl mi_W_sheet) pk_W_sheet (nb rfl) (Or.inl rfl) [some (.inr 0), some (.inl (nI 1)), some (.inl t'), some (.inl nn)] rfl fun Γ hG hR => ?_
  have bad : (inB t' (-1) 1 && !(decide (0 ≤ t') && decide (24 < nn))) = false → X Γ 17 [some (.inr 0), some (.inl (nI 1)), some (.inl t'), some (.inl nn)] [] σ := by
    intro hb
    refine hG.rt hR rfl rfl rfl rfl ?_
    exact ⟨fun _ => ⟨rfl, rfl⟩, fun h => absurd h (by rw [hb]; decide), fun h => absurd h (by rw [hb]; decide)⟩
  refine hG.cS lk_W_206 mi_W_isSheet rfl rfl (c_W_isSheet (nI 1)) rfl rfl rfl rfl rfl rfl ?_
  rintro x σ' ⟨rfl, rfl⟩
  refine hG.br rfl rfl rfl rfl (fun h1 => ?_) (fun h1 => ?_)
  · exact absurd (bi_eq0.mp h1) (by decide)
  · refine hG.br rfl rfl rfl rfl (fun h2 => ?_) (fun h2 => ?_)
    · exact bad (by rw [inB, decide_eq_false (i32_nle.mpr h2)]; rfl)
    · refine hG.br rfl rfl rfl rfl (fun h3 => ?_) (fun h3 => ?_)
      · have ht : inB t' (-1) 1 = true := by rw [inB, decide_eq_true (i32_nlt.mp h2), decide_eq_true h3]; rfl
        rw [ht, Bool.true_and] at hR
        refine hG.br rfl rfl rfl rfl (fun h4 => ?_) (fun h4 => ?_)
        · have h0 : 0 ≤ t' := by
            rcases inB_ab 0 2 (x := t' + 1) (by omega) (by omega) (by
              have e1 : (-1 : Int32).toInt = -1 := by decide
              have e2 : (1 : Int32).toInt = 1 := by decide
              have a1 := Int32.le_iff_toInt_le.mp (i32_nlt.mp h2)
              have a2 := Int32.le_iff_toInt_le.mp h3
              rw [e1] at a1
              rw [e2] at a2
              rcases (by omega : t'.toInt = -1 ∨ t'.toInt = 0 ∨ t'.toInt = 1) with e | e | e
              · have : t' = -1 := Int32.toInt_inj.mp (e.trans e1.symm)
                rw [this]; decide
              · have : t' = 0 := Int32.toInt_inj.mp e
                rw [this]; decide
              · have : t' = 1 := Int32.toInt_inj.mp (e.trans e2.symm)
                rw [this]; decide) with ⟨k, _, hk, e⟩
            have e1 : t' = nI k - 1 := by rw [← e, Int32.add_sub_cancel]
            cases k with
            | zero => exact absurd (show t' = -1 by rw [e1]; decide) h4
            | succ k => rw [e1, nI_pred]; exact nI_pos' (by omega)
          rw [decide_eq_true h0, Bool.true_and, Bool.true_and, if_neg (i32_nlt.mpr h0)] at hR
          refine hG.br rfl rfl rfl rfl (fun h5 => ?_) (fun h5 => ?_)
          · rw [decide_eq_false (i32_nlt.mpr h5)] at hR
            refine hG.br rfl rfl rfl rfl (fun h6 => ?_) (fun h6 => ?_)
            · rw [decide_eq_false (i32_nlt.mpr h6)] at hR
              refine hG.lda rfl 1 rfl rfl rfl (Or.inr (Or.inl rfl)) rfl (by decide) rfl ?_
              refine hG.cVv lk_W_270 mi_R_clear rfl rfl (c_R_clear72 t' nn) rfl rfl rfl rfl rfl rfl rfl rfl ?_
              rintro τ ⟨hs, q0, q1, qz⟩
              refine hG.rt hR rfl rfl rfl rfl ?_
              exact ⟨fun h => absurd h (by decide), fun _ h => absurd h (by decide), fun _ _ => ⟨rfl, hs, fin τ _ _ hs q0 q1 qz⟩⟩
            · rw [decide_eq_true (i32_nle.mp h6)] at hR
              refine hG.rt hR rfl rfl rfl rfl ?_
              exact ⟨fun h => absurd h (by decide), fun _ _ => ⟨rfl, rfl⟩, fun _ h => absurd h (by decide)⟩
          · rw [decide_eq_true (i32_nle.mp h5)] at hR
            refine hG.rt hR rfl rfl rfl rfl ?_
            exact ⟨fun _ => ⟨rfl, rfl⟩, fun h => absurd h (by decide), fun h => absurd h (by decide)⟩
        · subst h4
          refine hG.lda rfl 1 rfl rfl rfl (Or.inr (Or.inl rfl)) rfl (by decide) rfl ?_
          refine hG.cVv lk_W_270 mi_R_clear rfl rfl (c_R_clear72 (-1) 0) rfl rfl rfl rfl rfl rfl rfl rfl ?_
          rintro τ ⟨hs, q0, q1, qz⟩
          refine hG.rt hR rfl rfl rfl rfl ?_
          rw [decide_eq_false (show ¬ (0 : Int32) ≤ -1 by decide), Bool.false_and, Bool.false_and, if_pos (show (-1 : Int32) < 0 by decide)]
          exact ⟨fun h => absurd h (by decide), fun _ h => absurd h (by decide), fun _ _ => ⟨rfl, hs, fin τ _ _ hs q0 q1 qz⟩⟩
      · exact bad (by rw [inB, decide_eq_false (p := t' ≤ 1) h3, Bool.and_false]; rfl)
theorem o_W_sheet2 (t' nn : Int32) (hH : SH σ so sz ce) : Ci l θ 5 m_W_sheet [.inr 0, .inl (nI 2), .inl t', .inl nn] σ (fun r σ' => (shtG (nI 2) t' nn = false → r = -1000000001 ∧ σ' = σ) ∧ (shtG (nI 2) t' nn = true → shtZ t' nn = true → r = -1000000014 ∧ σ' = σ) ∧ (shtG (nI 2) t' nn = true → shtZ t' nn = false → r = (if t' < 0 then 0 else nn) ∧ Sm [74, 75] σ σ' ∧ SH σ' (upd so 2 t') (upd sz 2 (if t' < 0 then 0 else nn)) (zr24 ce 2))) := by
  have eg : shtG (nI 2) t' nn = (inB t' (-1) 1 && !(decide (0 ≤ t') && decide (24 < nn))) := by rw [shtG, show inB (nI 2) 0 3 = true by decide, Bool.true_and]
  rw [eg, shtZ]
  have fin : ∀ (τ : Sg) (a b : Int32), Sm [74, 75] σ τ → τ 74 0 = a → τ 74 1 = b → (∀ j, j < 24 → τ 75 j = 0) → SH τ (upd so 2 a) (upd sz 2 b) (zr24 ce 2) := fun τ a b hs h0 h1 hz => hH.put 2 (by omega) a b _ hs h0 h1 (fun j hj => by rw [zr24, if_pos ⟨by omega, by omega⟩]; exact hz j hj) (fun j hj => by rw [zr24, if_neg hj])
  refine Ci.of (Or.inl mi_W_sheet) pk_W_sheet (nb rfl) (Or.inl rfl) [some (.inr 0), some (.inl (nI 2)), some (.inl t'), some (.inl nn)] rfl fun Γ hG hR => ?_
  have bad : (inB t' (-1) 1 && !(decide (0 ≤ t') && decide (24 < nn))) = false → X Γ 17 [some (.inr 0), some (.inl (nI 2)), some (.inl t'), some (.inl nn)] [] σ := by
    intro hb
    refine hG.rt hR rfl rfl rfl rfl ?_
    exact ⟨fun _ => ⟨rfl, rfl⟩, fun h => absurd h (by rw [hb]; decide), fun h => absurd h (by rw [hb]; decide)⟩
  refine hG.cS lk_W_206 mi_W_isSheet rfl rfl (c_W_isSheet (nI 2)) rfl rfl rfl rfl rfl rfl ?_
  rintro x σ' ⟨rfl, rfl⟩
  refine hG.br rfl rfl rfl rfl (fun h1 => ?_) (fun h1 => ?_)
  · exact absurd (bi_eq0.mp h1) (by decide)
  · refine hG.br rfl rfl rfl rfl (fun h2 => ?_) (fun h2 => ?_)
    · exact bad (by rw [inB, decide_eq_false (i32_nle.mpr h2)]; rfl)
    · refine hG.br rfl rfl rfl rfl (fun h3 => ?_) (fun h3 => ?_)
      · have ht : inB t' (-1) 1 = true := by rw [inB, decide_eq_true (i32_nlt.mp h2), decide_eq_true h3]; rfl
        rw [ht, Bool.true_and] at hR
        refine hG.br rfl rfl rfl rfl (fun h4 => ?_) (fun h4 => ?_)
        · have h0 : 0 ≤ t' := by
            rcases inB_ab 0 2 (x := t' + 1) (by omega) (by omega) (by
              have e1 : (-1 : Int32).toInt = -1 := by decide
              have e2 : (1 : Int32).toInt = 1 := by decide
              have a1 := Int32.le_iff_toInt_le.mp (i32_nlt.mp h2)
              have a2 := Int32.le_iff_toInt_le.mp h3
              rw [e1] at a1
              rw [e2] at a2
              rcases (by omega : t'.toInt = -1 ∨ t'.toInt = 0 ∨ t'.toInt = 1) with e | e | e
              · have : t' = -1 := Int32.toInt_inj.mp (e.trans e1.symm)
                rw [this]; decide
              · have : t' = 0 := Int32.toInt_inj.mp e
                rw [this]; decide
              · have : t' = 1 := Int32.toInt_inj.mp (e.trans e2.symm)
                rw [this]; decide) with ⟨k, _, hk, e⟩
            have e1 : t' = nI k - 1 := by rw [← e, Int32.add_sub_cancel]
            cases k with
            | zero => exact absurd (show t' = -1 by rw [e1]; decide) h4
            | succ k => rw [e1, nI_pred]; exact nI_pos' (by omega)
          rw [decide_eq_true h0, Bool.true_and, Bool.true_and, if_neg (i32_nlt.mpr h0)] at hR
          refine hG.br rfl rfl rfl rfl (fun h5 => ?_) (fun h5 => ?_)
          · rw [decide_eq_false (i32_nlt.mpr h5)] at hR
            refine hG.br rfl rfl rfl rfl (fun h6 => ?_) (fun h6 => ?_)
            · rw [decide_eq_false (i32_nlt.mpr h6)] at hR
              refine hG.lda rfl 2 rfl rfl rfl (Or.inr (Or.inl rfl)) rfl (by decide) rfl ?_
              refine hG.cVv lk_W_270 mi_R_clear rfl rfl (c_R_clear74 t' nn) rfl rfl rfl rfl rfl rfl rfl rfl ?_
              rintro τ ⟨hs, q0, q1, qz⟩
              refine hG.rt hR rfl rfl rfl rfl ?_
              exact ⟨fun h => absurd h (by decide), fun _ h => absurd h (by decide), fun _ _ => ⟨rfl, hs, fin τ _ _ hs q0 q1 qz⟩⟩
            · rw [decide_eq_true (i32_nle.mp h6)] at hR
              refine hG.rt hR rfl rfl rfl rfl ?_
              exact ⟨fun h => absurd h (by decide), fun _ _ => ⟨rfl, rfl⟩, fun _ h => absurd h (by decide)⟩
          · rw [decide_eq_true (i32_nle.mp h5)] at hR
            refine hG.rt hR rfl rfl rfl rfl ?_
            exact ⟨fun _ => ⟨rfl, rfl⟩, fun h => absurd h (by decide), fun h => absurd h (by decide)⟩
        · subst h4
          refine hG.lda rfl 2 rfl rfl rfl (Or.inr (Or.inl rfl)) rfl (by decide) rfl ?_
          refine hG.cVv lk_W_270 mi_R_clear rfl rfl (c_R_clear74 (-1) 0) rfl rfl rfl rfl rfl rfl rfl rfl ?_
          rintro τ ⟨hs, q0, q1, qz⟩
          refine hG.rt hR rfl rfl rfl rfl ?_
          rw [decide_eq_false (show ¬ (0 : Int32) ≤ -1 by decide), Bool.false_and, Bool.false_and, if_pos (show (-1 : Int32) < 0 by decide)]
          exact ⟨fun h => absurd h (by decide), fun _ h => absurd h (by decide), fun _ _ => ⟨rfl, hs, fin τ _ _ hs q0 q1 qz⟩⟩
      · exact bad (by rw [inB, decide_eq_false (p := t' ≤ 1) h3, Bool.and_false]; rfl)
theorem o_W_sheet3 (t' nn : Int32) (hH : SH σ so sz ce) : Ci l θ 5 m_W_sheet [.inr 0, .inl (nI 3), .inl t', .inl nn] σ (fun r σ' => (shtG (nI 3) t' nn = false → r = -1000000001 ∧ σ' = σ) ∧ (shtG (nI 3) t' nn = true → shtZ t' nn = true → r = -1000000014 ∧ σ' = σ) ∧ (shtG (nI 3) t' nn = true → shtZ t' nn = false → r = (if t' < 0 then 0 else nn) ∧ Sm [76, 77] σ σ' ∧ SH σ' (upd so 3 t') (upd sz 3 (if t' < 0 then 0 else nn)) (zr24 ce 3))) := by
  have eg : shtG (nI 3) t' nn = (inB t' (-1) 1 && !(decide (0 ≤ t') && decide (24 < nn))) := by rw [shtG, show inB (nI 3) 0 3 = true by decide, Bool.true_and]
  rw [eg, shtZ]
  have fin : ∀ (τ : Sg) (a b : Int32), Sm [76, 77] σ τ → τ 76 0 = a → τ 76 1 = b → (∀ j, j < 24 → τ 77 j = 0) → SH τ (upd so 3 a) (upd sz 3 b) (zr24 ce 3) := fun τ a b hs h0 h1 hz => hH.put 3 (by omega) a b _ hs h0 h1 (fun j hj => by rw [zr24, if_pos ⟨by omega, by omega⟩]; exact hz j hj) (fun j hj => by rw [zr24, if_neg hj])
  refine Ci.of (Or.inl mi_W_sheet) pk_W_sheet (nb rfl) (Or.inl rfl) [some (.inr 0), some (.inl (nI 3)), some (.inl t'), some (.inl nn)] rfl fun Γ hG hR => ?_
  have bad : (inB t' (-1) 1 && !(decide (0 ≤ t') && decide (24 < nn))) = false → X Γ 17 [some (.inr 0), some (.inl (nI 3)), some (.inl t'), some (.inl nn)] [] σ := by
    intro hb
    refine hG.rt hR rfl rfl rfl rfl ?_
    exact ⟨fun _ => ⟨rfl, rfl⟩, fun h => absurd h (by rw [hb]; decide), fun h => absurd h (by rw [hb]; decide)⟩
  refine hG.cS lk_W_206 mi_W_isSheet rfl rfl (c_W_isSheet (nI 3)) rfl rfl rfl rfl rfl rfl ?_
  rintro x σ' ⟨rfl, rfl⟩
  refine hG.br rfl rfl rfl rfl (fun h1 => ?_) (fun h1 => ?_)
  · exact absurd (bi_eq0.mp h1) (by decide)
  · refine hG.br rfl rfl rfl rfl (fun h2 => ?_) (fun h2 => ?_)
    · exact bad (by rw [inB, decide_eq_false (i32_nle.mpr h2)]; rfl)
    · refine hG.br rfl rfl rfl rfl (fun h3 => ?_) (fun h3 => ?_)
      · have ht : inB t' (-1) 1 = true := by rw [inB, decide_eq_true (i32_nlt.mp h2), decide_eq_true h3]; rfl
        rw [ht, Bool.true_and] at hR
        refine hG.br rfl rfl rfl rfl (fun h4 => ?_) (fun h4 => ?_)
        · have h0 : 0 ≤ t' := by
            rcases inB_ab 0 2 (x := t' + 1) (by omega) (by omega) (by
              have e1 : (-1 : Int32).toInt = -1 := by decide
              have e2 : (1 : Int32).toInt = 1 := by decide
              have a1 := Int32.le_iff_toInt_le.mp (i32_nlt.mp h2)
              have a2 := Int32.le_iff_toInt_le.mp h3
              rw [e1] at a1
              rw [e2] at a2
              rcases (by omega : t'.toInt = -1 ∨ t'.toInt = 0 ∨ t'.toInt = 1) with e | e | e
              · have : t' = -1 := Int32.toInt_inj.mp (e.trans e1.symm)
                rw [this]; decide
              · have : t' = 0 := Int32.toInt_inj.mp e
                rw [this]; decide
              · have : t' = 1 := Int32.toInt_inj.mp (e.trans e2.symm)
                rw [this]; decide) with ⟨k, _, hk, e⟩
            have e1 : t' = nI k - 1 := by rw [← e, Int32.add_sub_cancel]
            cases k with
            | zero => exact absurd (show t' = -1 by rw [e1]; decide) h4
            | succ k => rw [e1, nI_pred]; exact nI_pos' (by omega)
          rw [decide_eq_true h0, Bool.true_and, Bool.true_and, if_neg (i32_nlt.mpr h0)] at hR
          refine hG.br rfl rfl rfl rfl (fun h5 => ?_) (fun h5 => ?_)
          · rw [decide_eq_false (i32_nlt.mpr h5)] at hR
            refine hG.br rfl rfl rfl rfl (fun h6 => ?_) (fun h6 => ?_)
            · rw [decide_eq_false (i32_nlt.mpr h6)] at hR
              refine hG.lda rfl 3 rfl rfl rfl (Or.inr (Or.inl rfl)) rfl (by decide) rfl ?_
              refine hG.cVv lk_W_270 mi_R_clear rfl rfl (c_R_clear76 t' nn) rfl rfl rfl rfl rfl rfl rfl rfl ?_
              rintro τ ⟨hs, q0, q1, qz⟩
              refine hG.rt hR rfl rfl rfl rfl ?_
              exact ⟨fun h => absurd h (by decide), fun _ h => absurd h (by decide), fun _ _ => ⟨rfl, hs, fin τ _ _ hs q0 q1 qz⟩⟩
            · rw [decide_eq_true (i32_nle.mp h6)] at hR
              refine hG.rt hR rfl rfl rfl rfl ?_
              exact ⟨fun h => absurd h (by decide), fun _ _ => ⟨rfl, rfl⟩, fun _ h => absurd h (by decide)⟩
          · rw [decide_eq_true (i32_nle.mp h5)] at hR
            refine hG.rt hR rfl rfl rfl rfl ?_
            exact ⟨fun _ => ⟨rfl, rfl⟩, fun h => absurd h (by decide), fun h => absurd h (by decide)⟩
        · subst h4
          refine hG.lda rfl 3 rfl rfl rfl (Or.inr (Or.inl rfl)) rfl (by decide) rfl ?_
          refine hG.cVv lk_W_270 mi_R_clear rfl rfl (c_R_clear76 (-1) 0) rfl rfl rfl rfl rfl rfl rfl rfl ?_
          rintro τ ⟨hs, q0, q1, qz⟩
          refine hG.rt hR rfl rfl rfl rfl ?_
          rw [decide_eq_false (show ¬ (0 : Int32) ≤ -1 by decide), Bool.false_and, Bool.false_and, if_pos (show (-1 : Int32) < 0 by decide)]
          exact ⟨fun h => absurd h (by decide), fun _ h => absurd h (by decide), fun _ _ => ⟨rfl, hs, fin τ _ _ hs q0 q1 qz⟩⟩
      · exact bad (by rw [inB, decide_eq_false (p := t' ≤ 1) h3, Bool.and_false]; rfl)
end
