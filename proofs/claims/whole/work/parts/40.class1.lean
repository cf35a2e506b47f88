/-! the class's small methods -/
theorem i32_le1 {a x y : Int32} (h : x.toInt + 1 = y.toInt) : a ≤ x ↔ a < y := by rw [Int32.le_iff_toInt_le, Int32.lt_iff_toInt_lt]; omega
theorem inB_hi {a b x y : Int32} (h : x.toInt + 1 = y.toInt) : inB a b x = (decide (b ≤ a) && decide (a < y)) := by
  rw [inB]; congr 1; exact decide_eq_decide.mpr (i32_le1 h)
section
variable {l : Launch} {θ : Th} {σ : Sg}
theorem c_W_bit (b : Bool) : Ci l θ 1 m_W_bit [.inl (bi b)] σ (fun r σ' => σ' = σ ∧ r = bi b) := by
  refine Ci.of (Or.inr mi_W_bit) pk_W_bit (nb rfl) (Or.inl rfl) [some (.inl (bi b))] rfl fun Γ hG hR => ?_
  refine hG.br rfl rfl rfl rfl (fun h1 => ?_) (fun h1 => ?_)
  · refine hG.rt hR rfl rfl rfl rfl ?_
    exact ⟨rfl, by rw [bi_eq0.mp h1]; rfl⟩
  · refine hG.rt hR rfl rfl rfl rfl ?_
    exact ⟨rfl, by rw [bi_ne0.mp h1]; rfl⟩
theorem c_K_isKind (a : Int32) : Ci l θ 1 m_K_isKind [.inl a] σ (fun r σ' => σ' = σ ∧ r = bi (inB a 0 5)) := by
  rw [inB_hi (y := 6) rfl]
  refine Ci.of (Or.inr mi_K_isKind) pk_K_isKind (nb rfl) (Or.inr rfl) [some (.inl a)] rfl fun Γ hG hR => ?_
  refine hG.br rfl rfl rfl rfl (fun h1 => ?_) (fun h1 => ?_)
  · refine hG.rz hR rfl rfl rfl rfl (Or.inl rfl) ?_
    exact ⟨rfl, by simp [bi, i32_nle.mpr h1]⟩
  · refine hG.br rfl rfl rfl rfl (fun h2 => ?_) (fun h2 => ?_)
    · refine hG.rz hR rfl rfl rfl rfl (Or.inl rfl) ?_
      exact ⟨rfl, by simp [bi, i32_nlt.mpr h2]⟩
    · refine hG.rz hR rfl rfl rfl rfl (Or.inr rfl) ?_
      exact ⟨rfl, by simp [bi, i32_nlt.mp h1, i32_nle.mp h2]⟩
theorem c_W_isName (a : Int32) : Ci l θ 1 m_W_isName [.inl a] σ (fun r σ' => σ' = σ ∧ r = bi (inB a 0 124)) := by
  rw [inB_hi (y := 125) rfl]
  refine Ci.of (Or.inr mi_W_isName) pk_W_isName (nb rfl) (Or.inr rfl) [some (.inl a)] rfl fun Γ hG hR => ?_
  refine hG.br rfl rfl rfl rfl (fun h1 => ?_) (fun h1 => ?_)
  · refine hG.rz hR rfl rfl rfl rfl (Or.inl rfl) ?_
    exact ⟨rfl, by simp [bi, i32_nle.mpr h1]⟩
  · refine hG.br rfl rfl rfl rfl (fun h2 => ?_) (fun h2 => ?_)
    · refine hG.rz hR rfl rfl rfl rfl (Or.inl rfl) ?_
      exact ⟨rfl, by simp [bi, i32_nlt.mpr h2]⟩
    · refine hG.rz hR rfl rfl rfl rfl (Or.inr rfl) ?_
      exact ⟨rfl, by simp [bi, i32_nlt.mp h1, i32_nle.mp h2]⟩
theorem c_W_isSheet (a : Int32) : Ci l θ 1 m_W_isSheet [.inl a] σ (fun r σ' => σ' = σ ∧ r = bi (inB a 0 3)) := by
  rw [inB_hi (y := 4) rfl]
  refine Ci.of (Or.inr mi_W_isSheet) pk_W_isSheet (nb rfl) (Or.inr rfl) [some (.inl a)] rfl fun Γ hG hR => ?_
  refine hG.br rfl rfl rfl rfl (fun h1 => ?_) (fun h1 => ?_)
  · refine hG.rz hR rfl rfl rfl rfl (Or.inl rfl) ?_
    exact ⟨rfl, by simp [bi, i32_nle.mpr h1]⟩
  · refine hG.br rfl rfl rfl rfl (fun h2 => ?_) (fun h2 => ?_)
    · refine hG.rz hR rfl rfl rfl rfl (Or.inl rfl) ?_
      exact ⟨rfl, by simp [bi, i32_nlt.mpr h2]⟩
    · refine hG.rz hR rfl rfl rfl rfl (Or.inr rfl) ?_
      exact ⟨rfl, by simp [bi, i32_nlt.mp h1, i32_nle.mp h2]⟩
theorem c_W_isSlot (a : Int32) : Ci l θ 1 m_W_isSlot [.inl a] σ (fun r σ' => σ' = σ ∧ r = bi (inB a 0 4)) := by
  rw [inB_hi (y := 5) rfl]
  refine Ci.of (Or.inr mi_W_isSlot) pk_W_isSlot (nb rfl) (Or.inr rfl) [some (.inl a)] rfl fun Γ hG hR => ?_
  refine hG.br rfl rfl rfl rfl (fun h1 => ?_) (fun h1 => ?_)
  · refine hG.rz hR rfl rfl rfl rfl (Or.inl rfl) ?_
    exact ⟨rfl, by simp [bi, i32_nle.mpr h1]⟩
  · refine hG.br rfl rfl rfl rfl (fun h2 => ?_) (fun h2 => ?_)
    · refine hG.rz hR rfl rfl rfl rfl (Or.inl rfl) ?_
      exact ⟨rfl, by simp [bi, i32_nlt.mpr h2]⟩
    · refine hG.rz hR rfl rfl rfl rfl (Or.inr rfl) ?_
      exact ⟨rfl, by simp [bi, i32_nlt.mp h1, i32_nle.mp h2]⟩
theorem c_W_isAskedYear (a : Int32) : Ci l θ 1 m_W_isAskedYear [.inl a] σ (fun r σ' => σ' = σ ∧ r = bi (inB a (-999) 99999)) := by
  refine Ci.of (Or.inr mi_W_isAskedYear) pk_W_isAskedYear (nb rfl) (Or.inr rfl) [some (.inl a)] rfl fun Γ hG hR => ?_
  refine hG.br rfl rfl rfl rfl (fun h1 => ?_) (fun h1 => ?_)
  · refine hG.rz hR rfl rfl rfl rfl (Or.inl rfl) ?_
    exact ⟨rfl, by simp [bi, inB, i32_nle.mpr h1]⟩
  · refine hG.br rfl rfl rfl rfl (fun h2 => ?_) (fun h2 => ?_)
    · refine hG.rz hR rfl rfl rfl rfl (Or.inl rfl) ?_
      exact ⟨rfl, by simp [bi, inB, i32_nle.mpr h2]⟩
    · refine hG.rz hR rfl rfl rfl rfl (Or.inr rfl) ?_
      exact ⟨rfl, by simp [bi, inB, i32_nlt.mp h1, i32_nlt.mp h2]⟩
theorem c_K_worth (k nm : Int32) : Ci l θ 1 m_K_worth [.inl k, .inl nm] σ (fun r σ' => σ' = σ ∧ r = worthK k nm) := by
  refine Ci.of (Or.inr mi_K_worth) pk_K_worth (nb rfl) (Or.inl rfl) [some (.inl k), some (.inl nm)] rfl fun Γ hG hR => ?_
  refine hG.tsw [36, 48, 41, 54, 63] 65 rfl rfl rfl (by decide +kernel) ?_ ?_
  · intro j t hk hx
    match j, hk, hx with
    | 0, hk, hx =>
      cases hk
      have e : k = 1 := tsw_x hx rfl
      refine hG.rt hR rfl rfl rfl rfl ?_
      exact ⟨rfl, by simp [worthK, e]⟩
    | 1, hk, hx =>
      cases hk
      have e : k = 2 := tsw_x hx rfl
      refine hG.rt hR rfl rfl rfl rfl ?_
      exact ⟨rfl, by simp [worthK, e]⟩
    | 2, hk, hx =>
      cases hk
      have e : k = 3 := tsw_x hx rfl
      refine hG.rt hR rfl rfl rfl rfl ?_
      exact ⟨rfl, by simp [worthK, e]⟩
    | 3, hk, hx =>
      cases hk
      have e : k = 4 := tsw_x hx rfl
      refine hG.rt hR rfl rfl rfl rfl ?_
      refine ⟨rfl, ?_⟩
      rw [worthK, if_neg (by rw [e]; decide), if_neg (by rw [e]; decide), if_neg (by rw [e]; decide), if_pos e]
      rw [Int32.sub_eq_add_neg, Int32.sub_eq_add_neg, Int32.sub_eq_add_neg, Int32.add_assoc, Int32.add_comm (-nm), ← Int32.add_assoc]
      rfl
    | 4, hk, hx =>
      cases hk
      have e : k = 5 := tsw_x hx rfl
      refine hG.rt hR rfl rfl rfl rfl ?_
      exact ⟨rfl, by simp [worthK, e]⟩
    | j + 5, hk, hx => simp at hk
  · intro hx
    have e1 : ¬ k = 1 := fun e => hx 0 (by decide) (by rw [e]; rfl)
    have e2 : ¬ k = 2 := fun e => hx 1 (by decide) (by rw [e]; rfl)
    have e3 : ¬ k = 3 := fun e => hx 2 (by decide) (by rw [e]; rfl)
    have e4 : ¬ k = 4 := fun e => hx 3 (by decide) (by rw [e]; rfl)
    have e5 : ¬ k = 5 := fun e => hx 4 (by decide) (by rw [e]; rfl)
    refine hG.rt hR rfl rfl rfl rfl ?_
    exact ⟨rfl, by simp [worthK, e1, e2, e3, e4, e5]⟩
theorem c_K_isOf (k o : Nat) (hk : k < 6) : Ci l θ 2 m_K_isOf [.inl (nI k), .inl (nI o)] σ (fun r σ' => σ' = σ ∧ r = bi (underK (nI k) (nI o))) := by
  refine Ci.of (Or.inr mi_K_isOf) pk_K_isOf (nb rfl) (Or.inr rfl) [some (.inl (nI k)), some (.inl (nI o)), none, none] rfl fun Γ hG hR => ?_
  have fin : ∀ j, j < 6 → underK (nI k) (nI o) = false → X Γ 4 [some (.inl (nI k)), some (.inl (nI o)), some (.inl (-1)), some (.inl (nI j))] [] σ := by
    intro j hj hu
    refine hG.br rfl rfl rfl rfl (fun h1 => ?_) (fun h1 => ?_)
    · exact absurd (show nI 6 ≤ nI j from h1) (nI_ge hj (by omega))
    · refine hG.cS lk_K_11 mi_K_isKind rfl rfl (c_K_isKind (-1)) rfl rfl rfl rfl rfl rfl ?_
      rintro x σ' ⟨rfl, rfl⟩
      refine hG.br rfl rfl rfl rfl (fun h2 => ?_) (fun h2 => ?_)
      · refine hG.rz hR rfl rfl rfl rfl (Or.inl rfl) ?_
        exact ⟨rfl, by rw [hu]; rfl⟩
      · exact absurd (by decide) h2
  have one : ∀ m j, m < 6 → j < 6 → (nI m = nI o → underK (nI k) (nI o) = true) → (¬ nI m = nI o → X Γ 4 [some (.inl (nI k)), some (.inl (nI o)), some (.inl (abv m)), some (.inl (nI (j + 1)))] [] σ) → X Γ 4 [some (.inl (nI k)), some (.inl (nI o)), some (.inl (nI m)), some (.inl (nI j))] [] σ := by
    intro m j hm hj hy hn
    refine hG.br rfl rfl rfl rfl (fun h1 => ?_) (fun h1 => ?_)
    · exact absurd (show nI 6 ≤ nI j from h1) (nI_ge hj (by omega))
    · refine hG.cS lk_K_11 mi_K_isKind rfl rfl (c_K_isKind (nI m)) rfl rfl rfl rfl rfl rfl ?_
      rintro x σ' ⟨rfl, rfl⟩
      refine hG.br rfl rfl rfl rfl (fun h2 => ?_) (fun h2 => ?_)
      · have : inB (nI m) 0 5 = true := (inB_nI (m := 5) (by omega)).mpr ⟨m, by omega, rfl⟩
        exact absurd (bi_eq0.mp h2) (by rw [this]; decide)
      · refine hG.br rfl rfl rfl rfl (fun h3 => ?_) (fun h3 => ?_)
        · refine hG.gabv rfl rfl rfl rfl ?_
          refine hG.gabvld rfl m rfl rfl rfl hm ?_
          refine hG.jp rfl rfl rfl ?_
          rw [show nI j + 1 = nI (j + 1) from nI_1 j]
          exact hn h3
        · refine hG.rz hR rfl rfl rfl rfl (Or.inr rfl) ?_
          exact ⟨rfl, by rw [hy h3]; rfl⟩
  refine hG.go 4 rfl rfl ?_
  rcases (by omega : k = 0 ∨ k = 1 ∨ k = 2 ∨ k = 3 ∨ k = 4 ∨ k = 5) with rfl | rfl | rfl | rfl | rfl | rfl
  · exact one 0 0 (by omega) (by omega) (fun h => by rw [← h]; decide) (fun h => fin 1 (by omega) (by
      have a0 : ¬ nI o = 0 := fun e => h e.symm
      have a3 : ¬ (nI 0 : Int32) = 3 := by decide
      have a4 : ¬ (nI 0 : Int32) = 4 := by decide
      simp [underK, a0, h, a3, a4]))
  · exact one 1 0 (by omega) (by omega) (fun h => by rw [← h]; decide) (fun h => one 0 1 (by omega) (by omega) (fun h0 => by rw [← h0]; decide) (fun h0 => fin 2 (by omega) (by
      have a0 : ¬ nI o = 0 := fun e => h0 e.symm
      have a3 : ¬ (nI 1 : Int32) = 3 := by decide
      have a4 : ¬ (nI 1 : Int32) = 4 := by decide
      simp [underK, a0, h, a3, a4])))
  · exact one 2 0 (by omega) (by omega) (fun h => by rw [← h]; decide) (fun h => one 0 1 (by omega) (by omega) (fun h0 => by rw [← h0]; decide) (fun h0 => fin 2 (by omega) (by
      have a0 : ¬ nI o = 0 := fun e => h0 e.symm
      have a3 : ¬ (nI 2 : Int32) = 3 := by decide
      have a4 : ¬ (nI 2 : Int32) = 4 := by decide
      simp [underK, a0, h, a3, a4])))
  · exact one 3 0 (by omega) (by omega) (fun h => by rw [← h]; decide) (fun h => one 1 1 (by omega) (by omega) (fun h0 => by rw [← h0]; decide) (fun h1 => one 0 2 (by omega) (by omega) (fun h0 => by rw [← h0]; decide) (fun h0 => fin 3 (by omega) (by
      have a0 : ¬ nI o = 0 := fun e => h0 e.symm
      have a1 : ¬ nI o = 1 := fun e => h1 e.symm
      have a4 : ¬ (nI 3 : Int32) = 4 := by decide
      simp [underK, a0, h, a1, a4]))))
  · exact one 4 0 (by omega) (by omega) (fun h => by rw [← h]; decide) (fun h => one 2 1 (by omega) (by omega) (fun h0 => by rw [← h0]; decide) (fun h1 => one 0 2 (by omega) (by omega) (fun h0 => by rw [← h0]; decide) (fun h0 => fin 3 (by omega) (by
      have a0 : ¬ nI o = 0 := fun e => h0 e.symm
      have a2 : ¬ nI o = 2 := fun e => h1 e.symm
      have a3 : ¬ (nI 4 : Int32) = 3 := by decide
      simp [underK, a0, h, a2, a3]))))
  · exact one 5 0 (by omega) (by omega) (fun h => by rw [← h]; decide) (fun h => one 0 1 (by omega) (by omega) (fun h0 => by rw [← h0]; decide) (fun h0 => fin 2 (by omega) (by
      have a0 : ¬ nI o = 0 := fun e => h0 e.symm
      have a3 : ¬ (nI 5 : Int32) = 3 := by decide
      have a4 : ¬ (nI 5 : Int32) = 4 := by decide
      simp [underK, a0, h, a3, a4])))
def alvC (d : Int32) : Bool := decide (d = -1000000005)
def oneC (d tm y : Int32) : Bool := alvC d || decide (y - d < tm)
def awyC (b d tm y : Int32) : Bool := oneC d tm y && decide (y - b < 100)
def sntC (d tm y : Int32) : Bool := oneC d tm y || decide (y - d < 200)
def holdC (k b d tm y : Int32) : Bool := holdK k (alvC d) (oneC d tm y) (sntC d tm y) (y - b) y
theorem holdF_C (f : Nat → Int32) (p : Nat) (y : Int32) : holdF f p y = holdC (f (18 + 4 * p)) (f (18 + 4 * p + 2)) (f (18 + 4 * p + 3)) (f 3) y := by
  have e0 : aliveF f p = alvC (f (18 + 4 * p + 3)) := rfl
  have e1 : oneF f p y = oneC (f (18 + 4 * p + 3)) (f 3) y := by
    rw [oneF, oneC, deadF, e0]; cases alvC (f (18 + 4 * p + 3)) <;> simp
  have e2 : saintF f p y = sntC (f (18 + 4 * p + 3)) (f 3) y := by
    rw [saintF, sntC, e1, deadF, e0, oneC]; cases alvC (f (18 + 4 * p + 3)) <;> simp
  rw [holdF, holdC, e0, e1, e2]
theorem c_K_holdsIn (k b d tm y : Int32) : Ci l θ 1 m_K_holdsIn [.inl k, .inl b, .inl d, .inl tm, .inl y] σ (fun r σ' => σ' = σ ∧ r = bi (holdC k b d tm y)) := by
  refine Ci.of (Or.inr mi_K_holdsIn) pk_K_holdsIn (nb rfl) (Or.inr rfl) [some (.inl k), some (.inl b), some (.inl d), some (.inl tm), some (.inl y), none, none, none, none] rfl fun Γ hG hR => ?_
  have j11 : X Γ 11 [some (.inl k), some (.inl b), some (.inl d), some (.inl tm), some (.inl y), none, none, none, none] [.inl (bi (alvC d))] σ := by
    have j31 : X Γ 31 [some (.inl k), some (.inl b), some (.inl d), some (.inl tm), some (.inl y), some (.inl (bi (alvC d))), none, none, none] [.inl (bi (oneC d tm y))] σ := by
      have j52 : X Γ 52 [some (.inl k), some (.inl b), some (.inl d), some (.inl tm), some (.inl y), some (.inl (bi (alvC d))), some (.inl (bi (oneC d tm y))), none, none] [.inl (bi (awyC b d tm y))] σ := by
        have j74 : X Γ 74 [some (.inl k), some (.inl b), some (.inl d), some (.inl tm), some (.inl y), some (.inl (bi (alvC d))), some (.inl (bi (oneC d tm y))), some (.inl (bi (awyC b d tm y))), none] [.inl (bi (sntC d tm y))] σ := by
          refine hG.tsw [112, 138, 115, 141, 162] 165 rfl rfl rfl (by decide +kernel) ?_ ?_
          · intro j t hk hx
            match j, hk, hx with
            | 0, hk, hx =>
              cases hk
              have e : k = 1 := tsw_x hx rfl
              refine hG.rz hR rfl rfl rfl rfl (bi_01 _) ?_
              exact ⟨rfl, by rw [holdC, holdK, if_pos e, awyC]⟩
            | 1, hk, hx =>
              cases hk
              have e : k = 2 := tsw_x hx rfl
              refine hG.rz hR rfl rfl rfl rfl (bi_01 _) ?_
              exact ⟨rfl, by rw [holdC, holdK, if_neg (by rw [e]; decide), if_pos e]⟩
            | 2, hk, hx =>
              cases hk
              have e : k = 3 := tsw_x hx rfl
              have e' : holdC k b d tm y = (awyC b d tm y && (!alvC d || decide (y - y / 2 * 2 = 0))) := by rw [holdC, holdK, if_neg (by rw [e]; decide), if_neg (by rw [e]; decide), if_pos e, awyC]
              rw [e'] at hR
              refine hG.br rfl rfl rfl rfl (fun h1 => ?_) (fun h1 => ?_)
              · refine hG.rz hR rfl rfl rfl rfl (Or.inl rfl) ?_
                exact ⟨rfl, by rw [bi_eq0.mp h1]; rfl⟩
              · refine hG.br rfl rfl rfl rfl (fun h2 => ?_) (fun h2 => ?_)
                · refine hG.rz hR rfl rfl rfl rfl (Or.inr rfl) ?_
                  exact ⟨rfl, by rw [bi_ne0.mp h1, bi_eq0.mp h2]; rfl⟩
                · refine hG.rm rfl rfl rfl (by decide) ?_
                  refine hG.br rfl rfl rfl rfl (fun h3 => ?_) (fun h3 => ?_)
                  · refine hG.rz hR rfl rfl rfl rfl (Or.inl rfl) ?_
                    exact ⟨rfl, by rw [bi_ne0.mp h2, decide_eq_false h3]; cases awyC b d tm y <;> rfl⟩
                  · refine hG.rz hR rfl rfl rfl rfl (Or.inr rfl) ?_
                    exact ⟨rfl, by rw [bi_ne0.mp h1, decide_eq_true h3]; cases alvC d <;> rfl⟩
            | 3, hk, hx =>
              cases hk
              have e : k = 4 := tsw_x hx rfl
              have e' : holdC k b d tm y = (sntC d tm y || decide (y - b < 500)) := by rw [holdC, holdK, if_neg (by rw [e]; decide), if_neg (by rw [e]; decide), if_neg (by rw [e]; decide), if_pos e]
              rw [e'] at hR
              refine hG.br rfl rfl rfl rfl (fun h1 => ?_) (fun h1 => ?_)
              · refine hG.rz hR rfl rfl rfl rfl (Or.inr rfl) ?_
                exact ⟨rfl, by rw [bi_ne0.mp h1]; rfl⟩
              · refine hG.br rfl rfl rfl rfl (fun h2 => ?_) (fun h2 => ?_)
                · refine hG.rz hR rfl rfl rfl rfl (Or.inl rfl) ?_
                  exact ⟨rfl, by rw [bi_eq0.mp h1, decide_eq_false (i32_nlt.mpr h2)]; rfl⟩
                · refine hG.rz hR rfl rfl rfl rfl (Or.inr rfl) ?_
                  exact ⟨rfl, by rw [decide_eq_true (i32_nle.mp h2), Bool.or_true]; rfl⟩
            | 4, hk, hx =>
              cases hk
              have e : k = 5 := tsw_x hx rfl
              refine hG.rz hR rfl rfl rfl rfl (bi_01 _) ?_
              exact ⟨rfl, by rw [holdC, holdK, if_neg (by rw [e]; decide), if_neg (by rw [e]; decide), if_neg (by rw [e]; decide), if_neg (by rw [e]; decide), if_pos e]⟩
            | j + 5, hk, hx => simp at hk
          · intro hx
            have e1 : ¬ k = 1 := fun e => hx 0 (by decide) (by rw [e]; rfl)
            have e2 : ¬ k = 2 := fun e => hx 1 (by decide) (by rw [e]; rfl)
            have e3 : ¬ k = 3 := fun e => hx 2 (by decide) (by rw [e]; rfl)
            have e4 : ¬ k = 4 := fun e => hx 3 (by decide) (by rw [e]; rfl)
            have e5 : ¬ k = 5 := fun e => hx 4 (by decide) (by rw [e]; rfl)
            refine hG.rz hR rfl rfl rfl rfl (bi_01 _) ?_
            exact ⟨rfl, by rw [holdC, holdK, if_neg e1, if_neg e2, if_neg e3, if_neg e4, if_neg e5]⟩
        refine hG.go 3 rfl rfl ?_
        refine hG.br rfl rfl rfl rfl (fun h1 => ?_) (fun h1 => ?_)
        · have e : sntC d tm y = true := by rw [sntC, bi_ne0.mp h1]; rfl
          rw [e] at j74
          exact hG.go 2 rfl rfl j74
        · refine hG.br rfl rfl rfl rfl (fun h2 => ?_) (fun h2 => ?_)
          · have e : sntC d tm y = false := by rw [sntC, bi_eq0.mp h1, decide_eq_false (i32_nlt.mpr h2)]; rfl
            rw [e] at j74
            exact hG.go 1 rfl rfl j74
          · have e : sntC d tm y = true := by rw [sntC, decide_eq_true (i32_nle.mp h2), Bool.or_true]
            rw [e] at j74
            exact hG.go 2 rfl rfl j74
      refine hG.br rfl rfl rfl rfl (fun h1 => ?_) (fun h1 => ?_)
      · have e : awyC b d tm y = false := by rw [awyC, bi_eq0.mp h1]; rfl
        rw [e] at j52
        exact hG.go 1 rfl rfl j52
      · refine hG.br rfl rfl rfl rfl (fun h2 => ?_) (fun h2 => ?_)
        · have e : awyC b d tm y = false := by rw [awyC, decide_eq_false (i32_nlt.mpr h2), Bool.and_false]
          rw [e] at j52
          exact hG.go 1 rfl rfl j52
        · have e : awyC b d tm y = true := by rw [awyC, bi_ne0.mp h1, decide_eq_true (i32_nle.mp h2)]; rfl
          rw [e] at j52
          exact hG.go 2 rfl rfl j52
    refine hG.br rfl rfl rfl rfl (fun h1 => ?_) (fun h1 => ?_)
    · have e : oneC d tm y = true := by rw [oneC, bi_ne0.mp h1]; rfl
      rw [e] at j31
      exact hG.go 2 rfl rfl j31
    · refine hG.br rfl rfl rfl rfl (fun h2 => ?_) (fun h2 => ?_)
      · have e : oneC d tm y = false := by rw [oneC, bi_eq0.mp h1, decide_eq_false (i32_nlt.mpr h2)]; rfl
        rw [e] at j31
        exact hG.go 1 rfl rfl j31
      · have e : oneC d tm y = true := by rw [oneC, decide_eq_true (i32_nle.mp h2), Bool.or_true]
        rw [e] at j31
        exact hG.go 2 rfl rfl j31
  refine hG.br rfl rfl rfl rfl (fun h1 => ?_) (fun h1 => ?_)
  · have e : alvC d = false := decide_eq_false h1
    rw [e] at j11
    exact hG.go 1 rfl rfl j11
  · have e : alvC d = true := decide_eq_true h1
    rw [e] at j11
    exact hG.go 2 rfl rfl j11
-- letters
def alN (a b : Int32) : Nat := (if a / 25 = b / 25 then 1 else 0) + (if a / 5 - a / 5 / 5 * 5 = b / 5 - b / 5 / 5 * 5 then 2 else 0) + (if a - a / 5 * 5 = b - b / 5 * 5 then 4 else 0)
def pcN (w : Nat) : Nat := w % 2 + w / 2 % 2 + w / 4
def wyIx (w : Nat) : Nat := 4 * (3 - pcN w) + 2 * (w % 2) + w / 4
theorem alN_lt (a b : Int32) : alN a b < 8 := by rw [alN]; split <;> split <;> split <;> omega
theorem alN_ix (a b : Int32) : nrIx a b = wyIx (alN a b) := by
  rw [nrIx, apN, alN]; split <;> split <;> split <;> rfl
theorem alN_ap (a b : Int32) : apN a b = 3 - pcN (alN a b) := by
  rw [apN, alN]; split <;> split <;> split <;> rfl
theorem c_E_alike (a b : Int32) : Ci l θ 1 m_E_alike [.inl a, .inl b] σ (fun r σ' => σ' = σ ∧ r = nI (alN a b)) := by
  refine Ci.of (Or.inr mi_E_alike) pk_E_alike (nb rfl) (Or.inl rfl) [some (.inl a), some (.inl b), none] rfl fun Γ hG hR => ?_
  have j34 : ∀ x, nI x = (nI x) → X Γ 34 [some (.inl a), some (.inl b), some (.inl (nI ((if a / 25 = b / 25 then 1 else 0) + (if a / 5 - a / 5 / 5 * 5 = b / 5 - b / 5 / 5 * 5 then 2 else 0))))] [] σ := by
    intro _ _
    refine hG.rm rfl rfl rfl (by decide) ?_
    refine hG.rm rfl rfl rfl (by decide) ?_
    refine hG.br rfl rfl rfl rfl (fun h1 => ?_) (fun h1 => ?_)
    · refine hG.rt hR rfl rfl rfl rfl ?_
      exact ⟨rfl, by rw [alN, if_neg h1]; rfl⟩
    · refine hG.rt hR rfl rfl rfl rfl ?_
      refine ⟨rfl, ?_⟩
      rw [alN, if_pos h1]
      split <;> split <;> decide
  have j34 := j34 0 rfl
  have j17 : X Γ 17 [some (.inl a), some (.inl b), some (.inl (nI (if a / 25 = b / 25 then 1 else 0)))] [] σ := by
    refine hG.dv rfl rfl rfl (by decide) ?_
    refine hG.rm rfl rfl rfl (by decide) ?_
    refine hG.dv rfl rfl rfl (by decide) ?_
    refine hG.rm rfl rfl rfl (by decide) ?_
    refine hG.br rfl rfl rfl rfl (fun h1 => ?_) (fun h1 => ?_)
    · rw [if_neg h1] at j34
      exact j34
    · rw [if_pos h1] at j34
      refine hG.go 4 rfl rfl ?_
      have e : nI (if a / 25 = b / 25 then 1 else 0) ||| 2 = nI ((if a / 25 = b / 25 then 1 else 0) + 2) := by split <;> decide
      rw [e]
      exact j34
  refine hG.dv rfl rfl rfl (by decide) ?_
  refine hG.dv rfl rfl rfl (by decide) ?_
  refine hG.br rfl rfl rfl rfl (fun h1 => ?_) (fun h1 => ?_)
  · rw [if_neg h1] at j17
    exact j17
  · rw [if_pos h1] at j17
    exact hG.go 4 rfl rfl j17
theorem c_I_bitCount (w : Nat) (hw : w < 8) : Ci l θ 1 m_I_bitCount [.inl (nI w &&& 7)] σ (fun r σ' => σ' = σ ∧ r = nI (pcN w)) := by
  rcases (by omega : w = 0 ∨ w = 1 ∨ w = 2 ∨ w = 3 ∨ w = 4 ∨ w = 5 ∨ w = 6 ∨ w = 7) with rfl | rfl | rfl | rfl | rfl | rfl | rfl | rfl
  all_goals
    refine Ci.of (Or.inr mi_I_bitCount) pk_I_bitCount (nb rfl) (Or.inl rfl) [some (.inl (nI _ &&& 7))] rfl fun Γ hG hR => ?_
    refine hG.rt hR rfl rfl rfl rfl ?_
    exact ⟨rfl, by decide +kernel⟩
theorem c_E_unlike (w : Nat) (hw : w < 8) : Ci l θ 2 m_E_unlike [.inl (nI w)] σ (fun r σ' => σ' = σ ∧ r = nI (3 - pcN w)) := by
  refine Ci.of (Or.inr mi_E_unlike) pk_E_unlike (nb rfl) (Or.inl rfl) [some (.inl (nI w))] rfl fun Γ hG hR => ?_
  refine hG.cS lk_E_9 mi_I_bitCount rfl rfl (c_I_bitCount w hw) rfl rfl rfl rfl rfl rfl ?_
  rintro x σ' ⟨rfl, rfl⟩
  refine hG.rt hR rfl rfl rfl rfl ?_
  refine ⟨rfl, ?_⟩
  rcases (by omega : w = 0 ∨ w = 1 ∨ w = 2 ∨ w = 3 ∨ w = 4 ∨ w = 5 ∨ w = 6 ∨ w = 7) with rfl | rfl | rfl | rfl | rfl | rfl | rfl | rfl <;> decide +kernel
end
