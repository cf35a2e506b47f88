/-! the class's calls, seventh part: the tape, what is told -/
theorem b255 : ∀ i : Fin 32, ¬ i.1 < 8 → (255#32)[i.1] = false := by decide
theorem ush255 (x : BitVec 32) (s : Nat) (hs : s ≤ 24) : x >>> s &&& 255#32 = x.sshiftRight s &&& 255#32 := by
  ext i hi
  rw [BitVec.getElem_and, BitVec.getElem_and, BitVec.getElem_ushiftRight, BitVec.getElem_sshiftRight]
  by_cases h : i < 8
  · rw [dif_pos (show s + i < 32 by omega), BitVec.getLsbD_eq_getElem (by omega)]
  · rw [b255 ⟨i, hi⟩ h, Bool.and_false, Bool.and_false]
def shA (i : Nat) : Int32 := 24 - 8 * nI i
def bytA (a : Int32) (i : Nat) : Int32 := (a >>> (shA i &&& 31)) &&& 255
theorem shA_byt (a : Int32) (i : Nat) (hi : i < 4) : (a.toUInt32 >>> ((shA i).toUInt32 &&& Int32.toUInt32 31)).toInt32 &&& 255 = bytA a i := by
  rw [bytA]
  rcases (by omega : i = 0 ∨ i = 1 ∨ i = 2 ∨ i = 3) with rfl | rfl | rfl | rfl
  · have e : ((shA 0).toUInt32 &&& Int32.toUInt32 31) = 24 := by decide
    have e2 : (shA 0 &&& 31) = 24 := by decide
    rw [e, e2]
    apply Int32.toBitVec_inj.mp
    simp
    exact ush255 _ 24 (by omega)
  · have e : ((shA 1).toUInt32 &&& Int32.toUInt32 31) = 16 := by decide
    have e2 : (shA 1 &&& 31) = 16 := by decide
    rw [e, e2]
    apply Int32.toBitVec_inj.mp
    simp
    exact ush255 _ 16 (by omega)
  · have e : ((shA 2).toUInt32 &&& Int32.toUInt32 31) = 8 := by decide
    have e2 : (shA 2 &&& 31) = 8 := by decide
    rw [e, e2]
    apply Int32.toBitVec_inj.mp
    simp
    exact ush255 _ 8 (by omega)
  · have e : ((shA 3).toUInt32 &&& Int32.toUInt32 31) = 0 := by decide
    have e2 : (shA 3 &&& 31) = 0 := by decide
    rw [e, e2]
    apply Int32.toBitVec_inj.mp
    simp
theorem fedB_byt (a b c : Int32) (k : Nat) : fedB a b c k = bytA (if k < 4 then a else if k < 8 then b else c) (k % 4) := rfl
section
variable {l : Launch} {θ : Th} {σ σ' : Sg} {n c t y : Nat} {f : Nat → Int32}
theorem c_P_takeFour (a : Int32) (T : Nat) (hT : σ 64 1 = nI T) (hT4 : T + 4 ≤ 96) : Cv l θ 1 m_P_takeFour [.inr 64, .inl a] σ (fun σ' => Sm [64, 65] σ σ' ∧ (∀ j, j ≠ 1 → σ' 64 j = σ 64 j) ∧ σ' 64 1 = nI (T + 4) ∧ ∀ j, σ' 65 j = if T ≤ j ∧ j < T + 4 then bytA a (j - T) else σ 65 j) := by
  refine Cv.of (Or.inl mi_P_takeFour) pk_P_takeFour (nb rfl) rfl [some (.inr 64), some (.inl a), none] rfl fun Γ hG hR => ?_
  have loop : ∀ m i, i + m = 4 → ∀ (τ : Sg), Sm [64, 65] σ τ → (∀ j, j ≠ 1 → τ 64 j = σ 64 j) → τ 64 1 = nI (T + i) → (∀ j, τ 65 j = if T ≤ j ∧ j < T + i then bytA a (j - T) else σ 65 j) → X Γ 3 [some (.inr 64), some (.inl a), some (.inl (shA i))] [] τ := by
    intro m
    induction m with
    | zero =>
      intro i hi τ hs h1 h2 h3
      have hi : i = 4 := by omega
      subst hi
      refine hG.br rfl rfl rfl rfl (fun h4 => ?_) (fun h4 => ?_)
      · refine hG.rv hR rfl rfl rfl ?_
        exact ⟨hs, h1, h2, h3⟩
      · exact absurd (by decide) h4
    | succ m ih =>
      intro i hi τ hs h1 h2 h3
      have hneg : ¬ shA i < 0 := by
        rcases (by omega : i = 0 ∨ i = 1 ∨ i = 2 ∨ i = 3) with rfl | rfl | rfl | rfl <;> decide
      have hsh : shA i + -8 = shA (i + 1) := by
        rcases (by omega : i = 0 ∨ i = 1 ∨ i = 2 ∨ i = 3) with rfl | rfl | rfl | rfl <;> decide
      refine hG.br rfl rfl rfl rfl (fun h4 => ?_) (fun h4 => ?_)
      · exact absurd h4 hneg
      · refine hG.br rfl rfl rfl rfl (fun h5 => ?_) (fun h5 => ?_)
        · rw [h2] at h5
          exact absurd (show nI 96 ≤ nI (T + i) from h5) (nI_ge (by omega) (by omega))
        · refine hG.sti rfl (T + i) rfl rfl rfl h2 (by omega) ?_
          refine hG.jp rfl rfl rfl ?_
          rw [hsh, shA_byt a i (by omega)]
          refine ih (i + 1) (by omega) _ ((hs.up (by decide)).up (by decide)) (fun j hj => ?_) ?_ (fun j => ?_)
          · rw [up_j _ _ _ _ hj, up_c _ _ _ _ (by decide)]; exact h1 j hj
          · rw [up_self, up_c _ _ _ _ (by decide), h2, nI_1]; rfl
          · rw [up_c _ _ _ _ (by decide)]
            by_cases e : j = T + i
            · subst e
              rw [up_self, if_pos ⟨by omega, by omega⟩]; congr 1; omega
            · rw [up_j _ _ _ _ e, h3]
              by_cases e2 : T ≤ j ∧ j < T + i
              · rw [if_pos e2, if_pos ⟨e2.1, by omega⟩]
              · rw [if_neg e2, if_neg (by omega)]
  exact hG.go 2 rfl rfl (loop 4 0 (by omega) σ Sm.rf (fun _ _ => rfl) hT (fun j => by rw [if_neg (by omega)]))
theorem o_W_feed (a b cc : Int32) (T : Nat) (hT : σ 64 1 = nI T) (hT96 : T ≤ 96) : Ci l θ 5 m_W_feed [.inr 0, .inl a, .inl b, .inl cc] σ (fun r σ' => (96 < T + 12 → r = -1000000003 ∧ σ' = σ) ∧ (¬ 96 < T + 12 → r = nI (T + 12) ∧ Sm [64, 65] σ σ' ∧ (∀ j, j ≠ 1 → σ' 64 j = σ 64 j) ∧ σ' 64 1 = nI (T + 12) ∧ σ' 65 = fedF (σ 65) T a b cc)) := by
  refine Ci.of (Or.inl mi_W_feed) pk_W_feed (nb rfl) (Or.inl rfl) [some (.inr 0), some (.inl a), some (.inl b), some (.inl cc)] rfl fun Γ hG hR => ?_
  refine hG.br rfl rfl rfl rfl (fun h1 => ?_) (fun h1 => ?_)
  · have h1 : σ 64 1 + 12 ≤ 96 := h1
    rw [hT] at h1
    have h1 : T + 12 ≤ 96 := (nI_leI (a := T + 12) (b := 96) (by omega) (by omega)).mp (by rw [← nI_add]; exact h1)
    refine hG.cVv lk_W_232 mi_P_takeFour rfl rfl (c_P_takeFour a T hT (by omega)) rfl rfl rfl rfl rfl rfl rfl rfl ?_
    rintro τ1 ⟨a1, a2, a3, a4⟩
    refine hG.cVv lk_W_232 mi_P_takeFour rfl rfl (c_P_takeFour b (T + 4) a3 (by omega)) rfl rfl rfl rfl rfl rfl rfl rfl ?_
    rintro τ2 ⟨b1, b2, b3, b4⟩
    refine hG.cVv lk_W_232 mi_P_takeFour rfl rfl (c_P_takeFour cc (T + 4 + 4) b3 (by omega)) rfl rfl rfl rfl rfl rfl rfl rfl ?_
    rintro τ3 ⟨c1, c2, c3, c4⟩
    refine hG.rt hR rfl rfl rfl rfl ?_
    refine ⟨fun h => absurd h (by omega), fun _ => ⟨c3, (a1.tr b1).tr c1, fun j hj => ?_, c3, ?_⟩⟩
    · rw [c2 j hj, b2 j hj, a2 j hj]
    · funext j
      rw [c4, b4, a4, fedF]
      by_cases e0 : T ≤ j ∧ j < T + 12
      · rw [if_pos e0, fedB_byt]
        by_cases e1 : j < T + 4
        · rw [if_neg (by omega), if_neg (by omega), if_pos ⟨e0.1, e1⟩, if_pos (show j - T < 4 by omega)]
          congr 1; omega
        · by_cases e2 : j < T + 8
          · rw [if_neg (by omega), if_pos ⟨by omega, by omega⟩, if_neg (show ¬ j - T < 4 by omega), if_pos (show j - T < 8 by omega)]
            congr 1; omega
          · rw [if_pos ⟨by omega, by omega⟩, if_neg (show ¬ j - T < 4 by omega), if_neg (show ¬ j - T < 8 by omega)]
            congr 1; omega
      · rw [if_neg e0, if_neg (by omega), if_neg (by omega), if_neg (by omega)]
  · have h1 : ¬ σ 64 1 + 12 ≤ 96 := h1
    rw [hT] at h1
    have h1 : ¬ T + 12 ≤ 96 := fun h => h1 ((nI_leI (a := T + 12) (b := 96) (by omega) (by omega)).mpr h |> fun q => by rw [← nI_add] at q; exact q)
    refine hG.rt hR rfl rfl rfl rfl ?_
    exact ⟨fun _ => ⟨rfl, rfl⟩, fun h => absurd (by omega) h⟩
theorem c_W_isText (x : Int32) (hS : SV σ f n c t y) : Ci l θ 1 m_W_isText [.inr 0, .inl x] σ (fun r σ' => σ' = σ ∧ r = bi (inB x 0 (nI t - 1))) := by
  have ht := hS.t14
  rw [inB_m1 x t (by omega), ← hS.rv.tn]
  refine Ci.of (Or.inl mi_W_isText) pk_W_isText (nb rfl) (Or.inr rfl) [some (.inr 0), some (.inl x)] rfl fun Γ hG hR => ?_
  refine hG.br rfl rfl rfl rfl (fun h1 => ?_) (fun h1 => ?_)
  · refine hG.rz hR rfl rfl rfl rfl (Or.inl rfl) ?_
    exact ⟨rfl, by rw [decide_eq_false (i32_nle.mpr h1)]; rfl⟩
  · refine hG.br rfl rfl rfl rfl (fun h2 => ?_) (fun h2 => ?_)
    · refine hG.rz hR rfl rfl rfl rfl (Or.inl rfl) ?_
      exact ⟨rfl, by rw [decide_eq_false (i32_nlt.mpr h2), Bool.and_false]; rfl⟩
    · refine hG.rz hR rfl rfl rfl rfl (Or.inr rfl) ?_
      exact ⟨rfl, by rw [decide_eq_true (i32_nlt.mp h1), decide_eq_true (i32_nle.mp h2)]; rfl⟩
theorem o_W_textTold (x w : Int32) (hS : SV σ f n c t y) : Ci l θ 5 m_W_textTold [.inr 0, .inl x, .inl w] σ (fun r σ' => r = ttlR f t x w ∧ σ' = σ) := by
  have ht := hS.t14
  refine Ci.of (Or.inl mi_W_textTold) pk_W_textTold (nb rfl) (Or.inl rfl) [some (.inr 0), some (.inl x), some (.inl w)] rfl fun Γ hG hR => ?_
  have bad : (inB x 0 (nI t - 1) && inB w 0 1) = false → X Γ 17 [some (.inr 0), some (.inl x), some (.inl w)] [] σ := by
    intro hb
    refine hG.rt hR rfl rfl rfl rfl ?_
    exact ⟨by rw [ttlR, hb]; rfl, rfl⟩
  refine hG.cV lk_W_264 mi_W_isText rfl rfl (c_W_isText x hS) rfl rfl rfl rfl rfl rfl rfl rfl ?_
  rintro v σ' ⟨rfl, rfl⟩
  refine hG.br rfl rfl rfl rfl (fun h1 => ?_) (fun h1 => ?_)
  · exact bad (by rw [bi_eq0.mp h1]; rfl)
  · have h1 := bi_ne0.mp h1
    refine hG.br rfl rfl rfl rfl (fun h2 => ?_) (fun h2 => ?_)
    · exact bad (by rw [h1, inB, decide_eq_false (p := 0 ≤ w) (i32_nle.mpr h2)]; rfl)
    · refine hG.br rfl rfl rfl rfl (fun h3 => ?_) (fun h3 => ?_)
      · have hw : inB w 0 1 = true := by rw [inB, decide_eq_true (i32_nlt.mp h2), decide_eq_true h3]; rfl
        obtain ⟨i, hi, rfl⟩ := (inB_lt (by omega)).mp h1
        obtain ⟨ky, ln, htx⟩ := hS.to i hi
        obtain ⟨-, k1, k2⟩ := hS.tx i ky ln hi htx
        have hln := htx.2.2.1
        have hky := htx.2.1
        have e : ttlR f t (nI i) w = if w = 0 then nI ky else f (58 + 2 * i + 1) := by
          rw [ttlR, h1, hw, Bool.and_self, if_pos rfl, nI_clamp (by omega), htx.1]
          have : nI (1000 * ky + ln) / 1000 = nI ky := by
            have := pk_div (a := 1000 * ky + ln) (d := 1000) (by omega) (by omega) (by omega)
            rw [show (1000 * ky + ln) / 1000 = ky by omega] at this
            exact this
          rw [this]
        rw [e, ← k1, ← k2] at hR
        clear e k1 k2 hw h1 bad htx
        rcases (by omega : i = 0 ∨ i = 1 ∨ i = 2 ∨ i = 3 ∨ i = 4 ∨ i = 5 ∨ i = 6 ∨ i = 7 ∨ i = 8 ∨ i = 9 ∨ i = 10 ∨ i = 11 ∨ i = 12 ∨ i = 13) with rfl | rfl | rfl | rfl | rfl | rfl | rfl | rfl | rfl | rfl | rfl | rfl | rfl | rfl
        · refine hG.br rfl rfl rfl rfl (fun h4 => ?_) (fun h4 => ?_)
          · refine hG.lda rfl 0 rfl rfl rfl (Or.inl rfl) rfl (by decide) rfl ?_
            refine hG.rt hR rfl rfl rfl rfl ?_
            exact ⟨by rw [if_neg h4], rfl⟩
          · refine hG.lda rfl 0 rfl rfl rfl (Or.inl rfl) rfl (by decide) rfl ?_
            refine hG.rt hR rfl rfl rfl rfl ?_
            exact ⟨by rw [if_pos h4], rfl⟩
        · refine hG.br rfl rfl rfl rfl (fun h4 => ?_) (fun h4 => ?_)
          · refine hG.lda rfl 1 rfl rfl rfl (Or.inl rfl) rfl (by decide) rfl ?_
            refine hG.rt hR rfl rfl rfl rfl ?_
            exact ⟨by rw [if_neg h4], rfl⟩
          · refine hG.lda rfl 1 rfl rfl rfl (Or.inl rfl) rfl (by decide) rfl ?_
            refine hG.rt hR rfl rfl rfl rfl ?_
            exact ⟨by rw [if_pos h4], rfl⟩
        · refine hG.br rfl rfl rfl rfl (fun h4 => ?_) (fun h4 => ?_)
          · refine hG.lda rfl 2 rfl rfl rfl (Or.inl rfl) rfl (by decide) rfl ?_
            refine hG.rt hR rfl rfl rfl rfl ?_
            exact ⟨by rw [if_neg h4], rfl⟩
          · refine hG.lda rfl 2 rfl rfl rfl (Or.inl rfl) rfl (by decide) rfl ?_
            refine hG.rt hR rfl rfl rfl rfl ?_
            exact ⟨by rw [if_pos h4], rfl⟩
        · refine hG.br rfl rfl rfl rfl (fun h4 => ?_) (fun h4 => ?_)
          · refine hG.lda rfl 3 rfl rfl rfl (Or.inl rfl) rfl (by decide) rfl ?_
            refine hG.rt hR rfl rfl rfl rfl ?_
            exact ⟨by rw [if_neg h4], rfl⟩
          · refine hG.lda rfl 3 rfl rfl rfl (Or.inl rfl) rfl (by decide) rfl ?_
            refine hG.rt hR rfl rfl rfl rfl ?_
            exact ⟨by rw [if_pos h4], rfl⟩
        · refine hG.br rfl rfl rfl rfl (fun h4 => ?_) (fun h4 => ?_)
          · refine hG.lda rfl 4 rfl rfl rfl (Or.inl rfl) rfl (by decide) rfl ?_
            refine hG.rt hR rfl rfl rfl rfl ?_
            exact ⟨by rw [if_neg h4], rfl⟩
          · refine hG.lda rfl 4 rfl rfl rfl (Or.inl rfl) rfl (by decide) rfl ?_
            refine hG.rt hR rfl rfl rfl rfl ?_
            exact ⟨by rw [if_pos h4], rfl⟩
        · refine hG.br rfl rfl rfl rfl (fun h4 => ?_) (fun h4 => ?_)
          · refine hG.lda rfl 5 rfl rfl rfl (Or.inl rfl) rfl (by decide) rfl ?_
            refine hG.rt hR rfl rfl rfl rfl ?_
            exact ⟨by rw [if_neg h4], rfl⟩
          · refine hG.lda rfl 5 rfl rfl rfl (Or.inl rfl) rfl (by decide) rfl ?_
            refine hG.rt hR rfl rfl rfl rfl ?_
            exact ⟨by rw [if_pos h4], rfl⟩
        · refine hG.br rfl rfl rfl rfl (fun h4 => ?_) (fun h4 => ?_)
          · refine hG.lda rfl 6 rfl rfl rfl (Or.inl rfl) rfl (by decide) rfl ?_
            refine hG.rt hR rfl rfl rfl rfl ?_
            exact ⟨by rw [if_neg h4], rfl⟩
          · refine hG.lda rfl 6 rfl rfl rfl (Or.inl rfl) rfl (by decide) rfl ?_
            refine hG.rt hR rfl rfl rfl rfl ?_
            exact ⟨by rw [if_pos h4], rfl⟩
        · refine hG.br rfl rfl rfl rfl (fun h4 => ?_) (fun h4 => ?_)
          · refine hG.lda rfl 7 rfl rfl rfl (Or.inl rfl) rfl (by decide) rfl ?_
            refine hG.rt hR rfl rfl rfl rfl ?_
            exact ⟨by rw [if_neg h4], rfl⟩
          · refine hG.lda rfl 7 rfl rfl rfl (Or.inl rfl) rfl (by decide) rfl ?_
            refine hG.rt hR rfl rfl rfl rfl ?_
            exact ⟨by rw [if_pos h4], rfl⟩
        · refine hG.br rfl rfl rfl rfl (fun h4 => ?_) (fun h4 => ?_)
          · refine hG.lda rfl 8 rfl rfl rfl (Or.inl rfl) rfl (by decide) rfl ?_
            refine hG.rt hR rfl rfl rfl rfl ?_
            exact ⟨by rw [if_neg h4], rfl⟩
          · refine hG.lda rfl 8 rfl rfl rfl (Or.inl rfl) rfl (by decide) rfl ?_
            refine hG.rt hR rfl rfl rfl rfl ?_
            exact ⟨by rw [if_pos h4], rfl⟩
        · refine hG.br rfl rfl rfl rfl (fun h4 => ?_) (fun h4 => ?_)
          · refine hG.lda rfl 9 rfl rfl rfl (Or.inl rfl) rfl (by decide) rfl ?_
            refine hG.rt hR rfl rfl rfl rfl ?_
            exact ⟨by rw [if_neg h4], rfl⟩
          · refine hG.lda rfl 9 rfl rfl rfl (Or.inl rfl) rfl (by decide) rfl ?_
            refine hG.rt hR rfl rfl rfl rfl ?_
            exact ⟨by rw [if_pos h4], rfl⟩
        · refine hG.br rfl rfl rfl rfl (fun h4 => ?_) (fun h4 => ?_)
          · refine hG.lda rfl 10 rfl rfl rfl (Or.inl rfl) rfl (by decide) rfl ?_
            refine hG.rt hR rfl rfl rfl rfl ?_
            exact ⟨by rw [if_neg h4], rfl⟩
          · refine hG.lda rfl 10 rfl rfl rfl (Or.inl rfl) rfl (by decide) rfl ?_
            refine hG.rt hR rfl rfl rfl rfl ?_
            exact ⟨by rw [if_pos h4], rfl⟩
        · refine hG.br rfl rfl rfl rfl (fun h4 => ?_) (fun h4 => ?_)
          · refine hG.lda rfl 11 rfl rfl rfl (Or.inl rfl) rfl (by decide) rfl ?_
            refine hG.rt hR rfl rfl rfl rfl ?_
            exact ⟨by rw [if_neg h4], rfl⟩
          · refine hG.lda rfl 11 rfl rfl rfl (Or.inl rfl) rfl (by decide) rfl ?_
            refine hG.rt hR rfl rfl rfl rfl ?_
            exact ⟨by rw [if_pos h4], rfl⟩
        · refine hG.br rfl rfl rfl rfl (fun h4 => ?_) (fun h4 => ?_)
          · refine hG.lda rfl 12 rfl rfl rfl (Or.inl rfl) rfl (by decide) rfl ?_
            refine hG.rt hR rfl rfl rfl rfl ?_
            exact ⟨by rw [if_neg h4], rfl⟩
          · refine hG.lda rfl 12 rfl rfl rfl (Or.inl rfl) rfl (by decide) rfl ?_
            refine hG.rt hR rfl rfl rfl rfl ?_
            exact ⟨by rw [if_pos h4], rfl⟩
        · refine hG.br rfl rfl rfl rfl (fun h4 => ?_) (fun h4 => ?_)
          · refine hG.lda rfl 13 rfl rfl rfl (Or.inl rfl) rfl (by decide) rfl ?_
            refine hG.rt hR rfl rfl rfl rfl ?_
            exact ⟨by rw [if_neg h4], rfl⟩
          · refine hG.lda rfl 13 rfl rfl rfl (Or.inl rfl) rfl (by decide) rfl ?_
            refine hG.rt hR rfl rfl rfl rfl ?_
            exact ⟨by rw [if_pos h4], rfl⟩
      · exact bad (by rw [h1, inB, decide_eq_false (p := w ≤ 1) h3, Bool.and_false]; rfl)
theorem o_W_count (w : Int32) (hS : SV σ f n c t y) : Ci l θ 5 m_W_count [.inr 0, .inl w] σ (fun r σ' => r = countR f n (σ 0 10) (σ 64 1) w ∧ σ' = σ) := by
  have hn := hS.n10
  obtain ⟨a1, a2, a3, a4, a5, a6, a7, a8, a9, a10⟩ := hS.fo
  refine Ci.of (Or.inl mi_W_count) pk_W_count (nb rfl) (Or.inl rfl) [some (.inr 0), some (.inl w)] rfl fun Γ hG hR => ?_
  refine hG.tsw [52, 60, 68, 76, 84, 92, 100, 105, 113] 121 rfl rfl rfl (by decide +kernel) ?_ ?_
  · intro j u hk hx
    match j, hk, hx with
    | 0, hk, hx =>
      cases hk
      have e : w = 0 := tsw_x hx rfl
      subst e
      refine hG.rt hR rfl rfl rfl rfl ?_
      exact ⟨hS.rv.pn.trans a1.symm, rfl⟩
    | 1, hk, hx =>
      cases hk
      have e : w = 1 := tsw_x hx rfl
      subst e
      refine hG.cV lk_W_203 mi_V_countAlive rfl rfl (c_V_countAlive32 hn hS.rv) rfl rfl rfl rfl rfl rfl rfl rfl ?_
      rintro x σ' ⟨rfl, rfl⟩
      refine hG.rt hR rfl rfl rfl rfl ?_
      exact ⟨rfl, rfl⟩
    | 2, hk, hx =>
      cases hk
      have e : w = 2 := tsw_x hx rfl
      subst e
      refine hG.rt hR rfl rfl rfl rfl ?_
      exact ⟨hS.rv.cn.trans a3.symm, rfl⟩
    | 3, hk, hx =>
      cases hk
      have e : w = 3 := tsw_x hx rfl
      subst e
      refine hG.rt hR rfl rfl rfl rfl ?_
      exact ⟨hS.rv.y, rfl⟩
    | 4, hk, hx =>
      cases hk
      have e : w = 4 := tsw_x hx rfl
      subst e
      refine hG.rt hR rfl rfl rfl rfl ?_
      exact ⟨hS.rv.tm, rfl⟩
    | 5, hk, hx =>
      cases hk
      have e : w = 5 := tsw_x hx rfl
      subst e
      refine hG.rt hR rfl rfl rfl rfl ?_
      exact ⟨hS.rv.tn.trans a5.symm, rfl⟩
    | 6, hk, hx =>
      cases hk
      have e : w = 6 := tsw_x hx rfl
      subst e
      refine hG.rt hR rfl rfl rfl rfl ?_
      exact ⟨rfl, rfl⟩
    | 7, hk, hx =>
      cases hk
      have e : w = 7 := tsw_x hx rfl
      subst e
      refine hG.rt hR rfl rfl rfl rfl ?_
      exact ⟨rfl, rfl⟩
    | 8, hk, hx =>
      cases hk
      have e : w = 8 := tsw_x hx rfl
      subst e
      refine hG.rt hR rfl rfl rfl rfl ?_
      exact ⟨hS.rv.z, rfl⟩
    | j + 9, hk, hx => simp at hk
  · intro hx
    have g : ∀ (k : Nat), k < 9 → ¬ w = nI k := fun k hk e => hx k (by simp; omega) (by rw [e, nI_toInt (by omega)]; omega)
    refine hG.rt hR rfl rfl rfl rfl ?_
    refine ⟨?_, rfl⟩
    rw [countR, if_neg (show ¬ w = 0 from g 0 (by omega)), if_neg (show ¬ w = 1 from g 1 (by omega)), if_neg (show ¬ w = 2 from g 2 (by omega)), if_neg (show ¬ w = 3 from g 3 (by omega)), if_neg (show ¬ w = 4 from g 4 (by omega)), if_neg (show ¬ w = 5 from g 5 (by omega)), if_neg (show ¬ w = 6 from g 6 (by omega)), if_neg (show ¬ w = 7 from g 7 (by omega)), if_neg (show ¬ w = 8 from g 8 (by omega))]
end
