/-! the class's call: text -/
section
variable {f : Nat → Int32} {t k lv : Nat} {oo : List Int32}
theorem tx_5 : txtF f t k oo lv 5 = nI (t + 1) := by rw [txtF, if_pos rfl]
theorem tx_lo {j : Nat} (hj : j < 58) (h5 : j ≠ 5) : txtF f t k oo lv j = f j := by
  rw [txtF, if_neg h5, if_neg (by omega), if_neg (by omega), if_neg (by omega)]
theorem tx_old {i j : Nat} (ht : t < 14) (hi : i < t) (hj : j = 58 + 2 * i ∨ j = 58 + 2 * i + 1 ∨ (86 + 96 * i ≤ j ∧ j < 86 + 96 * i + 96)) : txtF f t k oo lv j = f j := by
  rw [txtF, if_neg (by omega), if_neg (by omega), if_neg (by omega), if_neg (by omega)]
theorem tx_hd : txtF f t k oo lv (58 + 2 * t) = nI (1000 * k + oo.length) := by rw [txtF, if_neg (by omega), if_pos rfl]
theorem tx_lv : txtF f t k oo lv (58 + 2 * t + 1) = nI lv := by rw [txtF, if_neg (by omega), if_neg (by omega), if_pos rfl]
theorem tx_cd {j : Nat} (ht : t < 14) (hj : j < oo.length) : txtF f t k oo lv (86 + 96 * t + j) = oo.reverse.getD j 0 := by
  rw [txtF, if_neg (by omega), if_neg (by omega), if_neg (by omega), if_pos ⟨by omega, by omega⟩]
  congr 1; omega
theorem tx_ok (ht : t < 14) (hk : k < 3) (hl : oo.length ≤ 96) (hw : wfL (nmK k) oo) (hd : dpL oo = 1) : TxOk (txtF f t k oo lv) t k oo.length := by
  obtain ⟨h1, h2⟩ := cd_of (g := txtF f t k oo lv) (b := 86 + 96 * t) (m := nmK k) oo (fun j hj => tx_cd ht hj) hw
  exact ⟨tx_hd, hk, hl, h1.trans hd, h2⟩
theorem tx_okO {i ky ln : Nat} (ht : t < 14) (hi : i < t) (h : TxOk f i ky ln) : TxOk (txtF f t k oo lv) i ky ln := by
  obtain ⟨h1, h2, h3⟩ := h
  have := h3.1
  exact ⟨by rw [tx_old ht hi (Or.inl rfl)]; exact h1, h2, CdOk_congr h3 (fun j hj => tx_old ht hi (Or.inr (Or.inr ⟨by omega, by omega⟩)))⟩
theorem tx_okB {i ky ln : Nat} (ht : t < 14) (hi : i < t) (h : TxOk (txtF f t k oo lv) i ky ln) : TxOk f i ky ln := by
  obtain ⟨h1, h2, h3⟩ := h
  have := h3.1
  exact ⟨by rw [tx_old ht hi (Or.inl rfl)] at h1; exact h1, h2, CdOk_congr h3 (fun j hj => (tx_old ht hi (Or.inr (Or.inr ⟨by omega, by omega⟩))).symm)⟩
theorem tx_cnt (ht : t < 14) (key : Int32) : cntO (txtF f t k oo lv) key t = cntO f key t := cntO_congr t (fun i hi => tx_old ht hi (Or.inl rfl))
theorem tx_cntS (ht : t < 14) (hx : TxOk (txtF f t k oo lv) t k oo.length) (key : Int32) : cntO (txtF f t k oo lv) key (t + 1) = if nI k = key then some t else cntO f key t := by
  rw [cntO, TxOk_key hx, tx_cnt ht]
theorem tx_near (ht : t < 14) (hk : k < 3) (hx : TxOk (txtF f t k oo lv) t k oo.length) (hT : TxsOk f t) (h0 : k ≠ 0) (w : Nat) : nearT (txtF f t k oo lv) (t + 1) w = nearT f t w := by
  unfold nearT
  have e : ¬ nI k = 0 := nI_ne0 (by omega) (by omega)
  rw [tx_cntS ht hx, if_neg e]
  cases h : cntO f 0 t with
  | none => rfl
  | some i =>
    obtain ⟨h1, ln, h2⟩ := cntO_ok (k := 0) hT (by omega) h
    dsimp only
    have h3 := h2.2.2.1
    rw [evT_eq h2, evT_eq (tx_okO ht h1 h2), evl_congr2 ln (fun j hj => tx_old ht h1 (Or.inr (Or.inr ⟨by omega, by omega⟩)))]
theorem tx_near0 (ht : t < 14) (hx : TxOk (txtF f t 0 oo lv) t 0 oo.length) (w : Nat) (hw : w < 8) : nearT (txtF f t 0 oo lv) (t + 1) (wyIx w) = nrW (txtF f t 0 oo lv) t w := by
  unfold nearT
  rw [tx_cntS ht hx, if_pos (by decide)]
  dsimp only
  obtain ⟨h1, h2, h3⟩ := wy_at w hw
  rw [h1, h2, h3]; rfl
end
section
variable {l : Launch} {θ : Th} {σ σ' τ : Sg} {n c t y T k lv : Nat} {f : Nat → Int32} {oo : List Int32}
theorem rev_map_get (D : Nat → Int32) (hD : StkR D (oo.map stC)) {j : Nat} (hj : j < oo.length) : D j = stC (oo.reverse.getD j 0) := by
  rw [StkR_get hD (by rw [List.length_map]; exact hj), ← List.map_reverse, List.getD_eq_getElem?_getD, List.getD_eq_getElem?_getD, List.getElem?_map]
  rw [List.getElem?_eq_getElem (by rw [List.length_reverse]; exact hj)]
  rfl
theorem SV.text (hS : SV σ f n c t y) (ht : t < 14) (hk : k < 3) (hl : oo.length ≤ 96) (hw : wfL (nmK k) oo) (hd : dpL oo = 1) (D : Nat → Int32) (hD : StkR D (oo.map stC)) (hs : Sm [3, 4 + 2 * t, 5 + 2 * t, 32, 39, 64, 66, 67] σ σ') (x0 : σ' (4 + 2 * t) 0 = nI k) (x1 : σ' (4 + 2 * t) 1 = nI lv) (x2 : σ' (4 + 2 * t) 2 = nI oo.length) (xs : ∀ j, j < 96 → σ' (5 + 2 * t) j = D j) (hf : ∀ j, j ≠ 11 → j ≠ 13 → σ' 32 j = σ 32 j) (h11 : σ' 32 11 = nI (t + 1)) (h39 : σ' 39 = upd (σ 39) k (nI t)) (hn : k ≠ 0 → σ' 32 13 = σ 32 13) (h0 : k = 0 → ∀ w, w < 8 → nwB (σ' 32 13) w = nrW (txtF f t k oo lv) t w) : SV σ' (txtF f t k oo lv) n c (t + 1) y := by
  obtain ⟨⟨f1, f2, f3, f4, f5, f6, f7, f8, f9, f10⟩, hy, hK, hV, hX⟩ := hS
  obtain ⟨⟨v1, v2, v3, v4, v5, v6⟩, vw, vp, vc, vk⟩ := hV
  have hx := tx_ok (f := f) (lv := lv) ht hk hl hw hd
  have hcell : ∀ q, 33 ≤ q → q ≤ 38 → σ' q = σ q := fun q h1 h2 => hs q (by simp; omega)
  refine ⟨⟨?_, f2, ?_, f4, tx_5, by omega, ?_, f8, ?_, ?_⟩, hy, ?_, ⟨⟨?_, ?_, ?_, ?_, ?_, h11⟩, ?_, ?_, ?_, ?_⟩, ?_⟩
  · rw [tx_lo (by omega) (by omega)]; exact f1
  · rw [tx_lo (by omega) (by omega)]; exact f3
  · rw [tx_lo (by omega) (by omega)]; exact f7
  · intro i hi
    by_cases e : i = t
    · subst e; exact ⟨k, oo.length, hx⟩
    · obtain ⟨ky, ln, h⟩ := f9 i (by omega)
      exact ⟨ky, ln, tx_okO ht (by omega) h⟩
  · intro i hi
    rw [tx_lo (by omega) (by omega)]; exact f10 i hi
  · intro p hp
    rw [tx_lo (by omega) (by omega), tx_lo (by omega) (by omega), tx_lo (by omega) (by omega)]
    exact hK p hp
  · rw [hf 4 (by omega) (by omega)]; exact v1
  · rw [hf 7 (by omega) (by omega)]; exact v2
  · rw [hf 8 (by omega) (by omega), tx_lo (by omega) (by omega)]; exact v3
  · rw [hf 9 (by omega) (by omega), tx_lo (by omega) (by omega)]; exact v4
  · rw [hf 10 (by omega) (by omega), tx_lo (by omega) (by omega)]; exact v5
  · intro w hw8
    by_cases e : k = 0
    · subst e
      rw [h0 rfl w hw8, tx_near0 ht hx w hw8]
    · rw [hn e, vw w hw8, tx_near ht hk hx f9 e]
  · intro p hp
    rw [hcell 33 (by omega) (by omega), hcell 34 (by omega) (by omega), hcell 35 (by omega) (by omega), hcell 36 (by omega) (by omega), tx_lo (by omega) (by omega), tx_lo (by omega) (by omega), tx_lo (by omega) (by omega), tx_lo (by omega) (by omega)]
    exact vp p hp
  · intro i hi
    rw [hcell 37 (by omega) (by omega), hcell 38 (by omega) (by omega), tx_lo (by omega) (by omega), tx_lo (by omega) (by omega)]
    exact vc i hi
  · intro q hq
    rw [tx_cntS ht hx]
    show σ' 39 q = _
    rw [h39]
    by_cases e : q = k
    · subst e
      rw [upd_same, if_pos rfl]; rfl
    · rw [upd_ne e, if_neg (fun h => e ((nI_eq (by omega) (by omega)).mp h).symm)]
      exact vk q hq
  · intro i ky ln hi hxi
    by_cases e : i = t
    · subst e
      have e1 := TxOk_key hx
      have e2 := TxOk_key hxi
      rw [e1] at e2
      have hky := hxi.2.1
      have : k = ky := (nI_eq (by omega) (by omega)).mp e2
      subst this
      have e3 := hx.1.symm.trans hxi.1
      have hll := hxi.2.2.1
      have : oo.length = ln := by
        have := (nI_eq (by omega) (by omega)).mp e3
        omega
      subst this
      refine ⟨⟨x2, fun j hj => ?_⟩, x0, x1.trans tx_lv.symm⟩
      rw [xs j (by omega), tx_cd ht hj, rev_map_get D hD hj]
    · have hb := tx_okB ht (by omega) hxi
      have hll := hb.2.2.1
      obtain ⟨⟨a1, a2⟩, a3, a4⟩ := hX i ky ln (by omega) hb
      refine ⟨⟨?_, fun j hj => ?_⟩, ?_, ?_⟩
      · rw [hs (4 + 2 * i) (by simp; omega)]; exact a1
      · rw [hs (5 + 2 * i) (by simp; omega), tx_old ht (show i < t by omega) (Or.inr (Or.inr ⟨by omega, by omega⟩))]; exact a2 j hj
      · rw [hs (4 + 2 * i) (by simp; omega)]; exact a3
      · rw [hs (4 + 2 * i) (by simp; omega), tx_old ht (show i < t by omega) (Or.inr (Or.inl rfl))]; exact a4
theorem o_W_text (hS : SV σ f n c t y) (hT : σ 64 1 = nI T) (hT96 : T ≤ 96) : Ci l θ 82 m_W_text [.inr 0] σ (fun r σ' => σ' 64 1 = 0 ∧ ∃ res, PrM (σ 65) T res ∧ (∀ s, res = .inl s → r = -100 - nI s ∧ Sm [64, 66, 67] σ σ') ∧ (∀ k oo lv, res = .inr (k, oo, lv) → (t = 14 → r = -1000000003 ∧ Sm [64, 66, 67] σ σ') ∧ (t ≠ 14 → r = nI t ∧ SV σ' (txtF f t k oo lv) n c (t + 1) y ∧ Sm [3, 4 + 2 * t, 5 + 2 * t, 32, 39, 64, 66, 67] σ σ'))) := by
  have ht14 := hS.t14
  refine Ci.of (Or.inl mi_W_text) pk_W_text (nb rfl) (Or.inl rfl) [some (.inr 0), none] rfl fun Γ hG hR => ?_
  refine hG.cV lk_W_235 mi_P_readText rfl rfl (c_P_readText rfl hT hT96) rfl rfl rfl rfl rfl rfl rfl rfl ?_
  rintro r τ ⟨hs, res, hres, p1, p2⟩
  cases res with
  | inl s =>
    obtain ⟨rfl, e2⟩ := p1 s rfl
    refine hG.br rfl rfl rfl rfl (fun k1 => ?_) (fun k1 => ?_)
    · exact absurd rfl k1
    · refine hG.rt hR rfl rfl rfl rfl ?_
      refine ⟨up_self _ _ _ _, .inl s, hres, fun s' e => ?_, (fun _ _ _ e => by cases e)⟩
      cases e
      exact ⟨by rw [up_j _ _ _ _ (by decide), e2], hs.up (by decide)⟩
  | inr q =>
    obtain ⟨k, oo, lv⟩ := q
    obtain ⟨rfl, hk3, x0, x1, x2, hl, hD, hw, hd⟩ := p2 k oo lv rfl
    generalize hτ1 : up τ 64 1 0 = τ1
    have hs1 : Sm [64, 66, 67] σ τ1 := by rw [← hτ1]; exact hs.up (by decide)
    have e64 : τ1 64 1 = 0 := by rw [← hτ1, up_self]
    have hS1 : SV τ1 f n c t y := hS.sm hs1 (fun k h1 h2 => by simp; omega)
    have y0 : τ1 66 0 = nI k := by rw [← hτ1, up_c _ _ _ _ (by decide)]; exact x0
    have y1 : τ1 66 1 = nI lv := by rw [← hτ1, up_c _ _ _ _ (by decide)]; exact x1
    have y2 : τ1 66 2 = nI oo.length := by rw [← hτ1, up_c _ _ _ _ (by decide)]; exact x2
    have yD : StkR (τ1 67) (oo.map stC) := by rw [← hτ1, up_c _ _ _ _ (by decide)]; exact hD
    have e11 : τ1 32 11 = nI t := hS1.rv.tn
    subst hτ1
    refine hG.br rfl rfl rfl rfl (fun k1 => ?_) (fun k1 => ?_)
    · refine hG.br rfl rfl rfl rfl (fun k2 => ?_) (fun k2 => ?_)
      · rw [e11] at k2
        have htl : t < 14 := (nI_ltI (b := 14) (by omega) (by omega)).mp k2
        generalize up τ 64 1 0 = τ1 at *
        -- behind the copying
        have rest : ∀ τ2 : Sg, Sm [4 + 2 * t, 5 + 2 * t] τ1 τ2 → τ2 (4 + 2 * t) 0 = nI k → τ2 (4 + 2 * t) 1 = nI lv → τ2 (4 + 2 * t) 2 = nI oo.length → (∀ j, j < 96 → τ2 (5 + 2 * t) j = τ1 67 j) → X Γ 71 [some (.inr 0), some (.inl 1)] [] τ2 := by
          intro τ2 hs2 z0 z1 z2 zs
          have g11 : τ2 32 11 = nI t := by rw [hs2 32 (by simp; omega)]; exact e11
          have g66 : τ2 66 0 = nI k := by rw [hs2 66 (by simp; omega)]; exact y0
          refine hG.go 9 rfl rfl ?_
          rw [g66]
          have ct := c_V_takeText (l := l) (θ := θ) (σ := τ2) (t := t) (f := txtF f t k oo lv) k hk3 htl g11 (fun e => by
            subst e
            refine ⟨oo.length, tx_ok htl hk3 hl hw hd, z2, fun j hj => ?_⟩
            rw [zs j (by omega), tx_cd htl hj, rev_map_get _ yD hj])
          refine hG.cV lk_W_260 mi_V_takeText rfl rfl ct rfl rfl rfl rfl rfl rfl rfl rfl ?_
          rintro x τ3 ⟨rfl, hs3, q1, q2, q3, q4, q5⟩
          refine hG.rt hR rfl rfl rfl rfl ?_
          have hsm : Sm [3, 4 + 2 * t, 5 + 2 * t, 32, 39, 64, 66, 67] σ τ3 := ((hs1.mono (by simp)).tr (hs2.mono (by simp))).tr (hs3.mono (by simp))
          refine ⟨by rw [hs3 64 (by decide), hs2 64 (by simp; omega)]; exact e64, .inr (k, oo, lv), hres, (fun _ e => by cases e), fun k' oo' lv' e => ?_⟩
          cases e
          refine ⟨fun q => by omega, fun _ => ⟨rfl, ?_, hsm⟩⟩
          have e32 : σ 32 = τ1 32 := (hs1 32 (by decide)).symm
          have e39 : σ 39 = τ1 39 := (hs1 39 (by decide)).symm
          have f32 : τ2 32 = τ1 32 := hs2 32 (by simp; omega)
          have f39 : τ2 39 = τ1 39 := hs2 39 (by simp; omega)
          refine hS.text htl hk3 hl hw hd (τ1 67) yD hsm ?_ ?_ ?_ ?_ ?_ q2 ?_ ?_ ?_
          · rw [hs3 (4 + 2 * t) (by simp; omega)]; exact z0
          · rw [hs3 (4 + 2 * t) (by simp; omega)]; exact z1
          · rw [hs3 (4 + 2 * t) (by simp; omega)]; exact z2
          · rw [hs3 (5 + 2 * t) (by simp; omega)]; exact zs
          · rw [e32, ← f32]; exact q1
          · rw [e39, ← f39]; exact q3
          · rw [e32, ← f32]; exact q4
          · exact q5
        refine hG.go 7 rfl rfl ?_
        rw [e11]
        rcases (by omega : t = 0 ∨ t = 1 ∨ t = 2 ∨ t = 3 ∨ t = 4 ∨ t = 5 ∨ t = 6 ∨ t = 7 ∨ t = 8 ∨ t = 9 ∨ t = 10 ∨ t = 11 ∨ t = 12 ∨ t = 13) with rfl | rfl | rfl | rfl | rfl | rfl | rfl | rfl | rfl | rfl | rfl | rfl | rfl | rfl
        · refine hG.lda rfl 0 rfl rfl rfl (Or.inl rfl) rfl (by decide) rfl ?_
          refine hG.cVv lk_W_252 mi_X_become rfl rfl c_X_become0 rfl rfl rfl rfl rfl rfl rfl rfl ?_
          rintro τ2 ⟨q1, q2, q3, q4, q5⟩
          exact rest τ2 q1 (q2.trans y0) (q3.trans y1) (q4.trans y2) q5
        · refine hG.lda rfl 1 rfl rfl rfl (Or.inl rfl) rfl (by decide) rfl ?_
          refine hG.cVv lk_W_252 mi_X_become rfl rfl c_X_become1 rfl rfl rfl rfl rfl rfl rfl rfl ?_
          rintro τ2 ⟨q1, q2, q3, q4, q5⟩
          exact rest τ2 q1 (q2.trans y0) (q3.trans y1) (q4.trans y2) q5
        · refine hG.lda rfl 2 rfl rfl rfl (Or.inl rfl) rfl (by decide) rfl ?_
          refine hG.cVv lk_W_252 mi_X_become rfl rfl c_X_become2 rfl rfl rfl rfl rfl rfl rfl rfl ?_
          rintro τ2 ⟨q1, q2, q3, q4, q5⟩
          exact rest τ2 q1 (q2.trans y0) (q3.trans y1) (q4.trans y2) q5
        · refine hG.lda rfl 3 rfl rfl rfl (Or.inl rfl) rfl (by decide) rfl ?_
          refine hG.cVv lk_W_252 mi_X_become rfl rfl c_X_become3 rfl rfl rfl rfl rfl rfl rfl rfl ?_
          rintro τ2 ⟨q1, q2, q3, q4, q5⟩
          exact rest τ2 q1 (q2.trans y0) (q3.trans y1) (q4.trans y2) q5
        · refine hG.lda rfl 4 rfl rfl rfl (Or.inl rfl) rfl (by decide) rfl ?_
          refine hG.cVv lk_W_252 mi_X_become rfl rfl c_X_become4 rfl rfl rfl rfl rfl rfl rfl rfl ?_
          rintro τ2 ⟨q1, q2, q3, q4, q5⟩
          exact rest τ2 q1 (q2.trans y0) (q3.trans y1) (q4.trans y2) q5
        · refine hG.lda rfl 5 rfl rfl rfl (Or.inl rfl) rfl (by decide) rfl ?_
          refine hG.cVv lk_W_252 mi_X_become rfl rfl c_X_become5 rfl rfl rfl rfl rfl rfl rfl rfl ?_
          rintro τ2 ⟨q1, q2, q3, q4, q5⟩
          exact rest τ2 q1 (q2.trans y0) (q3.trans y1) (q4.trans y2) q5
        · refine hG.lda rfl 6 rfl rfl rfl (Or.inl rfl) rfl (by decide) rfl ?_
          refine hG.cVv lk_W_252 mi_X_become rfl rfl c_X_become6 rfl rfl rfl rfl rfl rfl rfl rfl ?_
          rintro τ2 ⟨q1, q2, q3, q4, q5⟩
          exact rest τ2 q1 (q2.trans y0) (q3.trans y1) (q4.trans y2) q5
        · refine hG.lda rfl 7 rfl rfl rfl (Or.inl rfl) rfl (by decide) rfl ?_
          refine hG.cVv lk_W_252 mi_X_become rfl rfl c_X_become7 rfl rfl rfl rfl rfl rfl rfl rfl ?_
          rintro τ2 ⟨q1, q2, q3, q4, q5⟩
          exact rest τ2 q1 (q2.trans y0) (q3.trans y1) (q4.trans y2) q5
        · refine hG.lda rfl 8 rfl rfl rfl (Or.inl rfl) rfl (by decide) rfl ?_
          refine hG.cVv lk_W_252 mi_X_become rfl rfl c_X_become8 rfl rfl rfl rfl rfl rfl rfl rfl ?_
          rintro τ2 ⟨q1, q2, q3, q4, q5⟩
          exact rest τ2 q1 (q2.trans y0) (q3.trans y1) (q4.trans y2) q5
        · refine hG.lda rfl 9 rfl rfl rfl (Or.inl rfl) rfl (by decide) rfl ?_
          refine hG.cVv lk_W_252 mi_X_become rfl rfl c_X_become9 rfl rfl rfl rfl rfl rfl rfl rfl ?_
          rintro τ2 ⟨q1, q2, q3, q4, q5⟩
          exact rest τ2 q1 (q2.trans y0) (q3.trans y1) (q4.trans y2) q5
        · refine hG.lda rfl 10 rfl rfl rfl (Or.inl rfl) rfl (by decide) rfl ?_
          refine hG.cVv lk_W_252 mi_X_become rfl rfl c_X_become10 rfl rfl rfl rfl rfl rfl rfl rfl ?_
          rintro τ2 ⟨q1, q2, q3, q4, q5⟩
          exact rest τ2 q1 (q2.trans y0) (q3.trans y1) (q4.trans y2) q5
        · refine hG.lda rfl 11 rfl rfl rfl (Or.inl rfl) rfl (by decide) rfl ?_
          refine hG.cVv lk_W_252 mi_X_become rfl rfl c_X_become11 rfl rfl rfl rfl rfl rfl rfl rfl ?_
          rintro τ2 ⟨q1, q2, q3, q4, q5⟩
          exact rest τ2 q1 (q2.trans y0) (q3.trans y1) (q4.trans y2) q5
        · refine hG.lda rfl 12 rfl rfl rfl (Or.inl rfl) rfl (by decide) rfl ?_
          refine hG.cVv lk_W_252 mi_X_become rfl rfl c_X_become12 rfl rfl rfl rfl rfl rfl rfl rfl ?_
          rintro τ2 ⟨q1, q2, q3, q4, q5⟩
          exact rest τ2 q1 (q2.trans y0) (q3.trans y1) (q4.trans y2) q5
        · refine hG.lda rfl 13 rfl rfl rfl (Or.inl rfl) rfl (by decide) rfl ?_
          refine hG.cVv lk_W_252 mi_X_become rfl rfl c_X_become13 rfl rfl rfl rfl rfl rfl rfl rfl ?_
          rintro τ2 ⟨q1, q2, q3, q4, q5⟩
          exact rest τ2 q1 (q2.trans y0) (q3.trans y1) (q4.trans y2) q5
      · rw [e11] at k2
        have htl : t = 14 := by
          have : ¬ t < 14 := fun h => k2 (show nI t < nI 14 from nI_lt h (by omega))
          omega
        refine hG.rt hR rfl rfl rfl rfl ?_
        refine ⟨e64, .inr (k, oo, lv), hres, (fun _ e => by cases e), fun k' oo' lv' e => ?_⟩
        cases e
        exact ⟨fun _ => ⟨rfl, hs1⟩, fun q => absurd htl q⟩
    · exact absurd k1 (by decide)
end
