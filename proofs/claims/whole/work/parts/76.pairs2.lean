/-! the other pairs: tape, sheets, slots, what waits, images -/
section
variable {σ σ1 σ2 : Sg} {n c t y : Nat} {f g : Nat → Int32}
theorem TXS.fr (h : TXS σ f t) (h1 : ∀ i, i < t → σ2 (4 + 2 * i) = σ (4 + 2 * i) ∧ σ2 (5 + 2 * i) = σ (5 + 2 * i)) : TXS σ2 f t := fun i ky ln hi hx => by
  unfold TxR
  rw [(h1 i hi).1, (h1 i hi).2]
  exact h i ky ln hi hx
theorem Im.fr {cs : List Nat} (h : Im σ t) (hs : Sm cs σ σ2) (h1 : ∀ k, 4 ≤ k → k < 32 → k ∉ cs) (h2 : ∀ k, 41 ≤ k → k < 49 → k ∉ cs) (h97 : 97 ∉ cs) (h0 : σ2 0 4 = σ 0 4) (h95 : σ2 95 3 = σ 95 3) : Im σ2 t := by
  obtain ⟨b, i1, i2, i3⟩ := h
  refine ⟨b, h0.trans i1, h95.trans i2, fun hb => ?_⟩
  obtain ⟨n', c', t', y', a1, a2⟩ := i3 hb
  rw [hs 97 h97]
  exact ⟨n', c', t', y', a1.sm hs h1 h2, a2⟩
theorem Tp.fr (h : Tp σ) (h0 : σ2 64 1 = σ 64 1) (h1 : σ2 95 11 = σ 95 11) (h2 : σ2 65 = σ 65) (h3 : σ2 103 = σ 103) : Tp σ2 := by
  obtain ⟨T, a1, a2, a3, a4⟩ := h
  exact ⟨T, a1, h0.trans a2, h1.trans a3, by rw [h2, h3]; exact a4⟩
theorem Shs.fr {cs : List Nat} (h : Shs σ) (hs : Sm cs σ σ2) (h1 : ∀ k, 70 ≤ k → k < 78 → k ∉ cs) (h2 : 111 ∉ cs) (h3 : 112 ∉ cs) (h4 : 113 ∉ cs) : Shs σ2 := by
  unfold Shs
  rw [hs 111 h2, hs 112 h3, hs 113 h4]
  exact ⟨h.1, h.2.sm hs h1⟩
theorem Sls.fr {cs : List Nat} (h : Sls σ) (hs : Sm cs σ σ2) (h1 : ∀ k, 78 ≤ k → k < 93 → k ∉ cs) (h2 : 114 ∉ cs) (h3 : 115 ∉ cs) (h4 : 116 ∉ cs) (h5 : 117 ∉ cs) : Sls σ2 := by
  unfold Sls
  rw [hs 114 h2, hs 115 h3, hs 116 h4, hs 117 h5]
  exact ⟨h.1, h.2.sm hs h1⟩
theorem Wt.fr (h : Wt σ) (h0 : σ2 0 10 = σ 0 10) (h1 : σ2 95 37 = σ 95 37) (h2 : σ2 93 = σ 93) (h3 : σ2 119 = σ 119) : Wt σ2 := by
  obtain ⟨W, a1, a2, a3, a4⟩ := h
  exact ⟨W, a1, h0.trans a2, h1.trans a3, by rw [h2, h3]; exact a4⟩
theorem KyOk.fr (h : KyOk σ) (h1 : σ2 104 = σ 104) (h2 : σ2 105 = σ 105) : KyOk σ2 := by
  unfold KyOk
  rw [h1, h2]; exact h
theorem SV.fr {cs : List Nat} (h : SV σ (σ 96) n c t y) (hs : Sm cs σ σ2) (h1 : ∀ k, 4 ≤ k → k < 40 → k ∉ cs) (h96 : 96 ∉ cs) : SV σ2 (σ2 96) n c t y := by
  rw [hs 96 h96]; exact h.sm hs h1
variable {l : Launch} {θ : Th}
theorem pr_trim (v : Int32) : PairOk l θ m_W_trim m_M_trim [.inl v] := by
  intro σ hC
  obtain ⟨n, c, t, y, hS, hI, ⟨T, t1, t2, t3, t4⟩, hsh, hsl, hW, hK⟩ := id hC
  refine ⟨5, _, by omega, o_W_trim v T t2 t1, ?_⟩
  rintro r1 σ1 ⟨a1, a2⟩
  cases hb : inB v 0 (nI T) with
  | false =>
    obtain ⟨e1, rfl⟩ := a1 hb
    refine ⟨5, _, by omega, o_M_trim v T t3 t1, ?_⟩
    rintro r2 σ2 ⟨b1, b2⟩
    obtain ⟨e2, rfl⟩ := b1 hb
    exact ⟨e1.trans e2.symm, hC⟩
  | true =>
    obtain ⟨e1, e2⟩ := a2 hb
    obtain ⟨k, hk, rfl⟩ := (inB_nI (by omega)).mp hb
    refine ⟨5, _, by omega, o_M_trim (nI k) T (by rw [e2, up_c _ _ _ _ (by decide)]; exact t3) t1, ?_⟩
    rintro r2 σ2 ⟨b1, b2⟩
    obtain ⟨e3, e4⟩ := b2 hb
    rw [e2] at e4
    have hs : Sm [64, 95] σ σ2 := by rw [e4]; exact (Sm.rf.up (by decide)).up (by decide)
    refine ⟨e1.trans e3.symm, n, c, t, y, hS.fr hs (fun k h1 h2 => by simp; omega) (by decide), hI.fr hs (fun k h1 h2 => by simp; omega) (fun k h1 h2 => by simp; omega) (by decide) ?_ ?_, ⟨k, by omega, ?_, ?_, ?_⟩, hsh.fr hs (fun k h1 h2 => by simp; omega) (by decide) (by decide) (by decide), hsl.fr hs (fun k h1 h2 => by simp; omega) (by decide) (by decide) (by decide) (by decide), hW.fr ?_ ?_ (hs 93 (by decide)) (hs 119 (by decide)), hK.fr (hs 104 (by decide)) (hs 105 (by decide))⟩
    · rw [hs 0 (by decide)]
    · rw [e4, up_j _ _ _ _ (by decide), up_c _ _ _ _ (by decide)]
    · rw [e4, up_c _ _ _ _ (by decide), up_self]
    · rw [e4, up_self]
    · rw [hs 65 (by decide), hs 103 (by decide)]; exact t4
    · rw [hs 0 (by decide)]
    · rw [e4, up_j _ _ _ _ (by decide), up_c _ _ _ _ (by decide)]
theorem pr_feed (a b cc : Int32) : PairOk l θ m_W_feed m_M_feed [.inl a, .inl b, .inl cc] := by
  intro σ hC
  obtain ⟨n, c, t, y, hS, hI, ⟨T, t1, t2, t3, t4⟩, hsh, hsl, hW, hK⟩ := id hC
  refine ⟨5, _, by omega, o_W_feed a b cc T t2 t1, ?_⟩
  rintro r1 σ1 ⟨a1, a2⟩
  by_cases hb : 96 < T + 12
  · obtain ⟨e1, rfl⟩ := a1 hb
    refine ⟨5, _, by omega, o_M_feed a b cc T t3 t1, ?_⟩
    rintro r2 σ2 ⟨b1, b2⟩
    obtain ⟨e2, rfl⟩ := b1 hb
    exact ⟨e1.trans e2.symm, hC⟩
  · obtain ⟨e1, s1, s2, s3, s4⟩ := a2 hb
    refine ⟨5, _, by omega, o_M_feed a b cc T (by rw [s1 95 (by decide)]; exact t3) t1, ?_⟩
    rintro r2 σ2 ⟨b1, b2⟩
    obtain ⟨e3, e4⟩ := b2 hb
    have hs2 : Sm [95, 103] σ1 σ2 := by rw [e4]; exact (Sm.rf.upc (by decide)).up (by decide)
    have hs : Sm [64, 65, 95, 103] σ σ2 := (s1.mono (by decide)).tr (hs2.mono (by decide))
    refine ⟨e1.trans e3.symm, n, c, t, y, hS.fr hs (fun k h1 h2 => by simp; omega) (by decide), hI.fr hs (fun k h1 h2 => by simp; omega) (fun k h1 h2 => by simp; omega) (by decide) ?_ ?_, ⟨T + 12, by omega, ?_, ?_, ?_⟩, hsh.fr hs (fun k h1 h2 => by simp; omega) (by decide) (by decide) (by decide), hsl.fr hs (fun k h1 h2 => by simp; omega) (by decide) (by decide) (by decide) (by decide), hW.fr ?_ ?_ (hs 93 (by decide)) (hs 119 (by decide)), hK.fr (hs 104 (by decide)) (hs 105 (by decide))⟩
    · rw [hs 0 (by decide)]
    · rw [e4, up_j _ _ _ _ (by decide), upc_c _ _ _ (by decide), s1 95 (by decide)]
    · rw [hs2 64 (by decide)]; exact s3
    · rw [e4, up_self]
    · rw [hs2 65 (by decide), s4, e4, up_c _ _ _ _ (by decide), upc_same, s1 103 (by decide), t4]
    · rw [hs 0 (by decide)]
    · rw [e4, up_j _ _ _ _ (by decide), upc_c _ _ _ (by decide), s1 95 (by decide)]
theorem pr_text : PairOk l θ m_W_text m_M_text [] := by
  intro σ hC
  obtain ⟨n, c, t, y, hS, hI, ⟨T, t1, t2, t3, t4⟩, hsh, hsl, hW, hK⟩ := id hC
  refine ⟨82, _, by omega, o_W_text hS t2 t1, ?_⟩
  rintro r1 σ1 ⟨e64, res, hres, p1, p2⟩
  -- the end, where what is now is unchanged
  have fin : ∀ σ2, Sm [64, 66, 67] σ σ1 → Sm [95, 96, 106, 107, 108] σ1 σ2 → F95 [11, 12, 13, 14, 15, 16, 17, 21, 22, 24] σ1 σ2 → σ2 95 11 = 0 → σ2 96 = σ1 96 → Cor σ2 := by
    intro σ2 hs1 hs2 hf h11 h96
    have hs : Sm [64, 66, 67, 95, 106, 107, 108] σ σ2 := (hs1.mono (by decide)).tr ((Sm.fix 96 (hs2.mono (ds := [96, 95, 106, 107, 108]) (by decide)) h96).mono (by decide))
    refine ⟨n, c, t, y, hS.fr hs (fun k h1 h2 => by simp; omega) (by decide), hI.fr hs (fun k h1 h2 => by simp; omega) (fun k h1 h2 => by simp; omega) (by decide) ?_ ?_, ⟨0, by omega, ?_, h11, ?_⟩, hsh.fr hs (fun k h1 h2 => by simp; omega) (by decide) (by decide) (by decide), hsl.fr hs (fun k h1 h2 => by simp; omega) (by decide) (by decide) (by decide) (by decide), hW.fr ?_ ?_ (hs 93 (by decide)) (hs 119 (by decide)), hK.fr (hs 104 (by decide)) (hs 105 (by decide))⟩
    · rw [hs 0 (by decide)]
    · rw [hf 3 (by decide), hs1 95 (by decide)]
    · rw [hs2 64 (by decide)]; exact e64
    · rw [hs 65 (by decide), hs 103 (by decide)]; exact t4
    · rw [hs 0 (by decide)]
    · rw [hf 37 (by decide), hs1 95 (by decide)]
  have refc : ∀ cs : List Nat, Sm cs σ σ1 → (∀ k, 95 ≤ k → k < 120 → k ∉ cs) → Ci l θ 6 m_M_text [.inr 95] σ1 (fun r σ' => Sm [95, 96, 106, 107, 108] σ1 σ' ∧ F95 [11, 12, 13, 14, 15, 16, 17, 21, 22, 24] σ1 σ' ∧ σ' 95 11 = 0 ∧ (∀ s, res = .inl s → r = -100 - nI s ∧ σ' 96 = σ1 96) ∧ (∀ k oo lv, res = .inr (k, oo, lv) → (t = 14 → r = -1000000003 ∧ σ' 96 = σ1 96) ∧ (t ≠ 14 → r = nI t ∧ σ' 96 = txtF (σ1 96) t k oo lv))) := by
    intro cs hs1 hc
    have e96 : σ1 96 = σ 96 := hs1 96 (hc 96 (by omega) (by omega))
    refine Ci.imp (o_M_text (n := n) (c := c) (t := t) (y := y) (T := T) (by rw [e96]; exact hS.fo) (hK.fr (hs1 104 (hc 104 (by omega) (by omega))) (hs1 105 (hc 105 (by omega) (by omega)))) (by rw [hs1 95 (hc 95 (by omega) (by omega))]; exact t3) t1) ?_
    rintro r σ' ⟨b1, b2, b3, res2, hr2, b4, b5⟩
    rw [hs1 103 (hc 103 (by omega) (by omega)), ← t4] at hr2
    have : res2 = res := PrM_det hr2 hres
    subst this
    exact ⟨b1, b2, b3, b4, fun k oo lv e => (b5 k oo lv e).2.2.2⟩
  cases res with
  | inl s =>
    obtain ⟨e1, hs1⟩ := p1 s rfl
    refine ⟨6, _, by omega, refc _ hs1 (fun k h1 h2 => by simp; omega), ?_⟩
    rintro r2 σ2 ⟨b1, b2, b3, b4, b5⟩
    obtain ⟨e2, e3⟩ := b4 s rfl
    exact ⟨e1.trans e2.symm, fin σ2 hs1 b1 b2 b3 e3⟩
  | inr q =>
    obtain ⟨k, oo, lv⟩ := q
    obtain ⟨c1, c2⟩ := p2 k oo lv rfl
    by_cases h14 : t = 14
    · obtain ⟨e1, hs1⟩ := c1 h14
      refine ⟨6, _, by omega, refc _ hs1 (fun k h1 h2 => by simp; omega), ?_⟩
      rintro r2 σ2 ⟨b1, b2, b3, b4, b5⟩
      obtain ⟨e2, e3⟩ := (b5 k oo lv rfl).1 h14
      exact ⟨e1.trans e2.symm, fin σ2 hs1 b1 b2 b3 e3⟩
    · obtain ⟨e1, hSn, hs1⟩ := c2 h14
      have ht14 := hS.t14
      refine ⟨6, _, by omega, refc _ hs1 (fun k h1 h2 => by simp; omega), ?_⟩
      rintro r2 σ2 ⟨b1, b2, b3, b4, b5⟩
      obtain ⟨e2, e3⟩ := (b5 k oo lv rfl).2 h14
      have e96 : σ1 96 = σ 96 := hs1 96 (by simp; omega)
      rw [e96] at e3
      have hs : Sm [3, 4 + 2 * t, 5 + 2 * t, 32, 39, 64, 66, 67, 95, 96, 106, 107, 108] σ σ2 := (hs1.mono (by simp)).tr (b1.mono (by simp))
      refine ⟨e1.trans e2.symm, n, c, t + 1, y, ?_, ?_, ⟨0, by omega, ?_, b3, ?_⟩, hsh.fr hs (fun k h1 h2 => by simp; omega) (by simp; omega) (by simp; omega) (by simp; omega), hsl.fr hs (fun k h1 h2 => by simp; omega) (by simp; omega) (by simp; omega) (by simp; omega) (by simp; omega), hW.fr ?_ ?_ (hs 93 (by simp; omega)) (hs 119 (by simp; omega)), hK.fr (hs 104 (by simp; omega)) (hs 105 (by simp; omega))⟩
      · rw [e3]; exact hSn.sm b1 (fun k h1 h2 => by simp; omega)
      · obtain ⟨b, i1, i2, i3⟩ := hI
        refine ⟨b, by rw [hs 0 (by simp; omega)]; exact i1, by rw [b2 3 (by decide), hs1 95 (by simp; omega)]; exact i2, fun hb => ?_⟩
        obtain ⟨n', c', t', y', ⟨v1, v2, v3, v4, v5⟩, a2⟩ := i3 hb
        rw [hs 97 (by simp; omega)]
        exact ⟨n', c', t', y', ⟨v1, v2, v3, v4.sm hs (fun k hk => by simp; omega), v5.fr (fun i hi => ⟨hs _ (by simp; omega), hs _ (by simp; omega)⟩)⟩, by omega⟩
      · rw [b1 64 (by decide)]; exact e64
      · rw [hs 65 (by simp; omega), hs 103 (by simp; omega)]; exact t4
      · rw [hs 0 (by simp; omega)]
      · rw [b2 37 (by decide), hs1 95 (by simp; omega)]
theorem pr_tell (v : Int32) : PairOk l θ m_W_tell m_M_tell [.inl v] := by
  intro σ hC
  obtain ⟨n, c, t, y, hS, hI, hT, hsh, hsl, ⟨W, w1, w2, w3, w4⟩, hK⟩ := id hC
  refine ⟨5, _, by omega, o_W_tell v W w2 w1, ?_⟩
  rintro r1 σ1 ⟨a1, a2⟩
  by_cases hb : W = 60
  · obtain ⟨e1, rfl⟩ := a1 hb
    refine ⟨5, _, by omega, o_M_tell v W w3 w1, ?_⟩
    rintro r2 σ2 ⟨b1, b2⟩
    obtain ⟨e2, rfl⟩ := b1 hb
    exact ⟨e1.trans e2.symm, hC⟩
  · obtain ⟨e1, e2⟩ := a2 hb
    refine ⟨5, _, by omega, o_M_tell v W (by rw [e2, up_c _ _ _ _ (by decide), up_c _ _ _ _ (by decide)]; exact w3) w1, ?_⟩
    rintro r2 σ2 ⟨b1, b2⟩
    obtain ⟨e3, e4⟩ := b2 hb
    rw [e2] at e4
    have hs : Sm [0, 93, 95, 119] σ σ2 := by rw [e4]; exact (((Sm.rf.up (by decide)).up (by decide)).up (by decide)).up (by decide)
    refine ⟨e1.trans e3.symm, n, c, t, y, hS.fr hs (fun k h1 h2 => by simp; omega) (by decide), hI.fr hs (fun k h1 h2 => by simp; omega) (fun k h1 h2 => by simp; omega) (by decide) ?_ ?_, hT.fr ?_ ?_ (hs 65 (by decide)) (hs 103 (by decide)), hsh.fr hs (fun k h1 h2 => by simp; omega) (by decide) (by decide) (by decide), hsl.fr hs (fun k h1 h2 => by simp; omega) (by decide) (by decide) (by decide) (by decide), ⟨W + 1, by omega, ?_, ?_, ?_⟩, hK.fr (hs 104 (by decide)) (hs 105 (by decide))⟩
    · rw [e4, up_c _ _ _ _ (by decide), up_c _ _ _ _ (by decide), up_j _ _ _ _ (by decide), up_c _ _ _ _ (by decide)]
    · rw [e4, up_j _ _ _ _ (by decide), up_c _ _ _ _ (by decide), up_c _ _ _ _ (by decide), up_c _ _ _ _ (by decide)]
    · rw [hs 64 (by decide)]
    · rw [e4, up_j _ _ _ _ (by decide), up_c _ _ _ _ (by decide), up_c _ _ _ _ (by decide), up_c _ _ _ _ (by decide)]
    · rw [e4, up_c _ _ _ _ (by decide), up_c _ _ _ _ (by decide), up_self]
    · rw [e4, up_self]
    · rw [e4, up_c _ _ _ _ (show 93 ≠ 95 by decide), up_c _ _ _ _ (show 93 ≠ 119 by decide), up_c _ _ _ _ (show 93 ≠ 0 by decide), up_same, up_c _ _ _ _ (show 119 ≠ 95 by decide), up_same, up_c _ _ _ _ (show 119 ≠ 0 by decide), up_c _ _ _ _ (show 119 ≠ 93 by decide), w4]
theorem pr_keep : PairOk l θ m_W_keep m_M_keep [] := by
  intro σ hC
  obtain ⟨n, c, t, y, hS, hI, hT, hsh, hsl, hW, hK⟩ := id hC
  refine ⟨5, _, by omega, o_W_keep hS, ?_⟩
  rintro r1 σ1 ⟨e1, s1, s2, s3, s4⟩
  have e96 : σ1 96 = σ 96 := s1 96 (by decide)
  refine ⟨5, _, by omega, o_M_keep (n := n) (c := c) (t := t) (y := y) (by rw [e96]; exact hS.fo), ?_⟩
  rintro r2 σ2 ⟨e3, e4⟩
  have hs2 : Sm [95, 97] σ1 σ2 := by rw [e4]; exact (Sm.rf.upc (by decide)).up (by decide)
  have hs : Sm [0, 41, 42, 43, 44, 45, 46, 47, 48, 95, 97] σ σ2 := (s1.mono (by decide)).tr (hs2.mono (by decide))
  have e97 : σ2 97 = mix (σ 96) (σ1 97) := by rw [e4, up_c _ _ _ _ (by decide), upc_same, e96]
  have hm : ∀ k, k < 1430 → σ2 97 k = σ 96 k := fun k hk => by rw [e97, mix_lt hk]
  have e95 : ∀ j, j ≠ 3 → σ2 95 j = σ 95 j := fun j hj => by rw [e4, up_j _ _ _ _ hj, upc_c _ _ _ (by decide), s1 95 (by decide)]
  have e0 : ∀ j, j ≠ 4 → σ2 0 j = σ 0 j := fun j hj => by rw [hs2 0 (by decide)]; exact s4 j hj
  refine ⟨e1.trans e3.symm, n, c, t, y, hS.fr hs (fun k h1 h2 => by simp; omega) (by decide), ⟨true, ?_, ?_, fun _ => ⟨n, c, t, y, ⟨FOk_congr hS.fo hm, hS.y9, KOk_congr hS.ko hS.n10 hm, RV_cg (s2.sm hs2 (fun k hk => by simp; omega)) hS.fo hm, TXS_cg (hS.tx.sm hs hS.t14 (fun k h1 h2 => by simp; omega)) hS.t14 hm⟩, Nat.le_refl _⟩⟩, hT.fr ?_ (e95 11 (by decide)) (hs 65 (by decide)) (hs 103 (by decide)), hsh.fr hs (fun k h1 h2 => by simp; omega) (by decide) (by decide) (by decide), hsl.fr hs (fun k h1 h2 => by simp; omega) (by decide) (by decide) (by decide) (by decide), hW.fr (e0 10 (by decide)) (e95 37 (by decide)) (hs 93 (by decide)) (hs 119 (by decide)), hK.fr (hs 104 (by decide)) (hs 105 (by decide))⟩
  · rw [hs2 0 (by decide)]; exact s3
  · rw [e4, up_self]; rfl
  · rw [hs 64 (by decide)]
theorem pr_back : PairOk l θ m_W_back m_M_back [] := by
  intro σ hC
  obtain ⟨n, c, t, y, hS, hI, hT, hsh, hsl, hW, hK⟩ := id hC
  obtain ⟨h, i1, i2, i3⟩ := id hI
  cases h with
  | false =>
    refine ⟨5, _, by omega, o_W_back (n := 0) (c := 0) (t := 0) (f := σ 96) false i1 (fun q => by cases q), ?_⟩
    rintro r1 σ1 ⟨a1, a2⟩
    obtain ⟨e1, rfl⟩ := a1 rfl
    refine ⟨5, _, by omega, o_M_back false i2, ?_⟩
    rintro r2 σ2 ⟨b1, b2⟩
    obtain ⟨e2, rfl⟩ := b1 rfl
    exact ⟨e1.trans e2.symm, hC⟩
  | true =>
    obtain ⟨n', c', t', y', ⟨v1, v2, v3, v4, v5⟩, hle⟩ := i3 rfl
    refine ⟨5, _, by omega, o_W_back true i1 (fun _ => ⟨v1.2.1, v1.2.2.2.1, v4⟩), ?_⟩
    rintro r1 σ1 ⟨a1, a2⟩
    obtain ⟨e1, s1, s2⟩ := a2 rfl
    refine ⟨5, _, by omega, o_M_back true (by rw [s1 95 (by decide)]; exact i2), ?_⟩
    rintro r2 σ2 ⟨b1, b2⟩
    obtain ⟨e2, e4⟩ := b2 rfl
    have e97 : σ1 97 = σ 97 := s1 97 (by decide)
    have hs2 : Sm [96] σ1 σ2 := by rw [e4]; exact Sm.rf.upc (by decide)
    have hs : Sm [32, 33, 34, 35, 36, 37, 38, 39, 96] σ σ2 := (s1.mono (by decide)).tr (hs2.mono (by decide))
    have hm : ∀ k, k < 1430 → σ2 96 k = σ 97 k := fun k hk => by rw [e4, upc_same, mix_lt hk, e97]
    refine ⟨by rw [e1, e2, e97]; exact v1.1.symm, n', c', t', y', ⟨FOk_congr v1 hm, v2, KOk_congr v3 v1.2.1 hm, RV_cg (s2.sm hs2 (fun k hk => by simp; omega)) v1 hm, TXS_cg (v5.sm hs v1.2.2.2.2.2.1 (fun k h1 h2 => by simp; omega)) v1.2.2.2.2.2.1 hm⟩, ⟨true, ?_, ?_, fun _ => ?_⟩, hT.fr ?_ ?_ (hs 65 (by decide)) (hs 103 (by decide)), hsh.fr hs (fun k h1 h2 => by simp; omega) (by decide) (by decide) (by decide), hsl.fr hs (fun k h1 h2 => by simp; omega) (by decide) (by decide) (by decide) (by decide), hW.fr ?_ ?_ (hs 93 (by decide)) (hs 119 (by decide)), hK.fr (hs 104 (by decide)) (hs 105 (by decide))⟩
    · rw [hs 0 (by decide)]; exact i1
    · rw [hs 95 (by decide)]; exact i2
    · rw [hs 97 (by decide)]
      exact ⟨n', c', t', y', IV.sm ⟨v1, v2, v3, v4, v5⟩ hs (fun k h1 h2 => by simp; omega) (fun k h1 h2 => by simp; omega), Nat.le_refl _⟩
    · rw [hs 64 (by decide)]
    · rw [hs 95 (by decide)]
    · rw [hs 0 (by decide)]
    · rw [hs 95 (by decide)]
theorem pr_check (k : Int32) : PairOk l θ m_W_check m_M_check [.inl k] := by
  intro σ hC
  obtain ⟨n, c, t, y, hS, hI, hT, hsh, hsl, ⟨W, w1, w2, w3, w4⟩, hK⟩ := id hC
  obtain ⟨h, i1, i2, i3⟩ := id hI
  have hm : ∀ k, k < 1430 → mix (σ 97) (σ 96) k = σ 97 k := fun k hk => mix_lt hk
  obtain ⟨n', c', t', y', hIV⟩ : ∃ n' c' t' y', h = true → IV σ (σ 97) n' c' t' y' := by
    cases h with
    | false => exact ⟨0, 0, 0, 0, fun q => by cases q⟩
    | true =>
      obtain ⟨n', c', t', y', a1, -⟩ := i3 rfl
      exact ⟨n', c', t', y', fun _ => a1⟩
  refine ⟨6, _, by omega, o_W_check (n := n') (c := c') (t := t') (y := y') (f := mix (σ 97) (σ 96)) k W h w2 w1 i1 (fun hh => by
    obtain ⟨v1, v2, v3, v4, v5⟩ := hIV hh
    exact ⟨FOk_congr v1 hm, v2, RV_cg v4 v1 hm, TXS_cg v5 v1.2.2.2.2.2.1 hm⟩), ?_⟩
  rintro r1 σ1 ⟨e1, q1⟩
  have s0 : Sm [0] σ (up σ 0 10 0) := Sm.rf.up (by decide)
  have hs1 : Sm [0, 3, 50, 51, 52, 53, 54, 55, 56, 57, 58] σ σ1 := (s0.mono (by decide)).tr (q1.mono (by decide))
  refine ⟨7, _, by omega, o_M_check (n := n') (c := c') (t := t') (y := y') k W h (by rw [hs1 95 (by decide)]; exact w3) w1 (by rw [hs1 95 (by decide)]; exact i2) (fun hh => by
    rw [hs1 97 (by decide)]
    exact ⟨(hIV hh).1, (hIV hh).2.1⟩), ?_⟩
  rintro r2 σ2 ⟨e3, q2⟩
  rw [hs1 119 (by decide), hs1 97 (by decide), hs1 96 (by decide), ← w4] at e3
  have s9 : Sm [95] σ1 (up σ1 95 37 0) := Sm.rf.up (by decide)
  have hs2 : Sm [95, 98, 99, 109, 110] σ1 σ2 := (s9.mono (by decide)).tr (q2.mono (by decide))
  have hs : Sm [0, 3, 50, 51, 52, 53, 54, 55, 56, 57, 58, 95, 98, 99, 109, 110] σ σ2 := (hs1.mono (by decide)).tr (hs2.mono (by decide))
  have e0 : ∀ j, j ≠ 10 → σ2 0 j = σ 0 j := fun j hj => by rw [hs2 0 (by decide), q1 0 (by decide), up_j _ _ _ _ hj]
  have e95 : ∀ j, j ≠ 37 → σ2 95 j = σ 95 j := fun j hj => by rw [q2 95 (by decide), up_j _ _ _ _ hj, hs1 95 (by decide)]
  refine ⟨e1.trans e3.symm, n, c, t, y, hS.fr hs (fun k h1 h2 => by simp; omega) (by decide), hI.fr hs (fun k h1 h2 => by simp; omega) (fun k h1 h2 => by simp; omega) (by decide) (e0 4 (by decide)) (e95 3 (by decide)), hT.fr ?_ (e95 11 (by decide)) (hs 65 (by decide)) (hs 103 (by decide)), hsh.fr hs (fun k h1 h2 => by simp; omega) (by decide) (by decide) (by decide), hsl.fr hs (fun k h1 h2 => by simp; omega) (by decide) (by decide) (by decide) (by decide), ⟨0, by omega, ?_, ?_, ?_⟩, hK.fr (hs 104 (by decide)) (hs 105 (by decide))⟩
  · rw [hs 64 (by decide)]
  · rw [hs2 0 (by decide), q1 0 (by decide), up_self]; rfl
  · rw [q2 95 (by decide), up_self]; rfl
  · rw [hs 93 (by decide), hs 119 (by decide)]; exact w4
theorem pr_sheet (s t' nn : Int32) : PairOk l θ m_W_sheet m_M_sheet [.inl s, .inl t', .inl nn] := by
  intro σ hC
  obtain ⟨n, c, t, y, hS, hI, hT, ⟨hso, hsh⟩, hsl, hW, hK⟩ := id hC
  refine ⟨5, _, by omega, o_W_sheet s t' nn hsh, ?_⟩
  rintro r1 σ1 ⟨a1, a2, a3⟩
  cases hg : shtG s t' nn with
  | false =>
    obtain ⟨e1, rfl⟩ := a1 hg
    refine ⟨5, _, by omega, o_M_sheet s t' nn, ?_⟩
    rintro r2 σ2 ⟨b1, b2, b3⟩
    obtain ⟨e2, rfl⟩ := b1 hg
    exact ⟨e1.trans e2.symm, hC⟩
  | true =>
    cases hz : shtZ t' nn with
    | true =>
      obtain ⟨e1, rfl⟩ := a2 hg hz
      refine ⟨5, _, by omega, o_M_sheet s t' nn, ?_⟩
      rintro r2 σ2 ⟨b1, b2, b3⟩
      obtain ⟨e2, rfl⟩ := b2 hg hz
      exact ⟨e1.trans e2.symm, hC⟩
    | false =>
      obtain ⟨e1, s1, s2⟩ := a3 hg hz
      refine ⟨5, _, by omega, o_M_sheet s t' nn, ?_⟩
      rintro r2 σ2 ⟨b1, b2, b3⟩
      obtain ⟨e2, e4⟩ := b3 hg hz
      have hs2 : Sm [111, 112, 113] σ1 σ2 := by rw [e4]; exact ((Sm.rf.up (by decide)).up (by decide)).upc (by decide)
      have hs : Sm [70, 71, 72, 73, 74, 75, 76, 77, 111, 112, 113] σ σ2 := (s1.mono (by decide)).tr (hs2.mono (by decide))
      have e111 : σ2 111 = upd (σ 111) s.toNatClampNeg t' := by rw [e4, upc_c _ _ _ (by decide), up_c _ _ _ _ (by decide), up_same, s1 111 (by decide)]
      have e112 : σ2 112 = upd (σ 112) s.toNatClampNeg (if t' < 0 then 0 else nn) := by rw [e4, upc_c _ _ _ (by decide), up_same, up_c _ _ _ _ (by decide), s1 112 (by decide)]
      have e113 : σ2 113 = zr24 (σ 113) s.toNatClampNeg := by rw [e4, upc_same, s1 113 (by decide)]
      have hn : (t' = -1 ∨ t' = 0 ∨ t' = 1) ∧ ∃ k, k ≤ 24 ∧ (if t' < 0 then 0 else nn) = nI k := by
        simp only [shtG, Bool.and_eq_true, Bool.not_eq_true', Bool.and_eq_false_iff, decide_eq_false_iff_not] at hg
        simp only [shtZ, Bool.and_eq_false_iff, decide_eq_false_iff_not] at hz
        obtain ⟨⟨-, g2⟩, g3⟩ := hg
        simp only [inB, Bool.and_eq_true, decide_eq_true_eq] at g2
        have u1 := Int32.le_iff_toInt_le.mp g2.1
        have u2 := Int32.le_iff_toInt_le.mp g2.2
        have e1 : (-1 : Int32).toInt = -1 := by decide
        have e2 : (1 : Int32).toInt = 1 := by decide
        rw [e1] at u1; rw [e2] at u2
        have hc : t' = -1 ∨ t' = 0 ∨ t' = 1 := by
          rcases (by omega : t'.toInt = -1 ∨ t'.toInt = 0 ∨ t'.toInt = 1) with e | e | e
          · exact Or.inl (Int32.toInt_inj.mp (e.trans e1.symm))
          · exact Or.inr (Or.inl (Int32.toInt_inj.mp e))
          · exact Or.inr (Or.inr (Int32.toInt_inj.mp (e.trans e2.symm)))
        refine ⟨hc, ?_⟩
        by_cases h0 : t' < 0
        · rw [if_pos h0]; exact ⟨0, by omega, rfl⟩
        · rw [if_neg h0]
          have h0' : 0 ≤ t' := i32_nlt.mp h0
          have g3 : ¬ 24 < nn := by rcases g3 with q | q; exact absurd h0' q; exact q
          have hz : ¬ nn < 0 := by rcases hz with q | q; exact absurd h0' q; exact q
          obtain ⟨k, hk, rfl⟩ := nI_of hz
          exact ⟨k, Nat.not_lt.mp (fun q => g3 (show nI 24 < nI k from nI_lt q (by omega))), rfl⟩
      refine ⟨e1.trans e2.symm, n, c, t, y, hS.fr hs (fun k h1 h2 => by simp; omega) (by decide), hI.fr hs (fun k h1 h2 => by simp; omega) (fun k h1 h2 => by simp; omega) (by decide) (by rw [hs 0 (by decide)]) (by rw [hs 95 (by decide)]), hT.fr (by rw [hs 64 (by decide)]) (by rw [hs 95 (by decide)]) (hs 65 (by decide)) (hs 103 (by decide)), ⟨?_, ?_⟩, hsl.fr hs (fun k h1 h2 => by simp; omega) (by decide) (by decide) (by decide) (by decide), hW.fr (by rw [hs 0 (by decide)]) (by rw [hs 95 (by decide)]) (hs 93 (by decide)) (hs 119 (by decide)), hK.fr (hs 104 (by decide)) (hs 105 (by decide))⟩
      · rw [e111, e112]
        intro q hq
        by_cases e : q = s.toNatClampNeg
        · rw [e, upd_same, upd_same]; exact hn
        · rw [upd_ne e, upd_ne e]; exact hso q hq
      · rw [e111, e112, e113]
        exact s2.sm hs2 (fun k h1 h2 => by simp; omega)
theorem pr_mark (s p v : Int32) : PairOk l θ m_W_mark m_M_mark [.inl s, .inl p, .inl v] := by
  intro σ hC
  obtain ⟨n, c, t, y, hS, hI, hT, ⟨hso, hsh⟩, hsl, hW, hK⟩ := id hC
  refine ⟨5, _, by omega, o_W_mark s p v hsh hso, ?_⟩
  rintro r1 σ1 ⟨e1, s1, s2⟩
  have f111 : σ1 111 = σ 111 := s1 111 (by decide)
  have f112 : σ1 112 = σ 112 := s1 112 (by decide)
  have f113 : σ1 113 = σ 113 := s1 113 (by decide)
  refine ⟨5, _, by omega, o_M_mark s p v (by rw [f111, f112]; exact hso), ?_⟩
  rintro r2 σ2 ⟨e3, e4⟩
  have q2 : Sm [113, 118] σ1 σ2 := by rw [e4]; exact Sm.rf.upc (by decide)
  have e113 : σ2 113 = (mrkF (σ1 111) (σ1 112) (σ1 113) s p v).2 := by rw [e4, upc_same]
  rw [f111, f112, f113] at e3 e113
  have hs : Sm [71, 73, 75, 77, 113, 118] σ σ2 := (s1.mono (by decide)).tr (q2.mono (by decide))
  refine ⟨e1.trans e3.symm, n, c, t, y, hS.fr hs (fun k h1 h2 => by simp; omega) (by decide), hI.fr hs (fun k h1 h2 => by simp; omega) (fun k h1 h2 => by simp; omega) (by decide) (by rw [hs 0 (by decide)]) (by rw [hs 95 (by decide)]), hT.fr (by rw [hs 64 (by decide)]) (by rw [hs 95 (by decide)]) (hs 65 (by decide)) (hs 103 (by decide)), ⟨?_, ?_⟩, hsl.fr hs (fun k h1 h2 => by simp; omega) (by decide) (by decide) (by decide) (by decide), hW.fr (by rw [hs 0 (by decide)]) (by rw [hs 95 (by decide)]) (hs 93 (by decide)) (hs 119 (by decide)), hK.fr (hs 104 (by decide)) (hs 105 (by decide))⟩
  · rw [hs 111 (by decide), hs 112 (by decide)]; exact hso
  · rw [hs 111 (by decide), hs 112 (by decide), e113]
    exact s2.sm q2 (fun k h1 h2 => by simp; omega)
theorem pr_copy (fr pl to at_ many : Int32) : PairOk l θ m_W_copy m_M_copy [.inl fr, .inl pl, .inl to, .inl at_, .inl many] := by
  intro σ hC
  obtain ⟨n, c, t, y, hS, hI, hT, ⟨hso, hsh⟩, hsl, hW, hK⟩ := id hC
  refine ⟨5, _, by omega, o_W_copy fr pl to at_ many hsh hso, ?_⟩
  rintro r1 σ1 ⟨e1, s1, s2⟩
  have f111 : σ1 111 = σ 111 := s1 111 (by decide)
  have f112 : σ1 112 = σ 112 := s1 112 (by decide)
  have f113 : σ1 113 = σ 113 := s1 113 (by decide)
  refine ⟨5, _, by omega, o_M_copy fr pl to at_ many (by rw [f111, f112]; exact hso), ?_⟩
  rintro r2 σ2 ⟨e3, e113, q2⟩
  skip
  skip
  rw [f111, f112, f113] at e3 e113
  have hs : Sm [71, 73, 75, 77, 113, 118] σ σ2 := (s1.mono (by decide)).tr (q2.mono (by decide))
  refine ⟨e1.trans e3.symm, n, c, t, y, hS.fr hs (fun k h1 h2 => by simp; omega) (by decide), hI.fr hs (fun k h1 h2 => by simp; omega) (fun k h1 h2 => by simp; omega) (by decide) (by rw [hs 0 (by decide)]) (by rw [hs 95 (by decide)]), hT.fr (by rw [hs 64 (by decide)]) (by rw [hs 95 (by decide)]) (hs 65 (by decide)) (hs 103 (by decide)), ⟨?_, ?_⟩, hsl.fr hs (fun k h1 h2 => by simp; omega) (by decide) (by decide) (by decide) (by decide), hW.fr (by rw [hs 0 (by decide)]) (by rw [hs 95 (by decide)]) (hs 93 (by decide)) (hs 119 (by decide)), hK.fr (hs 104 (by decide)) (hs 105 (by decide))⟩
  · rw [hs 111 (by decide), hs 112 (by decide)]; exact hso
  · rw [hs 111 (by decide), hs 112 (by decide), e113]
    exact s2.sm q2 (fun k h1 h2 => by simp; omega)
theorem pr_lay (s th k : Int32) : PairOk l θ m_W_lay m_M_lay [.inl s, .inl th, .inl k] := by
  intro σ hC
  obtain ⟨n, c, t, y, hS, hI, hT, ⟨hso, hsh⟩, ⟨hlo, hsl⟩, hW, hK⟩ := id hC
  refine ⟨5, _, by omega, o_W_lay s th k hS hsh hso hsl, ?_⟩
  rintro r1 σ1 ⟨a1, a2, a3⟩
  cases hg : layG s th k n with
  | false =>
    obtain ⟨e1, rfl⟩ := a1 hg
    refine ⟨5, _, by omega, o_M_lay s th k hS.fo, ?_⟩
    rintro r2 σ2 ⟨b1, b2, b3⟩
    obtain ⟨e2, rfl⟩ := b1 hg
    exact ⟨e1.trans e2.symm, hC⟩
  | true =>
    by_cases hz : th = 2 ∧ σ 111 k.toNatClampNeg < 0
    · obtain ⟨e1, rfl⟩ := a2 hg hz
      refine ⟨5, _, by omega, o_M_lay s th k hS.fo, ?_⟩
      rintro r2 σ2 ⟨b1, b2, b3⟩
      obtain ⟨e2, rfl⟩ := b2 hg hz
      exact ⟨e1.trans e2.symm, hC⟩
    · obtain ⟨e1, s1, s2⟩ := a3 hg hz
      have f96 : σ1 96 = σ 96 := s1 96 (by decide)
      have f111 : σ1 111 = σ 111 := s1 111 (by decide)
      have f112 : σ1 112 = σ 112 := s1 112 (by decide)
      have f113 : σ1 113 = σ 113 := s1 113 (by decide)
      have f114 : σ1 114 = σ 114 := s1 114 (by decide)
      have f115 : σ1 115 = σ 115 := s1 115 (by decide)
      have f116 : σ1 116 = σ 116 := s1 116 (by decide)
      have f117 : σ1 117 = σ 117 := s1 117 (by decide)
      refine ⟨5, _, by omega, o_M_lay (n := n) (c := c) (t := t) (y := y) s th k (by rw [f96]; exact hS.fo), ?_⟩
      rintro r2 σ2 ⟨b1, b2, b3⟩
      obtain ⟨e2, e4⟩ := b3 hg (by rw [f111]; exact hz)
      rw [f114] at e2
      have hs2 : Sm [114, 115, 116, 117] σ1 σ2 := by rw [e4]; exact (((Sm.rf.up (by decide)).up (by decide)).up (by decide)).upc (by decide)
      have hs : Sm [78, 79, 80, 81, 82, 83, 84, 85, 86, 87, 88, 89, 90, 91, 92, 114, 115, 116, 117] σ σ2 := (s1.mono (by decide)).tr (hs2.mono (by decide))
      have e114 : σ2 114 = upd (σ 114) s.toNatClampNeg th := by rw [e4, upc_c _ _ _ (by decide), up_c _ _ _ _ (by decide), up_c _ _ _ _ (by decide), up_same, f114]
      have e115 : σ2 115 = upd (σ 115) s.toNatClampNeg (layA (σ 96) (σ 112) th k) := by rw [e4, upc_c _ _ _ (by decide), up_c _ _ _ _ (by decide), up_same, up_c _ _ _ _ (by decide), f115, f96, f112]
      have e116 : σ2 116 = upd (σ 116) s.toNatClampNeg (layB (σ 96) th k) := by rw [e4, upc_c _ _ _ (by decide), up_same, up_c _ _ _ _ (by decide), up_c _ _ _ _ (by decide), f116, f96]
      have e117 : σ2 117 = layC (σ 117) (σ 113) s.toNatClampNeg th k := by rw [e4, upc_same, f117, f113]
      simp only [layG, Bool.and_eq_true, Bool.not_eq_true', Bool.and_eq_false_iff, decide_eq_false_iff_not, Bool.not_eq_false'] at hg
      obtain ⟨⟨⟨-, g2⟩, -⟩, g4⟩ := hg
      obtain ⟨Q, hQ, rfl⟩ := (inB_nI (m := 3) (by omega)).mp g2
      refine ⟨e1.trans e2.symm, n, c, t, y, hS.fr hs (fun k h1 h2 => by simp; omega) (by decide), hI.fr hs (fun k h1 h2 => by simp; omega) (fun k h1 h2 => by simp; omega) (by decide) (by rw [hs 0 (by decide)]) (by rw [hs 95 (by decide)]), hT.fr (by rw [hs 64 (by decide)]) (by rw [hs 95 (by decide)]) (hs 65 (by decide)) (hs 103 (by decide)), Shs.fr ⟨hso, hsh⟩ hs (fun k h1 h2 => by simp; omega) (by decide) (by decide) (by decide), ⟨?_, ?_⟩, hW.fr (by rw [hs 0 (by decide)]) (by rw [hs 95 (by decide)]) (hs 93 (by decide)) (hs 119 (by decide)), hK.fr (hs 104 (by decide)) (hs 105 (by decide))⟩
      · rw [e114, e115]
        intro q hq
        by_cases e : q = s.toNatClampNeg
        · rw [e, upd_same, upd_same]
          refine ⟨?_, fun h2 => ?_⟩
          · rcases (by omega : Q = 0 ∨ Q = 1 ∨ Q = 2 ∨ Q = 3) with rfl | rfl | rfl | rfl <;> decide
          · have hk3 : inB k 0 3 = true := by rcases g4 with q | q; exact absurd h2 q; exact q
            obtain ⟨S, hS3, rfl⟩ := (inB_nI (m := 3) (by omega)).mp hk3
            rw [layA, if_neg (by rw [h2]; decide), if_pos h2, nI_clamp (by omega)]
            exact (hso S (by omega)).2
        · rw [upd_ne e, upd_ne e]; exact hlo q hq
      · rw [e114, e115, e116, e117]
        exact s2.sm hs2 (fun k h1 h2 => by simp; omega)
end
