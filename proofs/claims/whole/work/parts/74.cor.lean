/-! what is kept between the calls: class and reference say the same -/
theorem f5_comes (f : Nat → Int32) (n : Nat) (k nm b : Int32) : comesF f n k nm b 5 = f 5 := by
  rw [comesF, upd_ne (by omega), upd_ne (by omega), upd_ne (by omega), upd_ne (by omega), upd_ne (by omega)]
theorem f5_pers (f : Nat → Int32) (n : Nat) (k nm b : Int32) : (persF f n k nm b).2 5 = f 5 := by
  rw [persF]; split
  · split
    · rfl
    · exact f5_comes f n k nm b
  · rfl
theorem f5_turn (f : Nat → Int32) (n : Nat) (p k : Int32) : (turnF f n p k).2 5 = f 5 := by
  rw [turnF]; split
  · dsimp only; rw [upd_ne (by omega)]
  · rfl
theorem f5_set (f : Nat → Int32) (n : Nat) (p w v : Int32) : (setF f n p w v).2 5 = f 5 := by
  rw [setF]; split
  · dsimp only; rw [upd_ne (by omega)]
  · rfl
theorem f5_life (f : Nat → Int32) (v : Int32) : (lifeF f v).2 5 = f 5 := by
  rw [lifeF]; split
  · dsimp only; rw [upd_ne (by omega)]
  · rfl
theorem f5_seed (f : Nat → Int32) (v : Int32) : (seedF f v).2 5 = f 5 := by rw [seedF]; dsimp only; rw [upd_ne (by omega)]
theorem f5_forg (f : Nat → Int32) : (forgF f).2 5 = f 5 := by rw [forgF]; dsimp only; rw [upd_ne (by omega)]
theorem f5_chld (f : Nat → Int32) (c : Nat) (a b : Int32) : (chldF f c a b).2 5 = f 5 := by
  rw [chldF]; split
  · split
    · rfl
    · dsimp only
      rw [upd_ne (by omega), upd_ne (by omega), upd_ne (by omega)]
  · rfl
theorem f5_dealL : ∀ (m n : Nat) (f : Nat → Int32), dealL f n m 5 = f 5
  | 0, _, _ => rfl
  | m + 1, n, f => by rw [dealL, f5_dealL m, drawP, f5_comes, upd_ne (by omega)]
theorem f5_deal (f : Nat → Int32) (n : Nat) (k : Int32) : (dealF f n k).2 5 = f 5 := by
  rw [dealF]; split
  · exact f5_dealL _ _ _
  · rfl
theorem f5_yrS (f : Nat → Int32) (t p d : Nat) : (yrS f t p d).1 5 = f 5 := by
  rw [yrS]; split
  · split
    · dsimp only; rw [upd_ne (by omega), upd_ne (by omega)]
    · dsimp only; rw [upd_ne (by omega)]
  · rfl
theorem f5_yrL (t : Nat) : ∀ (m p d : Nat) (f : Nat → Int32), (yrL f t p m d).1 5 = f 5
  | 0, _, _, _ => rfl
  | m + 1, p, d, f => by rw [yrL, f5_yrL t m, f5_yrS]
theorem f5_year (f : Nat → Int32) (n t : Nat) : (yearF f n t).1 5 = f 5 := by
  rw [yearF]; dsimp only; rw [upd_ne (by omega), f5_yrL]
theorem f5_yrs (f : Nat → Int32) (n t y : Nat) (k : Int32) : (yrsF f n t y k).2 5 = f 5 := by
  have h : ∀ m f, (yrsL f n t m).1 5 = f 5 := by
    intro m
    induction m with
    | zero => intro f; rfl
    | succ m ih => intro f; rw [yrsL]; dsimp only; rw [ih, f5_year]
  rw [yrsF]; split
  · exact h _ _
  · rfl
theorem f5_chrL : ∀ (bl : List (Option Nat)) (n : Nat) (f : Nat → Int32), (chrL f n bl).1 5 = f 5
  | [], _, _ => rfl
  | none :: r, n, f => by rw [chrL]; exact f5_chrL r n f
  | some v :: r, n, f => by
    rw [chrL]; split
    · rw [f5_chrL r, f5_comes]
    · exact f5_chrL r n f
theorem f5_chr (f : Nat → Int32) (n c t : Nat) : (chrF f n c t).2 5 = f 5 := by
  rw [chrF]; split
  · rfl
  · dsimp only; rw [upd_ne (by omega), f5_chrL]
theorem f5_porL (cs : Nat → Int32) : ∀ (m p a : Nat) (f : Nat → Int32), (porL cs f p m a).1 5 = f 5
  | 0, _, _, _ => rfl
  | m + 1, p, a, f => by rw [porL, f5_porL cs m, upd_ne (by omega)]
theorem f5_por (f so sz ce : Nat → Int32) (n : Nat) (s : Int32) : (porF f so sz ce n s).2 5 = f 5 := by
  rw [porF]; split
  · split
    · rfl
    · exact f5_porL _ _ _ _ _
  · rfl
def IV (σ : Sg) (g : Nat → Int32) (n c t y : Nat) : Prop := FOk g n c t y ∧ y ≤ 9999 ∧ KOk g n ∧ RV σ 41 g n c t ∧ TXS σ g t
def Im (σ : Sg) (t : Nat) : Prop := ∃ h : Bool, σ 0 4 = bi h ∧ σ 95 3 = bi h ∧ (h = true → ∃ n' c' t' y', IV σ (σ 97) n' c' t' y' ∧ t' ≤ t)
def Tp (σ : Sg) : Prop := ∃ T, T ≤ 96 ∧ σ 64 1 = nI T ∧ σ 95 11 = nI T ∧ σ 65 = σ 103
def Shs (σ : Sg) : Prop := SOk (σ 111) (σ 112) ∧ SH σ (σ 111) (σ 112) (σ 113)
def Sls (σ : Sg) : Prop := LOk (σ 114) (σ 115) ∧ SL σ (σ 114) (σ 115) (σ 116) (σ 117)
def Wt (σ : Sg) : Prop := ∃ W, W ≤ 60 ∧ σ 0 10 = nI W ∧ σ 95 37 = nI W ∧ σ 93 = σ 119
def Cor (σ : Sg) : Prop := ∃ n c t y, SV σ (σ 96) n c t y ∧ Im σ t ∧ Tp σ ∧ Shs σ ∧ Sls σ ∧ Wt σ ∧ KyOk σ
abbrev K1 : List Nat := [3, 32, 33, 34, 35, 36, 37, 38, 39, 40, 50, 51, 52, 53, 54, 55, 56, 57, 58, 59, 60, 61, 62, 63, 94]
abbrev K2 : List Nat := [95, 96, 98, 99, 100, 101, 102, 106, 107, 108, 109, 110, 118]
section
variable {σ σ1 σ2 : Sg} {n c t y : Nat} {f g : Nat → Int32}
theorem IV.sm {cs : List Nat} (h : IV σ g n c t y) (hs : Sm cs σ σ1) (h1 : ∀ k, 4 ≤ k → k < 32 → k ∉ cs) (h2 : ∀ k, 41 ≤ k → k < 49 → k ∉ cs) : IV σ1 g n c t y :=
  ⟨h.1, h.2.1, h.2.2.1, h.2.2.2.1.sm hs (fun k hk => h2 _ (by omega) (by omega)), h.2.2.2.2.sm hs h.1.2.2.2.2.2.1 h1⟩
theorem Cor.op (hC : Cor σ) (hs1 : Sm K1 σ σ1) (F : Nat → Int32) (hx : SVx σ1 F) (hs2 : Sm K2 σ1 σ2) (h95 : ∀ j, j ≠ 7 → j ≠ 8 → σ2 95 j = σ1 95 j) (h96 : σ2 96 = F) (h5 : F 5 = σ 96 5) : Cor σ2 := by
  obtain ⟨n, c, t, y, hS, ⟨h, i1, i2, i3⟩, ⟨T, t1, t2, t3, t4⟩, ⟨s1, s2⟩, ⟨l1, l2⟩, ⟨W, w1, w2, w3, w4⟩, k1, k2⟩ := hC
  obtain ⟨n', c', t', y', hS'⟩ := hx
  have hsm : Sm (K1 ++ K2) σ σ2 := (hs1.mono (fun c hc => List.mem_append_left _ hc)).tr (hs2.mono (fun c hc => List.mem_append_right _ hc))
  have e95 : ∀ j, j ≠ 7 → j ≠ 8 → σ2 95 j = σ 95 j := fun j a b => by rw [h95 j a b, hs1 95 (by decide)]
  have et : t' = t := by
    have a1 := hS'.fo.2.2.2.2.1
    rw [h5, hS.fo.2.2.2.2.1] at a1
    have b1 := hS.t14
    have b2 := hS'.t14
    exact ((nI_eq (by omega) (by omega)).mp a1).symm
  subst et
  have eq : ∀ k, k ∉ (K1 ++ K2) → σ2 k = σ k := fun k hk => hsm k hk
  refine ⟨n', c', t', y', ?_, ⟨h, ?_, ?_, fun hh => ?_⟩, ⟨T, t1, ?_, ?_, ?_⟩, ⟨?_, ?_⟩, ⟨?_, ?_⟩, ⟨W, w1, ?_, ?_, ?_⟩, ?_, ?_⟩
  · rw [h96]; exact hS'.sm hs2 (fun k h1 h2 => by simp; omega)
  · rw [eq 0 (by decide)]; exact i1
  · rw [e95 3 (by decide) (by decide)]; exact i2
  · obtain ⟨n2, c2, t2, y2, a1, a2⟩ := i3 hh
    rw [eq 97 (by decide)]
    exact ⟨n2, c2, t2, y2, a1.sm hsm (fun k h1 h2 => by simp; omega) (fun k h1 h2 => by simp; omega), a2⟩
  · rw [eq 64 (by decide)]; exact t2
  · rw [e95 11 (by decide) (by decide)]; exact t3
  · rw [eq 65 (by decide), eq 103 (by decide)]; exact t4
  · rw [eq 111 (by decide), eq 112 (by decide)]; exact s1
  · rw [eq 111 (by decide), eq 112 (by decide), eq 113 (by decide)]; exact s2.sm hsm (fun k h1 h2 => by simp; omega)
  · rw [eq 114 (by decide), eq 115 (by decide)]; exact l1
  · rw [eq 114 (by decide), eq 115 (by decide), eq 116 (by decide), eq 117 (by decide)]; exact l2.sm hsm (fun k h1 h2 => by simp; omega)
  · rw [eq 0 (by decide)]; exact w2
  · rw [e95 37 (by decide) (by decide)]; exact w3
  · rw [eq 93 (by decide), eq 119 (by decide)]; exact w4
  · rw [eq 104 (by decide)]; exact k1
  · rw [eq 105 (by decide)]; exact k2
theorem KOk_congr (h : KOk f n) (hn : n ≤ 10) (he : ∀ k, k < 1430 → g k = f k) : KOk g n := fun p hp => by
  rw [he _ (by omega), he _ (by omega), he _ (by omega)]; exact h p hp
theorem TxOk_cg {i ky ln : Nat} (h : TxOk f i ky ln) (hi : i < 14) (he : ∀ k, k < 1430 → g k = f k) : TxOk g i ky ln := by
  obtain ⟨h1, h2, h3⟩ := h
  have := h3.1
  exact ⟨by rw [he _ (by omega)]; exact h1, h2, CdOk_congr h3 (fun j hj => he _ (by omega))⟩
theorem TXS_cg (h : TXS σ f t) (ht : t ≤ 14) (he : ∀ k, k < 1430 → g k = f k) : TXS σ g t := fun i ky ln hi hx => by
  have hb := TxOk_cg hx (by omega) (fun k hk => (he k hk).symm)
  have := hb.2.2.1
  obtain ⟨⟨a1, a2⟩, a3, a4⟩ := h i ky ln hi hb
  exact ⟨⟨a1, fun j hj => by rw [he _ (by omega)]; exact a2 j hj⟩, a3, by rw [he _ (by omega)]; exact a4⟩
theorem nearT_cg (ht : TxsOk f t) (h14 : t ≤ 14) (he : ∀ k, k < 1430 → g k = f k) (w : Nat) : nearT g t w = nearT f t w := by
  unfold nearT
  rw [cntO_congr (f := f) (g := g) t (fun i hi => he _ (by omega))]
  cases h : cntO f 0 t with
  | none => rfl
  | some i =>
    obtain ⟨h1, ln, h2⟩ := cntO_ok (k := 0) ht (by omega) h
    dsimp only
    have h3 := h2.2.2.1
    rw [evT_eq h2, evT_eq (TxOk_cg h2 (by omega) he), evl_congr2 ln (fun j hj => he _ (by omega))]
theorem RV_cg {b : Nat} (h : RV σ b f n c t) (hf : FOk f n c t y) (he : ∀ k, k < 1430 → g k = f k) : RV σ b g n c t := by
  obtain ⟨f1, f2, f3, f4, f5, f6, f7, f8, f9, f10⟩ := hf
  obtain ⟨⟨v1, v2, v3, v4, v5, v6⟩, vw, vp, vc, vk⟩ := h
  refine ⟨⟨v1, v2, ?_, ?_, ?_, v6⟩, fun w hw => ?_, fun p hp => ?_, fun i hi => ?_, fun k hk => ?_⟩
  · rw [he _ (by omega)]; exact v3
  · rw [he _ (by omega)]; exact v4
  · rw [he _ (by omega)]; exact v5
  · rw [nearT_cg f9 f6 he]; exact vw w hw
  · rw [he _ (by omega), he _ (by omega), he _ (by omega), he _ (by omega)]; exact vp p hp
  · rw [he _ (by omega), he _ (by omega)]; exact vc i hi
  · rw [cntO_congr (f := f) (g := g) t (fun i hi => he _ (by omega))]; exact vk k hk
end
