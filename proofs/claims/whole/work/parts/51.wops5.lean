/-! the class's calls, fifth part: years -/
theorem yrS_d {f : Nat → Int32} {t p d : Nat} (q : Nat) : ((yrS f t p d).1 (18 + 4 * q + 3) = f (18 + 4 * q + 3) ∨ (yrS f t p d).1 (18 + 4 * q + 3) = f 2) ∧ (yrS f t p d).1 2 = f 2 := by
  rw [yrS]
  split
  · split
    · dsimp only
      refine ⟨?_, ?_⟩
      · by_cases e : q = p
        · subst e; right; rw [upd_same]
        · left; rw [upd_ne (by omega), upd_ne (by omega)]
      · rw [upd_ne (by omega), upd_ne (by omega)]
    · dsimp only
      exact ⟨Or.inl (upd_ne (by omega)), upd_ne (by omega)⟩
  · exact ⟨Or.inl rfl, rfl⟩
theorem yrL_d {t : Nat} (q : Nat) : ∀ (m p d : Nat) (f : Nat → Int32), ((yrL f t p m d).1 (18 + 4 * q + 3) = f (18 + 4 * q + 3) ∨ (yrL f t p m d).1 (18 + 4 * q + 3) = f 2) ∧ (yrL f t p m d).1 2 = f 2
  | 0, _, _, _ => ⟨Or.inl rfl, rfl⟩
  | m + 1, p, d, f => by
    obtain ⟨h1, h2⟩ := yrS_d (f := f) (t := t) (p := p) (d := d) q
    obtain ⟨h3, h4⟩ := yrL_d q m (p + 1) (yrS f t p d).2 (yrS f t p d).1
    rw [yrL]
    refine ⟨?_, h4.trans h2⟩
    rcases h3 with h3 | h3
    · rw [h3]; exact h1
    · right; rw [h3, h2]
theorem KOk_year {f : Nat → Int32} {n t y : Nat} (h : KOk f n) (h2 : f 2 = nI y) (hy : y ≤ 20000) : KOk (yearF f n t).1 n := by
  intro p hp
  obtain ⟨⟨k, hk, e⟩, hd⟩ := h p hp
  refine ⟨⟨k, hk, by rw [← e]; exact yearF_nm (p := p) 0 (by omega)⟩, ?_⟩
  rw [yearF_2]
  have e3 : (yearF f n t).1 (18 + 4 * p + 3) = (yrL f t 0 n 0).1 (18 + 4 * p + 3) := by rw [yearF]; dsimp only; rw [upd_ne (by omega)]
  have hle : f 2 ≤ f 2 + 1 := by rw [h2, nI_1]; exact nI_le (by omega) (by omega)
  rw [e3]
  rcases (yrL_d (t := t) p n 0 0 f).1 with h | h
  · rw [h]; exact Int32.le_trans hd hle
  · rw [h]; exact hle
section
variable {l : Launch} {θ : Th} {σ σ' : Sg} {n c t y : Nat} {f : Nat → Int32}
theorem SV.year (h : SV σ f n c t y) (hy : y < 9999) (hs : Sm [3, 32, 36] σ σ') (hv : RV σ' 32 (yearF f n t).1 n c t) : SV σ' (yearF f n t).1 n c t (y + 1) :=
  ⟨FOk_year h.fo (by omega), by omega, KOk_year h.ko h.fy (by omega), hv, (h.tx.cg (fun j hj => yearF_hi h.n10 hj)).sm hs h.t14 (fun k h1 h2 => by simp; omega)⟩
theorem SV.sm {cs : List Nat} (h : SV σ f n c t y) (hs : Sm cs σ σ') (h1 : ∀ k, 4 ≤ k → k < 40 → k ∉ cs) : SV σ' f n c t y :=
  ⟨h.fo, h.y9, h.ko, h.rv.sm hs (fun k hk => h1 _ (by omega) (by omega)), h.tx.sm hs h.t14 (fun k h2 h3 => h1 k h2 (by omega))⟩
/-- what is thought -/
def TV (σ : Sg) (f : Nat → Int32) (n c t y : Nat) : Prop := FOk f n c t y ∧ RV σ 50 f n c t ∧ TXS σ f t
theorem TV.n10 (h : TV σ f n c t y) : n ≤ 10 := h.1.2.1
theorem TV.c6 (h : TV σ f n c t y) : c ≤ 6 := h.1.2.2.2.1
theorem TV.t14 (h : TV σ f n c t y) : t ≤ 14 := h.1.2.2.2.2.2.1
theorem TV.to (h : TV σ f n c t y) : TxsOk f t := h.1.2.2.2.2.2.2.2.2.1
theorem TV.year (h : TV σ f n c t y) (hy : y < 20000) (hs : Sm [3, 50, 54] σ σ') (hv : RV σ' 50 (yearF f n t).1 n c t) : TV σ' (yearF f n t).1 n c t (y + 1) :=
  ⟨FOk_year h.1 hy, hv, (h.2.2.cg (fun j hj => yearF_hi h.n10 hj)).sm hs h.t14 (fun k h1 h2 => by simp; omega)⟩
theorem TV.hm (h : TV σ f n c t y) (hh : Hm 50 σ σ') : TV σ' f n c t y := ⟨h.1, h.2.1.hm hh, h.2.2.sm hh.1 h.t14 (fun k h1 h2 => by simp; omega)⟩
theorem SV.thought (h : SV σ f n c t y) (hs : Sm [50, 51, 52, 53, 54, 55, 56, 57] σ σ') (hv : RV σ' 50 f n c t) : TV σ' f n c t y := ⟨h.fo, hv, h.tx.sm hs h.t14 (fun k h1 h2 => by simp; omega)⟩
theorem sm50 (hs : Sm [50, 51, 52, 53, 54, 55, 56, 57] σ σ') : Sm [3, 50, 51, 52, 53, 54, 55, 56, 57, 58] σ σ' := hs.mono (by simp)
theorem sm50y {σ'' : Sg} (h : Sm [3, 50, 51, 52, 53, 54, 55, 56, 57, 58] σ σ') (hs : Sm [3, 50, 54] σ' σ'') : Sm [3, 50, 51, 52, 53, 54, 55, 56, 57, 58] σ σ'' := h.tr (hs.mono (by simp))
theorem sm50h {σ'' : Sg} (h : Sm [3, 50, 51, 52, 53, 54, 55, 56, 57, 58] σ σ') (hs : Hm 50 σ' σ'') : Sm [3, 50, 51, 52, 53, 54, 55, 56, 57, 58] σ σ'' := h.tr (hs.1.mono (by simp))
theorem o_W_years (k : Int32) (hS : SV σ f n c t y) : Ci l θ 6 m_W_years [.inr 0, .inl k] σ (fun r σ' => r = (yrsF f n t y k).1 ∧ Sm [3, 32, 36] σ σ' ∧ SVx σ' (yrsF f n t y k).2) := by
  have hn := hS.n10
  have hy := hS.y9
  refine Ci.of (Or.inl mi_W_years) pk_W_years (nb rfl) (Or.inl rfl) [some (.inr 0), some (.inl k), none, none, none] rfl fun Γ hG hR => ?_
  have bad : inB k 1 100 = false → X Γ 11 [some (.inr 0), some (.inl k), none, none, none] [] σ := by
    intro hb
    refine hG.rt hR rfl rfl rfl rfl ?_
    rw [yrsF, hb]
    exact ⟨rfl, Sm.rf, hS.x⟩
  refine hG.br rfl rfl rfl rfl (fun h1 => ?_) (fun h1 => ?_)
  · exact bad (by rw [inB, decide_eq_false (i32_nle.mpr h1)]; rfl)
  · refine hG.br rfl rfl rfl rfl (fun h2 => ?_) (fun h2 => ?_)
    · have hk : inB k 1 100 = true := by rw [inB, decide_eq_true (i32_nlt.mp h1), decide_eq_true h2]; rfl
      obtain ⟨K, hK1, hK2, rfl⟩ := inB_ab 1 100 (by omega) (by omega) hk
      have e : yrsF f n t y (nI K) = (nI (yrsL f n t (min K (9999 - y))).2, (yrsL f n t (min K (9999 - y))).1) := by rw [yrsF, hk, if_pos rfl, nI_clamp (by omega)]
      rw [e] at hR
      refine hG.mn rfl lk_W_148 rfl rfl rfl rfl rfl ?_
      have em : (if (9999 : Int32) - σ 32 9 < nI K then (9999 : Int32) - σ 32 9 else nI K) = nI (min K (9999 - y)) := by
        rw [hS.rv.y, hS.fy, show (9999 : Int32) = nI 9999 from rfl, lit_sub hy]
        exact min_nI rfl (by omega) (by omega)
      rw [em]
      generalize hM : min K (9999 - y) = M at *
      have loop : ∀ m i, i + m = M → ∀ (τ : Sg) (g : Nat → Int32) (d : Nat), Sm [3, 32, 36] σ τ → SV τ g n c t (y + i) → yrsL f n t M = ((yrsL g n t m).1, d + (yrsL g n t m).2) → X Γ 35 [some (.inr 0), some (.inl (nI K)), some (.inl (nI M)), some (.inl (nI d)), some (.inl (nI i))] [] τ := by
        intro m
        induction m with
        | zero =>
          intro i hi τ g d hs hS' hd
          have hi : i = M := by omega
          subst hi
          refine hG.br rfl rfl rfl rfl (fun h3 => ?_) (fun h3 => ?_)
          · refine hG.rt hR rfl rfl rfl rfl ?_
            rw [hd]
            exact ⟨rfl, hs, hS'.x⟩
          · exact absurd (show nI i ≤ nI i from nI_le (Nat.le_refl i) (by omega)) h3
        | succ m ih =>
          intro i hi τ g d hs hS' hd
          refine hG.br rfl rfl rfl rfl (fun h3 => ?_) (fun h3 => ?_)
          · exact absurd (show nI M ≤ nI i from h3) (nI_ge (by omega) (by omega))
          · refine hG.cV lk_W_196 mi_V_passYear rfl rfl (c_V_passYear32 hn hS'.c6 hS'.t14 hS'.to hS'.rv hS'.tx) rfl rfl rfl rfl rfl rfl rfl rfl ?_
            rintro x τ1 ⟨hs1, hv1, rfl⟩
            have hS1 := hS'.year (by omega) hs1 hv1
            refine hG.jp rfl rfl rfl ?_
            rw [nI_1, nI_add]
            refine ih (i + 1) (by omega) τ1 _ _ (hs.tr hs1) hS1 ?_
            rw [hd, yrsL, Nat.add_assoc]
      exact hG.go 5 rfl rfl (loop M 0 (by omega) σ f 0 Sm.rf hS (by rw [Nat.zero_add]))
    · exact bad (by rw [inB, decide_eq_false h2, Bool.and_false])
theorem o_W_behind (k w : Int32) (hS : SV σ f n c t y) : Ci l θ 6 m_W_behind [.inr 0, .inl k, .inl w] σ (fun r σ' => r = behR f n t k w ∧ Sm [3, 50, 51, 52, 53, 54, 55, 56, 57, 58] σ σ') := by
  have hn := hS.n10
  have hy := hS.y9
  refine Ci.of (Or.inl mi_W_behind) pk_W_behind (nb rfl) (Or.inl rfl) [some (.inr 0), some (.inl k), some (.inl w), none] rfl fun Γ hG hR => ?_
  have bad : (inB k 0 100 && inB w 0 2) = false → X Γ 19 [some (.inr 0), some (.inl k), some (.inl w), none] [] σ := by
    intro hb
    refine hG.rt hR rfl rfl rfl rfl ?_
    rw [behR, hb]
    exact ⟨rfl, Sm.rf⟩
  refine hG.br rfl rfl rfl rfl (fun h1 => ?_) (fun h1 => ?_)
  · exact bad (by rw [inB, decide_eq_false (i32_nle.mpr h1)]; rfl)
  · refine hG.br rfl rfl rfl rfl (fun h2 => ?_) (fun h2 => ?_)
    · exact bad (by rw [inB, decide_eq_false (i32_nle.mpr h2), Bool.and_false]; rfl)
    · have hk : inB k 0 100 = true := by rw [inB, decide_eq_true (i32_nlt.mp h1), decide_eq_true (i32_nlt.mp h2)]; rfl
      refine hG.br rfl rfl rfl rfl (fun h3 => ?_) (fun h3 => ?_)
      · exact bad (by rw [hk, inB, decide_eq_false (i32_nle.mpr h3)]; rfl)
      · refine hG.br rfl rfl rfl rfl (fun h4 => ?_) (fun h4 => ?_)
        · have hw : inB w 0 2 = true := by rw [inB, decide_eq_true (i32_nlt.mp h3), decide_eq_true h4]; rfl
          obtain ⟨K, hK, rfl⟩ := (inB_nI (m := 100) (by omega)).mp hk
          have e : behR f n t (nI K) w = (if w = 0 then manyF (yrsL f n t K).1 n t else if w = 1 then nI (sumB (aliveF (yrsL f n t K).1) 0 n) else leastF (yrsL f n t K).1 n t) := by rw [behR, hk, hw, Bool.and_self, if_pos rfl, nI_clamp (by omega)]
          rw [e] at hR
          refine hG.cVv lk_W_200 mi_V_become rfl rfl (c_V_become50_32 hn hS.c6 hS.rv) rfl rfl rfl rfl rfl rfl rfl rfl ?_
          rintro τ ⟨hs, hv⟩
          have hT := hS.thought hs hv
          have loop : ∀ m i, i + m = K → ∀ (τ : Sg) (g : Nat → Int32), Sm [3, 50, 51, 52, 53, 54, 55, 56, 57, 58] σ τ → TV τ g n c t (y + i) → (yrsL f n t K).1 = (yrsL g n t m).1 → X Γ 35 [some (.inr 0), some (.inl (nI K)), some (.inl w), some (.inl (nI i))] [] τ := by
            intro m
            induction m with
            | zero =>
              intro i hi τ g hs hT' hd
              have hd : (yrsL f n t K).1 = g := hd
              have hi : i = K := by omega
              subst hi
              rw [hd] at hR
              refine hG.br rfl rfl rfl rfl (fun h5 => ?_) (fun h5 => ?_)
              · refine hG.br rfl rfl rfl rfl (fun h6 => ?_) (fun h6 => ?_)
                · refine hG.br rfl rfl rfl rfl (fun h7 => ?_) (fun h7 => ?_)
                  · refine hG.cV lk_W_170 mi_V_leastFree rfl rfl (c_V_leastFree50 hn hT'.2.1) rfl rfl rfl rfl rfl rfl rfl rfl ?_
                    rintro x τ1 ⟨hH, rfl⟩
                    refine hG.rt hR rfl rfl rfl rfl ?_
                    exact ⟨by rw [if_neg h6, if_neg h7], sm50h hs hH⟩
                  · refine hG.cV lk_W_203 mi_V_countAlive rfl rfl (c_V_countAlive50 hn hT'.2.1) rfl rfl rfl rfl rfl rfl rfl rfl ?_
                    rintro x τ1 ⟨rfl, rfl⟩
                    refine hG.rt hR rfl rfl rfl rfl ?_
                    exact ⟨by rw [if_neg h6, if_pos h7], hs⟩
                · refine hG.cV lk_W_166 mi_V_countFree rfl rfl (c_V_countFree50 hn hT'.2.1) rfl rfl rfl rfl rfl rfl rfl rfl ?_
                  rintro x τ1 ⟨hH, rfl⟩
                  refine hG.rt hR rfl rfl rfl rfl ?_
                  exact ⟨by rw [if_pos h6], sm50h hs hH⟩
              · exact absurd (show nI i ≤ nI i from nI_le (Nat.le_refl i) (by omega)) h5
            | succ m ih =>
              intro i hi τ g hs hT' hd
              refine hG.br rfl rfl rfl rfl (fun h5 => ?_) (fun h5 => ?_)
              · exact absurd (show nI K ≤ nI i from h5) (nI_ge (by omega) (by omega))
              · refine hG.cV lk_W_196 mi_V_passYear rfl rfl (c_V_passYear50 hn hT'.c6 hT'.t14 hT'.to hT'.2.1 hT'.2.2) rfl rfl rfl rfl rfl rfl rfl rfl ?_
                rintro x τ1 ⟨hs1, hv1, rfl⟩
                refine hG.jp rfl rfl rfl ?_
                rw [nI_1]
                exact ih (i + 1) (by omega) τ1 _ (sm50y hs hs1) (hT'.year (by omega) hs1 hv1) hd
          exact hG.go 2 rfl rfl (loop K 0 (by omega) τ f (sm50 hs) hT rfl)
        · exact bad (by rw [hk, inB, decide_eq_false h4, Bool.and_false]; rfl)
theorem o_W_ends (hS : SV σ f n c t y) : Ci l θ 6 m_W_ends [.inr 0] σ (fun r σ' => r = endsR f n t ∧ Sm [3, 50, 51, 52, 53, 54, 55, 56, 57, 58] σ σ') := by
  have hn := hS.n10
  have hy := hS.y9
  refine Ci.of (Or.inl mi_W_ends) pk_W_ends (nb rfl) (Or.inl rfl) [some (.inr 0), none] rfl fun Γ hG hR => ?_
  refine hG.cVv lk_W_200 mi_V_become rfl rfl (c_V_become50_32 hn hS.c6 hS.rv) rfl rfl rfl rfl rfl rfl rfl rfl ?_
  rintro τ ⟨hs, hv⟩
  have hT := hS.thought hs hv
  have loop : ∀ m i, i + m = 201 → ∀ (τ : Sg) (g : Nat → Int32), Sm [3, 50, 51, 52, 53, 54, 55, 56, 57, 58] σ τ → TV τ g n c t (y + i) → endsR f n t = optN (-1000000005) (endsL g n t i m) → X Γ 13 [some (.inr 0), some (.inl (nI i))] [] τ := by
    intro m
    induction m with
    | zero =>
      intro i hi τ g hs hT' hd
      have hi : i = 201 := by omega
      subst hi
      refine hG.br rfl rfl rfl rfl (fun h5 => ?_) (fun h5 => ?_)
      · refine hG.rt hR rfl rfl rfl rfl ?_
        exact ⟨hd.symm, hs⟩
      · exact absurd (show nI 200 < nI 201 from nI_lt (by omega) (by omega)) h5
    | succ m ih =>
      intro i hi τ g hs hT' hd
      have hd : endsR f n t = optN (-1000000005) (if leastF g n t = -1000000005 then some i else endsL (yearF g n t).1 n t (i + 1) m) := hd
      refine hG.br rfl rfl rfl rfl (fun h5 => ?_) (fun h5 => ?_)
      · exact absurd (show nI 200 < nI i from h5) (nI_nlt (by omega) (by omega))
      · refine hG.cV lk_W_170 mi_V_leastFree rfl rfl (c_V_leastFree50 hn hT'.2.1) rfl rfl rfl rfl rfl rfl rfl rfl ?_
        rintro x τ1 ⟨hH, rfl⟩
        have hT1 := hT'.hm hH
        refine hG.br rfl rfl rfl rfl (fun h6 => ?_) (fun h6 => ?_)
        · rw [if_neg h6] at hd
          refine hG.cV lk_W_196 mi_V_passYear rfl rfl (c_V_passYear50 hn hT1.c6 hT1.t14 hT1.to hT1.2.1 hT1.2.2) rfl rfl rfl rfl rfl rfl rfl rfl ?_
          rintro x τ2 ⟨hs1, hv1, rfl⟩
          refine hG.jp rfl rfl rfl ?_
          rw [nI_1]
          exact ih (i + 1) (by omega) τ2 _ (sm50y (sm50h hs hH) hs1) (hT1.year (by omega) hs1 hv1) hd
        · rw [if_pos h6] at hd
          refine hG.rt hR rfl rfl rfl rfl ?_
          exact ⟨hd.symm, sm50h hs hH⟩
  exact hG.go 2 rfl rfl (loop 201 0 (by omega) τ f (sm50 hs) hT rfl)
end
