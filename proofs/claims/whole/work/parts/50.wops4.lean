/-! the class's calls, fourth part: dealing people, years -/
theorem min_nI {K a b : Nat} (h : K = min a b) (ha : a < 2 ^ 31) (hb : b < 2 ^ 31) : (if nI b < nI a then nI b else nI a) = nI K := by
  subst h
  by_cases e : b < a
  · rw [if_pos ((nI_ltI hb ha).mpr e), Nat.min_eq_right (by omega)]
  · rw [if_neg (fun h => e ((nI_ltI hb ha).mp h)), Nat.min_eq_left (by omega)]
theorem lit_sub {a b : Nat} (h : b ≤ a) : (nI a : Int32) - nI b = nI (a - b) := by
  have : nI a = nI (a - b) + nI b := by rw [nI_add]; congr 1; omega
  rw [this, Int32.add_sub_cancel]
section
variable {l : Launch} {θ : Th} {σ : Sg} {n c t y : Nat} {f : Nat → Int32}
theorem drawP_hi {j : Nat} (hn : n < 10) (hj : 58 ≤ j) : drawP f n j = f j := by
  rw [drawP, comesF, upd_ne (by omega), upd_ne (by omega), upd_ne (by omega), upd_ne (by omega), upd_ne (by omega), upd_ne (by omega)]
theorem SV.drawn {σ' : Sg} (hS : SV σ f n c t y) (hn : n < 10) (hs : Sm [32, 33, 34, 35, 36] σ σ') (hv : RV σ' 32 (drawP f n) (n + 1) c t) : SV σ' (drawP f n) (n + 1) c t y := by
  have h0 : SV (up σ 32 10 (drawZ (drawZ (drawZ (f 0))))) (upd f 0 (drawZ (drawZ (drawZ (f 0))))) n c t y := hS.setz _
  have e2 : upd f 0 (drawZ (drawZ (drawZ (f 0)))) 2 = f 2 := upd_ne (by omega)
  obtain ⟨K, hK, eK⟩ := rmI_draw (drawZ (f 0)) 6 (by omega) (by omega)
  refine ⟨FOk_comes h0.fo hn _ _ _, hS.y9, ?_, hv, (hS.tx.cg (fun j hj => drawP_hi hn hj)).sm hs hS.t14 (fun k h1 h2 => by simp; omega)⟩
  rw [drawP, show rmI (drawV (drawZ (f 0))) 6 = nI K from eK]
  exact KOk_comes h0.ko hn h0.fy (by have := hS.y9; omega) K hK _ _
theorem o_W_deal (k : Int32) (hS : SV σ f n c t y) : Ci l θ 6 m_W_deal [.inr 0, .inl k] σ (fun r σ' => r = (dealF f n k).1 ∧ Sm [32, 33, 34, 35, 36] σ σ' ∧ SVx σ' (dealF f n k).2) := by
  have hn := hS.n10
  refine Ci.of (Or.inl mi_W_deal) pk_W_deal (nb rfl) (Or.inl rfl) [some (.inr 0), some (.inl k), none, none] rfl fun Γ hG hR => ?_
  have bad : inB k 1 10 = false → X Γ 11 [some (.inr 0), some (.inl k), none, none] [] σ := by
    intro hb
    refine hG.rt hR rfl rfl rfl rfl ?_
    rw [dealF, hb]
    exact ⟨rfl, Sm.rf, hS.x⟩
  refine hG.br rfl rfl rfl rfl (fun h1 => ?_) (fun h1 => ?_)
  · exact bad (by rw [inB, decide_eq_false (i32_nle.mpr h1)]; rfl)
  · refine hG.br rfl rfl rfl rfl (fun h2 => ?_) (fun h2 => ?_)
    · have hk : inB k 1 10 = true := by rw [inB, decide_eq_true (i32_nlt.mp h1), decide_eq_true h2]; rfl
      obtain ⟨K, hK1, hK2, rfl⟩ := inB_ab 1 10 (by omega) (by omega) hk
      have e : dealF f n (nI K) = (nI (min K (10 - n)), dealL f n (min K (10 - n))) := by rw [dealF, hk, if_pos rfl, nI_clamp (by omega)]
      rw [e] at hR
      refine hG.mn rfl lk_W_148 rfl rfl rfl rfl rfl ?_
      have em : (if (10 : Int32) - σ 32 4 < nI K then (10 : Int32) - σ 32 4 else nI K) = nI (min K (10 - n)) := by
        rw [hS.rv.pn, show (10 : Int32) = nI 10 from rfl, lit_sub hn]
        exact min_nI rfl (by omega) (by omega)
      rw [em]
      generalize hM : min K (10 - n) = M at *
      have loop : ∀ m i, i + m = M → ∀ (τ : Sg) (g : Nat → Int32), Sm [32, 33, 34, 35, 36] σ τ → SV τ g (n + i) c t y → dealL f n M = dealL g (n + i) m → X Γ 31 [some (.inr 0), some (.inl (nI K)), some (.inl (nI M)), some (.inl (nI i))] [] τ := by
        intro m
        induction m with
        | zero =>
          intro i hi τ g hs hS' hd
          have hi : i = M := by omega
          subst hi
          refine hG.br rfl rfl rfl rfl (fun h3 => ?_) (fun h3 => ?_)
          · refine hG.rt hR rfl rfl rfl rfl ?_
            rw [hd]
            exact ⟨rfl, hs, hS'.x⟩
          · exact absurd (show nI i ≤ nI i from nI_le (Nat.le_refl i) (by omega)) h3
        | succ m ih =>
          intro i hi τ g hs hS' hd
          refine hG.br rfl rfl rfl rfl (fun h3 => ?_) (fun h3 => ?_)
          · exact absurd (show nI M ≤ nI i from h3) (nI_ge (by omega) (by omega))
          · refine hG.cVv lk_W_153 mi_V_drawPerson rfl rfl (c_V_drawPerson (by omega) hS'.c6 hS'.to hS'.rv) rfl rfl rfl rfl rfl rfl rfl rfl ?_
            rintro τ1 ⟨hs1, hv1⟩
            have hS1 := hS'.drawn (by omega) hs1 hv1
            refine hG.jp rfl rfl rfl ?_
            rw [nI_1]
            exact ih (i + 1) (by omega) τ1 _ (hs.tr hs1) hS1 hd
      exact hG.go 3 rfl rfl (loop M 0 (by omega) σ f Sm.rf hS rfl)
    · exact bad (by rw [inB, decide_eq_false h2, Bool.and_false])
theorem o_W_yields (p : Int32) (hS : SV σ f n c t y) : Ci l θ 6 m_W_yields [.inr 0, .inl p] σ (fun r σ' => r = yldR f n t p ∧ σ' = σ) := by
  have hn := hS.n10
  refine Ci.of (Or.inl mi_W_yields) pk_W_yields (nb rfl) (Or.inl rfl) [some (.inr 0), some (.inl p), none, none] rfl fun Γ hG hR => ?_
  refine hG.cV lk_W_86 mi_W_isPerson rfl rfl (c_W_isPerson p hS) rfl rfl rfl rfl rfl rfl rfl rfl ?_
  rintro x σ' ⟨rfl, rfl⟩
  refine hG.br rfl rfl rfl rfl (fun h1 => ?_) (fun h1 => ?_)
  · have h1 := bi_ne0.mp h1
    obtain ⟨P, hP, rfl⟩ := (inB_lt (by omega)).mp h1
    have hg : yldR f n t (nI P) = yldS (fun q => decide (¬ q = P) && aliveF f q && nearT f t (nrIx (f (18 + 4 * P + 1)) (f (18 + 4 * q + 1)))) 0 n 0 := by rw [yldR, h1, nI_clamp (by omega)]; rfl
    generalize hPB : (fun q => decide (¬ q = P) && aliveF f q && nearT f t (nrIx (f (18 + 4 * P + 1)) (f (18 + 4 * q + 1)))) = PB at hg
    have loop : ∀ m q a, q + m = n → yldR f n t (nI P) = yldS PB q m a → X Γ 15 [some (.inr 0), some (.inl (nI P)), some (.inl a), some (.inl (nI q))] [] σ' := by
      intro m
      induction m with
      | zero =>
        intro q a hq he
        have hq : q = n := by omega
        subst hq
        refine hG.br rfl rfl rfl rfl (fun h2 => ?_) (fun h2 => ?_)
        · refine hG.rt hR rfl rfl rfl rfl ?_
          exact ⟨he.symm, rfl⟩
        · rw [hS.rv.pn] at h2
          exact absurd (nI_le (Nat.le_refl q) (by omega)) h2
      | succ m ih =>
        intro q a hq he
        have he : yldR f n t (nI P) = yldS PB (q + 1) m (a ||| if PB q then (1 : Int32) <<< (nI q &&& 31) else 0) := he
        have no : PB q = false → X Γ 76 [some (.inr 0), some (.inl (nI P)), some (.inl a), some (.inl (nI q))] [] σ' := by
          intro hb
          refine hG.jp rfl rfl rfl ?_
          rw [nI_1]
          rw [hb, if_neg (by decide), Int32.or_zero] at he
          exact ih (q + 1) a (by omega) he
        refine hG.br rfl rfl rfl rfl (fun h2 => ?_) (fun h2 => ?_)
        · rw [hS.rv.pn] at h2
          exact absurd h2 (nI_ge (by omega) (by omega))
        · refine hG.br rfl rfl rfl rfl (fun h3 => ?_) (fun h3 => ?_)
          · have h3 : q = P := (nI_eq (by omega) (by omega)).mp h3
            exact no (by rw [← hPB]; simp [h3])
          · have h3 : ¬ q = P := fun e => h3 (by rw [e])
            refine hG.cV lk_W_193 mi_V_isAlive rfl rfl (c_V_isAlive32 q (by omega) hn hS.rv) rfl rfl rfl rfl rfl rfl rfl rfl ?_
            rintro x τ ⟨rfl, rfl⟩
            refine hG.br rfl rfl rfl rfl (fun h4 => ?_) (fun h4 => ?_)
            · exact no (by rw [← hPB]; dsimp only; rw [bi_eq0.mp h4, Bool.and_false]; rfl)
            · refine hG.ld rfl P rfl rfl rfl rfl rfl (by omega) ?_
              refine hG.ld rfl q rfl rfl rfl rfl rfl (by omega) ?_
              have eP : τ 34 P = f (18 + 4 * P + 1) := hS.rv.nm hP
              have eq : τ 34 q = f (18 + 4 * q + 1) := hS.rv.nm (by omega)
              rw [eP, eq]
              refine hG.cV lk_W_142 mi_V_areNear rfl rfl (c_V_areNear32 (f (18 + 4 * P + 1)) (f (18 + 4 * q + 1)) hS.rv) rfl rfl rfl rfl rfl rfl rfl rfl ?_
              rintro x τ ⟨rfl, rfl⟩
              refine hG.br rfl rfl rfl rfl (fun h5 => ?_) (fun h5 => ?_)
              · exact no (by rw [← hPB]; dsimp only; rw [bi_eq0.mp h5, Bool.and_false])
              · have hb : PB q = true := by rw [← hPB]; dsimp only; rw [bi_ne0.mp h5, bi_ne0.mp h4, decide_eq_true h3]; rfl
                rw [hb, if_pos rfl] at he
                refine hG.jp rfl rfl rfl ?_
                rw [nI_1]
                exact ih (q + 1) _ (by omega) he
    exact hG.go 4 rfl rfl (loop n 0 0 (by omega) hg)
  · refine hG.rt hR rfl rfl rfl rfl ?_
    exact ⟨by rw [yldR, bi_eq0.mp h1]; rfl, rfl⟩
end
