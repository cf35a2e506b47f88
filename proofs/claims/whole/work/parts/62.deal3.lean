/-! the class's calls: dealing, christen -/
section
variable {l : Launch} {θ : Th} {σ σ' : Sg} {n c t y : Nat} {f : Nat → Int32}
theorem c_D_settle (hS : SV σ f n c t y) : Cv l θ 11 m_D_settle [.inr 59, .inr 32] σ (fun σ' => BstW σ' (dealG f n c t) ∧ Sm [32, 40, 59, 60, 61, 62, 63] σ σ' ∧ SV σ' f n c t y) := by
  have hc6 := hS.c6
  have hW := hS.wo
  refine Cv.of (Or.inl mi_D_settle) pk_D_settle (nb rfl) rfl [some (.inr 59), some (.inr 32), none] rfl fun Γ hG hR => ?_
  generalize hσ1 : up (up σ 59 1 (-1)) 59 2 (-1) = σ1
  have hs1 : Sm [59] σ σ1 := by rw [← hσ1]; exact (Sm.rf.up (by decide)).up (by decide)
  have b1 : σ1 59 1 = -1 := by rw [← hσ1, up_j _ _ _ _ (by decide), up_self]
  have b2 : σ1 59 2 = -1 := by rw [← hσ1, up_self]
  have hS1 : SV σ1 f n c t y := hS.sm hs1 (fun k h1 h2 => by simp; omega)
  have ey := hS1.rv.y
  have cg := c_V_gatherHeld32 (l := l) (θ := θ) (σ1 32 9) hS1.n10 hS1.rv
  subst hσ1
  refine hG.cVv lk_D_37 mi_V_gatherHeld rfl rfl cg rfl rfl rfl rfl rfl rfl rfl rfl ?_
  rintro τ0 ⟨hh, hgh⟩
  rw [ey] at hgh
  have hS0 := hS1.hm hh
  generalize hF : (fun k => freeG (nearT f t) f n (nI k) (f 2)) = F
  have eF : ∀ k, freeG (nearT f t) f n (nI k) (f 2) = F k := fun k => by rw [← hF]
  have hs0 : Sm [32, 40, 59, 60, 61, 62, 63] σ τ0 := Sm.tr (hs1.mono (by simp)) (hh.1.mono (by simp))
  have loop : ∀ m k (τ : Sg), k + m = c → Sm [62, 63] τ0 τ → (∀ i, i < k → τ 62 i = bi (F (wshN f i 0)) ∧ τ 63 i = bi (F (wshN f i 1))) → X Γ 20 [some (.inr 59), some (.inr 32), some (.inl (nI k))] [] τ := by
    intro m
    induction m with
    | zero =>
      intro k τ hk hs hfl
      have hk : k = c := by omega
      subst hk
      have hSt : SV τ f n k t y := hS0.sm hs (fun k h1 h2 => by simp; omega)
      refine hG.br rfl rfl rfl rfl (fun k1 => ?_) (fun k1 => ?_)
      · have hb : BstW τ none := ⟨by rw [hs 59 (by decide), hh.1 59 (by decide)]; exact b1, by rw [hs 59 (by decide), hh.1 59 (by decide)]; exact b2⟩
        refine hG.cVv lk_D_54 mi_D_tryFrom rfl rfl (c_D_tryFrom F k hc6 hW k 0 [] 0 0 none τ (by omega) rfl (fun v h => absurd h List.not_mem_nil) (by omega) (by omega) (fun _ _ _ h => by cases h) hSt.rv hfl (fun i x h => by simp at h) hb) rfl rfl (Nat.ble_eq_true_of_le (by omega)) rfl rfl rfl rfl rfl ?_
        rintro τ2 ⟨q1, q2, q3⟩
        refine hG.rv hR rfl rfl rfl ?_
        refine ⟨by rw [dealG, hF]; exact q1, (hs0.tr (hs.mono (by simp))).tr (q2.mono (by simp)), hSt.sm q2 (fun k h1 h2 => by simp; omega)⟩
      · exact absurd (by rw [hSt.rv.cn]; exact Int32.le_refl _) k1
    | succ m ih =>
      intro k τ hk hs hfl
      have hSt : SV τ f n c t y := hS0.sm hs (fun k h1 h2 => by simp; omega)
      have hgt : ∀ τ', Sm [62, 63] τ0 τ' → GH τ' 32 f n (f 2) := fun τ' hs => by
        obtain ⟨m', q1, q2, q3⟩ := hgh
        exact ⟨m', q1, by rw [hs 32 (by decide)]; exact q2, fun g nm => by rw [hs 40 (by decide)]; exact q3 g nm⟩
      obtain ⟨w0, e0⟩ := WOk_wsh hW (show k < c by omega) (show 0 < 2 by omega)
      obtain ⟨w1, e1⟩ := WOk_wsh hW (show k < c by omega) (show 1 < 2 by omega)
      have en0 : τ 37 k = nI (wshN f k 0) := (hSt.rv.c1 (by omega)).trans e0
      refine hG.br rfl rfl rfl rfl (fun k1 => ?_) (fun k1 => ?_)
      · rw [hSt.rv.cn] at k1
        exact absurd k1 (nI_ge (by omega) (by omega))
      · refine hG.ld rfl k rfl rfl rfl rfl rfl (by omega) ?_
        rw [en0]
        refine hG.cV lk_D_47 mi_V_isClear rfl rfl (c_V_isClear32 (nI (wshN f k 0)) (f 2) hSt.rv (hgt τ hs)) rfl rfl rfl rfl rfl rfl rfl rfl ?_
        rintro x τ1 ⟨rfl, rfl⟩
        rw [eF]
        refine hG.stz rfl k rfl rfl rfl rfl (by omega) (bi_01 _) ?_
        have hs2 : Sm [62, 63] τ0 (up τ1 62 k (bi (F (wshN f k 0)))) := hs.up (by decide)
        have hSt2 : SV (up τ1 62 k (bi (F (wshN f k 0)))) f n c t y := hS0.sm hs2 (fun k h1 h2 => by simp; omega)
        have en1 : up τ1 62 k (bi (F (wshN f k 0))) 38 k = nI (wshN f k 1) := (hSt2.rv.c2 (by omega)).trans e1
        refine hG.ld rfl k rfl rfl rfl rfl rfl (by omega) ?_
        rw [en1]
        refine hG.cV lk_D_47 mi_V_isClear rfl rfl (c_V_isClear32 (nI (wshN f k 1)) (f 2) hSt2.rv (hgt _ hs2)) rfl rfl rfl rfl rfl rfl rfl rfl ?_
        rintro x τ3 ⟨rfl, rfl⟩
        rw [eF]
        refine hG.stz rfl k rfl rfl rfl rfl (by omega) (bi_01 _) ?_
        refine hG.jp rfl rfl rfl ?_
        rw [nI_1]
        refine ih (k + 1) _ (by omega) (hs2.up (by decide)) (fun i hi => ?_)
        rw [up_c _ _ _ _ (show 62 ≠ 63 by decide), up_same, up_same, up_c _ _ _ _ (show 63 ≠ 62 by decide)]
        by_cases e : i = k
        · subst e
          rw [upd_same, upd_same]
          exact ⟨rfl, rfl⟩
        · rw [upd_ne e, upd_ne e]
          exact hfl i (by omega)
  exact hG.go 2 rfl rfl (loop c 0 τ0 (by omega) Sm.rf (fun i hi => by omega))
theorem dealG_ok (hS : SV σ f n c t y) : ∃ bm bf bl, dealG f n c t = some (bm, bf, bl) ∧ bl.length = c ∧ gvOk bl ∧ bm ≤ c ∧ bf ≤ c := by
  obtain ⟨⟨bm, bf, bl⟩, hq⟩ := dl_some (g := nearT f t) (F := fun k => freeG (nearT f t) f n (nI k) (f 2)) (W := wshN f) c 0 [] 0 0 none
  have hBO := dl_ok (g := nearT f t) (F := fun k => freeG (nearT f t) f n (nI k) (f 2)) (W := wshN f) (cN := c) (fun i w hi hw => (WOk_wsh hS.wo hi hw).1) c 0 [] 0 0 none (by omega) rfl (fun v h => absurd h List.not_mem_nil) (by omega) (by omega) (fun _ _ _ h => by cases h) bm bf bl hq
  exact ⟨bm, bf, bl, hq, hBO⟩
theorem o_W_dealing (w : Int32) (hS : SV σ f n c t y) : Ci l θ 14 m_W_dealing [.inr 0, .inl w] σ (fun r σ' => r = dlgR f n c t w ∧ Sm [32, 40, 59, 60, 61, 62, 63] σ σ' ∧ SV σ' f n c t y) := by
  have hc6 := hS.c6
  obtain ⟨bm, bf, bl, hq, hbl, hgo, hbm, hbf⟩ := dealG_ok hS
  have hg : dlgR f n c t w = if inB w 0 (nI (1 + c)) then (if w = 0 then nI bm else if w = 1 then nI bf else optN (-1000000005) (bl.getD (w.toNatClampNeg - 2) none)) else -1000000001 := by rw [dlgR, hq]
  rw [hg]
  refine Ci.of (Or.inl mi_W_dealing) pk_W_dealing (nb rfl) (Or.inl rfl) [some (.inr 0), some (.inl w)] rfl fun Γ hG hR => ?_
  refine hG.br rfl rfl rfl rfl (fun k1 => ?_) (fun k1 => ?_)
  · have : inB w 0 (nI (1 + c)) = false := by rw [inB, decide_eq_false (i32_nle.mpr k1)]; rfl
    rw [this] at hR
    refine hG.rt hR rfl rfl rfl rfl ?_
    exact ⟨rfl, Sm.rf, hS⟩
  · refine hG.br rfl rfl rfl rfl (fun k2 => ?_) (fun k2 => ?_)
    · rw [hS.rv.cn, show (2 : Int32) + nI c = nI (2 + c) from nI_add 2 c] at k2
      obtain ⟨V, hV, rfl⟩ := nI_of k1
      have k2 := (nI_ltI hV (by omega)).mp k2
      rw [(inB_nI (by omega)).mpr ⟨V, by omega, rfl⟩, if_pos rfl, nI_clamp (by omega)] at hR
      refine hG.cVv lk_W_180 mi_D_settle rfl rfl (c_D_settle hS) rfl rfl rfl rfl rfl rfl rfl rfl ?_
      rintro τ ⟨hb, hs, hSt⟩
      rw [hq] at hb
      obtain ⟨d1, d2, d3⟩ := hb
      refine hG.br rfl rfl rfl rfl (fun k3 => ?_) (fun k3 => ?_)
      · rw [if_neg k3] at hR
        refine hG.br rfl rfl rfl rfl (fun k4 => ?_) (fun k4 => ?_)
        · rw [if_neg k4] at hR
          have hV2 : 2 ≤ V := by
            have v0 : V ≠ 0 := fun e => k3 (by rw [e]; rfl)
            have v1 : V ≠ 1 := fun e => k4 (by rw [e]; rfl)
            omega
          have hx : bl[V - 2]? = some bl[V - 2] := List.getElem?_eq_getElem (by omega)
          have hget : bl.getD (V - 2) none = bl[V - 2] := by rw [List.getD_eq_getElem?_getD, hx]; rfl
          have ha := d3 _ _ hx
          refine hG.ld rfl (V - 2) rfl rfl rfl rfl (show nI V - nI 2 = _ from pk_sub hV2) (by omega) ?_
          rw [ha]
          refine hG.rt hR rfl rfl rfl rfl ?_
          exact ⟨by rw [hget], hs, hSt⟩
        · rw [if_pos k4] at hR
          refine hG.rt hR rfl rfl rfl rfl ?_
          exact ⟨d2, hs, hSt⟩
      · rw [if_pos k3] at hR
        refine hG.rt hR rfl rfl rfl rfl ?_
        exact ⟨d1, hs, hSt⟩
    · have : inB w 0 (nI (1 + c)) = false := by
        refine inB_f (fun h => ?_)
        obtain ⟨V, hV, rfl⟩ := (inB_nI (by omega)).mp h
        rw [hS.rv.cn, show (2 : Int32) + nI c = nI (2 + c) from nI_add 2 c] at k2
        exact k2 (nI_lt (by omega) (by omega))
      rw [this] at hR
      refine hG.rt hR rfl rfl rfl rfl ?_
      exact ⟨rfl, Sm.rf, hS⟩
theorem SV.entered (hS : SV σ f n c t y) (hn : n < 10) (nm b : Int32) (hs : Sm [32, 33, 34, 35, 36] σ σ') (hv : RV σ' 32 (comesF f n 0 nm b) (n + 1) c t) : SV σ' (comesF f n 0 nm b) (n + 1) c t y := by
  refine ⟨FOk_comes hS.fo hn _ _ _, hS.y9, KOk_comes hS.ko hn hS.fy (by have := hS.y9; omega) 0 (by omega) _ _, hv, ?_⟩
  refine (hS.tx.cg (fun j hj => ?_)).sm hs hS.t14 (fun k h1 h2 => by simp; omega)
  rw [comesF, upd_ne (by omega), upd_ne (by omega), upd_ne (by omega), upd_ne (by omega), upd_ne (by omega)]
theorem o_W_christen (hS : SV σ f n c t y) : Ci l θ 14 m_W_christen [.inr 0] σ (fun r σ' => r = (chrF f n c t).1 ∧ Sm [32, 33, 34, 35, 36, 40, 59, 60, 61, 62, 63] σ σ' ∧ SVx σ' (chrF f n c t).2) := by
  have hc6 := hS.c6
  obtain ⟨bm, bf, bl, hq, hbl, hgo, hbm, hbf⟩ := dealG_ok hS
  have hg : chrF f n c t = (nI (chrL f n bl).2, upd (chrL f n bl).1 4 0) := by rw [chrF, hq]
  rw [hg]
  refine Ci.of (Or.inl mi_W_christen) pk_W_christen (nb rfl) (Or.inl rfl) [some (.inr 0), none] rfl fun Γ hG hR => ?_
  refine hG.cVv lk_W_180 mi_D_settle rfl rfl (c_D_settle hS) rfl rfl rfl rfl rfl rfl rfl rfl ?_
  rintro τ0 ⟨hb, hs0, hS0⟩
  rw [hq] at hb
  obtain ⟨d1, d2, d3⟩ := hb
  have loop : ∀ m k nn (g : Nat → Int32) (τ : Sg), k + m = c → SV τ g nn c t y → Sm [32, 33, 34, 35, 36] τ0 τ → chrL f n bl = chrL g nn (bl.drop k) → X Γ 13 [some (.inr 0), some (.inl (nI k))] [] τ := by
    intro m
    induction m with
    | zero =>
      intro k nn g τ hk hSt hs he
      rw [List.drop_eq_nil_of_le (by omega)] at he
      have he : chrL f n bl = (g, nn) := he
      refine hG.br rfl rfl rfl rfl (fun k1 => ?_) (fun k1 => ?_)
      · refine hG.rt hR rfl rfl rfl rfl ?_
        rw [he]
        refine ⟨?_, ((hs0.mono (by simp)).tr (hs.mono (by simp))).up (by decide), hSt.set0.x⟩
        rw [up_j _ _ _ _ (by decide)]
        exact hSt.rv.pn
      · exact absurd (by rw [hSt.rv.cn]; exact nI_le (show c ≤ k by omega) (by omega)) k1
    | succ m ih =>
      intro k nn g τ hk hSt hs he
      have hnn := hSt.n10
      have hkl : k < bl.length := by omega
      have hx : bl[k]? = some bl[k] := List.getElem?_eq_getElem hkl
      rw [List.drop_eq_getElem_cons hkl] at he
      have ha : τ 60 k = optN (-1000000005) bl[k] := by rw [hs 60 (by decide)]; exact d3 _ _ hx
      have next : chrL f n bl = chrL g nn (bl.drop (k + 1)) → X Γ 75 [some (.inr 0), some (.inl (nI k))] [] τ := by
        intro he
        refine hG.jp rfl rfl rfl ?_
        rw [nI_1]
        exact ih (k + 1) nn g τ (by omega) hSt hs he
      refine hG.br rfl rfl rfl rfl (fun k1 => ?_) (fun k1 => ?_)
      · rw [hSt.rv.cn] at k1
        exact absurd k1 (nI_ge (by omega) (by omega))
      · refine hG.ld rfl k rfl rfl rfl rfl rfl (by omega) ?_
        rw [ha]
        cases hxx : bl[k] with
        | none =>
          rw [hxx] at he
          refine hG.br rfl rfl rfl rfl (fun k2 => ?_) (fun k2 => ?_)
          · exact next he
          · exact absurd rfl k2
        | some v =>
          rw [hxx] at he ha
          have hv : v < 125 := hgo v (by rw [← hxx]; exact List.getElem_mem hkl)
          rw [chrL] at he
          refine hG.br rfl rfl rfl rfl (fun k2 => ?_) (fun k2 => ?_)
          · exact absurd (show nI v = -1000000005 from k2) (nI_none (by omega))
          · refine hG.br rfl rfl rfl rfl (fun k3 => ?_) (fun k3 => ?_)
            · rw [hSt.rv.pn] at k3
              have k3 : ¬ nn < 10 := fun h => absurd (show nI 10 ≤ nI nn from k3) (nI_ge h (by omega))
              rw [if_neg k3] at he
              exact next he
            · rw [hSt.rv.pn] at k3
              have k3 : nn < 10 := Nat.not_le.mp (fun h => k3 (show nI 10 ≤ nI nn from nI_le h (by omega)))
              rw [if_pos k3] at he
              refine hG.ld rfl k rfl rfl rfl rfl rfl (by omega) ?_
              rw [ha]
              have ey := hSt.rv.y
              refine hG.go 3 rfl rfl ?_
              rw [ey]
              refine hG.cV lk_W_82 mi_V_enter rfl rfl (c_V_enter 0 (nI v) (g 2) k3 hc6 hSt.to hSt.rv) rfl rfl rfl rfl rfl rfl rfl rfl ?_
              rintro x τ1 ⟨q1, q2, rfl⟩
              refine hG.jp rfl rfl rfl ?_
              rw [nI_1]
              exact ih (k + 1) (nn + 1) _ τ1 (by omega) (hSt.entered k3 _ _ q1 q2) (hs.tr q1) he
  exact hG.go 2 rfl rfl (loop c 0 n f τ0 (by omega) hS0 Sm.rf (by rw [List.drop_zero]))
end
