/-! the class's dealing -/
def BstW (σ : Sg) (B : Bst) : Prop := match B with
  | none => σ 59 1 = -1 ∧ σ 59 2 = -1
  | some (bm, bf, bl) => σ 59 1 = nI bm ∧ σ 59 2 = nI bf ∧ gvA (-1000000005) bl (σ 60)
theorem nI_m1 {k : Nat} (h : k < 2 ^ 31) : ¬ nI k = -1 := fun e => by
  have := nI_pos (n := k) h
  rw [e] at this
  exact this (by decide)
theorem nI_none {k : Nat} (h : k < 2 ^ 31) : ¬ nI k = -1000000005 := fun e => by
  have := nI_pos (n := k) h
  rw [e] at this
  exact this (by decide)
section
variable {l : Launch} {θ : Th} {σ σ' : Sg} {n c t y : Nat} {f : Nat → Int32}
theorem BstW.sm {cs : List Nat} {B : Bst} (h : BstW σ B) (hs : Sm cs σ σ') (h1 : 59 ∉ cs) (h2 : 60 ∉ cs) : BstW σ' B := by
  cases B with
  | none => exact ⟨by rw [hs 59 h1]; exact h.1, by rw [hs 59 h1]; exact h.2⟩
  | some q => exact ⟨by rw [hs 59 h1]; exact h.1, by rw [hs 59 h1]; exact h.2.1, by rw [hs 60 h2]; exact h.2.2⟩
theorem c_D_fits (gv : List (Option Nat)) (nm : Nat) (hV : RV σ 32 f n c t) (hgv : gvA (-1000000005) gv (σ 61)) (hok : gvOk gv) (hlen : gv.length ≤ 6) : Ci l θ 3 m_D_fits [.inr 59, .inr 32, .inl (nI gv.length), .inl (nI nm)] σ (fun r σ' => σ' = σ ∧ r = bi (gv.all (gvP (nearT f t) nm))) := by
  refine Ci.of (Or.inl mi_D_fits) pk_D_fits (nb rfl) (Or.inr rfl) [some (.inr 59), some (.inr 32), some (.inl (nI gv.length)), some (.inl (nI nm)), none] rfl fun Γ hG hR => ?_
  have loop : ∀ m k, k + m = gv.length → gv.all (gvP (nearT f t) nm) = (gv.drop k).all (gvP (nearT f t) nm) → X Γ 3 [some (.inr 59), some (.inr 32), some (.inl (nI gv.length)), some (.inl (nI nm)), some (.inl (nI k))] [] σ := by
    intro m
    induction m with
    | zero =>
      intro k hk he
      refine hG.br rfl rfl rfl rfl (fun k2 => ?_) (fun k2 => ?_)
      · refine hG.rz hR rfl rfl rfl rfl (Or.inr rfl) ?_
        exact ⟨rfl, by rw [he, List.drop_eq_nil_of_le (by omega)]; rfl⟩
      · exact absurd (nI_le (show gv.length ≤ k by omega) (by omega)) k2
    | succ m ih =>
      intro k hk he
      have hkl : k < gv.length := by omega
      have hgk : gv[k]? = some gv[k] := List.getElem?_eq_getElem hkl
      rw [List.drop_eq_getElem_cons hkl, List.all_cons] at he
      have ha := hgv k _ hgk
      refine hG.br rfl rfl rfl rfl (fun k2 => ?_) (fun k2 => ?_)
      · exact absurd k2 (nI_ge hkl (by omega))
      · refine hG.ld rfl k rfl rfl rfl rfl rfl (by omega) ?_
        rw [ha]
        have next : gvP (nearT f t) nm gv[k] = true → X Γ 38 [some (.inr 59), some (.inr 32), some (.inl (nI gv.length)), some (.inl (nI nm)), some (.inl (nI k))] [] σ := by
          intro hp
          refine hG.jp rfl rfl rfl ?_
          rw [nI_1]
          exact ih (k + 1) (by omega) (by rw [he, hp]; rfl)
        cases hx : gv[k] with
        | none =>
          rw [hx] at next
          refine hG.br rfl rfl rfl rfl (fun k3 => ?_) (fun k3 => ?_)
          · exact next rfl
          · exact absurd rfl k3
        | some v =>
          rw [hx] at next ha
          have hv : v < 125 := hok v (by rw [← hx]; exact List.getElem_mem hkl)
          refine hG.br rfl rfl rfl rfl (fun k3 => ?_) (fun k3 => ?_)
          · exact absurd (show nI v = -1000000005 from k3) (nI_none (by omega))
          · refine hG.ld rfl k rfl rfl rfl rfl rfl (by omega) ?_
            rw [ha]
            refine hG.cV lk_D_67 mi_V_areNear rfl rfl (c_V_areNear32 (nI v) (nI nm) hV) rfl rfl rfl rfl rfl rfl rfl rfl ?_
            rintro x σ' ⟨rfl, rfl⟩
            refine hG.br rfl rfl rfl rfl (fun k4 => ?_) (fun k4 => ?_)
            · exact next (by rw [gvP, bi_eq0.mp k4]; rfl)
            · refine hG.rz hR rfl rfl rfl rfl (Or.inl rfl) ?_
              exact ⟨rfl, by rw [he, hx, gvP, bi_ne0.mp k4]; rfl⟩
  exact hG.go 2 rfl rfl (loop gv.length 0 (by omega) (by rw [List.drop_zero]))
theorem c_D_remember (gv : List (Option Nat)) (m fs : Nat) (B : Bst) (hm : m ≤ 6) (hfs : fs ≤ 6) (hB : BOk c B) (hc : c ≤ 6) (hl : gv.length = c) (hV : σ 32 7 = nI c) (hgv : gvA (-1000000005) gv (σ 61)) (hb : BstW σ B) : Cv l θ 2 m_D_remember [.inr 59, .inr 32, .inl (nI m), .inl (nI fs)] σ (fun σ' => BstW σ' (if btr m fs B then some (m, fs, gv) else B) ∧ Sm [59, 60] σ σ') := by
  refine Cv.of (Or.inl mi_D_remember) pk_D_remember (nb rfl) rfl [some (.inr 59), some (.inr 32), some (.inl (nI m)), some (.inl (nI fs))] rfl fun Γ hG hR => ?_
  have keep : btr m fs B = false → X Γ 24 [some (.inr 59), some (.inr 32), some (.inl (nI m)), some (.inl (nI fs))] [] σ := by
    intro hbt
    refine hG.rv hR rfl rfl rfl ?_
    rw [hbt]
    exact ⟨hb, Sm.rf⟩
  have take : btr m fs B = true → X Γ 25 [some (.inr 59), some (.inr 32), some (.inl (nI m)), some (.inl (nI fs))] [] σ := by
    intro hbt
    refine hG.acp rfl lk_D_71 rfl 0 0 c rfl rfl rfl rfl rfl rfl rfl rfl ?_ (by omega) (by omega) ?_
    · rw [up_c _ _ _ _ (by decide), up_c _ _ _ _ (by decide)]; exact hV
    refine hG.rv hR rfl rfl rfl ?_
    rw [hbt, if_pos rfl]
    refine ⟨⟨?_, ?_, ?_⟩, ((Sm.rf.up (by decide)).up (by decide)).upc (by decide)⟩
    · rw [upc_c _ _ _ (by decide), up_j _ _ _ _ (by decide), up_self]
    · rw [upc_c _ _ _ (by decide), up_self]
    · intro i x hx
      have hi : i < gv.length := (List.getElem?_eq_some_iff.mp hx).1
      rw [upc_same, sb_cpy0 (by omega), up_c _ _ _ _ (by decide), up_c _ _ _ _ (by decide)]
      exact hgv i x hx
  cases hBB : B with
  | none =>
    rw [hBB] at hb keep take
    obtain ⟨b1, b2⟩ := hb
    refine hG.br rfl rfl rfl rfl (fun k1 => ?_) (fun k1 => ?_)
    · rw [b1] at k1
      exact absurd (Int32.lt_trans k1 (by decide)) (nI_pos (by omega))
    · refine hG.br rfl rfl rfl rfl (fun k2 => ?_) (fun k2 => ?_)
      · exact take rfl
      · rw [b1] at k2
        exact absurd k2 (nI_m1 (by omega))
  | some q =>
    obtain ⟨bm, bf, bl⟩ := q
    rw [hBB] at hb keep take
    obtain ⟨-, -, hbm, hbf⟩ := hB bm bf bl hBB
    obtain ⟨b1, b2, b3⟩ := hb
    have eb : btr m fs (some (bm, bf, bl)) = (decide (bm < m) || (decide (m = bm) && decide (bf < fs))) := rfl
    refine hG.br rfl rfl rfl rfl (fun k1 => ?_) (fun k1 => ?_)
    · rw [b1] at k1
      have k1 := (nI_ltI (by omega) (by omega)).mp k1
      exact keep (by rw [eb, decide_eq_false (by omega), decide_eq_false (by omega)]; rfl)
    · rw [b1] at k1
      have k1 : ¬ m < bm := fun h => k1 (nI_lt h (by omega))
      refine hG.br rfl rfl rfl rfl (fun k2 => ?_) (fun k2 => ?_)
      · rw [b1] at k2
        have k2 : ¬ m = bm := fun h => k2 (by rw [h])
        exact take (by rw [eb, decide_eq_true (show bm < m by omega)]; rfl)
      · rw [b1] at k2
        have k2 : m = bm := (nI_eq (by omega) (by omega)).mp k2
        refine hG.br rfl rfl rfl rfl (fun k3 => ?_) (fun k3 => ?_)
        · rw [b2] at k3
          have k3 : bf < fs := (nI_ltI (by omega) (by omega)).mp k3
          exact take (by rw [eb, decide_eq_true k2, decide_eq_true k3]; simp)
        · rw [b2] at k3
          have k3 : ¬ bf < fs := fun h => k3 (nI_lt h (by omega))
          exact keep (by rw [eb, decide_eq_false (show ¬ bm < m by omega), decide_eq_false k3]; simp)
def ClF (σ : Sg) (F : Nat → Bool) (f : Nat → Int32) (c : Nat) : Prop := ∀ i, i < c → σ 62 i = bi (F (wshN f i 0)) ∧ σ 63 i = bi (F (wshN f i 1))
theorem c_D_tryFrom (F : Nat → Bool) (cN : Nat) (hc6 : cN ≤ 6) (hW : WOk f cN) : ∀ (r c : Nat) (gv : List (Option Nat)) (m fs : Nat) (B : Bst) (σ : Sg), c + r = cN → gv.length = c → gvOk gv → m ≤ c → fs ≤ c → BOk cN B → RV σ 32 f n cN t → ClF σ F f cN → gvA (-1000000005) gv (σ 61) → BstW σ B → Cv l θ (r + 4) m_D_tryFrom [.inr 59, .inr 32, .inl (nI c), .inl (nI m), .inl (nI fs)] σ (fun σ' => BstW σ' (dl (nearT f t) F (wshN f) r c gv m fs B) ∧ Sm [59, 60, 61] σ σ' ∧ gvA (-1000000005) gv (σ' 61)) := by
  intro r
  induction r with
  | zero =>
    intro c gv m fs B σ hc hl hok hm hfs hB hV hF hgv hb
    have hcN : c = cN := by omega
    subst hcN
    refine Cv.of (Or.inl mi_D_tryFrom) pk_D_tryFrom (nb rfl) rfl [some (.inr 59), some (.inr 32), some (.inl (nI c)), some (.inl (nI m)), some (.inl (nI fs))] rfl fun Γ hG hR => ?_
    refine hG.br rfl rfl rfl rfl (fun k1 => ?_) (fun k1 => ?_)
    · refine hG.cVv lk_D_58 mi_D_remember rfl rfl (c_D_remember gv m fs B (by omega) (by omega) hB hc6 hl hV.cn hgv hb) rfl rfl rfl rfl rfl rfl rfl rfl ?_
      rintro τ ⟨q1, q2⟩
      refine hG.rv hR rfl rfl rfl ?_
      refine ⟨by rw [dl]; exact q1, q2.mono (by simp), by rw [q2 61 (by decide)]; exact hgv⟩
    · exact absurd (by rw [hV.cn]; exact Int32.le_refl _) k1
  | succ r ih =>
    intro c gv m fs B σ hc hl hok hm hfs hB hV hF hgv hb
    refine Cv.of (Or.inl mi_D_tryFrom) pk_D_tryFrom (nb rfl) rfl [some (.inr 59), some (.inr 32), some (.inl (nI c)), some (.inl (nI m)), some (.inl (nI fs))] rfl fun Γ hG hR => ?_
    obtain ⟨w0, e0⟩ := WOk_wsh hW (show c < cN by omega) (show 0 < 2 by omega)
    obtain ⟨w1, e1⟩ := WOk_wsh hW (show c < cN by omega) (show 1 < 2 by omega)
    generalize hW0 : wshN f c 0 = W0 at w0 e0
    generalize hW1 : wshN f c 1 = W1 at w1 e1
    have hdl : dl (nearT f t) F (wshN f) (r + 1) c gv m fs B = dl (nearT f t) F (wshN f) r (c + 1) (gv ++ [none]) m fs (if mayB (nearT f t) F gv W1 then dl (nearT f t) F (wshN f) r (c + 1) (gv ++ [some W1]) (m + 1) fs (if mayB (nearT f t) F gv W0 then dl (nearT f t) F (wshN f) r (c + 1) (gv ++ [some W0]) (m + 1) (fs + 1) B else B) else (if mayB (nearT f t) F gv W0 then dl (nearT f t) F (wshN f) r (c + 1) (gv ++ [some W0]) (m + 1) (fs + 1) B else B)) := by rw [dl, hW0, hW1]
    have hWb : ∀ i w, i < cN → w < 2 → wshN f i w < 125 := fun i w hi hw => (WOk_wsh hW hi hw).1
    have fcl : ∀ (τ : Sg), Sm [59, 60, 61] σ τ → RV τ 32 f n cN t ∧ ClF τ F f cN := fun τ hs => ⟨hV.sm hs (fun k hk => by simp; omega), fun i hi => by rw [hs 62 (by decide), hs 63 (by decide)]; exact hF i hi⟩
    have hokn : gvOk (gv ++ [none]) := gvOk_app hok (fun v h => by cases h)
    have hok0 : gvOk (gv ++ [some W0]) := gvOk_app hok (fun v h => by cases h; exact w0)
    have hok1 : gvOk (gv ++ [some W1]) := gvOk_app hok (fun v h => by cases h; exact w1)
    have at123 : ∀ (τ : Sg) (B2 : Bst), Sm [59, 60, 61] σ τ → BOk cN B2 → BstW τ B2 → gvA (-1000000005) gv (τ 61) → dl (nearT f t) F (wshN f) (r + 1) c gv m fs B = dl (nearT f t) F (wshN f) r (c + 1) (gv ++ [none]) m fs B2 → X Γ 123 [some (.inr 59), some (.inr 32), some (.inl (nI c)), some (.inl (nI m)), some (.inl (nI fs))] [] τ := by
      intro τ B2 hs hB2 hb2 hg2 he
      refine hG.sti rfl c rfl rfl rfl rfl (by omega) ?_
      refine hG.go 7 rfl rfl ?_
      rw [nI_1]
      have hs1 : Sm [59, 60, 61] σ (up τ 61 c (-1000000005)) := hs.up (by decide)
      obtain ⟨f1, f2⟩ := fcl _ hs1
      have hga : gvA (-1000000005) (gv ++ [none]) (up τ 61 c (-1000000005) 61) := by
        rw [up_same, ← hl]
        exact gvA_app (x := none) hg2
      refine hG.cVv lk_D_54 mi_D_tryFrom rfl rfl (ih (c + 1) (gv ++ [none]) m fs B2 _ (by omega) (by simp [hl]) hokn (by omega) (by omega) hB2 f1 f2 hga (hb2.sm (cs := [61]) (Sm.rf.up (by decide)) (by decide) (by decide))) rfl rfl (Nat.ble_eq_true_of_le (by omega)) rfl rfl rfl rfl rfl ?_
      rintro τ2 ⟨q1, q2, q3⟩
      refine hG.rv hR rfl rfl rfl ?_
      rw [he]
      exact ⟨q1, hs1.tr q2, gvA_pre q3⟩
    have at74 : ∀ (τ : Sg) (B1 : Bst), Sm [59, 60, 61] σ τ → BOk cN B1 → BstW τ B1 → gvA (-1000000005) gv (τ 61) → dl (nearT f t) F (wshN f) (r + 1) c gv m fs B = dl (nearT f t) F (wshN f) r (c + 1) (gv ++ [none]) m fs (if mayB (nearT f t) F gv W1 then dl (nearT f t) F (wshN f) r (c + 1) (gv ++ [some W1]) (m + 1) fs B1 else B1) → X Γ 74 [some (.inr 59), some (.inr 32), some (.inl (nI c)), some (.inl (nI m)), some (.inl (nI fs))] [] τ := by
      intro τ B1 hs hB1 hb1 hg1 he
      obtain ⟨f1, f2⟩ := fcl _ hs
      have ef := (f2 c (by omega)).2
      rw [hW1] at ef
      have en : τ 38 c = nI W1 := (f1.c2 (by omega)).trans e1
      have no : mayB (nearT f t) F gv W1 = false → X Γ 123 [some (.inr 59), some (.inr 32), some (.inl (nI c)), some (.inl (nI m)), some (.inl (nI fs))] [] τ := by
        intro h
        rw [h] at he
        exact at123 τ B1 hs hB1 hb1 hg1 he
      refine hG.ld rfl c rfl rfl rfl rfl rfl (by omega) ?_
      rw [ef]
      refine hG.br rfl rfl rfl rfl (fun k1 => ?_) (fun k1 => ?_)
      · exact no (by rw [mayB, bi_eq0.mp k1]; rfl)
      · refine hG.ld rfl c rfl rfl rfl rfl rfl (by omega) ?_
        rw [en]
        have cf := c_D_fits (l := l) (θ := θ) gv W1 f1 hg1 hok (by omega)
        rw [hl] at cf
        refine hG.cV lk_D_62 mi_D_fits rfl rfl cf rfl rfl (Nat.ble_eq_true_of_le (by omega)) rfl rfl rfl rfl rfl ?_
        rintro x τ1 ⟨rfl, rfl⟩
        refine hG.br rfl rfl rfl rfl (fun k2 => ?_) (fun k2 => ?_)
        · exact no (by rw [mayB, bi_eq0.mp k2, Bool.and_false])
        · have hmay : mayB (nearT f t) F gv W1 = true := by rw [mayB, bi_ne0.mp k1, bi_ne0.mp k2]; rfl
          rw [hmay, if_pos rfl] at he
          refine hG.ld rfl c rfl rfl rfl rfl rfl (by omega) ?_
          rw [en]
          refine hG.sti rfl c rfl rfl rfl rfl (by omega) ?_
          refine hG.go 10 rfl rfl ?_
          rw [nI_1, nI_1]
          have hs1 : Sm [59, 60, 61] σ (up τ1 61 c (nI W1)) := hs.up (by decide)
          obtain ⟨g1, g2⟩ := fcl _ hs1
          have hga : gvA (-1000000005) (gv ++ [some W1]) (up τ1 61 c (nI W1) 61) := by
            rw [up_same, ← hl]
            exact gvA_app (x := some W1) hg1
          have hBn := dl_ok (g := nearT f t) (F := F) hWb r (c + 1) (gv ++ [some W1]) (m + 1) fs B1 (by omega) (by simp [hl]) hok1 (by omega) (by omega) hB1
          refine hG.cVv lk_D_54 mi_D_tryFrom rfl rfl (ih (c + 1) (gv ++ [some W1]) (m + 1) fs B1 _ (by omega) (by simp [hl]) hok1 (by omega) (by omega) hB1 g1 g2 hga (hb1.sm (cs := [61]) (Sm.rf.up (by decide)) (by decide) (by decide))) rfl rfl (Nat.ble_eq_true_of_le (by omega)) rfl rfl rfl rfl rfl ?_
          rintro τ2 ⟨q1, q2, q3⟩
          exact at123 τ2 _ (hs1.tr q2) hBn q1 (gvA_pre q3) he
    have ef := (hF c (by omega)).1
    rw [hW0] at ef
    have en : σ 37 c = nI W0 := (hV.c1 (by omega)).trans e0
    have no : mayB (nearT f t) F gv W0 = false → X Γ 74 [some (.inr 59), some (.inr 32), some (.inl (nI c)), some (.inl (nI m)), some (.inl (nI fs))] [] σ := by
      intro h
      rw [h] at hdl
      exact at74 σ B Sm.rf hB hb hgv hdl
    refine hG.br rfl rfl rfl rfl (fun k0 => ?_) (fun k0 => ?_)
    · rw [hV.cn] at k0
      exact absurd k0 (nI_ge (by omega) (by omega))
    · refine hG.br rfl rfl rfl rfl (fun k9 => ?_) (fun k9 => ?_)
      · refine hG.ld rfl c rfl rfl rfl rfl rfl (by omega) ?_
        rw [ef]
        refine hG.br rfl rfl rfl rfl (fun k1 => ?_) (fun k1 => ?_)
        · exact no (by rw [mayB, bi_eq0.mp k1]; rfl)
        · refine hG.ld rfl c rfl rfl rfl rfl rfl (by omega) ?_
          rw [en]
          have cf := c_D_fits (l := l) (θ := θ) gv W0 hV hgv hok (by omega)
          rw [hl] at cf
          refine hG.cV lk_D_62 mi_D_fits rfl rfl cf rfl rfl (Nat.ble_eq_true_of_le (by omega)) rfl rfl rfl rfl rfl ?_
          rintro x τ1 ⟨rfl, rfl⟩
          refine hG.br rfl rfl rfl rfl (fun k2 => ?_) (fun k2 => ?_)
          · exact no (by rw [mayB, bi_eq0.mp k2, Bool.and_false])
          · have hmay : mayB (nearT f t) F gv W0 = true := by rw [mayB, bi_ne0.mp k1, bi_ne0.mp k2]; rfl
            rw [hmay, if_pos rfl] at hdl
            refine hG.ld rfl c rfl rfl rfl rfl rfl (by omega) ?_
            rw [en]
            refine hG.sti rfl c rfl rfl rfl rfl (by omega) ?_
            refine hG.go 12 rfl rfl ?_
            rw [nI_1, nI_1, nI_1]
            have hs1 : Sm [59, 60, 61] τ1 (up τ1 61 c (nI W0)) := Sm.rf.up (by decide)
            obtain ⟨g1, g2⟩ := fcl _ hs1
            have hga : gvA (-1000000005) (gv ++ [some W0]) (up τ1 61 c (nI W0) 61) := by
              rw [up_same, ← hl]
              exact gvA_app (x := some W0) hgv
            have hBn := dl_ok (g := nearT f t) (F := F) hWb r (c + 1) (gv ++ [some W0]) (m + 1) (fs + 1) B (by omega) (by simp [hl]) hok0 (by omega) (by omega) hB
            refine hG.cVv lk_D_54 mi_D_tryFrom rfl rfl (ih (c + 1) (gv ++ [some W0]) (m + 1) (fs + 1) B _ (by omega) (by simp [hl]) hok0 (by omega) (by omega) hB g1 g2 hga (hb.sm (cs := [61]) (Sm.rf.up (by decide)) (by decide) (by decide))) rfl rfl (Nat.ble_eq_true_of_le (by omega)) rfl rfl rfl rfl rfl ?_
            rintro τ2 ⟨q1, q2, q3⟩
            exact at74 τ2 _ (hs1.tr q2) hBn q1 (gvA_pre q3) hdl
      · exact absurd (show nI c < nI 6 from nI_lt (by omega) (by omega)) k9
end
