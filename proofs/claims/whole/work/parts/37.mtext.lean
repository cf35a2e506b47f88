def KyOk (σ : Sg) : Prop := (∀ i, i < 12 → σ 104 i = (st_byt.getD 0 []).getD i 0) ∧ ∀ i, i < 4 → σ 105 i = nI (4 * i)
def PrM (tp : Nat → Int32) (T : Nat) (res : Nat ⊕ (Nat × List Int32 × Nat)) : Prop := match keyL tp (lexN tp T 0 false) with
  | none => res = .inl (lexN tp T 0 false).1
  | some k => ∃ n, match res with
    | .inl s => syR tp T k n (advL tp T (lexN tp T 0 false), [], [], 0, true, 0, [false]) = some (.inl s)
    | .inr (k', oo, lv) => k' = k ∧ syR tp T k n (advL tp T (lexN tp T 0 false), [], [], 0, true, 0, [false]) = some (.inr (oo, lv))
def txtF (f : Nat → Int32) (t k : Nat) (oo : List Int32) (lv : Nat) : Nat → Int32 := fun j => if j = 5 then nI (t + 1) else if j = 58 + 2 * t then nI (1000 * k + oo.length) else if j = 58 + 2 * t + 1 then nI lv else if 86 + 96 * t ≤ j ∧ j < 86 + 96 * t + oo.length then oo.reverse.getD (j - (86 + 96 * t)) 0 else f j
section
variable {l : Launch} {θ : Th} {σ : Sg} {T n c t y : Nat} {tp : Nat → Int32} {L : Lx}
theorem c_M_takesKey (hK : KyOk σ) (htp : σ 103 = tp) (hT : σ 95 11 = nI T) (hT96 : T ≤ 96) (hok : LxOk tp T L) (hL : LxM σ tp L) : Ci l θ 3 m_M_takesKey [.inr 95] σ (fun r σ' => (keyL tp L = none → r = 0 ∧ σ' = σ) ∧ (∀ k, keyL tp L = some k → k < 3 ∧ r = 1 ∧ σ' 95 17 = nI k ∧ LxM σ' tp (advL tp T L) ∧ Sm [95] σ σ' ∧ F95 [12, 13, 14, 15, 16, 17] σ σ')) := by
  have hL0 := hL
  obtain ⟨l13, l12, l0, l1, l2, l3, l4, l5, l6⟩ := hL
  have hLle := LxOk_le hok
  obtain ⟨hk1, hk2⟩ := hK
  refine Ci.of (Or.inl mi_M_takesKey) pk_M_takesKey (nb rfl) (Or.inr rfl) [some (.inr 95), none, none, none, none] rfl fun Γ hG hR => ?_
  have no : keyL tp L = none → ∀ x : Lc, x.length = 5 → True := fun _ _ _ => trivial
  refine hG.br rfl rfl rfl rfl (fun k1 => ?_) (fun k1 => ?_)
  · have hkd : L.2.2 = 1 := by
      rcases LxOk_kind hok with h | h | h | h | h
      · rw [l0 h] at k1; exact absurd k1 (by decide)
      · exact h
      · by_cases hle2 : L.2.1 - L.1 ≤ 4
        · rw [((l2 h).1 hle2).1] at k1; exact absurd k1 (by decide)
        · rw [(l2 h).2 hle2] at k1; exact absurd k1 (by decide)
      · rw [(l3 h).1] at k1; exact absurd k1 (by decide)
      · rw [l4 h] at k1; exact absurd k1 (by decide)
    have hP : keyL tp L = fndB (fun q => decide (L.2.1 - L.1 = 4) && keyIs tp L q) 0 3 := by
      rw [keyL]
      by_cases h4 : L.2.1 - L.1 = 4
      · rw [if_pos ⟨hkd, h4⟩]
        simp [h4]
      · rw [if_neg (fun q => h4 q.2)]
        simp [fndB, h4]
    have loop : ∀ m q, q + m = 3 → ∀ (w2 w3 w4 : Option AV), keyL tp L = fndB (fun q => decide (L.2.1 - L.1 = 4) && keyIs tp L q) q m → X Γ 12 [some (.inr 95), some (.inl (nI q)), w2, w3, w4] [] σ := by
      intro m
      induction m with
      | zero =>
        intro q hq w2 w3 w4 he
        have hq : q = 3 := by omega
        subst hq
        refine hG.br rfl rfl rfl rfl (fun k2 => ?_) (fun k2 => ?_)
        · refine hG.rz hR rfl rfl rfl rfl (Or.inl rfl) ?_
          exact ⟨fun _ => ⟨rfl, rfl⟩, fun k hk => by rw [he] at hk; cases hk⟩
        · exact absurd (show nI 3 ≤ nI 3 from nI_le (Nat.le_refl _) (by omega)) k2
      | succ m ih =>
        intro q hq w2 w3 w4 he
        rw [fndB_s _ _ m] at he
        refine hG.br rfl rfl rfl rfl (fun k2 => ?_) (fun k2 => ?_)
        · exact absurd (show nI 3 ≤ nI q from k2) (nI_ge (by omega) (by omega))
        · refine hG.ld rfl (q + 1) rfl rfl rfl rfl (nI_1 q) (by omega) ?_
          refine hG.ld rfl q rfl rfl rfl rfl rfl (by omega) ?_
          rw [hk2 _ (by omega), hk2 _ (by omega)]
          refine hG.go 2 rfl rfl ?_
          rw [pk_sub (show 4 * q ≤ 4 * (q + 1) by omega), show 4 * (q + 1) - 4 * q = 4 by omega]
          -- whether the key is this one
          have fin : ∀ (b : Bool) (w4 : Option AV), b = (decide (L.2.1 - L.1 = 4) && keyIs tp L q) → X Γ 106 [some (.inr 95), some (.inl (nI q)), some (.inl (nI 4)), some (.inl (bi b)), w4] [] σ := by
            rintro b w4 hb
            rw [← hb] at he
            refine hG.br rfl rfl rfl rfl (fun k3 => ?_) (fun k3 => ?_)
            · rw [bi_eq0.mp k3] at he
              refine hG.jp rfl rfl rfl ?_
              rw [nI_1]
              exact ih (q + 1) (by omega) _ _ _ he
            · rw [bi_ne0.mp k3, if_pos rfl] at he
              have hL1 : LxM (up σ 95 17 (nI q)) tp L := hL0.keep (fun j hj => by rw [up_j _ _ _ _ (by omega)])
              refine hG.cVv lk_M_226 mi_M_go rfl rfl (c_M_adv (T := T) tp L (by rw [up_c _ _ _ _ (by decide)]; exact htp) (by rw [up_j _ _ _ _ (by decide)]; exact hT) hT96 hok hL1 (Or.inl hkd)) rfl rfl rfl rfl rfl rfl rfl rfl ?_
              rintro τ ⟨q1, q2, q3⟩
              refine hG.rz hR rfl rfl rfl rfl (Or.inr rfl) ?_
              refine ⟨fun hn => (by rw [he] at hn; cases hn), fun k hk => ?_⟩
              rw [he] at hk; cases hk
              refine ⟨by omega, rfl, ?_, q1, (Sm.rf.up (by decide)).tr q2, (F95.rf.up (by decide)).tr (q3.mono (by decide))⟩
              rw [q3 17 (by decide), up_self]
          have inner : ∀ m2 i, i + m2 = 4 → keyIs tp L q = allB (fun i => decide (tp (L.1 + i) = keyW q i)) i m2 → L.2.1 - L.1 = 4 → X Γ 55 [some (.inr 95), some (.inl (nI q)), some (.inl (nI 4)), some (.inl (bi true)), some (.inl (nI i))] [] σ := by
            intro m2
            induction m2 with
            | zero =>
              intro i hi he2 h4
              refine hG.br rfl rfl rfl rfl (fun k3 => ?_) (fun k3 => ?_)
              · exact fin true _ (by rw [he2, h4]; rfl)
              · exact absurd (nI_le (show 4 ≤ i by omega) (by omega)) k3
            | succ m2 ih2 =>
              intro i hi he2 h4
              rw [allB_s _ _ m2] at he2
              refine hG.br rfl rfl rfl rfl (fun k3 => ?_) (fun k3 => ?_)
              · exact absurd k3 (nI_ge (by omega) (by omega))
              · refine hG.br rfl rfl rfl rfl (fun k4 => ?_) (fun k4 => ?_)
                · exact absurd k4 (by decide)
                · refine hG.ld rfl (L.1 + i) rfl rfl rfl rfl (by rw [l13, nI_add]) (by omega) ?_
                  refine hG.ld rfl q rfl rfl rfl rfl rfl (by omega) ?_
                  rw [hk2 _ (by omega), htp]
                  refine hG.ld rfl (4 * q + i) rfl rfl rfl rfl (by rw [nI_add]) (by omega) ?_
                  rw [hk1 _ (by omega)]
                  refine hG.br rfl rfl rfl rfl (fun k5 => ?_) (fun k5 => ?_)
                  · have hb : keyIs tp L q = false := by
                      rw [he2, decide_eq_false (show ¬ tp (L.1 + i) = keyW q i from k5)]; rfl
                    refine hG.jp rfl rfl rfl ?_
                    rw [nI_1]
                    refine hG.br rfl rfl rfl rfl (fun k6 => ?_) (fun k6 => ?_)
                    · exact fin false _ (by rw [hb]; simp)
                    · refine hG.br rfl rfl rfl rfl (fun k7 => ?_) (fun k7 => ?_)
                      · exact fin false _ (by rw [hb]; simp)
                      · exact absurd rfl k7
                  · have hb : keyIs tp L q = allB (fun i => decide (tp (L.1 + i) = keyW q i)) (i + 1) m2 := by
                      rw [he2, decide_eq_true (show tp (L.1 + i) = keyW q i from k5)]; rfl
                    refine hG.jp rfl rfl rfl ?_
                    rw [nI_1]
                    exact ih2 (i + 1) (by omega) hb h4
          refine hG.br rfl rfl rfl rfl (fun k3 => ?_) (fun k3 => ?_)
          · rw [l12, l13, pk_sub hLle.2.2] at k3
            have hne : ¬ L.2.1 - L.1 = 4 := fun e => k3 (by rw [e])
            have fin0 := fin false (some (.inl 0)) (by simp [hne])
            refine hG.go 4 rfl rfl ?_
            refine hG.br rfl rfl rfl rfl (fun k4 => ?_) (fun k4 => ?_)
            · exact fin0
            · refine hG.br rfl rfl rfl rfl (fun k5 => ?_) (fun k5 => ?_)
              · exact fin0
              · exact absurd rfl k5
          · rw [l12, l13, pk_sub hLle.2.2] at k3
            have heq : L.2.1 - L.1 = 4 := ((nI_eq (by omega) (by omega)).mp k3).symm
            exact hG.go 5 rfl rfl (inner 4 0 rfl rfl heq)
    exact hG.go 2 rfl rfl (loop 3 0 rfl none none none hP)
  · have hkd : ¬ L.2.2 = 1 := fun h => k1 (l1 h).1
    have hn : keyL tp L = none := by rw [keyL, if_neg (fun q => hkd q.1)]
    refine hG.rz hR rfl rfl rfl rfl (Or.inl rfl) ?_
    exact ⟨fun _ => ⟨rfl, rfl⟩, fun k hk => by rw [hn] at hk; cases hk⟩
theorem StkR_get {g : Nat → Int32} {s : List Int32} {i : Nat} (h : StkR g s) (hi : i < s.length) : g i = s.reverse.getD i 0 := by
  have hi2 : i < s.reverse.length := by rw [List.length_reverse]; exact hi
  have hx : s.reverse[i]? = some s.reverse[i] := List.getElem?_eq_getElem hi2
  rw [StkR_at h hx, List.getD_eq_getElem?_getD, hx]; rfl
theorem o_M_text (hf : FOk (σ 96) n c t y) (hK : KyOk σ) (hT : σ 95 11 = nI T) (hT96 : T ≤ 96) : Ci l θ 6 m_M_text [.inr 95] σ (fun r σ' => Sm [95, 96, 106, 107, 108] σ σ' ∧ F95 [11, 12, 13, 14, 15, 16, 17, 21, 22, 24] σ σ' ∧ σ' 95 11 = 0 ∧ ∃ res, PrM (σ 103) T res ∧ (∀ s, res = .inl s → r = -100 - nI s ∧ σ' 96 = σ 96) ∧ (∀ k oo lv, res = .inr (k, oo, lv) → k < 3 ∧ oo.length ≤ 96 ∧ lv ≤ oo.length ∧ (t = 14 → r = -1000000003 ∧ σ' 96 = σ 96) ∧ (t ≠ 14 → r = nI t ∧ σ' 96 = txtF (σ 96) t k oo lv))) := by
  obtain ⟨h1, hn, h4, hc, h5, ht, h2, h2y, hTx, hW⟩ := hf
  refine Ci.of (Or.inl mi_M_text) pk_M_text (nb rfl) (Or.inl rfl) [some (.inr 95), none, none, none] rfl fun Γ hG hR => ?_
  refine hG.go 7 rfl rfl ?_
  generalize hτ0 : up (up σ 95 12 0) 95 16 (-1) = τ0
  have hS0 : Sm [95, 96, 106, 107, 108] σ τ0 := by rw [← hτ0]; exact (Sm.rf.up (by decide)).up (by decide)
  have hF0 : F95 [12, 16] σ τ0 := by rw [← hτ0]; exact (F95.rf.up (by decide)).up (by decide)
  have e103 : τ0 103 = σ 103 := hS0 103 (by decide)
  have hgo := c_M_go (l := l) (θ := θ) (σ := τ0) (T := T) 0 false (by rw [hF0 11 (by decide)]; exact hT) hT96 (Nat.zero_le _) (by rw [← hτ0, up_j _ _ _ _ (by decide), up_self]; rfl) (fun h => by cases h) (fun _ q _ hq => by
    rw [← hτ0, up_self]
    intro e
    exact absurd (show (0 : Int32) ≤ -1 by rw [e]; exact nI_pos' (by omega)) (by decide))
  rw [e103] at hgo
  refine hG.cVv lk_M_226 mi_M_go rfl rfl hgo rfl rfl rfl rfl rfl rfl rfl rfl ?_
  rintro τ1 ⟨q1, q2, q3⟩
  have hok := (lexN_ok (tp := σ 103) (T := T) (p := 0) (pw := false) (Nat.zero_le _)).1
  generalize hLx : lexN (σ 103) T 0 false = L0 at q1 hok
  have hS1 := hS0.tr (q2.mono (ds := [95, 96, 106, 107, 108]) (by decide))
  have hF1 : F95 [12, 13, 14, 15, 16] σ τ1 := (hF0.mono (by decide)).tr q3
  have hK1 : KyOk τ1 := by
    unfold KyOk
    rw [hS1 104 (by decide), hS1 105 (by decide)]; exact hK
  -- no text
  have bad : ∀ (s : Nat) (τ : Sg), PrM (σ 103) T (.inl s) → Sm [95, 96, 106, 107, 108] σ τ → F95 [12, 13, 14, 15, 16, 17, 21, 22, 24] σ τ → τ 95 13 = nI s → τ 96 = σ 96 → X Γ 32 [some (.inr 95), none, none, none] [] τ := by
    intro s τ hp hS hF e13 e96
    refine hG.br rfl rfl rfl rfl (fun k1 => absurd rfl k1) (fun _ => ?_)
    refine hG.rt hR rfl rfl rfl rfl ?_
    refine ⟨hS.up (by decide), (hF.mono (by decide)).up (by decide), up_self _ _ _ _, .inl s, hp, fun s2 hs2 => ?_, fun _ _ _ h => by cases h⟩
    cases hs2
    exact ⟨by rw [up_j _ _ _ _ (by decide), e13], by rw [up_c _ _ _ _ (by decide)]; exact e96⟩
  refine hG.cV lk_M_258 mi_M_takesKey rfl rfl (c_M_takesKey (T := T) (tp := σ 103) (L := L0) hK1 (hS1 103 (by decide)) (by rw [hF1 11 (by decide)]; exact hT) hT96 hok q1) rfl rfl rfl rfl rfl rfl rfl rfl ?_
  rintro x τ2 ⟨p1, p2⟩
  cases hky : keyL (σ 103) L0 with
  | none =>
    obtain ⟨rfl, rfl⟩ := p1 hky
    refine hG.br rfl rfl rfl rfl (fun k1 => ?_) (fun k1 => ?_)
    · refine bad L0.1 τ2 ?_ hS1 (hF1.mono (by decide)) q1.1 ?_
      · unfold PrM
        rw [hLx, hky]
      · rw [q2 96 (by decide), ← hτ0, up_c _ _ _ _ (by decide), up_c _ _ _ _ (by decide)]
    · exact absurd rfl k1
  | some k =>
    obtain ⟨hk3, rfl, e17, hL2, hS2, hF2⟩ := p2 k hky
    have hS3 := hS1.tr (hS2.mono (ds := [95, 96, 106, 107, 108]) (by decide))
    have hF3 : F95 [12, 13, 14, 15, 16, 17] σ τ2 := (hF1.mono (by decide)).tr hF2
    have e962 : τ2 96 = σ 96 := by rw [hS2 96 (by decide), q2 96 (by decide), ← hτ0, up_c _ _ _ _ (by decide), up_c _ _ _ _ (by decide)]
    refine hG.br rfl rfl rfl rfl (fun k1 => ?_) (fun k1 => ?_)
    · exact absurd k1 (by decide)
    · refine hG.cV lk_M_261 mi_M_takesE rfl rfl (c_M_takesE (T := T) (tp := σ 103) (key := k) (L := advL (σ 103) T L0) (hS3 103 (by decide)) (by rw [hF3 11 (by decide)]; exact hT) hT96 e17 hk3 (advL_ok hok).1 hL2) rfl rfl rfl rfl rfl rfl rfl rfl ?_
      rintro x τ3 ⟨hS4, hF4, nn, hcase⟩
      have hS5 := hS3.tr (hS4.mono (ds := [95, 96, 106, 107, 108]) (by decide))
      have hF5 : F95 [12, 13, 14, 15, 16, 17, 21, 22, 24] σ τ3 := (hF3.mono (by decide)).tr (hF4.mono (by decide))
      have e963 : τ3 96 = σ 96 := by rw [hS4 96 (by decide)]; exact e962
      rcases hcase with ⟨s, hs, rfl, e13⟩ | ⟨oo, lv, hs, rfl, ho, e21, e22, hoo, hlv⟩
      · refine hG.br rfl rfl rfl rfl (fun k2 => ?_) (fun k2 => ?_)
        · refine bad s τ3 ?_ hS5 hF5 e13 e963
          unfold PrM
          rw [hLx, hky]
          exact ⟨nn, hs⟩
        · exact absurd rfl k2
      · refine hG.br rfl rfl rfl rfl (fun k2 => ?_) (fun k2 => ?_)
        · exact absurd k2 (by decide)
        · have hp : PrM (σ 103) T (.inr (k, oo, lv)) := by
            unfold PrM
            rw [hLx, hky]
            exact ⟨nn, rfl, hs⟩
          refine hG.br rfl rfl rfl rfl (fun _ => ?_) (fun k3 => absurd k3 (by decide))
          generalize hτ4 : up τ3 95 11 0 = τ4
          have hS6 : Sm [95, 96, 106, 107, 108] σ τ4 := by rw [← hτ4]; exact hS5.up (by decide)
          have hF6 : F95 [11, 12, 13, 14, 15, 16, 17, 21, 22, 24] σ τ4 := by rw [← hτ4]; exact (hF5.mono (by decide)).up (by decide)
          have e11 : τ4 95 11 = 0 := by rw [← hτ4, up_self]
          have e964 : τ4 96 = σ 96 := by rw [← hτ4, up_c _ _ _ _ (by decide)]; exact e963
          have e106 : τ4 106 = τ3 106 := by rw [← hτ4, up_c _ _ _ _ (by decide)]
          have f17 : τ4 95 17 = nI k := by rw [← hτ4, up_j _ _ _ _ (by decide), hF4 17 (by decide)]; exact e17
          have f21 : τ4 95 21 = nI oo.length := by rw [← hτ4, up_j _ _ _ _ (by decide)]; exact e21
          have f22 : τ4 95 22 = nI lv := by rw [← hτ4, up_j _ _ _ _ (by decide)]; exact e22
          refine hG.ld rfl 5 rfl rfl rfl rfl rfl (by decide) ?_
          rw [e964, h5]
          refine hG.br rfl rfl rfl rfl (fun k3 => ?_) (fun k3 => ?_)
          · have ht14 : t ≠ 14 := fun e => k3 (by rw [e]; rfl)
            refine hG.ld rfl 5 rfl rfl rfl rfl rfl (by decide) ?_
            rw [e964, h5]
            refine hG.sti rfl (58 + 2 * t) rfl rfl rfl (by simp only [lit_nI, pk_mul, nI_add]) (by omega) ?_
            rw [f17, f21, show (1000 : Int32) * nI k + nI oo.length = nI (1000 * k + oo.length) by rw [show (1000 : Int32) * nI k = nI (1000 * k) from pk_mul 1000 k, nI_add]]
            refine hG.sti rfl (58 + 2 * t + 1) rfl rfl rfl (by simp only [lit_nI, pk_mul, nI_add]) (by omega) ?_
            rw [up_c _ _ _ _ (show 95 ≠ 96 by decide), f22]
            have eg : up (up τ4 96 (58 + 2 * t) (nI (1000 * k + oo.length))) 96 (58 + 2 * t + 1) (nI lv) = upc τ4 96 (upd (upd (σ 96) (58 + 2 * t) (nI (1000 * k + oo.length))) (58 + 2 * t + 1) (nI lv)) := by
              rw [show up τ4 96 (58 + 2 * t) (nI (1000 * k + oo.length)) = upc τ4 96 (upd (τ4 96) (58 + 2 * t) (nI (1000 * k + oo.length))) from rfl, up_upc, e964]
            rw [eg]
            generalize hg : upd (upd (σ 96) (58 + 2 * t) (nI (1000 * k + oo.length))) (58 + 2 * t + 1) (nI lv) = g
            have loop : ∀ m i, i + m = oo.length → X Γ 115 [some (.inr 95), some (.inl (bi true)), some (.inl (nI t)), some (.inl (nI i))] [] (upc τ4 96 (fun j => if 86 + 96 * t ≤ j ∧ j < 86 + 96 * t + i then oo.reverse.getD (j - (86 + 96 * t)) 0 else g j)) := by
              intro m
              induction m with
              | zero =>
                intro i hi
                have hi : i = oo.length := by omega
                subst hi
                refine hG.br rfl rfl rfl rfl (fun k4 => ?_) (fun k4 => ?_)
                · refine hG.ld rfl 5 rfl rfl rfl rfl rfl (by decide) ?_
                  refine hG.sti rfl 5 rfl rfl rfl rfl (by decide) ?_
                  refine hG.rt hR rfl rfl rfl rfl ?_
                  rw [up_upc]
                  refine ⟨hS6.upc (by decide), fun j hj => by rw [upc_c _ _ _ (by decide)]; exact hF6 j hj, by rw [upc_c _ _ _ (by decide)]; exact e11, _, hp, fun _ h => (by cases h), fun k2 oo2 lv2 h => ?_⟩
                  cases h
                  refine ⟨hk3, hoo, hlv, fun e => absurd e ht14, fun _ => ⟨rfl, ?_⟩⟩
                  rw [upc_same, upc_same]
                  funext j
                  simp only [upd, txtF]
                  by_cases hj5 : j = 5
                  · subst hj5
                    rw [if_pos rfl, if_pos rfl, if_neg (by omega), ← hg]
                    rw [upd_ne (by omega), upd_ne (by omega), h5, nI_1]
                  · rw [if_neg hj5, if_neg hj5]
                    by_cases hq : 86 + 96 * t ≤ j ∧ j < 86 + 96 * t + oo.length
                    · rw [if_pos hq, if_neg (by omega), if_neg (by omega), if_pos hq]
                    · rw [if_neg hq, if_neg hq, ← hg]
                      simp only [upd]
                      by_cases ha : j = 58 + 2 * t + 1
                      · rw [if_pos ha, if_neg (by omega), if_pos ha]
                      · rw [if_neg ha, if_neg ha]
                · rw [upc_c _ _ _ (by decide), f21] at k4
                  exact absurd (nI_le (Nat.le_refl _) (by omega)) k4
              | succ m ih =>
                intro i hi
                refine hG.br rfl rfl rfl rfl (fun k4 => ?_) (fun k4 => ?_)
                · rw [upc_c _ _ _ (by decide), f21] at k4
                  exact absurd k4 (nI_ge (by omega) (by omega))
                · refine hG.ld rfl i rfl rfl rfl rfl rfl (by omega) ?_
                  rw [upc_c _ _ _ (show 106 ≠ 96 by decide), e106, StkR_get ho (by omega)]
                  refine hG.sti rfl (86 + 96 * t + i) rfl rfl rfl (by simp only [lit_nI, pk_mul, nI_add]) (by omega) ?_
                  refine hG.jp rfl rfl rfl ?_
                  rw [nI_1, up_upc]
                  have e : upd (fun j => if 86 + 96 * t ≤ j ∧ j < 86 + 96 * t + i then oo.reverse.getD (j - (86 + 96 * t)) 0 else g j) (86 + 96 * t + i) (oo.reverse.getD i 0) = (fun j => if 86 + 96 * t ≤ j ∧ j < 86 + 96 * t + (i + 1) then oo.reverse.getD (j - (86 + 96 * t)) 0 else g j) := by
                    funext j
                    simp only [upd]
                    by_cases hj : j = 86 + 96 * t + i
                    · subst hj
                      rw [if_pos rfl, if_pos ⟨by omega, by omega⟩, show 86 + 96 * t + i - (86 + 96 * t) = i by omega]
                    · rw [if_neg hj]
                      by_cases hq : 86 + 96 * t ≤ j ∧ j < 86 + 96 * t + i
                      · rw [if_pos hq, if_pos ⟨hq.1, by omega⟩]
                      · rw [if_neg hq, if_neg (fun z => hq ⟨z.1, by omega⟩)]
                  rw [e]
                  exact ih (i + 1) (by omega)
            have hl0 := loop oo.length 0 (by omega)
            rw [show (fun j => if 86 + 96 * t ≤ j ∧ j < 86 + 96 * t + 0 then oo.reverse.getD (j - (86 + 96 * t)) 0 else g j) = g by funext j; rw [if_neg (by omega)]] at hl0
            exact hG.go 2 rfl rfl hl0
          · have ht14 : t = 14 := (nI_eq (by omega) (by omega)).mp (show nI t = nI 14 from k3)
            refine hG.rt hR rfl rfl rfl rfl ?_
            refine ⟨hS6, hF6, e11, _, hp, fun _ h => (by cases h), fun k2 oo2 lv2 h => ?_⟩
            cases h
            exact ⟨hk3, hoo, hlv, fun _ => ⟨rfl, e964⟩, fun e => absurd ht14 e⟩
end
