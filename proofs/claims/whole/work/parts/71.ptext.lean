/-! the class's text: the whole reading; what one reads the other reads -/
theorem syR_mono {tp : Nat → Int32} {T key : Nat} {r : Nat ⊕ (List Int32 × Nat)} : ∀ (n : Nat) (S : SyS), syR tp T key n S = some r → syR tp T key (n + 1) S = some r
  | 0, S, h => by rw [syR] at h; cases h
  | n + 1, (L, w, o, lv, wants, nots, tst), h => by
    rw [syR] at h ⊢
    by_cases hd : wants = false ∧ L.2.2 = 0
    · rw [if_pos hd] at h ⊢; exact h
    · rw [if_neg hd] at h ⊢
      cases hn : syN tp T key (L, w, o, lv, wants, nots, tst) with
      | none => rw [hn] at h; exact h
      | some S' => rw [hn] at h; exact syR_mono n S' h
theorem syR_le {tp : Nat → Int32} {T key : Nat} {r : Nat ⊕ (List Int32 × Nat)} {n : Nat} {S : SyS} (h : syR tp T key n S = some r) : ∀ k, syR tp T key (n + k) S = some r
  | 0 => h
  | k + 1 => syR_mono _ _ (syR_le h k)
theorem syR_det {tp : Nat → Int32} {T key : Nat} {r1 r2 : Nat ⊕ (List Int32 × Nat)} {n1 n2 : Nat} {S : SyS} (h1 : syR tp T key n1 S = some r1) (h2 : syR tp T key n2 S = some r2) : r1 = r2 := by
  have a := syR_le h1 n2
  have b := syR_le h2 n1
  rw [Nat.add_comm] at b
  rw [a] at b
  exact Option.some.inj b
theorem PrM_det {tp : Nat → Int32} {T : Nat} {a b : Nat ⊕ (Nat × List Int32 × Nat)} (h1 : PrM tp T a) (h2 : PrM tp T b) : a = b := by
  unfold PrM at h1 h2
  cases hk : keyL tp (lexN tp T 0 false) with
  | none => rw [hk] at h1 h2; exact h1.trans h2.symm
  | some k =>
    rw [hk] at h1 h2
    obtain ⟨n1, h1⟩ := h1
    obtain ⟨n2, h2⟩ := h2
    cases a with
    | inl s1 =>
      cases b with
      | inl s2 => have := syR_det h1 h2; cases this; rfl
      | inr q2 =>
        obtain ⟨k2, o2, v2⟩ := q2
        have := syR_det h1 h2.2
        cases this
    | inr q1 =>
      obtain ⟨k1, o1, v1⟩ := q1
      cases b with
      | inl s2 => have := syR_det h1.2 h2; cases this
      | inr q2 =>
        obtain ⟨k2, o2, v2⟩ := q2
        have := syR_det h1.2 h2.2
        cases this
        rw [h1.1, h2.1]
theorem cd_of {g : Nat → Int32} {b m : Nat} : ∀ (oo : List Int32), (∀ j, j < oo.length → g (b + j) = oo.reverse.getD j 0) → wfL m oo → dpth g b oo.length = dpL oo ∧ ∀ k, k < oo.length → (0 ≤ g (b + k) → g (b + k) < nI (10000 + m)) ∧ (¬ 0 ≤ g (b + k) → g (b + k) = -10 → 1 ≤ dpth g b k) ∧ (¬ 0 ≤ g (b + k) → ¬ g (b + k) = -10 → 2 ≤ dpth g b k ∧ -10 ≤ g (b + k))
  | [], _, _ => ⟨rfl, fun k hk => by simp at hk⟩
  | c :: o, h, hw => by
    obtain ⟨w1, w2, w3, w4⟩ := hw
    have h0 : ∀ j, j < o.length → g (b + j) = o.reverse.getD j 0 := fun j hj => by
      rw [h j (by simp only [List.length_cons]; omega), List.reverse_cons, List.getD_eq_getElem?_getD, List.getD_eq_getElem?_getD, List.getElem?_append_left (by rw [List.length_reverse]; exact hj)]
    have hc : g (b + o.length) = c := by
      rw [h o.length (by simp only [List.length_cons]; omega), List.reverse_cons, List.getD_eq_getElem?_getD, List.getElem?_append_right (by rw [List.length_reverse]; exact Nat.le_refl _), List.length_reverse, Nat.sub_self]
      rfl
    obtain ⟨i1, i2⟩ := cd_of o h0 w1
    refine ⟨by rw [List.length_cons, dpth, hc, i1, dpL], fun k hk => ?_⟩
    by_cases e : k = o.length
    · subst e
      rw [hc, i1]
      exact ⟨w2, w3, w4⟩
    · exact i2 k (by simp only [List.length_cons] at hk; omega)
theorem tb_or : ∀ k, k < 8 → ∀ v, v < 2 ^ k → (nI v ||| (1 <<< (nI k &&& 31))) = nI (v + 2 ^ k) := by decide +kernel
theorem tb_nw : ∀ v, v < 256 → ∀ w, w < 8 → nwB (nI v) w = v.testBit w := by decide +kernel
theorem tb_add : ∀ k, k < 8 → ∀ v, v < 2 ^ k → ∀ w, w < 8 → (v + 2 ^ k).testBit w = (v.testBit w || decide (w = k)) := by decide +kernel
theorem tb_lt : ∀ k, k < 8 → ∀ v, v < 2 ^ k → v.testBit k = false := by decide +kernel
theorem an1 : ∀ w, w < 8 → (nI w &&& 1 = 0 ↔ w % 2 = 0) := by decide +kernel
theorem an4 : ∀ w, w < 8 → (nI w &&& 4 = 0 ↔ w / 4 = 0) := by decide +kernel
theorem wy_at : ∀ w, w < 8 → wyIx w / 4 = 3 - pcN w ∧ wyIx w / 2 % 2 = w % 2 ∧ wyIx w % 2 = w / 4 := by decide +kernel
theorem pw8 : ∀ k, k < 9 → 2 ^ k ≤ 256 := by decide
section
variable {l : Launch} {θ : Th} {σ σ' : Sg} {T : Nat} {tp : Nat → Int32}
theorem c_P_readText (htp : σ 65 = tp) (hT : σ 64 1 = nI T) (hT96 : T ≤ 96) : Ci l θ 80 m_P_readText [.inr 64] σ (fun r σ' => Sm [64, 66, 67] σ σ' ∧ ∃ res, PrM tp T res ∧ (∀ s, res = .inl s → r = 0 ∧ σ' 64 2 = nI s) ∧ (∀ k oo lv, res = .inr (k, oo, lv) → r = 1 ∧ k < 3 ∧ σ' 66 0 = nI k ∧ σ' 66 1 = nI lv ∧ σ' 66 2 = nI oo.length ∧ oo.length ≤ 96 ∧ StkR (σ' 67) (oo.map stC) ∧ wfL (nmK k) oo ∧ dpL oo = 1)) := by
  have bad : ∀ (r : Int32) (τ : Sg) (s : Nat), Sm [64, 66, 67] σ τ → r = 0 → τ 64 2 = nI s → PrM tp T (.inl s) → (Sm [64, 66, 67] σ τ ∧ ∃ res, PrM tp T res ∧ (∀ s, res = .inl s → r = 0 ∧ τ 64 2 = nI s) ∧ (∀ k oo lv, res = .inr (k, oo, lv) → r = 1 ∧ k < 3 ∧ τ 66 0 = nI k ∧ τ 66 1 = nI lv ∧ τ 66 2 = nI oo.length ∧ oo.length ≤ 96 ∧ StkR (τ 67) (oo.map stC) ∧ wfL (nmK k) oo ∧ dpL oo = 1)) := fun r τ s h1 h2 h3 h4 => ⟨h1, .inl s, h4, fun s' e => by cases e; exact ⟨h2, h3⟩, fun k oo lv e => by cases e⟩
  refine Ci.of (Or.inl mi_P_readText) pk_P_readText (nb rfl) (Or.inr rfl) [some (.inr 64), none] rfl fun Γ hG hR => ?_
  generalize hσ1 : up (up σ 64 3 0) 64 4 0 = σ1
  have hs1 : Sm [64] σ σ1 := by rw [← hσ1]; exact (Sm.rf.up (by decide)).up (by decide)
  have g1 : σ1 64 1 = nI T := by rw [← hσ1, up_j _ _ _ _ (by decide), up_j _ _ _ _ (by decide)]; exact hT
  have g3 : σ1 64 3 = nI 0 := by rw [← hσ1, up_j _ _ _ _ (by decide), up_self]; rfl
  have g4 : σ1 64 4 = 0 := by rw [← hσ1, up_self]
  have g65 : σ1 65 = tp := by rw [hs1 65 (by decide)]; exact htp
  have ca := c_P_advance (l := l) (θ := θ) (σ := σ1) 0 false g1 hT96 (Nat.zero_le _) g3 (by rw [g4]; decide)
  rw [g65] at ca
  subst hσ1
  refine hG.cVv lk_P_32 mi_P_advance rfl rfl ca rfl rfl rfl rfl rfl rfl rfl rfl ?_
  rintro τ1 ⟨hL0, hs2, hf2⟩
  have hok0 := lexN_ok (tp := tp) (T := T) (p := 0) (pw := false) (Nat.zero_le _)
  generalize hLd : lexN tp T 0 false = L0 at hL0 hok0
  have t65 : τ1 65 = tp := by rw [hs2 65 (by decide)]; exact g65
  have t1 : τ1 64 1 = nI T := by rw [hf2 1 (by decide) (by decide) (by decide)]; exact g1
  have hsm1 : Sm [64, 66, 67] σ τ1 := (hs1.mono (by simp)).tr (hs2.mono (by simp))
  refine hG.cV lk_P_35 mi_P_keyAtHand rfl rfl (c_P_keyAtHand t65 hT96 hok0.1 hL0) rfl rfl rfl rfl rfl rfl rfl rfl ?_
  rintro x τ2 ⟨rfl, rfl⟩
  cases hkl : keyL tp L0 with
  | none =>
    refine hG.br rfl rfl rfl rfl (fun k1 => ?_) (fun k1 => ?_)
    · exact absurd k1 (by decide)
    · refine hG.rz hR rfl rfl rfl rfl (Or.inl rfl) ?_
      refine bad _ _ L0.1 hsm1 rfl hL0.1 ?_
      rw [PrM, hLd, hkl]
  | some k =>
    have hk3 : k < 3 := by
      rw [keyL] at hkl
      split at hkl
      · have := (fndB_some hkl).2.1; omega
      · cases hkl
    have hw0 : L0.2.2 = 1 ∨ L0.2.2 = 2 := by
      rw [keyL] at hkl
      split at hkl
      · rename_i h; exact Or.inl h.1
      · cases hkl
    refine hG.br rfl rfl rfl rfl (fun k1 => ?_) (fun k1 => ?_)
    · refine hG.cVv lk_P_39 mi_X_begin rfl rfl (c_X_begin (nI k)) rfl rfl rfl rfl rfl rfl rfl rfl ?_
      rintro τ3 hτ3
      have hs3 : Sm [66] τ2 τ3 := by rw [hτ3]; exact ((Sm.rf.up (by decide)).up (by decide)).up (by decide)
      have hC : CPs τ3 tp T k L0 [] 0 := by
        refine ⟨by rw [hs3 65 (by decide)]; exact t65, by rw [hs3 64 (by decide)]; exact t1, hT96, hok0.1, by unfold LxC; rw [hs3 64 (by decide)]; exact hL0, ?_, hk3, trivial, ?_, ?_, trivial⟩
        · rw [hτ3, up_j _ _ _ _ (by decide), up_j _ _ _ _ (by decide), up_self]
        · rw [hτ3, up_self]; rfl
        · rw [hτ3, up_j _ _ _ _ (by decide), up_self]; rfl
      refine hG.cVv lk_P_32 mi_P_advance rfl rfl hC.cadv rfl rfl rfl rfl rfl rfl rfl rfl ?_
      rintro τ4 ⟨hC4, hs4⟩
      have hsm4 : Sm [64, 66, 67] σ τ4 := (hsm1.tr (hs3.mono (by simp))).tr (hs4.mono (by simp))
      refine hG.cV lk_P_43 mi_P_readLevel rfl rfl ((c_P_read (l := l) (θ := θ) (tp := tp) (T := T) (key := k) 78).1 0 0 0 0 (advL tp T L0) [] [] [false] τ4 (by omega) (by omega) (by omega) (by omega) hC4 (Or.inl rfl) rfl rfl rfl (fun _ => rfl) (by simp)) rfl rfl rfl rfl rfl rfl rfl rfl ?_
      rintro r τ5 ⟨hs5, hr⟩
      have hsm5 : Sm [64, 66, 67] σ τ5 := hsm4.tr hs5
      have hpf : ∀ s, Fl tp T k (advL tp T L0, [], [], 0, true, cntN [], [false]) s → PrM tp T (.inl s) := fun s hf => by rw [PrM, hLd, hkl]; exact hf
      rcases hr with ⟨rfl, s, hs, hf⟩ | ⟨rfl, L', u, om, lv', tst', hC', hle', hLL', hdp', hu', hgo', htl', htt', ht3', hnx'⟩
      · refine hG.br rfl rfl rfl rfl (fun k2 => ?_) (fun k2 => ?_)
        · refine hG.rz hR rfl rfl rfl rfl (Or.inl rfl) ?_
          exact bad _ _ s hsm5 rfl hs (hpf s hf)
        · exact absurd rfl k2
      · have hk4 := LxOk_k4 hC'.2.2.2.1
        have hLe' := LxOk_le hC'.2.2.2.1
        refine hG.br rfl rfl rfl rfl (fun k2 => ?_) (fun k2 => ?_)
        · exact absurd k2 (by decide)
        · refine hG.br rfl rfl rfl rfl (fun k3 => ?_) (fun k3 => ?_)
          · have h0 : ¬ L'.2.2 = 0 := fun e => k3 (by rw [hC'.2.2.2.2.1.2.2, e]; rfl)
            refine hG.rz hR rfl rfl rfl rfl (Or.inl rfl) ?_
            refine bad _ _ L'.1 hsm5 rfl hC'.2.2.2.2.1.1 (hpf _ (hgo'.fl (Fl.of ?_ (fun q => h0 q.2))))
            rw [syN_op (by rw [htl']; simp), if_pos]
            rcases hnx' with q | q | q
            · exact Or.inl q
            · have := rnk_1 (opL tp L'); omega
            · exact Or.inr q
          · have h0 : L'.2.2 = 0 := (nI_eq (b := 0) (by omega) (by omega)).mp (by rw [← hC'.2.2.2.2.1.2.2]; exact k3)
            refine hG.rz hR rfl rfl rfl rfl (Or.inr rfl) ?_
            obtain ⟨b1, b2, b3, b4, b5, b6, b7, b8, b9, b10, b11⟩ := hC'
            refine ⟨hsm5, .inr (k, fl u om, lv'), ?_, (fun s e => by cases e), fun k' oo lv'' e => ?_⟩
            · rw [PrM, hLd, hkl]
              obtain ⟨n', hn'⟩ := hgo' 1 (.inr (fl u om, lv')) (by
                rw [syR, if_pos ⟨rfl, h0⟩, if_pos (show tst'.length = 1 from htl'), stl_pre 0 u [] om (fun s hs => ⟨by have := hu' s hs; omega, Nat.zero_le _⟩)]; rfl)
              exact ⟨n', rfl, hn'⟩
            · cases e
              simp only [List.length_nil, Nat.add_zero] at hle'
              exact ⟨rfl, hk3, b6, b10, b9, by omega, b8, b11, hdp'⟩
    · exact absurd (show (0 : Int32) ≤ nI k from nI_pos' (by omega)) k1
end
