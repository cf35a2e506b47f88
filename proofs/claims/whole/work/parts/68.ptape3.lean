/-! the class's tape: keys, leaves -/
/-- a method that answers a cell -/
def Cr (l : Launch) (θ : Th) (d : Nat) (M : MI) (av : List AV) (σ : Sg) (k : Nat) : Prop := Met l M.1 (Ws M) (rmd d) (Pcf θ av σ) (va_Qr (fun u : Sg => u = σ) (fun σ' a t => a = θ.1 k ∧ va_P θ.2.1 classes (wsOf θ σ') t.heap) (AA θ)) 0 0 (AA θ)
def RtA (Γ : Cx) (M : MI) (k : Nat) (σ : Sg) : Prop := ∀ (pc : Nat) (L : Lc), decode M.2.1 pc = .ok (.areturn, 1) → X Γ pc L [.inr k] σ
theorem Cr.of {l : Launch} {θ : Th} {d : Nat} {M : MI} {av : List AV} {σ : Sg} {n k : Nat} {C : String} (hM : MV M n ∨ MS M n) {pg : List Rw} (hp : okP M.1.cls M.2.1 pg) (hlen : av.length ≤ M.2.2.1) (hret : M.2.2.2 = some (.object C)) (L : Lc) (hL : ent av M.2.2.1 = L) (body : ∀ Γ : Cx, Md Γ l θ d M pg → RtA Γ M k σ → X Γ 0 L [] σ) : Cr l θ d M av σ k := by
  subst hL
  have hMD : MD M n := by rcases hM with h | h <;> exact h.2
  refine Met.ofW (cc := M.2.1) (maxL := M.2.2.1) (ret := M.2.2.2) hMD.1 rfl ?_
  intro p e s m args below meth c s₁ B hml hv
  obtain ⟨rfl, hP, hE, hI⟩ := hv
  have hx := B.exec
  have hb := B.bytes
  have hr := B.returns
  have hts := atoms_spec (ws := Ws M) B.pre
  have hown : s.vm.findClass M.1.cls = some m.cls := findClass_of_methodNamed B.named
  have hlocks := B.notSynchronized
  have hl := lv_entry (av.map (conc θ.1)) (n := M.2.2.1) (by rw [lg_sl_len]; exact hlen)
  rw [lg_entry_eq]
  generalize (lg_sl (av.map (conc θ.1)) ++ List.replicate (M.2.2.1 - (lg_sl (av.map (conc θ.1))).length) Slot.unset).toArray = ls at hl ⊢
  rw [prsF_args] at hl
  have key := body (θ, (p, l, e, (headSpec (Ws M) (rmd d)).room, s, m, (av.map (conc θ.1)).toArray, below, meth, c), AA θ, (0, 0), MQ below (va_Qr (fun u : Sg => u = σ) (fun σ' a t => a = θ.1 k ∧ va_P θ.2.1 classes (wsOf θ σ') t.heap) (AA θ)) (av.map (conc θ.1)).toArray s 0 0 (AA θ))
    ⟨⟨hx, hb, hml, hown, fun w hw => hts w (List.mem_cons_of_mem _ hw), hE, hI, fun _ h => h⟩, hp, rfl, rfl, Nat.le_refl _, Nat.le_refl _, Nat.zero_le _, Nat.zero_le _⟩
    (fun pc L hd H locs ls hP2 hS2 hl2 => ?_)
  · exact key s.heap [] ls hP va_S.rf (by rw [ent_len hlen]; rw [prs, ent, prsF_none]; exact hl)
  · exact W.aret (rt := .object C) hx hb (by rw [hr, hret]) (Or.inl ⟨_, rfl⟩) (Or.inr ⟨_, rfl⟩) (fun t ht _ => ⟨⟨σ, θ.1 k, rfl, rfl, rfl, by show va_P _ _ _ t.heap; rw [ht]; exact hP2⟩, hS2.F ht⟩) hS2.2.2 hd
theorem Md.cSr {Γ : Cx} {l : Launch} {θ : Th} {d : Nat} {M : MI} {pg : List Rw} {pc p1 pc' a1 a2 : Nat} {v : Int32} {L L1 : Lc} {st st1 : List AV} {σ σ1 : Sg} {N : MI} {n d' idx k : Nat} {av rest : List AV} (hG : Md Γ l θ d M pg) (hlk : LK M.1.cls idx N.1) (hN : MS N n) (hL : L.length = M.2.2.1) (hr : run pg 99 pc L st σ = (p1, L1, st1, σ1)) (hC : Cr l θ d' N av σ1 k) (hL1 : L1.length = M.2.2.1) (hq : lkp p1 pg = some (.invokestatic idx, pc', v, a1, a2)) (hd' : Nat.ble (d' + 1) d = true) (hn : av.length = n) (hst : st1 = av.reverse ++ rest) (hre : Nat.ble rest.length 8 = true) (kk : X Γ pc' L1 (.inr k :: rest) σ1) : X Γ pc L st σ := by
  refine hG.go 99 hL hr ?_
  obtain ⟨hd, he⟩ := okP_dec hG.2.1 hq (by simp [lenI])
  have hG1 := hG.1
  obtain ⟨θ', ⟨p, l', e, R, s, m, args, below, meth, c⟩, A, ⟨kc, ks⟩, Q⟩ := Γ
  obtain ⟨⟨hx, hb, hml, hown, hts, hE, hI, hA⟩, hp, e1, e2, hf1, hf2, hf3, hf4⟩ := hG
  subst e1; subst e2; subst he; subst hst
  obtain ⟨hw, -, hcl2, hdesc, hmx⟩ := hN
  intro H locs ls hP hS hl
  have hcode : Cond.code N.1 N.2.1 N.2.2.1 N.2.2.2 ∈ TB := hw _ (by simp)
  have hgood : GoodIn TB (va_wsS M.1.cls idx N.1 (Ws N)) := goodIn_TB (fun w h => by
    rcases List.mem_append.mp h with h | h
    · simp only [List.mem_cons, List.not_mem_nil, or_false] at h
      rcases h with rfl | rfl | rfl
      · exact hlk
      · exact hw _ (by simp)
      · exact hw _ (by simp)
    · exact Ws_TB hcode w h)
  have hpre := Ok.preS hG1 (av := av) hP hS
  refine va_callr (A1 := AA θ') (va_runS (As := av.map (conc θ'.1)) (rest := rest.map (conc θ'.1)) ⟨hx, hb, hml, hown, hts⟩ hC (va_cwS n hts hgood rfl rfl rfl ⟨hcl2.1, hcl2.2, hdesc⟩ (room_le (nb hd') hmx hf1 hf2)) hpre rfl (by rw [List.length_map]; exact hn) (by rw [hl.1]; exact hL1) (by simp) (lv_room (by rw [cat_sum]; exact nb hre)) hd ⟨hf3, hf4⟩) hS (fun q _ h => hA q h) hA ?_
  intro u ra t H1 locs1 ht _ hpo hB _ _ hS1
  obtain ⟨hra, hB⟩ := hB
  rw [ht, hpo] at hB
  rw [hra]
  exact kk H1 locs1 ls hB hS1 hl
theorem isL_ok {x : Int32} (h : isL x = true) : ¬ x < 0 ∧ ¬ 255 < x ∧ x.toInt8.toInt32 = x ∧ (x.toUInt32 % 65536).toInt32 = x := by
  simp only [isL, Bool.and_eq_true, decide_eq_true_eq] at h
  obtain ⟨k, h1, h2, rfl⟩ := nI_of_range (a := 97) (b := 123) (by omega) (by omega) h.1 (Int32.lt_of_le_of_lt h.2 (by decide))
  have : ∀ j, j < 123 → 97 ≤ j → (¬ nI j < 0 ∧ ¬ 255 < nI j ∧ (nI j).toInt8.toInt32 = nI j ∧ ((nI j).toUInt32 % 65536).toInt32 = nI j) := by decide +kernel
  exact this k h2 h1
theorem ix_nm0 (x : Int32) : ixS 1 x = optN (-1) (nmIx 0 x) := by
  have e : ixS 1 x = optN (-1) (if decide ((100 : Int32) = x) then some 0 else if decide ((102 : Int32) = x) then some 1 else if decide ((108 : Int32) = x) then some 2 else none) := rfl
  rw [e]
  by_cases h100 : x = 100
  · subst h100; decide
  by_cases h102 : x = 102
  · subst h102; decide
  by_cases h108 : x = 108
  · subst h108; decide
  have g100 : ¬ (100 : Int32) = x := fun q => h100 q.symm
  have g102 : ¬ (102 : Int32) = x := fun q => h102 q.symm
  have g108 : ¬ (108 : Int32) = x := fun q => h108 q.symm
  simp [nmIx, h100, h102, h108, g100, g102, g108]
theorem ix_nm1 (x : Int32) : ixS 2 x = optN (-1) (nmIx 1 x) := by
  have e : ixS 2 x = optN (-1) (if decide ((97 : Int32) = x) then some 0 else if decide ((107 : Int32) = x) then some 1 else none) := rfl
  rw [e]
  by_cases h97 : x = 97
  · subst h97; decide
  by_cases h107 : x = 107
  · subst h107; decide
  have g97 : ¬ (97 : Int32) = x := fun q => h97 q.symm
  have g107 : ¬ (107 : Int32) = x := fun q => h107 q.symm
  simp [nmIx, h97, h107, g97, g107]
theorem ix_nm2 (x : Int32) : ixS 3 x = optN (-1) (nmIx 2 x) := by
  have e : ixS 3 x = optN (-1) (if decide ((121 : Int32) = x) then some 0 else if decide ((112 : Int32) = x) then some 1 else none) := rfl
  rw [e]
  by_cases h121 : x = 121
  · subst h121; decide
  by_cases h112 : x = 112
  · subst h112; decide
  have g121 : ¬ (121 : Int32) = x := fun q => h121 q.symm
  have g112 : ¬ (112 : Int32) = x := fun q => h112 q.symm
  simp [nmIx, h121, h112, g121, g112]
theorem nmIx_lt {key : Nat} {x : Int32} {i : Nat} (h : nmIx key x = some i) : i < nmK key := by
  unfold nmIx at h
  unfold nmK
  repeat' split at h
  all_goals first | (cases h; done) | (cases h; simp_all; done) | (simp_all; omega)
section
variable {l : Launch} {θ : Th} {σ σ' : Sg} {T key : Nat} {tp : Nat → Int32} {L : Lx}
theorem c_P_namesOf0 : Cr l θ 1 m_P_namesOf [.inl (nI 0)] σ 902 := by
  refine Cr.of (C := "java/lang/String") (Or.inr mi_P_namesOf) pk_P_namesOf (nb rfl) rfl [some (.inl (nI 0))] rfl fun Γ hG hR => ?_
  have body : X Γ 28 [some (.inl (nI 0))] [] σ := by
    refine hG.ldcs 1 rfl rfl rfl (by decide) rfl rfl (by decide +kernel) ?_
    exact hR _ _ (by decide +kernel)
  refine hG.lsw [(0, 28), (1, 31)] 34 rfl rfl rfl (by decide +kernel) ?_ ?_
  · intro k t hk hx
    simp only [List.mem_cons, Prod.mk.injEq, List.not_mem_nil, or_false] at hk
    rcases hk with ⟨rfl, rfl⟩ | ⟨rfl, rfl⟩
    · exact body
    · exact absurd hx (by decide)
  · intro h
    exact absurd (show (nI 0).toInt = 0 by decide) (h (0, 28) (by decide))
theorem c_P_namesOf1 : Cr l θ 1 m_P_namesOf [.inl (nI 1)] σ 903 := by
  refine Cr.of (C := "java/lang/String") (Or.inr mi_P_namesOf) pk_P_namesOf (nb rfl) rfl [some (.inl (nI 1))] rfl fun Γ hG hR => ?_
  have body : X Γ 31 [some (.inl (nI 1))] [] σ := by
    refine hG.ldcs 2 rfl rfl rfl (by decide) rfl rfl (by decide +kernel) ?_
    exact hR _ _ (by decide +kernel)
  refine hG.lsw [(0, 28), (1, 31)] 34 rfl rfl rfl (by decide +kernel) ?_ ?_
  · intro k t hk hx
    simp only [List.mem_cons, Prod.mk.injEq, List.not_mem_nil, or_false] at hk
    rcases hk with ⟨rfl, rfl⟩ | ⟨rfl, rfl⟩
    · exact absurd hx (by decide)
    · exact body
  · intro h
    exact absurd (show (nI 1).toInt = 1 by decide) (h (1, 31) (by decide))
theorem c_P_namesOf2 : Cr l θ 1 m_P_namesOf [.inl (nI 2)] σ 904 := by
  refine Cr.of (C := "java/lang/String") (Or.inr mi_P_namesOf) pk_P_namesOf (nb rfl) rfl [some (.inl (nI 2))] rfl fun Γ hG hR => ?_
  have body : X Γ 34 [some (.inl (nI 2))] [] σ := by
    refine hG.ldcs 3 rfl rfl rfl (by decide) rfl rfl (by decide +kernel) ?_
    exact hR _ _ (by decide +kernel)
  refine hG.lsw [(0, 28), (1, 31)] 34 rfl rfl rfl (by decide +kernel) ?_ ?_
  · intro k t hk hx
    simp only [List.mem_cons, Prod.mk.injEq, List.not_mem_nil, or_false] at hk
    rcases hk with ⟨rfl, rfl⟩ | ⟨rfl, rfl⟩
    · exact absurd hx (by decide)
    · exact absurd hx (by decide)
  · intro h
    exact body
theorem c_P_nameAtHand (hk3 : key < 3) (htp : σ 65 = tp) (hkey : σ 66 0 = nI key) (hT96 : T ≤ 96) (hok : LxOk tp T L) (hL : LxC σ L) (hk : L.2.2 = 1) : Ci l θ 6 m_P_nameAtHand [.inr 64] σ (fun r σ' => σ' = σ ∧ r = optN (-1) (leafL tp key L)) := by
  subst htp
  obtain ⟨l1, l2, l3⟩ := hL
  have hle := LxOk_le hok
  have hlt : L.1 < T ∧ isL (σ 65 L.1) = true := by
    rcases hok with ⟨h, -⟩ | ⟨h, -⟩ | ⟨-, h1, h2, -, h4, -⟩
    · omega
    · omega
    · exact ⟨by omega, kdB_1 (by rw [← h4 (by omega)]; exact hk)⟩
  obtain ⟨x0, x1, x2, x3⟩ := isL_ok hlt.2
  have hg : leafL (σ 65) key L = if L.2.1 - L.1 = 1 then (nmIx key (σ 65 L.1)).map (fun i => 10000 + i) else none := by rw [leafL, if_neg (by omega), if_pos hk]
  rw [hg]
  refine Ci.of (Or.inl mi_P_nameAtHand) pk_P_nameAtHand (nb rfl) (Or.inl rfl) [some (.inr 64), none] rfl fun Γ hG hR => ?_
  have fin : ∀ o : Option Nat, (if L.2.1 - L.1 = 1 then (nmIx key (σ 65 L.1)).map (fun i => 10000 + i) else none) = o.map (fun i => 10000 + i) → (∀ i, o = some i → i < 3) → X Γ 40 [some (.inr 64), none] [.inl (optN (-1) o)] σ := by
    intro o ho ho3
    rw [ho] at hR
    cases o with
    | none =>
      refine hG.br rfl rfl rfl rfl (fun k1 => ?_) (fun k1 => ?_)
      · exact absurd k1 (by decide)
      · refine hG.rt hR rfl rfl rfl rfl ?_
        exact ⟨rfl, rfl⟩
    | some i =>
      have := ho3 i rfl
      refine hG.br rfl rfl rfl rfl (fun k1 => ?_) (fun k1 => ?_)
      · refine hG.rt hR rfl rfl rfl rfl ?_
        exact ⟨rfl, nI_add 10000 i⟩
      · exact absurd (show (0 : Int32) ≤ nI i from nI_pos' (by omega)) k1
  refine hG.br rfl rfl rfl rfl (fun k1 => ?_) (fun k1 => ?_)
  · rw [l1, l2, pk_sub hle.2.2] at k1
    have : ¬ L.2.1 - L.1 = 1 := fun e => k1 (by rw [e]; rfl)
    refine hG.go 1 rfl rfl ?_
    exact fin none (by rw [if_neg this]; rfl) (fun i h => by cases h)
  · rw [l1, l2, pk_sub hle.2.2] at k1
    have h1 : L.2.1 - L.1 = 1 := (nI_eq (b := 1) (by omega) (by omega)).mp k1
    have hlt3 : ∀ i, nmIx key (σ 65 L.1) = some i → i < 3 := fun i h => by
      have := nmIx_lt h
      unfold nmK at this
      split at this <;> omega
    rcases (by omega : key = 0 ∨ key = 1 ∨ key = 2) with rfl | rfl | rfl
    · have cn := c_P_namesOf0 (l := l) (θ := θ) (σ := σ)
      rw [← hkey] at cn
      refine hG.cSr lk_P_96 mi_P_namesOf rfl rfl cn rfl rfl rfl rfl rfl rfl ?_
      refine hG.ld rfl L.1 rfl rfl rfl rfl l1 (by omega) ?_
      refine hG.go 1 rfl rfl ?_
      rw [x3]
      refine hG.cVs 1 lk_P_100 mi_Str_indexOf rfl rfl (c_Str_indexOf_1 (σ 65 L.1) x0 x1 x2) rfl (by decide) rfl rfl rfl rfl rfl rfl rfl ?_
      rintro x σ' ⟨rfl, rfl⟩
      rw [ix_nm0]
      refine hG.go 1 rfl rfl ?_
      exact fin (nmIx 0 (σ' 65 L.1)) (by rw [if_pos h1]) hlt3
    · have cn := c_P_namesOf1 (l := l) (θ := θ) (σ := σ)
      rw [← hkey] at cn
      refine hG.cSr lk_P_96 mi_P_namesOf rfl rfl cn rfl rfl rfl rfl rfl rfl ?_
      refine hG.ld rfl L.1 rfl rfl rfl rfl l1 (by omega) ?_
      refine hG.go 1 rfl rfl ?_
      rw [x3]
      refine hG.cVs 2 lk_P_100 mi_Str_indexOf rfl rfl (c_Str_indexOf_2 (σ 65 L.1) x0 x1 x2) rfl (by decide) rfl rfl rfl rfl rfl rfl rfl ?_
      rintro x σ' ⟨rfl, rfl⟩
      rw [ix_nm1]
      refine hG.go 1 rfl rfl ?_
      exact fin (nmIx 1 (σ' 65 L.1)) (by rw [if_pos h1]) hlt3
    · have cn := c_P_namesOf2 (l := l) (θ := θ) (σ := σ)
      rw [← hkey] at cn
      refine hG.cSr lk_P_96 mi_P_namesOf rfl rfl cn rfl rfl rfl rfl rfl rfl ?_
      refine hG.ld rfl L.1 rfl rfl rfl rfl l1 (by omega) ?_
      refine hG.go 1 rfl rfl ?_
      rw [x3]
      refine hG.cVs 3 lk_P_100 mi_Str_indexOf rfl rfl (c_Str_indexOf_3 (σ 65 L.1) x0 x1 x2) rfl (by decide) rfl rfl rfl rfl rfl rfl rfl ?_
      rintro x σ' ⟨rfl, rfl⟩
      rw [ix_nm2]
      refine hG.go 1 rfl rfl ?_
      exact fin (nmIx 2 (σ' 65 L.1)) (by rw [if_pos h1]) hlt3
theorem c_P_numberAtHand (htp : σ 65 = tp) (hT96 : T ≤ 96) (hok : LxOk tp T L) (hL : LxC σ L) (hk : L.2.2 = 2) : Ci l θ 1 m_P_numberAtHand [.inr 64] σ (fun r σ' => σ' = σ ∧ r = optN (-1) (leafL tp key L)) := by
  subst htp
  obtain ⟨l1, l2, l3⟩ := hL
  have hle := LxOk_le hok
  have hdig : ∀ i, L.1 ≤ i → i < L.2.1 → kdB (σ 65 i) = 2 := by
    rcases hok with ⟨h, -⟩ | ⟨h, -⟩ | ⟨-, h1, h2, -, h4, h5⟩
    · omega
    · omega
    · have e : kdB (σ 65 L.1) = 2 := by rw [← h4 (by omega)]; exact hk
      rw [e] at h5
      intro i hi1 hi2
      rw [h5] at hi2
      exact rnE_in hi1 hi2
  have hg : leafL (σ 65) key L = if L.2.1 - L.1 ≤ 4 then some (numN (σ 65) (L.2.1 - L.1) L.1 0) else none := by rw [leafL, if_pos hk]
  rw [hg]
  refine Ci.of (Or.inl mi_P_numberAtHand) pk_P_numberAtHand (nb rfl) (Or.inl rfl) [some (.inr 64), none, none] rfl fun Γ hG hR => ?_
  refine hG.br rfl rfl rfl rfl (fun k1 => ?_) (fun k1 => ?_)
  · rw [l1, l2, pk_sub hle.2.2] at k1
    have h4 : L.2.1 - L.1 ≤ 4 := (nI_leI (b := 4) (by omega) (by omega)).mp k1
    rw [if_pos h4] at hR
    have loop : ∀ m i a, i + m = L.2.1 → L.1 ≤ i → numN (σ 65) (L.2.1 - L.1) L.1 0 = numN (σ 65) m i a → X Γ 22 [some (.inr 64), some (.inl (nI a)), some (.inl (nI i))] [] σ := by
      intro m
      induction m with
      | zero =>
        intro i a hi hli he
        refine hG.br rfl rfl rfl rfl (fun k2 => ?_) (fun k2 => ?_)
        · refine hG.rt hR rfl rfl rfl rfl ?_
          exact ⟨rfl, by rw [he]; rfl⟩
        · exact absurd (by rw [l2]; exact nI_le (by omega) (by omega)) k2
      | succ m ih =>
        intro i a hi hli he
        obtain ⟨dg, hdg, edg⟩ := isD_nI (kdB_2 (hdig i hli (by omega)))
        rw [numN, edg, show nI (48 + dg) - 48 = nI (48 + dg - 48) from pk_sub (b := 48) (by omega), nI_clamp (by omega), show 48 + dg - 48 = dg by omega] at he
        refine hG.br rfl rfl rfl rfl (fun k2 => ?_) (fun k2 => ?_)
        · rw [l2] at k2
          exact absurd k2 (nI_ge (by omega) (by omega))
        · refine hG.ld rfl i rfl rfl rfl rfl rfl (by omega) ?_
          refine hG.jp rfl rfl rfl ?_
          rw [edg, nI_1, show nI a * 10 = nI (a * 10) from pk_mul a 10, nI_add, show nI (a * 10 + (48 + dg)) - 48 = nI (a * 10 + (48 + dg) - 48) from pk_sub (b := 48) (by omega), show a * 10 + (48 + dg) - 48 = 10 * a + dg by omega]
          exact ih (i + 1) _ (by omega) (by omega) he
    refine hG.go 5 rfl rfl ?_
    rw [l1]
    exact loop (L.2.1 - L.1) L.1 0 (by omega) (Nat.le_refl _) rfl
  · rw [l1, l2, pk_sub hle.2.2] at k1
    have h4 : ¬ L.2.1 - L.1 ≤ 4 := fun h => k1 (show nI _ ≤ nI 4 from nI_le h (by omega))
    rw [if_neg h4] at hR
    refine hG.rt hR rfl rfl rfl rfl ?_
    exact ⟨rfl, rfl⟩
theorem c_P_isKeyWord (k : Nat) (hk3 : k < 3) (htp : σ 65 = tp) (hlt : L.1 + 4 ≤ 96) (hL : LxC σ L) : Ci l θ 5 m_P_isKeyWord [.inr 64, .inl (nI (4 * k))] σ (fun r σ' => σ' = σ ∧ r = bi (keyIs tp L k)) := by
  subst htp
  obtain ⟨l1, l2, l3⟩ := hL
  generalize hP : (fun i => decide (σ 65 (L.1 + i) = keyW k i)) = P
  have hg : keyIs (σ 65) L k = allB P 0 4 := by rw [keyIs, hP]
  rw [hg]
  refine Ci.of (Or.inl mi_P_isKeyWord) pk_P_isKeyWord (nb rfl) (Or.inr rfl) [some (.inr 64), some (.inl (nI (4 * k))), none] rfl fun Γ hG hR => ?_
  have loop : ∀ m i, i + m = 4 → allB P 0 4 = allB P i m → X Γ 2 [some (.inr 64), some (.inl (nI (4 * k))), some (.inl (nI i))] [] σ := by
    intro m
    induction m with
    | zero =>
      intro i hi he
      refine hG.br rfl rfl rfl rfl (fun k1 => ?_) (fun k1 => ?_)
      · refine hG.rz hR rfl rfl rfl rfl (Or.inr rfl) ?_
        exact ⟨rfl, by rw [he]; rfl⟩
      · exact absurd (show nI 4 ≤ nI i from nI_le (by omega) (by omega)) k1
    | succ m ih =>
      intro i hi he
      rw [allB_s _ _ m] at he
      have hPi : P i = decide (σ 65 (L.1 + i) = keyW k i) := by rw [← hP]
      refine hG.br rfl rfl rfl rfl (fun k1 => ?_) (fun k1 => ?_)
      · exact absurd (show nI 4 ≤ nI i from k1) (nI_ge (by omega) (by omega))
      · refine hG.ldcs 0 rfl rfl rfl (by decide) rfl rfl (by decide +kernel) ?_
        refine hG.go 3 rfl rfl ?_
        rw [nI_add]
        refine hG.cVs 0 lk_P_60 mi_Str_charAt rfl rfl (c_Str_charAt (4 * k + i) (by omega)) rfl (by decide) rfl rfl rfl rfl rfl rfl rfl ?_
        rintro x σ' ⟨rfl, rfl⟩
        refine hG.ld rfl (L.1 + i) rfl rfl rfl rfl (by rw [l1, nI_add]) (by omega) ?_
        have ek : keyW k i = (st_byt.getD 0 []).getD (4 * k + i) 0 := rfl
        rw [← ek]
        refine hG.br rfl rfl rfl rfl (fun k2 => ?_) (fun k2 => ?_)
        · refine hG.jp rfl rfl rfl ?_
          rw [nI_1]
          exact ih (i + 1) (by omega) (by rw [he, hPi, decide_eq_true k2.symm]; rfl)
        · refine hG.rz hR rfl rfl rfl rfl (Or.inl rfl) ?_
          exact ⟨rfl, by rw [he, hPi, decide_eq_false (fun e => k2 e.symm)]; rfl⟩
  exact hG.go 2 rfl rfl (loop 4 0 (by omega) rfl)
theorem c_P_keyAtHand (htp : σ 65 = tp) (hT96 : T ≤ 96) (hok : LxOk tp T L) (hL : LxC σ L) : Ci l θ 6 m_P_keyAtHand [.inr 64] σ (fun r σ' => σ' = σ ∧ r = optN (-1) (keyL tp L)) := by
  have hL0 := hL
  obtain ⟨l1, l2, l3⟩ := hL
  have hle := LxOk_le hok
  have h4 := LxOk_k4 hok
  rw [keyL]
  refine Ci.of (Or.inl mi_P_keyAtHand) pk_P_keyAtHand (nb rfl) (Or.inl rfl) [some (.inr 64), none] rfl fun Γ hG hR => ?_
  have no : ¬ (L.2.2 = 1 ∧ L.2.1 - L.1 = 4) → X Γ 21 [some (.inr 64), none] [] σ := by
    intro h
    rw [if_neg h] at hR
    refine hG.rt hR rfl rfl rfl rfl ?_
    exact ⟨rfl, rfl⟩
  refine hG.br rfl rfl rfl rfl (fun k1 => ?_) (fun k1 => ?_)
  · rw [l3] at k1
    exact no (fun h => k1 (by rw [h.1]; rfl))
  · rw [l3] at k1
    have k1 : L.2.2 = 1 := (nI_eq (b := 1) (by omega) (by omega)).mp k1
    refine hG.br rfl rfl rfl rfl (fun k2 => ?_) (fun k2 => ?_)
    · rw [l1, l2, pk_sub hle.2.2] at k2
      have k2 : L.2.1 - L.1 = 4 := (nI_eq (b := 4) (by omega) (by omega)).mp k2
      rw [if_pos ⟨k1, k2⟩] at hR
      have loop : ∀ m k, k + m = 3 → fndB (keyIs tp L) 0 3 = fndB (keyIs tp L) k m → X Γ 25 [some (.inr 64), some (.inl (nI k))] [] σ := by
        intro m
        induction m with
        | zero =>
          intro k hk he
          refine hG.br rfl rfl rfl rfl (fun j1 => ?_) (fun j1 => ?_)
          · refine hG.rt hR rfl rfl rfl rfl ?_
            exact ⟨rfl, by rw [he]; rfl⟩
          · exact absurd (show nI 3 ≤ nI k from nI_le (by omega) (by omega)) j1
        | succ m ih =>
          intro k hk he
          rw [fndB_s _ _ m] at he
          refine hG.br rfl rfl rfl rfl (fun j1 => ?_) (fun j1 => ?_)
          · exact absurd (show nI 3 ≤ nI k from j1) (nI_ge (by omega) (by omega))
          · refine hG.go 4 rfl rfl ?_
            rw [show nI k * 4 = nI (4 * k) by rw [Nat.mul_comm]; exact pk_mul k 4]
            refine hG.cV lk_P_54 mi_P_isKeyWord rfl rfl (c_P_isKeyWord k (by omega) htp (by omega) hL0) rfl rfl rfl rfl rfl rfl rfl rfl ?_
            rintro x σ' ⟨rfl, rfl⟩
            refine hG.br rfl rfl rfl rfl (fun j2 => ?_) (fun j2 => ?_)
            · rw [bi_eq0.mp j2] at he
              refine hG.jp rfl rfl rfl ?_
              rw [nI_1]
              exact ih (k + 1) (by omega) he
            · rw [bi_ne0.mp j2, if_pos rfl] at he
              refine hG.rt hR rfl rfl rfl rfl ?_
              exact ⟨rfl, by rw [he]; rfl⟩
      exact hG.go 2 rfl rfl (loop 3 0 (by omega) rfl)
    · rw [l1, l2, pk_sub hle.2.2] at k2
      exact no (fun h => k2 (by rw [h.2]; rfl))
end
