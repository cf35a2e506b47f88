/-! rows for strings: what stands outside the world -/
section Rows
variable {Γ : Cx} {l : Launch} {θ : Th} {d : Nat} {M : MI} {pg : List Rw} {pc p1 pc' a1 a2 : Nat} {v : Int32} {L L1 : Lc} {st st1 r : List AV} {σ σ1 : Sg}
theorem Md.gcomp (hG : Md Γ l θ d M pg) (hM : M.1.cls = "java/lang/String") (hL : L.length = M.2.2.1) (hr : run pg 99 pc L st σ = (p1, L1, st1, σ1)) (hd : decode M.2.1 p1 = .ok (.getstatic 38, 3)) (kk : X Γ (p1 + 3) L1 (.inl 1 :: st1) σ1) : X Γ pc L st σ := by
  refine hG.go 99 hL hr ?_
  obtain ⟨θ', ⟨p, l', e, R, s, m, args, below, meth, c⟩, A, ⟨kc, ks⟩, Q⟩ := Γ
  obtain ⟨⟨hx, hb, hml, hown, hts, hE, hI, hA⟩, hp, q1, q2, hf1, hf2, hf3, hf4⟩ := hG
  subst q1; subst q2
  rw [hM] at hown
  intro H locs ls hP hS hl
  exact va_gets hx hb hE.2.2.2.2.1 hS hown (hts _ fk_comp) (fun _ h => h) hd (kk H locs ls hP hS hl)
theorem Md.gcod (hG : Md Γ l θ d M pg) (i : Nat) {o : Nat} (hM : M.1.cls = "java/lang/String") (hL : L.length = M.2.2.1) (hr : run pg 99 pc L st σ = (p1, L1, .inr o :: r, σ1)) (hi : i < 4) (ho : o = 901 + i) (hd : decode M.2.1 p1 = .ok (.getfield 15, 3)) (kk : X Γ (p1 + 3) L1 (.inl 0 :: r) σ1) : X Γ pc L st σ := by
  refine hG.go 99 hL hr ?_
  obtain ⟨θ', ⟨p, l', e, R, s, m, args, below, meth, c⟩, A, ⟨kc, ks⟩, Q⟩ := Γ
  obtain ⟨⟨hx, hb, hml, hown, hts, hE, hI, hA⟩, hp, q1, q2, hf1, hf2, hf3, hf4⟩ := hG
  subst q1; subst q2; subst ho
  rw [hM] at hown
  intro H locs ls hP hS hl
  exact vk_getf hx hb (hE.2.2.2.1.1.1 i hi).2.1 hS hown (hts _ fk_cod) (fun _ h => h) hd (kk H locs ls hP hS hl)
theorem Md.gval (hG : Md Γ l θ d M pg) (i : Nat) {o w : Nat} (hM : M.1.cls = "java/lang/String") (hL : L.length = M.2.2.1) (hr : run pg 99 pc L st σ = (p1, L1, .inr o :: r, σ1)) (hi : i < 4) (ho : o = 901 + i) (hw : w = 905 + i) (hd : decode M.2.1 p1 = .ok (.getfield 9, 3)) (kk : X Γ (p1 + 3) L1 (.inr w :: r) σ1) : X Γ pc L st σ := by
  refine hG.go 99 hL hr ?_
  obtain ⟨θ', ⟨p, l', e, R, s, m, args, below, meth, c⟩, A, ⟨kc, ks⟩, Q⟩ := Γ
  obtain ⟨⟨hx, hb, hml, hown, hts, hE, hI, hA⟩, hp, q1, q2, hf1, hf2, hf3, hf4⟩ := hG
  subst q1; subst q2; subst ho; subst hw
  rw [hM] at hown
  intro H locs ls hP hS hl
  exact vk_getf hx hb (hE.2.2.2.1.1.1 i hi).2.2.1 hS hown (hts _ fk_val) (fun _ h => h) hd (kk H locs ls hP hS hl)
theorem Md.slen (hG : Md Γ l θ d M pg) (i : Nat) {w n : Nat} (hL : L.length = M.2.2.1) (hr : run pg 99 pc L st σ = (p1, L1, .inr w :: r, σ1)) (hi : i < 4) (hw : w = 905 + i) (hn : st_len.getD i 0 = n) (hd : decode M.2.1 p1 = .ok (.arraylength, 1)) (kk : X Γ (p1 + 1) L1 (.inl (nI n) :: r) σ1) : X Γ pc L st σ := by
  refine hG.go 99 hL hr ?_
  obtain ⟨θ', ⟨p, l', e, R, s, m, args, below, meth, c⟩, A, ⟨kc, ks⟩, Q⟩ := Γ
  obtain ⟨⟨hx, hb, hml, hown, hts, hE, hI, hA⟩, hp, q1, q2, hf1, hf2, hf3, hf4⟩ := hG
  subst q1; subst q2; subst hw; subst hn
  intro H locs ls hP hS hl
  exact va_tlen hx hb (hE.2.2.2.1.1.1 i hi).2.2.2 hS rfl hd (kk H locs ls hP hS hl)
theorem Md.sld (hG : Md Γ l θ d M pg) (i k : Nat) {w : Nat} {j x : Int32} (hL : L.length = M.2.2.1) (hr : run pg 99 pc L st σ = (p1, L1, .inl j :: .inr w :: r, σ1)) (hi : i < 4) (hw : w = 905 + i) (hj : j = nI k) (hk : k < st_len.getD i 0) (hx0 : (st_byt.getD i []).getD k 0 = x) (hd : decode M.2.1 p1 = .ok (.baload, 1)) (kk : X Γ (p1 + 1) L1 (.inl x :: r) σ1) : X Γ pc L st σ := by
  refine hG.go 99 hL hr ?_
  obtain ⟨θ', ⟨p, l', e, R, s, m, args, below, meth, c⟩, A, ⟨kc, ks⟩, Q⟩ := Γ
  obtain ⟨⟨hx, hb, hml, hown, hts, hE, hI, hA⟩, hp, q1, q2, hf1, hf2, hf3, hf4⟩ := hG
  have h12 : st_len.getD i 0 ≤ 1430 := by
    rcases (by omega : i = 0 ∨ i = 1 ∨ i = 2 ∨ i = 3) with rfl | rfl | rfl | rfl <;> decide
  obtain ⟨h1, h2⟩ := vp_inN hk h12
  subst q1; subst q2; subst hw; subst hj; subst hx0
  intro H locs ls hP hS hl
  exact va_tb hx hb (hE.2.2.2.1.1.1 i hi).2.2.2 hS h1 (v := .int ((st_byt.getD i []).getD k 0)) (by rw [h2]) hd (kk H locs ls hP hS hl)
theorem Md.i2b (hG : Md Γ l θ d M pg) {x y : Int32} (hL : L.length = M.2.2.1) (hr : run pg 99 pc L st σ = (p1, L1, .inl x :: r, σ1)) (hd : decode M.2.1 p1 = .ok (.i2b, 1)) (hy : x.toInt8.toInt32 = y) (kk : X Γ (p1 + 1) L1 (.inl y :: r) σ1) : X Γ pc L st σ := by
  refine hG.go 99 hL hr ?_
  obtain ⟨θ', ⟨p, l', e, R, s, m, args, below, meth, c⟩, A, ⟨kc, ks⟩, Q⟩ := Γ
  obtain ⟨⟨hx, hb, hml, hown, hts, hE, hI, hA⟩, hp, q1, q2, hf1, hf2, hf3, hf4⟩ := hG
  subst q1; subst q2
  intro H locs ls hP hS hl
  exact lv_i2b hx hb hd hy (kk H locs ls hP hS hl)
theorem Md.ldcs (hG : Md Γ l θ d M pg) (i : Nat) {o k : Nat} (hM : M.1.cls = "NotWorn$Tape") (hL : L.length = M.2.2.1) (hr : run pg 99 pc L st σ = (p1, L1, st1, σ1)) (hi : i < 4) (ho : o = 901 + i) (hk : st_idx.getD i 0 = k) (hd : decode M.2.1 p1 = .ok (.ldc k, 2)) (kk : X Γ (p1 + 2) L1 (.inr o :: st1) σ1) : X Γ pc L st σ := by
  refine hG.go 99 hL hr ?_
  obtain ⟨θ', ⟨p, l', e, R, s, m, args, below, meth, c⟩, A, ⟨kc, ks⟩, Q⟩ := Γ
  obtain ⟨⟨hx, hb, hml, hown, hts, hE, hI, hA⟩, hp, q1, q2, hf1, hf2, hf3, hf4⟩ := hG
  subst q1; subst q2; subst ho; subst hk
  rw [hM] at hown
  intro H locs ls hP hS hl
  exact va_ldcS hx hb hown (hE.2.2.2.1.2 i hi) hd (kk H locs ls hP hS hl)
theorem Md.rtc {post : Int32 → Sg → Prop} (hG : Md Γ l θ d M pg) (hR : RtI Γ M post) (hL : L.length = M.2.2.1) {x : Int32} (hr : run pg 99 pc L st σ = (p1, L1, [.inl x], σ1)) (hd : decode M.2.1 p1 = .ok (.ireturn, 1)) (hn : ∀ ty, M.2.2.2 = some ty → narrow ty (.int x) = .int x) (hpost : post x σ1) : X Γ pc L st σ := hG.go 99 hL hr (hR _ _ _ _ hd hn hpost)
theorem Md.cVs {N : MI} {n d' idx o : Nat} {av rest : List AV} {post : Int32 → Sg → Prop} (hG : Md Γ l θ d M pg) (i : Nat) (hlk : LK M.1.cls idx N.1) (hN : MV N n) (hL : L.length = M.2.2.1) (hr : run pg 99 pc L st σ = (p1, L1, st1, σ1)) (hC : Ci l θ d' N (.inr o :: av) σ1 post) (hcls : N.1.cls = "java/lang/String") (hi : i < 4) (ho : o = 901 + i) (hL1 : L1.length = M.2.2.1) (hq : lkp p1 pg = some (.invokevirtual idx, pc', v, a1, a2)) (hd0 : Nat.ble (d' + 1) d = true) (hn : av.length = n) (hst : st1 = av.reverse ++ .inr o :: rest) (hre : Nat.ble rest.length 8 = true) (kk : ∀ (x : Int32) (σ' : Sg), post x σ' → X Γ pc' L1 (.inl x :: rest) σ') : X Γ pc L st σ := by
  refine hG.go 99 hL hr ?_
  have hd' := nb hd0
  have hre := nb hre
  obtain ⟨hd, he⟩ := okP_dec hG.2.1 hq (by simp [lenI])
  have hG1 := hG.1
  obtain ⟨θ', ⟨p, l', e, R, s, m, args, below, meth, c⟩, A, ⟨kc, ks⟩, Q⟩ := Γ
  obtain ⟨⟨hx, hb, hml, hown, hts, hE, hI, hA⟩, hp, e1, e2, hf1, hf2, hf3, hf4⟩ := hG
  subst e1; subst e2; subst he; subst hst; subst ho
  obtain ⟨hw, -, hcl2, hdesc, hmx⟩ := hN
  intro H locs ls hP hS hl
  have hcode : Cond.code N.1 N.2.1 N.2.2.1 N.2.2.2 ∈ TB := hw _ (by simp)
  have hgood : GoodIn TB (wsV M.1.cls idx N.1.cls N.1 (Ws N)) := goodIn_TB (fun w h => by
    rcases List.mem_append.mp h with h | h
    · simp only [List.mem_cons, List.not_mem_nil, or_false] at h
      rcases h with rfl | rfl | rfl | rfl
      · exact hlk
      · exact hw _ (by simp)
      · exact hw _ (by simp)
      · exact hw _ (by simp)
    · exact Ws_TB hcode w h)
  have hpre := Ok.preS hG1 (av := .inr (901 + i) :: av) hP hS
  refine va_calli (A1 := AA θ') (va_runV (As := av.map (conc θ'.1)) (rest := rest.map (conc θ'.1)) ⟨hx, hb, hml, hown, hts⟩ hC (cwV n hts hgood rfl rfl rfl ⟨rfl, hcl2.1, hcl2.2, hdesc⟩ (room_le hd' hmx hf1 hf2)) ⟨hpre.1, by rw [hcls]; exact vk_recv (adK := fun i => θ'.1 (901 + i)) (adV := fun i => θ'.1 (905 + i)) (i := i) hE.2.2.2.1.1 hi hS, hpre.2⟩ rfl (by rw [List.length_map]; exact hn) (by rw [hl.1]; exact hL1) (by simp [conc]) (lv_room (by rw [cat_sum]; exact hre)) hd ⟨hf3, hf4⟩) hS (fun q _ h => hA q h) hA ?_
  intro x u t H1 locs1 ht _ hpo hB _ _ hS1
  rw [ht] at hB
  exact kk x u hpo H1 locs1 ls hB hS1 hl
end Rows
theorem Ci.ofz {l : Launch} {θ : Th} {d : Nat} {M : MI} {av : List AV} {σ : Sg} {post : Int32 → Sg → Prop} {n : Nat} {ty : FieldType} (hM : MV M n ∨ MS M n) {pg : List Rw} (hp : okP M.1.cls M.2.1 pg) (hlen : av.length ≤ M.2.2.1) (hret : M.2.2.2 = some ty) (L : Lc) (hL : ent av M.2.2.1 = L) (body : ∀ Γ : Cx, Md Γ l θ d M pg → RtI Γ M post → X Γ 0 L [] σ) : Ci l θ d M av σ post := by
  subst hL
  have hMD : MD M n := by rcases hM with h | h <;> exact h.2
  refine Met.ofW (cc := M.2.1) (maxL := M.2.2.1) (ret := M.2.2.2) hMD.1 rfl ?_
  intro p e s m args below meth c s₁ B hml hv
  obtain ⟨rfl, hP, hE, hI⟩ := hv
  have hx := B.exec
  have hb := B.bytes
  have hr := B.returns
  have hts := atoms_spec (ws := Ws M) B.pre
  have hown : s.vm.findClass M.1.cls = some m.cls := findClass_of_methodNamed B.named
  have hlocks := B.notSynchronized
  have hl := lv_entry (av.map (conc θ.1)) (n := M.2.2.1) (by rw [lg_sl_len]; exact hlen)
  rw [lg_entry_eq]
  generalize (lg_sl (av.map (conc θ.1)) ++ List.replicate (M.2.2.1 - (lg_sl (av.map (conc θ.1))).length) Slot.unset).toArray = ls at hl ⊢
  rw [prsF_args] at hl
  have key := body (θ, (p, l, e, (headSpec (Ws M) (rmd d)).room, s, m, (av.map (conc θ.1)).toArray, below, meth, c), AA θ, (0, 0), MQ below (va_Qi post (fun σ' t => va_P θ.2.1 classes (wsOf θ σ') t.heap) (AA θ)) (av.map (conc θ.1)).toArray s 0 0 (AA θ))
    ⟨⟨hx, hb, hml, hown, fun w hw => hts w (List.mem_cons_of_mem _ hw), hE, hI, fun _ h => h⟩, hp, rfl, rfl, Nat.le_refl _, Nat.le_refl _, Nat.zero_le _, Nat.zero_le _⟩
    (fun pc L v σ2 hd hn hpost H locs ls hP2 hS2 hl2 => ?_)
  · exact key s.heap [] ls hP va_S.rf (by rw [ent_len hlen]; rw [prs, ent, prsF_none]; exact hl)
  · exact W.zret (ty := ty) hx hb (by rw [hr, hret]) (hn _ hret) (fun t ht _ => ⟨⟨v, σ2, rfl, hpost, by show va_P _ _ _ t.heap; rw [ht]; exact hP2⟩, hS2.F ht⟩) hS2.2.2 hd
/-- an index within its bounds is checked; the third thing, which makes the exception, isn't looked at -/
theorem c_Q_chk {l : Launch} {θ : Th} {σ : Sg} (i n : Int32) (v : Value) (hv : v = .null ∨ ∃ t, v = .ref t) (h0 : ¬ i < 0) (h1 : i < n) : Met l m_Preconditions_checkIndex.1 (Ws m_Preconditions_checkIndex) (rmd 1) (va_Pc [.int i, .int n, v] (fun U => va_P θ.2.1 classes (wsOf θ σ) U.heap)) (va_Qi (fun r σ' => r = i ∧ σ' = σ) (fun σ' t => va_P θ.2.1 classes (wsOf θ σ') t.heap) (AA θ)) 0 0 (AA θ) := by
  refine Met.ofW (cc := m_Preconditions_checkIndex.2.1) (maxL := 3) (ret := some .int) (by decide +kernel) rfl ?_
  intro p e s m args below meth c s₁ B hml hv2
  obtain ⟨rfl, hP⟩ := hv2
  have hx := B.exec
  have hb := B.bytes
  have hr := B.returns
  have hlocks := B.notSynchronized
  have hS : va_S (AA θ) s.heap s.heap [] := va_S.rf
  have hle : (lg_sl [.int i, .int n, v]).length ≤ 3 := by rcases hv with rfl | ⟨t, rfl⟩ <;> exact Nat.le_of_ble_eq_true rfl
  have hl := lv_entry [.int i, .int n, v] (n := 3) hle
  rw [lg_entry_eq]
  generalize (lg_sl [.int i, .int n, v] ++ List.replicate (3 - (lg_sl [.int i, .int n, v]).length) Slot.unset).toArray = ls at hl ⊢
  have hl : lv_has ls 3 [(0, .int i), (1, .int n), (2, v)] := hl
  refine lv_iload_n (k := 0) hx hb (show decode m_Preconditions_checkIndex.2.1 0 = .ok (.iload_n 0, 1) by decide +kernel) rfl (lv_at hl 0 rfl) ?_
  refine lv_if_lt (tgt := 9) hx hb (show decode m_Preconditions_checkIndex.2.1 1 = .ok (.ifCond .lt 8, 3) by decide +kernel) (by decide) (fun q => absurd q h0) (fun _ => ?_)
  refine lv_iload_n (k := 0) hx hb (show decode m_Preconditions_checkIndex.2.1 4 = .ok (.iload_n 0, 1) by decide +kernel) rfl (lv_at hl 0 rfl) ?_
  refine lv_iload_n (k := 1) hx hb (show decode m_Preconditions_checkIndex.2.1 5 = .ok (.iload_n 1, 1) by decide +kernel) rfl (lv_at hl 1 rfl) ?_
  refine lv_icmp_lt (tgt := 16) hx hb (show decode m_Preconditions_checkIndex.2.1 6 = .ok (.if_icmp .lt 10, 3) by decide +kernel) (by decide) (fun _ => ?_) (fun q => absurd h1 q)
  refine lv_iload_n (k := 0) hx hb (show decode m_Preconditions_checkIndex.2.1 16 = .ok (.iload_n 0, 1) by decide +kernel) rfl (lv_at hl 0 rfl) ?_
  exact W.iret hx hb hr (fun t ht _ => ⟨⟨i, σ, rfl, ⟨rfl, rfl⟩, by show va_P _ _ _ t.heap; rw [ht]; exact hP⟩, hS.F ht⟩) hS.2.2 (show decode m_Preconditions_checkIndex.2.1 17 = .ok (.ireturn, 1) by decide +kernel)
theorem Md.chk {Γ : Cx} {l : Launch} {θ : Th} {d : Nat} {L : Lc} {σ : Sg} {i n : Int32} (hG : Md Γ l θ d m_Str_checkIndex p_Str_checkIndex) (hd0 : Nat.ble 2 d = true) (h0 : ¬ i < 0) (h1 : i < n) (hL : L.length = m_Str_checkIndex.2.2.1) (kk : X Γ 8 L [.inl i] σ) : X Γ 2 L [.inl n, .inl i] σ := by
  have hG1 := hG.1
  have hd2 := nb hd0
  obtain ⟨θ', ⟨p, l', e, R, s, m, args, below, meth, c⟩, A, ⟨kc, ks⟩, Q⟩ := Γ
  obtain ⟨⟨hx, hb, hml, hown, hts, hE, hI, hA⟩, hp, q1, q2, hf1, hf2, hf3, hf4⟩ := hG
  subst q1; subst q2
  intro H locs ls hP hS hl
  obtain ⟨hw, -, hcl2, hdesc, hmx⟩ := mi_Preconditions_checkIndex
  have hcode : Cond.code m_Preconditions_checkIndex.1 m_Preconditions_checkIndex.2.1 m_Preconditions_checkIndex.2.2.1 m_Preconditions_checkIndex.2.2.2 ∈ TB := hw _ (by simp)
  have hgood : GoodIn TB (va_wsS "java/lang/String" 1059 m_Preconditions_checkIndex.1 (Ws m_Preconditions_checkIndex)) := goodIn_TB (fun w h => by
    rcases List.mem_append.mp h with h | h
    · simp only [List.mem_cons, List.not_mem_nil, or_false] at h
      rcases h with rfl | rfl | rfl
      · exact lk_Str_1059
      · exact hw _ (by simp)
      · exact hw _ (by simp)
    · exact Ws_TB hcode w h)
  have go : ∀ v : Value, (v = .null ∨ ∃ t, v = .ref t) → va_Z "jdk/internal/util/Preconditions" "SIOOBE_FORMATTER" "Ljava/util/function/BiFunction;" v A s s.heap → W p l' e R s m args below meth c H locs kc ks Q (F0 m 2 ls [.int n, .int i]) := by
    intro v hv hz
    refine va_gets hx hb hz hS hown (hts _ fk_sio) (fun _ h => h) (show decode m_Str_checkIndex.2.1 2 = .ok (.getstatic 1053, 3) by decide +kernel) ?_
    refine va_calli (A1 := AA θ') (va_runS (As := [.int i, .int n, v]) (rest := []) ⟨hx, hb, hml, hown, hts⟩ (c_Q_chk (θ := θ') (σ := σ) i n v hv h0 h1) (va_cwS 3 hts hgood rfl rfl rfl ⟨hcl2.1, hcl2.2, hdesc⟩ (room_le hd2 hmx hf1 hf2)) ⟨fun a U g mk q => ⟨q.1, q.2⟩, fun U hU hW => ⟨rfl, by show va_P _ _ _ U.heap; rw [hU]; exact hP⟩⟩ rfl rfl (by rw [hl.1]; exact hL) rfl (lv_room (Nat.le_of_ble_eq_true rfl)) (show decode m_Str_checkIndex.2.1 5 = .ok (.invokestatic 1059, 3) by decide +kernel) ⟨hf3, hf4⟩) hS (fun q _ h => hA q h) hA ?_
    intro x u t H1 locs1 ht _ hpo hB _ _ hS1
    obtain ⟨rfl, rfl⟩ := hpo
    rw [ht] at hB
    exact kk H1 locs1 ls hB hS1 hl
  rcases hE.2.2.2.2.2 with hz | ⟨t, hz⟩
  · exact go _ (Or.inl rfl) hz
  · exact go _ (Or.inr ⟨t, rfl⟩) hz
