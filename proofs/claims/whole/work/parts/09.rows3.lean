/-! switches by value, library calls, statics, the nest's static, booleans -/
def lswOk (pc : Nat) (dflt : Int) (ps : Array (Int × Int)) (tg : List (Int × Nat)) (td : Nat) : Bool := decide ((pc : Int) + dflt = (td : Int)) && decide (ps.toList.map (fun q => (q.1, (pc : Int) + q.2)) = tg.map (fun q : Int × Nat => (q.1, (q.2 : Int)))) && (ps.toList.zip (ps.toList.drop 1)).all (fun (a, next) => decide (a.1 < next.1))
theorem lsw_find (pc : Nat) (dflt : Int) (td : Nat) (hd : (pc : Int) + dflt = (td : Int)) (x : Int) : ∀ (l : List (Int × Int)) (tg : List (Int × Nat)), l.map (fun q => (q.1, (pc : Int) + q.2)) = tg.map (fun q : Int × Nat => (q.1, (q.2 : Int))) → (∃ k t, (k, t) ∈ tg ∧ x = k ∧ (pc : Int) + Op.lookupswitch.offset l dflt x = (t : Int)) ∨ ((∀ q ∈ tg, ¬ x = q.1) ∧ (pc : Int) + Op.lookupswitch.offset l dflt x = (td : Int))
  | [], [], _ => Or.inr ⟨fun q h => absurd h List.not_mem_nil, hd⟩
  | [], q :: r, h => by simp at h
  | a :: l, [], h => by simp at h
  | (a, o) :: l, (k, t) :: r, h => by
    simp only [List.map_cons, List.cons.injEq, Prod.mk.injEq] at h
    obtain ⟨⟨h1, h2⟩, h3⟩ := h
    by_cases hx : a = x
    · refine Or.inl ⟨k, t, List.mem_cons_self, by rw [← hx, h1], ?_⟩
      rw [Op.lookupswitch.offset_cons, if_pos hx]; exact h2
    · rw [Op.lookupswitch.offset_cons, if_neg hx]
      rcases lsw_find pc dflt td hd x l r h3 with ⟨k', t', h4, h5, h6⟩ | ⟨h4, h5⟩
      · exact Or.inl ⟨k', t', List.mem_cons_of_mem _ h4, h5, h6⟩
      · refine Or.inr ⟨fun q hq => ?_, h5⟩
        rcases List.mem_cons.mp hq with rfl | hq
        · intro h; exact hx (by rw [h1]; exact h.symm)
        · exact h4 q hq
theorem acp_ok : ∀ w ∈ ([.native arraycopyName, .static arraycopyName, .initialized "java/lang/System"] : List Cond), w ∈ TB := memTB _ [539, 538, 72] (by decide +kernel) (by decide +kernel)
theorem max_ok : ∀ w ∈ ([.static Lib.Math.max.name, .initialized "java/lang/Math", .code Lib.Math.max.name Lib.Math.max.code 2 (some .int)] : List Cond), w ∈ TB := memTB _ [580, 71, 581] (by decide +kernel) (by decide +kernel)
theorem min_ok : ∀ w ∈ ([.static Lib.Math.min.name, .initialized "java/lang/Math", .code Lib.Math.min.name Lib.Math.min.code 2 (some .int)] : List Cond), w ∈ TB := memTB _ [459, 71, 460] (by decide +kernel) (by decide +kernel)
theorem abv_ok : ∀ w ∈ ([.fieldLink "NotWorn$Kinds" 15 "NotWorn$Kinds" "ABOVE" "[I"] : List Cond), w ∈ TB := memTB _ [390] (by decide +kernel) (by decide +kernel)
section Rows3
variable {Γ : Cx} {l : Launch} {θ : Th} {d : Nat} {M : MI} {pg : List Rw} {pc pc' p1 a1 a2 : Nat} {v : Int32} {L L1 : Lc} {st st1 r : List AV} {σ σ1 : Sg} {i : Instr}
theorem Md.lsw (hG : Md Γ l θ d M pg) (tg : List (Int × Nat)) (td : Nat) (hL : L.length = M.2.2.1) {x : Int32} {dflt : Int} {ps : Array (Int × Int)} (hr : run pg 99 pc L st σ = (p1, L1, .inl x :: r, σ1)) (hq : lkp p1 pg = some (.lookupswitch dflt ps, pc', v, a1, a2)) (hk : lswOk p1 dflt ps tg td = true) (kin : ∀ (k : Int) (t : Nat), (k, t) ∈ tg → x.toInt = k → X Γ t L1 r σ1) (kout : (∀ q ∈ tg, ¬ x.toInt = q.1) → X Γ td L1 r σ1) : X Γ pc L st σ := by
  refine hG.go 99 hL hr ?_
  obtain ⟨fl, ct, -, -, hd, -, -, -⟩ := okP_row hG.2.1 hq
  simp only [lswOk, Bool.and_eq_true, decide_eq_true_eq] at hk
  obtain ⟨⟨h1, h2⟩, h3⟩ := hk
  rcases lsw_find p1 dflt td h1 x.toInt ps.toList tg h2 with ⟨k, t, h4, h5, h6⟩ | ⟨h4, h6⟩
  · have hX := kin k t h4 h5
    obtain ⟨θ, ⟨p, l, e, R, s, m, args, below, meth, c⟩, A, ⟨kc, ks⟩, Q⟩ := Γ
    intro H locs ls hP hS hl
    exact lv_lookup hG.1.1 hG.1.2.1 hd h3 rfl h6 (hX H locs ls hP hS hl)
  · have hX := kout h4
    obtain ⟨θ, ⟨p, l, e, R, s, m, args, below, meth, c⟩, A, ⟨kc, ks⟩, Q⟩ := Γ
    intro H locs ls hP hS hl
    exact lv_lookup hG.1.1 hG.1.2.1 hd h3 rfl h6 (hX H locs ls hP hS hl)
theorem Md.acp {idx : Nat} (hG : Md Γ l θ d M pg) (hd0 : Nat.ble 1 d = true) (hlk : LK M.1.cls idx arraycopyName) (hL : L.length = M.2.2.1) {sp dp n : Int32} {c0 c1 n0 n1 : Nat} {rs0 rs1 : List Nat} (a b k : Nat) (hr : run pg 99 pc L st σ = (p1, L1, .inl n :: .inl dp :: .inr c1 :: .inl sp :: .inr c0 :: r, σ1)) (hL1 : L1.length = M.2.2.1) (hq : lkp p1 pg = some (.invokestatic idx, pc', v, a1, a2)) (hl0 : lay[c0]? = some (.inr (0, n0, rs0))) (hl1 : lay[c1]? = some (.inr (0, n1, rs1))) (hre : Nat.ble r.length 8 = true) (e1 : sp = nI a) (e2 : dp = nI b) (e3 : n = nI k) (h4 : a + k ≤ n0) (h5 : b + k ≤ n1) (kk : X Γ pc' L1 r (upc σ1 c1 (va_cpy (σ1 c0) (σ1 c1) a b k))) : X Γ pc L st σ := by
  refine hG.go 99 hL hr ?_
  obtain ⟨hd, he⟩ := okP_dec hG.2.1 hq (by simp [lenI])
  have hn0 := layN hl0
  have hn1 := layN hl1
  obtain ⟨θ', ⟨p, l', e, R, s, m, args, below, meth, c⟩, A, ⟨kc, ks⟩, Q⟩ := Γ
  obtain ⟨⟨hx, hb, hml, hown, hts, hE, hI, hA⟩, hp, q1, q2, hf1, hf2, hf3, hf4⟩ := hG
  subst q1; subst q2; subst he; subst e1; subst e2; subst e3
  have ca : (nI a).toNatClampNeg = a := nI_clamp (by omega)
  have cb : (nI b).toNatClampNeg = b := nI_clamp (by omega)
  have ck : (nI k).toNatClampNeg = k := nI_clamp (by omega)
  have hd1 : 1 ≤ d := nb hd0
  have hr8 : r.length ≤ 8 := nb hre
  intro H locs ls hP hS hl
  refine va_copyi (ty := .int) (f := σ1 c0) (g := σ1 c1) hx hb (by rw [hml, hl.1]; exact hL1.symm) hown (hts _ hlk) (hts _ (acp_ok _ (by simp))) (hts _ (acp_ok _ (by simp))) (hts _ (acp_ok _ (by simp))) hE.1 hP (wsOf_D hI hA σ1) hS c0 c1 0 0 (wsOf_get hl0) (wsOf_get hl1) rfl rfl rfl (nI_pos (by omega)) (nI_pos (by omega)) (nI_pos (by omega)) (by rw [ca, ck]; exact h4) (by rw [cb, ck]; exact h5) (fun i _ => rfl) (by omega) (by rw [cat_sum, show nativeFrameWords "java/lang/System" "arraycopy" 5 = 7 by decide +kernel]; omega) hd ?_
  intro H1 locs1 hP1 _ hS1
  rw [ca, cb, ck] at hP1
  exact kk H1 locs1 ls (by rw [← wsOf_upc hl1]; exact hP1) hS1 hl
theorem Md.mx {idx : Nat} (hG : Md Γ l θ d M pg) (hd0 : Nat.ble 1 d = true) (hlk : LK M.1.cls idx Lib.Math.max.name) (hL : L.length = M.2.2.1) {x y : Int32} (hr : run pg 99 pc L st σ = (p1, L1, .inl y :: .inl x :: r, σ1)) (hL1 : L1.length = M.2.2.1) (hq : lkp p1 pg = some (.invokestatic idx, pc', v, a1, a2)) (hre : Nat.ble r.length 8 = true) (kk : X Γ pc' L1 (.inl (if x < y then y else x) :: r) σ1) : X Γ pc L st σ := by
  refine hG.go 99 hL hr ?_
  obtain ⟨hd, he⟩ := okP_dec hG.2.1 hq (by simp [lenI])
  obtain ⟨θ', ⟨p, l', e, R, s, m, args, below, meth, c⟩, A, ⟨kc, ks⟩, Q⟩ := Γ
  obtain ⟨⟨hx, hb, hml, hown, hts, hE, hI, hA⟩, hp, q1, q2, hf1, hf2, hf3, hf4⟩ := hG
  subst q1; subst q2; subst he
  have hd1 : 1 ≤ d := nb hd0
  have hr8 : r.length ≤ 8 := nb hre
  intro H locs ls hP hS hl
  exact va_mmax hx hb (by rw [hml, hl.1]; exact hL1.symm) hown (hts _ hlk) (hts _ (max_ok _ (by simp))) (hts _ (max_ok _ (by simp))) (hts _ (max_ok _ (by simp))) (by omega) (by rw [cat_sum]; omega) hf3 hf4 hd (kk H locs ls hP hS hl)
theorem Md.mn {idx : Nat} (hG : Md Γ l θ d M pg) (hd0 : Nat.ble 1 d = true) (hlk : LK M.1.cls idx Lib.Math.min.name) (hL : L.length = M.2.2.1) {x y : Int32} (hr : run pg 99 pc L st σ = (p1, L1, .inl y :: .inl x :: r, σ1)) (hL1 : L1.length = M.2.2.1) (hq : lkp p1 pg = some (.invokestatic idx, pc', v, a1, a2)) (hre : Nat.ble r.length 8 = true) (kk : X Γ pc' L1 (.inl (if y < x then y else x) :: r) σ1) : X Γ pc L st σ := by
  refine hG.go 99 hL hr ?_
  obtain ⟨hd, he⟩ := okP_dec hG.2.1 hq (by simp [lenI])
  obtain ⟨θ', ⟨p, l', e, R, s, m, args, below, meth, c⟩, A, ⟨kc, ks⟩, Q⟩ := Γ
  obtain ⟨⟨hx, hb, hml, hown, hts, hE, hI, hA⟩, hp, q1, q2, hf1, hf2, hf3, hf4⟩ := hG
  subst q1; subst q2; subst he
  have hd1 : 1 ≤ d := nb hd0
  have hr8 : r.length ≤ 8 := nb hre
  intro H locs ls hP hS hl
  refine va_mmin hx hb (by rw [hml, hl.1]; exact hL1.symm) hown (hts _ hlk) (hts _ (min_ok _ (by simp))) (hts _ (min_ok _ (by simp))) (hts _ (min_ok _ (by simp))) (by omega) (by rw [cat_sum]; omega) hf3 hf4 hd ?_
  exact (kk H locs ls hP hS hl)
/-- the table of kinds -/
theorem Md.gabv (hG : Md Γ l θ d M pg) (hM : M.1.cls = "NotWorn$Kinds") (hL : L.length = M.2.2.1) (hr : run pg 99 pc L st σ = (p1, L1, st1, σ1)) (hq : lkp p1 pg = some (.getstatic 15, pc', v, a1, a2)) (kk : X Γ pc' L1 (.inr 900 :: st1) σ1) : X Γ pc L st σ := by
  refine hG.go 99 hL hr ?_
  obtain ⟨hd, he⟩ := okP_dec hG.2.1 hq (by simp [lenI])
  obtain ⟨θ', ⟨p, l', e, R, s, m, args, below, meth, c⟩, A, ⟨kc, ks⟩, Q⟩ := Γ
  obtain ⟨⟨hx, hb, hml, hown, hts, hE, hI, hA⟩, hp, q1, q2, hf1, hf2, hf3, hf4⟩ := hG
  subst q1; subst q2; subst he
  rw [hM] at hown
  intro H locs ls hP hS hl
  exact va_gets hx hb hE.2.2.1.1 hS hown (hts _ (abv_ok _ (by simp))) (fun _ h => h) hd (kk H locs ls hP hS hl)
theorem Md.gabvld (hG : Md Γ l θ d M pg) (hL : L.length = M.2.2.1) {j : Int32} (k : Nat) (hr : run pg 99 pc L st σ = (p1, L1, .inl j :: .inr 900 :: r, σ1)) (hq : lkp p1 pg = some (.iaload, pc', v, a1, a2)) (hj : j = nI k) (hk : k < 6) (kk : X Γ pc' L1 (.inl (abv k) :: r) σ1) : X Γ pc L st σ := by
  refine hG.go 99 hL hr ?_
  obtain ⟨hd, he⟩ := okP_dec hG.2.1 hq (by simp [lenI])
  obtain ⟨θ', ⟨p, l', e, R, s, m, args, below, meth, c⟩, A, ⟨kc, ks⟩, Q⟩ := Γ
  obtain ⟨⟨hx, hb, hml, hown, hts, hE, hI, hA⟩, hp, q1, q2, hf1, hf2, hf3, hf4⟩ := hG
  obtain ⟨h1, h2⟩ := vp_inN hk (by decide)
  subst q1; subst q2; subst he; subst hj
  intro H locs ls hP hS hl
  exact va_ti hx hb hE.2.2.1.2 hS h1 (v := .int (abv k)) (by rw [h2]) hd (kk H locs ls hP hS hl)
theorem Md.bit {N : MI} {n d' idx : Nat} {av rest : List AV} {post : Int32 → Sg → Prop} (hG : Md Γ l θ d M pg) (hM : M.1.cls = "NotWorn$Laws" ∧ idx = 33 ∨ M.1.cls = "NotWorn$Valley" ∧ idx = 128) (hN : MS N n) (hL : L.length = M.2.2.1) (hr : run pg 99 pc L st σ = (p1, L1, st1, σ1)) (hC : Ci l θ d' N av σ1 post) (hy : N.1 = y_bit) (hL1 : L1.length = M.2.2.1) (hq : lkp p1 pg = some (.invokestatic idx, pc', v, a1, a2)) (hd' : Nat.ble (d' + 1) d = true) (hn : av.length = n) (hst : st1 = av.reverse ++ rest) (hre : Nat.ble rest.length 8 = true) (kk : ∀ (x : Int32) (σ' : Sg), post x σ' → X Γ pc' L1 (.inl x :: rest) σ') : X Γ pc L st σ := by
  refine hG.go 99 hL hr ?_
  obtain ⟨hd, he⟩ := okP_dec hG.2.1 hq (by simp [lenI])
  have hG1 := hG.1
  obtain ⟨θ', ⟨p, l', e, R, s, m, args, below, meth, c⟩, A, ⟨kc, ks⟩, Q⟩ := Γ
  obtain ⟨⟨hx, hb, hml, hown, hts, hE, hI, hA⟩, hp, q1, q2, hf1, hf2, hf3, hf4⟩ := hG
  subst q1; subst q2; subst he; subst hst
  obtain ⟨hw, -, hcl2, hdesc, hmx⟩ := hN
  intro H locs ls hP hS hl
  have hcode : Cond.code N.1 N.2.1 N.2.2.1 N.2.2.2 ∈ TB := hw _ (by simp)
  have hpre := Ok.preS hG1 (av := av) hP hS
  have hnw : va_Nw (.methodLinkNest M.1.cls idx N.1 "NotWorn") s := by
    rcases hM with ⟨h1, h2⟩ | ⟨h1, h2⟩
    · rw [h1, h2, hy]; exact hE.2.1.1
    · rw [h1, h2, hy]; exact hE.2.1.2
  refine va_calli (A1 := AA θ') (va_runSN (As := av.map (conc θ'.1)) (rest := rest.map (conc θ'.1)) ⟨hx, hb, hml, hown, hts⟩ hC ⟨va_cnB n hts (goodIn_TB (Ws_TB hcode)) rfl rfl rfl hnw (hts _ (hw _ (by simp))) ⟨hcl2.1, hcl2.2, hdesc⟩ (room_le (nb hd') hmx hf1 hf2), hts _ (hw _ (by simp)), trivial⟩ hpre rfl (by rw [List.length_map]; exact hn) (by rw [hl.1]; exact hL1) (by simp) (lv_room (by rw [cat_sum]; exact nb hre)) hd ⟨hf3, hf4⟩) hS (fun q _ h => hA q h) hA ?_
  intro x u t H1 locs1 ht _ hpo hB _ _ hS1
  rw [ht] at hB
  exact kk x u hpo H1 locs1 ls hB hS1 hl
/-- a boolean field becomes true -/
theorem Md.ptz (hG : Md Γ l θ d M pg) (hL : L.length = M.2.2.1) {k c0 ci : Nat} {fds : List (Option Nat)} (hr : run pg 99 pc L st σ = (p1, L1, .inl 1 :: .inr c0 :: r, σ1)) (hq : lkp p1 pg = some (.putfield k, pc', v, a1, a2)) (hl0 : lay[c0]? = some (.inl (ci, fds))) (hci : ci = a1) (hw : fds[a2]? = some none) (hf : (classes[a1]?).map (fun q => (!(q.2.1 a2).2.2.2 && (q.2.1 a2).2.2.1 == "Z" && decide (a2 < q.2.2))) = some true) (kk : X Γ pc' L1 r (up σ1 c0 a2 1)) : X Γ pc L st σ := by
  refine hG.go 99 hL hr ?_
  obtain ⟨hd, he⟩ := okP_dec hG.2.1 hq (by simp [lenI])
  obtain ⟨fl, ct, h1, -, h3⟩ := okAux_of hG.2.1 hq
  simp only [okAux, decide_eq_true_eq] at h3
  obtain ⟨θ', ⟨p, l', e, R, s, m, args, below, meth, c⟩, A, ⟨kc, ks⟩, Q⟩ := Γ
  obtain ⟨⟨hx, hb, hml, hown, hts, hE, hI, hA⟩, hp, q1, q2, hf1, hf2, hf3, hf4⟩ := hG
  subst q1; subst q2; subst he; subst hci
  obtain ⟨⟨C, T, N⟩, hcq, hlen⟩ := layOk hl0
  have hlink := h1 _ h3
  have hgd : classes.getD ci ("", FT0, 0) = (C, T, N) := by rw [List.getD_eq_getElem?_getD, hcq]; rfl
  simp only [FLc, hgd] at hlink
  obtain ⟨hw1, ⟨ty0, hty⟩, hnm, hcl⟩ := cl_ok _ (List.mem_of_getElem? hcq)
  dsimp only at hw1 hty hnm hcl hlen
  rw [hcq] at hf
  simp only [Option.map_some, Option.some.injEq, Bool.and_eq_true, Bool.not_eq_true', beq_iff_eq, decide_eq_true_eq] at hf
  obtain ⟨⟨g1, g2⟩, hk⟩ := hf
  intro H locs ls hP hS hl
  refine va_put (C := C) (T := T) (N := N) (ci := ci) (ref := (T a2).1) (index := k) (Ts := TB) (ty := .boolean) (v := .int 1) hx hb hts hw1 ty0 hty hnm hown hE.1 hP (wsOf_D hI hA σ1) hS c0 (wsOf_get hl0) hcq a2 hk (hts _ hlink) (fun _ h => h) g1 (by rw [g2]; decide +kernel) (by decide +kernel) (by decide +kernel) (by rw [conF_len]; exact (List.getElem?_eq_some_iff.mp hw).1) hd ?_
  intro H1 locs1 hP1 hD1 hS1
  refine kk H1 locs1 ls ?_ hS1 hl
  have e1 : (conF θ'.1 (σ1 c0) fds 0).set a2 (.int 1) = conF θ'.1 (upd (σ1 c0) a2 1) fds 0 := by
    have := conF_set (a := θ'.1) (f := σ1 c0) (v := 1) (l := fds) (j0 := 0) (j := a2) hw
    rw [Nat.zero_add] at this
    exact this.symm
  rw [e1] at hP1
  rw [up, ← wsOf_upc hl0]
  exact hP1
end Rows3
