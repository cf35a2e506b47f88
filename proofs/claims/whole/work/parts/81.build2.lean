/-! rows of the building -/
section
variable {Γ : Cy} {own : String} {b : ByteArray} {nL fr lc cc cs pc kc ks : Nat} {L : Lc} {st : List AV} {es : List En}
theorem OkY.inc (hO : OkY Γ own b nL fr lc cc cs) {n : Int} (i : Nat) (x v : Int32) (L' : Lc) (hk : L[i]? = some (some (.inl x))) (hv : x + Int32.ofInt n = v) (hL' : L.set i (some (.inl v)) = L') (hd : decode b pc = .ok (.iinc i n, 3)) (kk : Y Γ (pc + 3) L' st es kc ks) : Y Γ pc L st es kc ks := by
  obtain ⟨Δ, ⟨p, l, e, R, s, m, args, below, meth, c⟩, A, Q, pin⟩ := Γ
  obtain ⟨hx, hb, hml, hown, hts, hE, hA, hin, h1, h2, h3, h4⟩ := hO
  intro a H locs ls hp hP hD hS hl
  subst hL'
  have hkl : i < L.length := (List.getElem?_eq_some_iff.mp hk).1
  obtain ⟨j, hj⟩ := List.getElem?_of_mem (prs_mem (a := a) hk)
  refine lv_iinc hx hb hd hl hj hv hkl rfl (fun ls' hl' => ?_)
  exact kk a H locs ls' hp hP hD hS (by rw [List.length_set]; exact lvh_set (v := .inl v) hkl hl')
theorem OkY.ge (hO : OkY Γ own b nL fr lc cc cs) {off : Int} (tgt : Nat) (x y : Int32) (hd : decode b pc = .ok (.if_icmp .ge off, 3)) (ht : (pc : Int) + off = (tgt : Int)) (kt : y ≤ x → Y Γ tgt L st es kc ks) (kf : ¬ y ≤ x → Y Γ (pc + 3) L st es kc ks) : Y Γ pc L (.inl y :: .inl x :: st) es kc ks := by
  obtain ⟨Δ, ⟨p, l, e, R, s, m, args, below, meth, c⟩, A, Q, pin⟩ := Γ
  obtain ⟨hx, hb, hml, hown, hts, hE, hA, hin, h1, h2, h3, h4⟩ := hO
  intro a H locs ls hp hP hD hS hl
  exact lv_icmp_ge hx hb hd ht (fun q => kt q a H locs ls hp hP hD hS hl) (fun q => kf q a H locs ls hp hP hD hS hl)
theorem OkY.gt (hO : OkY Γ own b nL fr lc cc cs) {off : Int} (tgt : Nat) (hd : decode b pc = .ok (.goto off, 3)) (ht : (pc : Int) + off = (tgt : Int)) (kk : Y Γ tgt L st es kc ks) : Y Γ pc L st es kc ks := by
  obtain ⟨Δ, ⟨p, l, e, R, s, m, args, below, meth, c⟩, A, Q, pin⟩ := Γ
  obtain ⟨hx, hb, hml, hown, hts, hE, hA, hin, h1, h2, h3, h4⟩ := hO
  intro a H locs ls hp hP hD hS hl
  exact lv_goto hx hb hd ht (kk a H locs ls hp hP hD hS hl)
theorem OkY.ldc (hO : OkY Γ own b nL fr lc cc cs) {k : Nat} (v : Int32) (hw : Cond.constant own k v ∈ TB) (hd : decode b pc = .ok (.ldc k, 2)) (kk : Y Γ (pc + 2) L (.inl v :: st) es kc ks) : Y Γ pc L st es kc ks := by
  obtain ⟨Δ, ⟨p, l, e, R, s, m, args, below, meth, c⟩, A, Q, pin⟩ := Γ
  obtain ⟨hx, hb, hml, hown, hts, hE, hA, hin, h1, h2, h3, h4⟩ := hO
  intro a H locs ls hp hP hD hS hl
  exact lv_ldc hx hb hown (hts _ hw) hd (kk a H locs ls hp hP hD hS hl)
/-- a new cell's address -/
theorem fresh {tc : Nat → ClassId} {a : Nat → Nat} {es : List En} {q : Nat} {e : En} (he : esOk es.length es = true) (hn : enOk 0 e = true) : wsE tc (upA a es.length q) (es ++ [e]) 0 = wsE tc a es 0 ++ [(q, cEn tc a e)] := by
  rw [wsE_app, wsE_congr (n := es.length) (fun k hk => upA_lt hk) es 0 (by omega) he, wsE, wsE, Nat.zero_add, upA_n, cEn_congr (n := 0) (a := upA a es.length q) (b := a) (fun k hk => by omega) e hn]
theorem freshL {a : Nat → Nat} {n q : Nat} {L : Lc} (h : lcOk n L = true) : prs (upA a n q) L = prs a L := prsF_congr (fun k hk => upA_lt hk) L 0 h
theorem freshS {a : Nat → Nat} {n q : Nat} {st : List AV} (h : st.all (avOk n) = true) : st.map (conc (upA a n q)) = st.map (conc a) := List.map_congr_left (fun v hv => conc_congr (fun k hk => upA_lt hk) v (List.all_eq_true.mp h v hv))
theorem OkY.new (hO : OkY Γ own b nL fr lc cc cs) {idx N : Nat} (ci : Nat) {C : String} {T : u_T} (ty : Nat → FieldType) (fs : List FV) (hc : classes[ci]? = some (C, T, N)) (hw : ∀ w ∈ ([.classLink own idx C, .instantiable C N, .initialized C] : List Cond), w ∈ TB) (hty : ∀ k, k < N → parseFieldDescriptor (T k).2.2.1 = some (ty k)) (hfs : ∀ (a : Nat → Nat) (j : Nat), j < N → defaultValue (ty j) = vp_V (fs.map (cFV a)) j) (hn : enOk 0 (.inl (ci, fs)) = true) (he : esOk es.length es = true) (hl0 : lcOk es.length L = true) (hs0 : st.all (avOk es.length) = true) (hpin : Γ.2.2.2.2 = none ∨ 0 < es.length) (hk : Nat.ble (kc + 1) cc = true) (hks : Nat.ble (ks + N) cs = true) (hd : decode b pc = .ok (.new idx, 3)) {n : Nat} (hlen : es.length = n) {es' : List En} (hes : es ++ [.inl (ci, fs)] = es') {kc' ks' : Nat} (e1 : kc + 1 = kc') (e2 : ks + N = ks') (kk : Y Γ (pc + 3) L (.inr n :: st) es' kc' ks') : Y Γ pc L st es kc ks := by
  obtain ⟨Δ, ⟨p, l, e, R, s, m, args, below, meth, c⟩, A, Q, pin⟩ := Γ
  obtain ⟨hx, hb, hml, hown, hts, hE, hA, hin, h1, h2, h3, h4⟩ := hO
  subst hes; subst e1; subst e2; subst hlen
  have hk := Nat.le_of_ble_eq_true hk
  have hks := Nat.le_of_ble_eq_true hks
  have hcl := cl_ok _ (List.mem_of_getElem? hc)
  intro a H locs ls hp hP hD hS hl
  refine va_new (ci := ci) (fs := fs.map (cFV a)) (C := C) (T := T) (N := N) hx hb hts hcl.1 ty hty hown (hts _ (hw _ (by simp))) (hts _ (hw _ (by simp))) (hts _ (hw _ (by simp))) hE.1 hP hD hS hA hc (fun j hj => hfs a j hj) (by omega) (by omega) hd (fun q H1 hP1 hD1 hS1 => ?_)
  have e0 := fresh (tc := Δ.2) (a := a) (q := q) he hn
  have := kk (upA a es.length q) H1 locs ls (fun h hh => by
    rcases hpin with h0 | h0
    · have h9 : none = some h := h0.symm.trans hh
      cases h9
    · rw [upA_lt h0]; exact hp h hh) (by rw [e0]; exact hP1) (by rw [e0]; exact hD1) hS1 (by rw [freshL hl0]; exact hl)
  rw [List.map_cons, freshS hs0] at this
  rw [show conc (upA a es.length q) (.inr es.length) = .ref q by rw [conc, upA_n]] at this
  exact this
theorem OkY.newa (hO : OkY Γ own b nL fr lc cc cs) {at_ : ArrayType} (kd : Nat) (ty : FieldType) (N : Nat) {v : Int32} (hv : v = nI N) (hN : N < 2000) (hty : newarray.typeOf at_ = ty) (htk : ∀ tc, (tysC tc)[kd]? = some (tc kd, ty)) (hra : ∀ (U : State) (cA : ClassId), va_RA U cA ty = (U.vm.findClass ("[" ++ ty.toString) = some cA)) (hdf : defaultValue ty = .int 0) (hw : Cond.arrayClass ty ∈ TB) (hby : componentBytes ty ≤ 4) (he : esOk es.length es = true) (hl0 : lcOk es.length L = true) (hs0 : st.all (avOk es.length) = true) (hpin : Γ.2.2.2.2 = none ∨ 0 < es.length) (hk : Nat.ble (kc + 1) cc = true) (hks : Nat.ble (ks + N) cs = true) (hd : decode b pc = .ok (.newarray at_, 2)) {n : Nat} (hlen : es.length = n) {es' : List En} (hes : es ++ [.inr (.inl (kd, N, []))] = es') {kc' ks' : Nat} (e1 : kc + 1 = kc') (e2 : ks + N = ks') (kk : Y Γ (pc + 2) L (.inr n :: st) es' kc' ks') : Y Γ pc L (.inl v :: st) es kc ks := by
  obtain ⟨Δ, ⟨p, l, e, R, s, m, args, below, meth, c⟩, A, Q, pin⟩ := Γ
  obtain ⟨hx, hb, hml, hown, hts, hE, hA, hin, h1, h2, h3, h4⟩ := hO
  subst hes; subst e1; subst e2; subst hlen; subst hv
  have hk := Nat.le_of_ble_eq_true hk
  have hks := Nat.le_of_ble_eq_true hks
  intro a H locs ls hp hP hD hS hl
  have hbt : N * componentBytes ty ≤ N * 4 := Nat.mul_le_mul_left _ hby
  refine va_newa (atype := at_) (ty := ty) (N' := N) (a0 := (N, .inl (fun _ => 0))) hx hb (by rw [hty]; exact hts _ hw) hty hE.1 hP hD hS hA (fun cA => by rw [hdf]; rfl) (nI_pos (by omega)) (nI_clamp (by omega)) (by omega) (by omega) (by omega) hd (fun q cA H1 hK1 hP1 hD1 hS1 => ?_)
  have r1 := (hK1.2 6 (cA, ty) (by rw [List.getElem?_append_right (Nat.le_refl 6)]; rfl)).2
  have r2 := (hE.1.2 kd _ (htk Δ.2)).2
  rw [hra] at r1 r2
  have eA : cA = Δ.2 kd := Option.some.inj (r1.symm.trans r2)
  have e0 := fresh (tc := Δ.2) (a := a) (q := q) (e := .inr (.inl (kd, N, []))) he rfl
  have ec : cEn Δ.2 a (.inr (.inl (kd, N, []))) = .inl (cA, N, .inl (fun _ => 0)) := by
    rw [cEn, eA]
    congr 3
  rw [← ec] at hP1 hD1
  have := kk (upA a es.length q) H1 locs ls (fun h hh => by
    rcases hpin with h0 | h0
    · have h9 : none = some h := h0.symm.trans hh
      cases h9
    · rw [upA_lt h0]; exact hp h hh) (by rw [e0]; exact hP1) (by rw [e0]; exact hD1) hS1 (by rw [freshL hl0]; exact hl)
  rw [List.map_cons, freshS hs0] at this
  rw [show conc (upA a es.length q) (.inr es.length) = .ref q by rw [conc, upA_n]] at this
  exact this
theorem OkY.newq (hO : OkY Γ own b nL fr lc cc cs) {idx : Nat} (kd : Nat) (C : String) (N : Nat) {v : Int32} (hv : v = nI N) (hN : N < 2000) (htk : ∀ tc, (tysC tc)[kd]? = some (tc kd, .object C)) (hw : Cond.classLink own idx C ∈ TB) (hao : ∀ U, EvC Γ.1 U → va_AO C U) (he : esOk es.length es = true) (hl0 : lcOk es.length L = true) (hs0 : st.all (avOk es.length) = true) (hpin : Γ.2.2.2.2 = none ∨ 0 < es.length) (hk : Nat.ble (kc + 1) cc = true) (hks : Nat.ble (ks + N) cs = true) (hd : decode b pc = .ok (.anewarray idx, 3)) {n : Nat} (hlen : es.length = n) {es' : List En} (hes : es ++ [.inr (.inr (kd, N, []))] = es') {kc' ks' : Nat} (e1 : kc + 1 = kc') (e2 : ks + N = ks') (kk : Y Γ (pc + 3) L (.inr n :: st) es' kc' ks') : Y Γ pc L (.inl v :: st) es kc ks := by
  obtain ⟨Δ, ⟨p, l, e, R, s, m, args, below, meth, c⟩, A, Q, pin⟩ := Γ
  obtain ⟨hx, hb, hml, hown, hts, hE, hA, hin, h1, h2, h3, h4⟩ := hO
  subst hes; subst e1; subst e2; subst hlen; subst hv
  have hk := Nat.le_of_ble_eq_true hk
  have hks := Nat.le_of_ble_eq_true hks
  intro a H locs ls hp hP hD hS hl
  refine va_newq (C := C) (N' := N) hx hb hown (hts _ hw) (hao s hE) hE.1 hP hD hS hA (nI_pos (by omega)) (nI_clamp (by omega)) (by omega) (by omega) (by omega) hd (fun q cA H1 hK1 hP1 hD1 hS1 => ?_)
  obtain ⟨k1, c1, -, -, -, r1⟩ := (hK1.2 6 (cA, .object C) (by rw [List.getElem?_append_right (Nat.le_refl 6)]; rfl)).2
  obtain ⟨k2, c2, -, -, -, r2⟩ := (hE.1.2 kd _ (htk Δ.2)).2
  have eA : cA = Δ.2 kd := Option.some.inj (r1.symm.trans r2)
  have e0 := fresh (tc := Δ.2) (a := a) (q := q) (e := .inr (.inr (kd, N, []))) he rfl
  have ec : cEn Δ.2 a (.inr (.inr (kd, N, []))) = .inl (cA, N, .inr (.inr (.inr (.inr (fun _ => none))))) := by
    rw [cEn, eA]
    rfl
  rw [← ec] at hP1 hD1
  have := kk (upA a es.length q) H1 locs ls (fun h hh => by
    rcases hpin with h0 | h0
    · have h9 : none = some h := h0.symm.trans hh
      cases h9
    · rw [upA_lt h0]; exact hp h hh) (by rw [e0]; exact hP1) (by rw [e0]; exact hD1) hS1 (by rw [freshL hl0]; exact hl)
  rw [List.map_cons, freshS hs0] at this
  rw [show conc (upA a es.length q) (.inr es.length) = .ref q by rw [conc, upA_n]] at this
  exact this
theorem fv_set (a : Nat → Nat) (fs : List FV) (k : Nat) (v : FV) : (fs.set k v).map (cFV a) = (fs.map (cFV a)).set k (cFV a v) := List.map_set
theorem OkY.putr (hO : OkY Γ own b nL fr lc cc cs) {idx N : Nat} (q k j ci : Nat) {C : String} {T : u_T} (fs : List FV) (ty : FieldType) (hq : es[q]? = some (.inl (ci, fs))) (hc : classes[ci]? = some (C, T, N)) (hk : k < N) (hlk : Cond.fieldLink own idx (T k).1 (T k).2.1 (T k).2.2.1 ∈ TB) (hfin : (T k).2.2.2 = true) (hdecl : (T k).1 = own) (hty : parseFieldDescriptor (T k).2.2.1 = some ty) (hnr : ∀ x, narrow ty (.ref x) = .ref x) (hft : ∀ x, fits ty (.ref x) = true) (hl : k < fs.length) (hpin : Γ.2.2.2.2 ≠ none) (hd : decode b pc = .ok (.putfield idx, 3)) {es' : List En} (hes : es.set q (.inl (ci, fs.set k (.inr (some j)))) = es') (kk : Y Γ (pc + 3) L st es' kc ks) : Y Γ pc L (.inr j :: .inr q :: st) es kc ks := by
  obtain ⟨Δ, ⟨p, l, e, R, s, m, args, below, meth, c⟩, A, Q, pin⟩ := Γ
  obtain ⟨hx, hb, hml, hown, hts, hE, hA, hin, h1, h2, h3, h4⟩ := hO
  subst hes
  obtain ⟨hw1, ⟨ty0, hty0⟩, hnm, hcl⟩ := cl_ok _ (List.mem_of_getElem? hc)
  have hql : q < es.length := (List.getElem?_eq_some_iff.mp hq).1
  intro a H locs ls hp hP hD hS hls
  refine va_putF (ci := ci) (C := C) (T := T) (N := N) (v := .ref (a j)) (ty := ty) hx hb hts hw1 ty0 hty0 hnm hown hE.1 hP hD hS q (by rw [wsE_get hq, Nat.zero_add]; rfl) hc k hk (hts _ hlk) (fun _ h => h) hfin (hin hpin) hdecl hty (hnr _) (hft _) (by rw [List.length_map]; exact hl) hd (fun H1 locs1 hP1 hD1 hS1 => ?_)
  have es1 : wsE Δ.2 a (es.set q (.inl (ci, fs.set k (.inr (some j))))) 0 = (wsE Δ.2 a es 0).set q (a q, .inr (ci, (fs.map (cFV a)).set k (.ref (a j)))) := by rw [wsE_set hql, Nat.zero_add, cEn, fv_set]; rfl
  exact kk a H1 locs1 ls hp (by rw [es1]; exact hP1) (by rw [es1]; exact hD1) hS1 hls
theorem OkY.puti (hO : OkY Γ own b nL fr lc cc cs) {idx N : Nat} (q k ci : Nat) (v : Int32) {C : String} {T : u_T} (fs : List FV) (hq : es[q]? = some (.inl (ci, fs))) (hc : classes[ci]? = some (C, T, N)) (hk : k < N) (hlk : Cond.fieldLink own idx (T k).1 (T k).2.1 (T k).2.2.1 ∈ TB) (hfin : (T k).2.2.2 = false) (hty : parseFieldDescriptor (T k).2.2.1 = some .int) (hl : k < fs.length) (hd : decode b pc = .ok (.putfield idx, 3)) {es' : List En} (hes : es.set q (.inl (ci, fs.set k (.inl v))) = es') (kk : Y Γ (pc + 3) L st es' kc ks) : Y Γ pc L (.inl v :: .inr q :: st) es kc ks := by
  obtain ⟨Δ, ⟨p, l, e, R, s, m, args, below, meth, c⟩, A, Q, pin⟩ := Γ
  obtain ⟨hx, hb, hml, hown, hts, hE, hA, hin, h1, h2, h3, h4⟩ := hO
  subst hes
  obtain ⟨hw1, ⟨ty0, hty0⟩, hnm, hcl⟩ := cl_ok _ (List.mem_of_getElem? hc)
  have hql : q < es.length := (List.getElem?_eq_some_iff.mp hq).1
  intro a H locs ls hp hP hD hS hls
  refine va_put (ci := ci) (C := C) (T := T) (N := N) (v := .int v) (ty := .int) hx hb hts hw1 ty0 hty0 hnm hown hE.1 hP hD hS q (by rw [wsE_get hq, Nat.zero_add]; rfl) hc k hk (hts _ hlk) (fun _ h => h) hfin hty rfl rfl (by rw [List.length_map]; exact hl) hd (fun H1 locs1 hP1 hD1 hS1 => ?_)
  have es1 : wsE Δ.2 a (es.set q (.inl (ci, fs.set k (.inl v)))) 0 = (wsE Δ.2 a es 0).set q (a q, .inr (ci, (fs.map (cFV a)).set k (.int v))) := by rw [wsE_set hql, Nat.zero_add, cEn, fv_set]; rfl
  exact kk a H1 locs1 ls hp (by rw [es1]; exact hP1) (by rw [es1]; exact hD1) hS1 hls
theorem OkY.getr (hO : OkY Γ own b nL fr lc cc cs) {idx N : Nat} (q k j ci : Nat) {C : String} {T : u_T} (fs : List FV) (hq : es[q]? = some (.inl (ci, fs))) (hc : classes[ci]? = some (C, T, N)) (hk : k < N) (hlk : Cond.fieldLink own idx (T k).1 (T k).2.1 (T k).2.2.1 ∈ TB) (hv : fs[k]? = some (.inr (some j))) (hd : decode b pc = .ok (.getfield idx, 3)) (kk : Y Γ (pc + 3) L (.inr j :: st) es kc ks) : Y Γ pc L (.inr q :: st) es kc ks := by
  obtain ⟨Δ, ⟨p, l, e, R, s, m, args, below, meth, c⟩, A, Q, pin⟩ := Γ
  obtain ⟨hx, hb, hml, hown, hts, hE, hA, hin, h1, h2, h3, h4⟩ := hO
  obtain ⟨hw1, ⟨ty0, hty0⟩, hnm, hcl⟩ := cl_ok _ (List.mem_of_getElem? hc)
  intro a H locs ls hp hP hD hS hls
  exact va_get (ci := ci) (C := C) (T := T) (N := N) (v := .ref (a j)) hx hb hts hw1 hown hE.1 hP q (by rw [wsE_get hq, Nat.zero_add]; rfl) hc k hk (hts _ hlk) (fun _ h => h) (by rw [List.getElem?_map, hv]; rfl) hd (kk a H locs ls hp hP hD hS hls)
theorem OkY.alen (hO : OkY Γ own b nL fr lc cc cs) (q kd N : Nat) (rs : List (Nat × Nat)) {C : String} (hq : es[q]? = some (.inr (.inr (kd, N, rs)))) (htk : ∀ tc, (tysC tc)[kd]? = some (tc kd, .object C)) (hd : decode b pc = .ok (.arraylength, 1)) (kk : Y Γ (pc + 1) L (.inl (nI N) :: st) es kc ks) : Y Γ pc L (.inr q :: st) es kc ks := by
  obtain ⟨Δ, ⟨p, l, e, R, s, m, args, below, meth, c⟩, A, Q, pin⟩ := Γ
  obtain ⟨hx, hb, hml, hown, hts, hE, hA, hin, h1, h2, h3, h4⟩ := hO
  intro a H locs ls hp hP hD hS hls
  exact va_alen (x := (N, .inr (.inr (.inr (.inr (fun j => (lkr rs j).map a)))))) (v := nI N) hx hb hE.1 hP q kd (by rw [wsE_get hq, Nat.zero_add]; rfl) (htk Δ.2) rfl hd (kk a H locs ls hp hP hD hS hls)
theorem lku_upd (us : List (Nat × Int32)) (i : Nat) (v : Int32) : lku ((i, v) :: us) = upd (lku us) i v := by
  funext j
  rw [lku, upd]
theorem OkY.iast (hO : OkY Γ own b nL fr lc cc cs) (q i N : Nat) (us : List (Nat × Int32)) {v w : Int32} (hw : w = nI i) (hq : es[q]? = some (.inr (.inl (0, N, us)))) (hi : i < N) (hN : N < 2000) (hd : decode b pc = .ok (.iastore, 1)) {es' : List En} (hes : es.set q (.inr (.inl (0, N, (i, v) :: us))) = es') (kk : Y Γ (pc + 1) L st es' kc ks) : Y Γ pc L (.inl v :: .inl w :: .inr q :: st) es kc ks := by
  obtain ⟨Δ, ⟨p, l, e, R, s, m, args, below, meth, c⟩, A, Q, pin⟩ := Γ
  obtain ⟨hx, hb, hml, hown, hts, hE, hA, hin, h1, h2, h3, h4⟩ := hO
  subst hes; subst hw
  have hql : q < es.length := (List.getElem?_eq_some_iff.mp hq).1
  intro a H locs ls hp hP hD hS hls
  refine va_iast hx hb hE.1 hP hD hS q 0 (by rw [wsE_get hq, Nat.zero_add]; rfl) rfl (vp_in_nI hi (by omega)) hd (fun H1 locs1 hP1 hD1 hS1 => ?_)
  rw [nI_clamp (by omega)] at hP1 hD1
  have es1 : wsE Δ.2 a (es.set q (.inr (.inl (0, N, (i, v) :: us)))) 0 = (wsE Δ.2 a es 0).set q (a q, .inl (Δ.2 0, N, .inl (upd (lku us) i v))) := by rw [wsE_set hql, Nat.zero_add, cEn, lku_upd]
  exact kk a H1 locs1 ls hp (by rw [es1]; exact hP1) (by rw [es1]; exact hD1) hS1 hls
theorem OkY.cast (hO : OkY Γ own b nL fr lc cc cs) (q i N : Nat) (us : List (Nat × Int32)) {v w : Int32} (hw : w = nI i) (hv : vp_nar .char v = v) (hq : es[q]? = some (.inr (.inl (2, N, us)))) (hi : i < N) (hN : N < 2000) (hd : decode b pc = .ok (.castore, 1)) {es' : List En} (hes : es.set q (.inr (.inl (2, N, (i, v) :: us))) = es') (kk : Y Γ (pc + 1) L st es' kc ks) : Y Γ pc L (.inl v :: .inl w :: .inr q :: st) es kc ks := by
  obtain ⟨Δ, ⟨p, l, e, R, s, m, args, below, meth, c⟩, A, Q, pin⟩ := Γ
  obtain ⟨hx, hb, hml, hown, hts, hE, hA, hin, h1, h2, h3, h4⟩ := hO
  subst hes; subst hw
  have hql : q < es.length := (List.getElem?_eq_some_iff.mp hq).1
  intro a H locs ls hp hP hD hS hls
  refine va_cast hx hb hE.1 hP hD hS q 2 (by rw [wsE_get hq, Nat.zero_add]; rfl) rfl (vp_in_nI hi (by omega)) hd (fun H1 locs1 hP1 hD1 hS1 => ?_)
  rw [nI_clamp (by omega), hv] at hP1 hD1
  have es1 : wsE Δ.2 a (es.set q (.inr (.inl (2, N, (i, v) :: us)))) 0 = (wsE Δ.2 a es 0).set q (a q, .inl (Δ.2 2, N, .inl (upd (lku us) i v))) := by rw [wsE_set hql, Nat.zero_add, cEn, lku_upd]
  exact kk a H1 locs1 ls hp (by rw [es1]; exact hP1) (by rw [es1]; exact hD1) hS1 hls
theorem lkr_upd (a : Nat → Nat) (rs : List (Nat × Nat)) (i k : Nat) : (fun j => (lkr ((i, k) :: rs) j).map a) = va_up (fun j => (lkr rs j).map a) i (some (a k)) := by
  funext j
  rw [lkr, va_up]
  split <;> rfl
theorem OkY.aast (hO : OkY Γ own b nL fr lc cc cs) (q i N kd qk ci : Nat) (rs : List (Nat × Nat)) (fs : List FV) {w : Int32} {r : vw_C} (hw : w = nI i) (hq : es[q]? = some (.inr (.inr (kd, N, rs)))) (hqk : es[qk]? = some (.inl (ci, fs))) (hc : classes[ci]? = some r) (htk : ∀ tc, (tysC tc)[kd]? = some (tc kd, .object r.1)) (hi : i < N) (hN : N < 2000) (hd : decode b pc = .ok (.aastore, 1)) {es' : List En} (hes : es.set q (.inr (.inr (kd, N, (i, qk) :: rs))) = es') (kk : Y Γ (pc + 1) L st es' kc ks) : Y Γ pc L (.inr qk :: .inl w :: .inr q :: st) es kc ks := by
  obtain ⟨Δ, ⟨p, l, e, R, s, m, args, below, meth, c⟩, A, Q, pin⟩ := Γ
  obtain ⟨hx, hb, hml, hown, hts, hE, hA, hin, h1, h2, h3, h4⟩ := hO
  subst hes; subst hw
  have hql : q < es.length := (List.getElem?_eq_some_iff.mp hq).1
  intro a H locs ls hp hP hD hS hls
  refine va_astq (r := r) (vs := fs.map (cFV a)) hx hb hE.1 hP hD hS q kd qk ci (by rw [wsE_get hq, Nat.zero_add]; rfl) (htk Δ.2) (by rw [wsE_get hqk, Nat.zero_add]; rfl) hc (vp_in_nI hi (by omega)) hd (fun H1 locs1 hP1 hD1 hS1 => ?_)
  rw [nI_clamp (by omega)] at hP1 hD1
  have es1 : wsE Δ.2 a (es.set q (.inr (.inr (kd, N, (i, qk) :: rs)))) 0 = (wsE Δ.2 a es 0).set q (a q, .inl (Δ.2 kd, N, .inr (.inr (.inr (.inr (va_up (fun j => (lkr rs j).map a) i (some (a qk)))))))) := by rw [wsE_set hql, Nat.zero_add, cEn, lkr_upd]
  exact kk a H1 locs1 ls hp (by rw [es1]; exact hP1) (by rw [es1]; exact hD1) hS1 hls
theorem OkY.obj (hO : OkY Γ own b nL fr lc cc cs) {idx : Nat} (q : Nat) (hL : L.length = nL) (hw : ∀ w ∈ ([.methodLink own idx Lib.objectInit, .instanceMethod Lib.objectInit, .code Lib.objectInit ⟨#[0xb1]⟩ 1 none] : List Cond), w ∈ TB) (hfr : Nat.ble 1 fr = true) (hlc : Nat.ble 40 lc = true) (hst : st.length ≤ 4) (hd : decode b pc = .ok (.invokespecial idx, 3)) (kk : Y Γ (pc + 3) L st es kc ks) : Y Γ pc L (.inr q :: st) es kc ks := by
  obtain ⟨Δ, ⟨p, l, e, R, s, m, args, below, meth, c⟩, A, Q, pin⟩ := Γ
  obtain ⟨hx, hb, hml, hown, hts, hE, hA, hin, h1, h2, h3, h4⟩ := hO
  have hfr := Nat.le_of_ble_eq_true hfr
  have hlc := Nat.le_of_ble_eq_true hlc
  intro a H locs ls hp hP hD hS hls
  refine W.objInit (a := a q) (rest := st.map (conc a)) hx hb hown (hts _ (hw _ (by simp))) (hts _ (hw _ (by simp))) (hts _ (hw _ (by simp))) rfl (by rw [hml, ← hL]; exact hls.1) rfl hd (by omega) (by
    rw [cat_sum]
    show 2 * 0 + st.length + 12 ≤ _
    omega) ?_
  exact W.eq rfl (kk a H locs ls hp hP hD hS hls)
end
