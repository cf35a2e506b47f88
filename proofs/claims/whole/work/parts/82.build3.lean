/-! constructors: their contracts, and calls of them -/
def shF (n : Nat) : FV → FV
  | .inr (some k) => .inr (some (k + n))
  | v => v
def shE (n : Nat) : En → En
  | .inl (ci, fs) => .inl (ci, fs.map (shF n))
  | .inr (.inl x) => .inr (.inl x)
  | .inr (.inr (kd, m, rs)) => .inr (.inr (kd, m, rs.map (fun q => (q.1, q.2 + n))))
theorem cFV_sh {a u : Nat → Nat} {n : Nat} (h : ∀ k, a (k + n) = u k) : ∀ v : FV, cFV a (shF n v) = cFV u v
  | .inl _ => rfl
  | .inr none => rfl
  | .inr (some k) => by rw [shF, cFV, cFV, h]
theorem lkr_sh (n : Nat) : ∀ (rs : List (Nat × Nat)) (j : Nat), lkr (rs.map (fun q => (q.1, q.2 + n))) j = (lkr rs j).map (fun k => k + n)
  | [], _ => rfl
  | q :: r, j => by
    rw [List.map_cons, lkr, lkr]
    split
    · rfl
    · exact lkr_sh n r j
theorem cEn_sh {tc : Nat → ClassId} {a u : Nat → Nat} {n : Nat} (h : ∀ k, a (k + n) = u k) : ∀ e : En, cEn tc a (shE n e) = cEn tc u e
  | .inl (ci, fs) => by
    rw [shE, cEn, cEn, List.map_map]
    congr 2
    exact List.map_congr_left (fun v _ => cFV_sh h v)
  | .inr (.inl _) => rfl
  | .inr (.inr (kd, m, rs)) => by
    rw [shE, cEn, cEn]
    have : (fun j => (lkr (rs.map (fun q => (q.1, q.2 + n))) j).map a) = (fun j => (lkr rs j).map u) := by
      funext j
      rw [lkr_sh]
      cases lkr rs j with
      | none => rfl
      | some k => rw [Option.map_some, Option.map_some, Option.map_some, h]
    rw [this]
theorem wsE_sh {tc : Nat → ClassId} {a u : Nat → Nat} {n : Nat} (h : ∀ k, a (k + n) = u k) : ∀ (es : List En) (c : Nat), wsE tc a (es.map (shE n)) (c + n) = wsE tc u es c
  | [], _ => rfl
  | e :: r, c => by
    have := wsE_sh (tc := tc) h r (c + 1)
    rw [List.map_cons, wsE, wsE, h c, cEn_sh h, show c + n + 1 = c + 1 + n by omega, this]
def dB (d mc ms : Nat) : Room := { frames := d, cells := mc, slots := ms, locals := 128 * d }
/-- a constructor: out of one cell e0 come the cells es1, the first of them itself -/
def Cc (l : Launch) (Δ : Dl) (d mc ms : Nat) (M : MI) (e0 : En) (es1 : List En) : Prop := ∀ (h0 sz : Nat), Met l M.1 (Ws M) (dB d mc ms) (va_Pc [.ref h0] (fun U => U.heap.size = sz ∧ va_P Δ.1 classes [(h0, cEn Δ.2 (fun _ => 0) e0)] U.heap ∧ EvC Δ U)) (va_Qv (fun u : Nat → Nat => u 0 = h0) (fun u t => va_P Δ.1 classes (wsE Δ.2 u es1 0) t.heap ∧ va_D (va_A [(h0, cEn Δ.2 (fun _ => 0) e0)] sz) (wsE Δ.2 u es1 0)) (va_A [(h0, cEn Δ.2 (fun _ => 0) e0)] sz)) mc ms (va_A [(h0, cEn Δ.2 (fun _ => 0) e0)] sz)
def RtY (Γ : Cy) (b : ByteArray) (es1 : List En) (mc ms : Nat) : Prop := ∀ (pc : Nat) (L : Lc), decode b pc = .ok (.return_, 1) → Y Γ pc L [] es1 mc ms
def MC (M : MI) : Prop := (∀ w ∈ ([.instanceMethod M.1, .initialized M.1.cls, .code M.1 M.2.1 M.2.2.1 M.2.2.2] : List Cond), w ∈ TB) ∧ MD M 0 ∧ M.1.name = "<init>" ∧ M.2.2.2 = none
theorem Cc.of {l : Launch} {Δ : Dl} {d mc ms : Nat} {M : MI} {e0 : En} {es1 : List En} (hM : MC M) (he0 : enOk 0 e0 = true) (hmL : 1 ≤ M.2.2.1) (L : Lc) (hL : ent [.inr 0] M.2.2.1 = L) (body : ∀ Γ : Cy, Γ.1 = Δ → Γ.2.1.2.1 = l → Γ.2.2.2.2 ≠ none → OkY Γ M.1.cls M.2.1 M.2.2.1 d (128 * d) mc ms → RtY Γ M.2.1 es1 mc ms → Y Γ 0 L [] [e0] 0 0) : Cc l Δ d mc ms M e0 es1 := by
  intro h0 sz
  subst hL
  obtain ⟨hw, hMD, hnm, hrt⟩ := hM
  refine Met.ofW (cc := M.2.1) (maxL := M.2.2.1) (ret := M.2.2.2) hMD.1 rfl ?_
  intro p e s m args below meth c s₁ B hml hv
  obtain ⟨rfl, hsz, hP, hE⟩ := hv
  subst hsz
  have hx := B.exec
  have hb := B.bytes
  have hr := B.returns
  have hts := atoms_spec (ws := Ws M) B.pre
  have hown : s.vm.findClass M.1.cls = some m.cls := findClass_of_methodNamed B.named
  have hlocks := B.notSynchronized
  have hin : meth.name = "<init>" := (name_of_methodNamed B.named B.method).1.trans hnm
  have hl := lv_entry [.ref h0] (n := M.2.2.1) hmL
  rw [lg_entry_eq]
  generalize (lg_sl [.ref h0] ++ List.replicate (M.2.2.1 - (lg_sl [.ref h0]).length) Slot.unset).toArray = ls at hl ⊢
  have ec : cEn Δ.2 (fun _ => 0) e0 = cEn Δ.2 (fun _ => h0) e0 := cEn_congr (n := 0) (fun k hk => by omega) e0 he0
  have hD : va_D (va_A [(h0, cEn Δ.2 (fun _ => 0) e0)] s.heap.size) [(h0, cEn Δ.2 (fun _ => 0) e0)] := by
    refine ⟨fun i j p q hp hq _ => ?_, fun k q hk => ?_⟩
    · have h1 : i < 1 := (List.getElem?_eq_some_iff.mp hp).1
      have h2 : j < 1 := (List.getElem?_eq_some_iff.mp hq).1
      omega
    · have h1 : k < 1 := (List.getElem?_eq_some_iff.mp hk).1
      rw [show k = 0 by omega] at hk
      exact va_A.in (k := 0) hk
  have key := body (Δ, (p, l, e, (headSpec (Ws M) (dB d mc ms)).room, s, m, [Value.ref h0].toArray, below, meth, c), va_A [(h0, cEn Δ.2 (fun _ => 0) e0)] s.heap.size, MQ below (va_Qv (fun u : Nat → Nat => u 0 = h0) (fun u t => va_P Δ.1 classes (wsE Δ.2 u es1 0) t.heap ∧ va_D (va_A [(h0, cEn Δ.2 (fun _ => 0) e0)] s.heap.size) (wsE Δ.2 u es1 0)) (va_A [(h0, cEn Δ.2 (fun _ => 0) e0)] s.heap.size)) [Value.ref h0].toArray s mc ms (va_A [(h0, cEn Δ.2 (fun _ => 0) e0)] s.heap.size), some h0) rfl rfl (fun q => by cases q)
    ⟨hx, hb, hml, hown, fun w hw => hts w (List.mem_cons_of_mem _ hw), hE, fun q h => Or.inr h, fun _ => hin, Nat.le_refl _, Nat.le_refl _, Nat.le_refl _, Nat.le_refl _⟩
    (fun pc L hd a H locs ls hp hP2 hD2 hS2 hl2 => ?_)
  · refine key (fun _ => h0) s.heap [] ls (fun h hh => by cases hh; rfl) (by rw [wsE, wsE, ← ec]; exact hP) (by rw [wsE, wsE, ← ec]; exact hD) va_S.rf ?_
    rw [ent_len (by simpa using hmL), prs, ent, prsF_none]
    exact hl
  · exact W.vret hx hb (by rw [hr, hrt]) (fun t ht _ => ⟨⟨a, rfl, hp _ rfl, by rw [ht]; exact hP2, hD2⟩, hS2.F ht⟩) hS2.2.2 hd
theorem range_get (wr : va_W) (x : Nat × va_E) : (List.range wr.length).map (fun i => (wr ++ [x])[i]?) = wr.map some := by
  apply List.ext_getElem?
  intro i
  rw [List.getElem?_map, List.getElem?_map]
  by_cases hi : i < wr.length
  · rw [List.getElem?_range hi, Option.map_some, List.getElem?_append_left hi, List.getElem?_eq_getElem hi]; rfl
  · rw [List.getElem?_eq_none (by rw [List.length_range]; omega), List.getElem?_eq_none (by omega)]; rfl
theorem va_nd_range : ∀ (l : List Nat), l.Nodup → va_nd l = true
  | [], _ => rfl
  | a :: l, h => by
    rw [List.nodup_cons] at h
    rw [va_nd, decide_eq_true h.1, va_nd_range l h.2]; rfl
section
variable {Γ : Cy} {own : String} {b : ByteArray} {nL d cc cs pc kc ks : Nat} {L : Lc} {st : List AV} {es : List En}
/-- a call of a constructor -/
theorem OkY.call (hO : OkY Γ own b nL d (128 * d) cc cs) {idx d' mc ms n : Nat} {M : MI} {e0 : En} {es0 es1 : List En} (hM : MC M) (hlk : .methodLinkNest own idx M.1 "NotWorn" ∈ nestL ∨ LK own idx M.1) (hC : Cc Γ.2.1.2.1 Γ.1 d' mc ms M e0 es1) (hes : es0 ++ [e0] = es) (hn : es0.length = n) (he0 : enOk 0 e0 = true) (ho : esOk n es0 = true) (hl0 : lcOk (n + 1) L = true) (hs0 : st.all (avOk (n + 1)) = true) (hL : L.length = nL) (hst : Nat.ble st.length 8 = true) (hd' : Nat.ble (d' + 1) d = true) (hk : Nat.ble (kc + mc) cc = true) (hks : Nat.ble (ks + ms) cs = true) (hd : decode b pc = .ok (.invokespecial idx, 3)) {es' : List En} (hes' : es0 ++ es1.map (shE n) = es') {kc' ks' : Nat} (e1 : kc + mc = kc') (e2 : ks + ms = ks') (kk : Y Γ (pc + 3) L st es' kc' ks') : Y Γ pc L (.inr n :: st) es kc ks := by
  obtain ⟨Δ, ⟨p, l, e, R, s, m, args, below, meth, c⟩, A, Q, pin⟩ := Γ
  obtain ⟨hx, hb, hml, hown, hts, hE, hA, hin, h1, h2, h3, h4⟩ := hO
  have hk := Nat.le_of_ble_eq_true hk
  have hks := Nat.le_of_ble_eq_true hks
  subst hes; subst hes'; subst e1; subst e2; subst hn
  obtain ⟨hw, ⟨-, hcl2, hdesc, hmx⟩, hnm, hrt⟩ := hM
  intro a H locs ls hp hP hD hS hl
  have hcode : Cond.code M.1 M.2.1 M.2.2.1 M.2.2.2 ∈ TB := hw _ (by simp)
  have ec : cEn Δ.2 a e0 = cEn Δ.2 (fun _ => 0) e0 := cEn_congr (n := 0) (fun k hk => by omega) e0 he0
  have ews : wsE Δ.2 a (es0 ++ [e0]) 0 = wsE Δ.2 a es0 0 ++ [(a es0.length, cEn Δ.2 (fun _ => 0) e0)] := by rw [wsE_app, wsE, wsE, Nat.zero_add, ec]
  rw [ews] at hP hD
  have hlen := wsE_len Δ.2 a es0 0
  have hCn : [es0.length].map (fun i => (wsE Δ.2 a es0 0 ++ [(a es0.length, cEn Δ.2 (fun _ => 0) e0)])[i]?) = [(a es0.length, cEn Δ.2 (fun _ => 0) e0)].map some := by
    rw [List.map_singleton, List.map_singleton, List.getElem?_append_right (by omega), hlen, Nat.sub_self]; rfl
  have hRn : (List.range es0.length).map (fun i => (wsE Δ.2 a es0 0 ++ [(a es0.length, cEn Δ.2 (fun _ => 0) e0)])[i]?) = (wsE Δ.2 a es0 0).map some := by
    rw [← hlen]; exact range_get _ _
  have hFc := va_free (wc := [(a es0.length, cEn Δ.2 (fun _ => 0) e0)]) hD hS hA [es0.length] hCn
  have hPc : va_P Δ.1 classes [(a es0.length, cEn Δ.2 (fun _ => 0) e0)] H := fun k q hq => by
    have hk1 : k < 1 := (List.getElem?_eq_some_iff.mp hq).1
    rw [show k = 0 by omega] at hq
    refine hP es0.length q ?_
    rw [List.getElem?_append_right (by omega), hlen, Nat.sub_self]; exact hq
  have hroom := room_le (mL := M.2.2.1) (R := R) (nb hd') hmx h1 h2
  have run : va_Run p l e R s m args below meth c H locs kc ks mc ms (F0 m pc ls (((.inr es0.length : AV) :: st).map (conc a))) (st.map (conc a)) (va_Qv (fun u : Nat → Nat => u 0 = a es0.length) (fun u t => va_P Δ.1 classes (wsE Δ.2 u es1 0) t.heap ∧ va_D (va_A [(a es0.length, cEn Δ.2 (fun _ => 0) e0)] H.size) (wsE Δ.2 u es1 0)) (va_A [(a es0.length, cEn Δ.2 (fun _ => 0) e0)] H.size) (Value.ref (a es0.length) :: []).toArray) (va_A [(a es0.length, cEn Δ.2 (fun _ => 0) e0)] H.size) := by
    have hpre : PreS s H (va_Pc [.ref (a es0.length)] (fun U => U.heap.size = H.size ∧ va_P Δ.1 classes [(a es0.length, cEn Δ.2 (fun _ => 0) e0)] U.heap ∧ EvC Δ U)) [.ref (a es0.length)] :=
      ⟨fun a' U g mk q => ⟨q.1, q.2.1, q.2.2.1, EvC.same (s := U) rfl q.2.2.2⟩, fun U hU hW => ⟨rfl, by rw [hU], by rw [hU]; exact hPc, EvC.warm hW hE⟩⟩
    rcases hlk with hlk | hlk
    · exact va_runIN (As := []) (rest := st.map (conc a)) (maxL := M.2.2.1) (bytes := M.2.1) (host := "NotWorn") ⟨hx, hb, hml, hown, hts⟩ (hC (a es0.length) H.size) ⟨by
        have := va_cnB (rm := dB d' mc ms) (ret := M.2.2.2) 0 hts (goodIn_TB (Ws_TB hcode)) rfl rfl rfl (hE.2.1 _ hlk) (hts _ (hw _ (by simp))) ⟨hcl2.1, hcl2.2, hdesc⟩ hroom
        rw [hrt] at this
        exact this, hnm, hts _ (hw _ (by simp))⟩ hpre rfl rfl (by show ls.size = nL; rw [← hL]; exact hl.1) rfl (lv_room (by rw [cat_sum]; exact nb hst)) hd ⟨by omega, by omega⟩
    · exact va_runI (As := []) (rest := st.map (conc a)) (maxL := M.2.2.1) (bytes := M.2.1) ⟨hx, hb, hml, hown, hts⟩ (hC (a es0.length) H.size) (by
        have hcode2 : Cond.code M.1 M.2.1 M.2.2.1 none ∈ TB := by rw [← hrt]; exact hcode
        have := cwI (rm := dB d' mc ms) (ws := Ws M) (ws' := TB) (bytes := M.2.1) (maxL := M.2.2.1) 0 hts (goodIn_TB (Ws_TB hcode)) (by rw [Ws, hrt]) rfl rfl (hts _ (hw _ (by simp))) (hts _ hlk) (hts _ (hw _ (by simp))) hnm ⟨hcl2.1, hcl2.2, hdesc⟩ hroom
        exact this) hpre rfl rfl (by show ls.size = nL; rw [← hL]; exact hl.1) rfl (lv_room (by rw [cat_sum]; exact nb hst)) hd ⟨by omega, by omega⟩
  refine va_callv run hS (fun q _ h => hFc q h) hFc (fun u t H1 locs1 ht hvm hu hB hz1 hk1 hS1 => ?_)
  obtain ⟨hP1, hD1⟩ := hB
  rw [ht] at hP1
  obtain ⟨hP2, hD2⟩ := va_join (wr := wsE Δ.2 a es0 0) (w1 := wsE Δ.2 u es1 0) hP hD [es0.length] (List.range es0.length) hCn hRn (va_nd_range _ List.nodup_range) (fun i hi h => by
    have := List.mem_range.mp hi
    have := List.mem_singleton.mp h
    omega) hk1 hFc hP1 hD1
  generalize ha' : (fun k => if k < es0.length then a k else u (k - es0.length)) = a'
  have l1 : ∀ k, k < es0.length + 1 → a' k = a k := fun k hk => by
    rw [← ha']
    dsimp only
    by_cases hk2 : k < es0.length
    · rw [if_pos hk2]
    · rw [if_neg hk2, show k - es0.length = 0 by omega, hu]
      congr 1; omega
  have l2 : ∀ k, a' (k + es0.length) = u k := fun k => by
    rw [← ha']
    dsimp only
    rw [if_neg (by omega), Nat.add_sub_cancel]
  have ews' : wsE Δ.2 a' (es0 ++ es1.map (shE es0.length)) 0 = wsE Δ.2 a es0 0 ++ wsE Δ.2 u es1 0 := by
    rw [wsE_app, wsE_congr (n := es0.length) (a := a') (b := a) (fun k hk => l1 k (by omega)) es0 0 (by omega) ho]
    congr 1
    have := wsE_sh (tc := Δ.2) l2 es1 0
    exact this
  have := kk a' H1 locs1 ls (fun h hh => by rw [l1 0 (by omega)]; exact hp h hh) (by rw [ews']; exact hP2) (by rw [ews']; exact hD2) hS1 (by rw [prs, prsF_congr l1 L 0 hl0]; exact hl)
  rw [List.map_congr_left (fun v hv => conc_congr l1 v (List.all_eq_true.mp hs0 v hv))] at this
  exact this
end
