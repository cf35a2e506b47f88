/-! the law's first steps: both objects are made -/
theorem callW {p : Program} {l : Launch} {e : Env} {R : Room} {s : State} {m : MethodId} {args : Array Value} {below : List Frame} {meth : Method} {c : Code} {H : Heap} {locs : List Loc} {kc ks : Nat} {Q : State → Prop} {cc : ByteArray} {pc : Nat} {ls : Array Slot} {rest : List Value} {A : Nat → Prop} {own : String} {nL : Nat} {Δ : Dl} (hx : p.tables.exec = Jvm.exec) (hb : c.code = cc) (hml : c.maxLocals = nL) (hown : s.vm.findClass own = some m.cls) (hts : ∀ w ∈ TB, w.before args s = true) (hE : EvC Δ s) (hA : ∀ q : Nat, s.heap.size ≤ q → A q) {idx d d' mc ms : Nat} {M : MI} {e0 : En} {es1 : List En} (hM : MC M) (hlk : LK own idx M.1) (hC : Cc l Δ d' mc ms M e0 es1) {wr : va_W} {q : Nat} (hP : va_P Δ.1 classes (wr ++ [(q, cEn Δ.2 (fun _ => 0) e0)]) H) (hD : va_D A (wr ++ [(q, cEn Δ.2 (fun _ => 0) e0)])) (hS : va_S A s.heap H locs) (hlz : ls.size = nL) (hst : (rest.map fun v => v.category).sum ≤ 8) (h0 : d' + 1 ≤ d) (h1 : d ≤ R.frames) (h2 : 128 * d ≤ R.locals) (hk : kc + mc ≤ R.cells) (hks : ks + ms ≤ R.slots) (hd : decode cc pc = .ok (.invokespecial idx, 3)) (kk : ∀ (u : Nat → Nat) (H1 : Heap) (locs1 : List Loc), u 0 = q → va_P Δ.1 classes (wr ++ wsE Δ.2 u es1 0) H1 → va_D A (wr ++ wsE Δ.2 u es1 0) → va_S A s.heap H1 locs1 → W p l e R s m args below meth c H1 locs1 (kc + mc) (ks + ms) Q (F0 m (pc + 3) ls rest)) : W p l e R s m args below meth c H locs kc ks Q (F0 m pc ls (.ref q :: rest)) := by
  obtain ⟨hw, ⟨-, hcl2, hdesc, hmx⟩, hnm, hrt⟩ := hM
  have hcode : Cond.code M.1 M.2.1 M.2.2.1 M.2.2.2 ∈ TB := hw _ (by simp)
  have hCn : [wr.length].map (fun i => (wr ++ [(q, cEn Δ.2 (fun _ => 0) e0)])[i]?) = [(q, cEn Δ.2 (fun _ => 0) e0)].map some := by
    rw [List.map_singleton, List.map_singleton, List.getElem?_append_right (by omega), Nat.sub_self]; rfl
  have hRn : (List.range wr.length).map (fun i => (wr ++ [(q, cEn Δ.2 (fun _ => 0) e0)])[i]?) = wr.map some := range_get _ _
  have hFc := va_free (wc := [(q, cEn Δ.2 (fun _ => 0) e0)]) hD hS hA [wr.length] hCn
  have hPc : va_P Δ.1 classes [(q, cEn Δ.2 (fun _ => 0) e0)] H := fun k x hq => by
    have hk1 : k < 1 := (List.getElem?_eq_some_iff.mp hq).1
    rw [show k = 0 by omega] at hq
    refine hP wr.length x ?_
    rw [List.getElem?_append_right (by omega), Nat.sub_self]; exact hq
  have hroom := room_le (mL := M.2.2.1) (R := R) h0 hmx h1 h2
  have run : va_Run p l e R s m args below meth c H locs kc ks mc ms (F0 m pc ls (.ref q :: rest)) rest (va_Qv (fun u : Nat → Nat => u 0 = q) (fun u t => va_P Δ.1 classes (wsE Δ.2 u es1 0) t.heap ∧ va_D (va_A [(q, cEn Δ.2 (fun _ => 0) e0)] H.size) (wsE Δ.2 u es1 0)) (va_A [(q, cEn Δ.2 (fun _ => 0) e0)] H.size) (Value.ref q :: []).toArray) (va_A [(q, cEn Δ.2 (fun _ => 0) e0)] H.size) := by
    have hpre : PreS s H (va_Pc [.ref q] (fun U => U.heap.size = H.size ∧ va_P Δ.1 classes [(q, cEn Δ.2 (fun _ => 0) e0)] U.heap ∧ EvC Δ U)) [.ref q] :=
      ⟨fun a' U g mk x => ⟨x.1, x.2.1, x.2.2.1, EvC.same (s := U) rfl x.2.2.2⟩, fun U hU hW => ⟨rfl, by rw [hU], by rw [hU]; exact hPc, EvC.warm hW hE⟩⟩
    exact va_runI (As := []) (rest := rest) (maxL := M.2.2.1) (bytes := M.2.1) ⟨hx, hb, hml, hown, hts⟩ (hC q H.size) (by
        have hcode2 : Cond.code M.1 M.2.1 M.2.2.1 none ∈ TB := by rw [← hrt]; exact hcode
        have := cwI (rm := dB d' mc ms) (ws := Ws M) (ws' := TB) (bytes := M.2.1) (maxL := M.2.2.1) 0 hts (goodIn_TB (Ws_TB hcode)) (by rw [Ws, hrt]) rfl rfl (hts _ (hw _ (by simp))) (hts _ hlk) (hts _ (hw _ (by simp))) hnm ⟨hcl2.1, hcl2.2, hdesc⟩ hroom
        exact this) hpre rfl rfl hlz rfl (lv_room hst) hd ⟨hk, hks⟩
  refine va_callv run hS (fun x _ h => hFc x h) hFc (fun u t H1 locs1 ht hvm hu hB hz1 hk1 hS1 => ?_)
  obtain ⟨hP1, hD1⟩ := hB
  rw [ht] at hP1
  obtain ⟨hP2, hD2⟩ := va_join (wr := wr) (w1 := wsE Δ.2 u es1 0) hP hD [wr.length] (List.range wr.length) hCn hRn (va_nd_range _ List.nodup_range) (fun i hi h => by
    have := List.mem_range.mp hi
    have := List.mem_singleton.mp h
    omega) hk1 hFc hP1 hD1
  exact kk u H1 locs1 hu hP2 hD2 hS1
def thA (u v : Nat → Nat) (aA : Nat) (adK adV : Nat → Nat) (b k : Nat) : Nat := if k < 120 then (if piK k < 95 then u (piK k) else v (piK k - 95)) else if k = 900 then aA else if k < 905 then adK (k - 901) else if k < 910 then adV (k - 905) else b
theorem whole_start {p : Program} {e : Env} {s : State} {m : MethodId} {below : List Frame} {meth : Method} {c : Code} (l : Launch) (hflags : l.flags = flags0) {b L : Nat} {xs : Nat → Int32} (hL : L ≤ 3072) (C0 : lw_At p s m meth c b L xs) : W p l e room_1 s m #[Value.ref b] below meth c s.heap [] 0 0 (lw_Z below #[Value.ref b] s) (entryFrame m ([Value.ref b] : List Value).toArray 4) := by
  obtain ⟨Δ, aA, adK, adV, hE, hEv⟩ := st_env C0
  obtain ⟨hx, hb, hr, hml, hown, hts, hX, hbl, hlocks, hgv⟩ := C0
  have hT : ∀ w ∈ TB, w.before #[Value.ref b] s = true := fun w hw => hts w (TB_tbl hw)
  have hA : ∀ q : Nat, s.heap.size ≤ q → (fun q : Nat => s.heap.size ≤ q) q := fun q h => h
  have hl := lv_entry [.ref b] (n := 4) (show 1 ≤ 4 by omega)
  rw [lg_entry_eq]
  generalize (lg_sl [Value.ref b] ++ List.replicate (4 - (lg_sl [Value.ref b]).length) Slot.unset).toArray = ls at hl ⊢
  have hl : lv_has ls 4 [(0, Value.ref b)] := hl
  have hP0 : va_P Δ.1 classes [] s.heap := fun k q h => by cases h
  have hD0 : va_D (fun q : Nat => s.heap.size ≤ q) [] := ⟨fun i j p q h => (by cases h), fun k q h => (by cases h)⟩
  refine va_new (ci := 7) (fs := df7.map (cFV (fun _ => 0))) (C := "NotWorn") (T := FT7) (N := 12) (own := R_law) (index := 7) hx hb hT fw7_ok ft7 ft7_ok hown (hts _ (List.mem_of_getElem? (i := 78) (by decide +kernel))) (hts _ (List.mem_of_getElem? (i := 79) (by decide +kernel))) (hts _ (List.mem_of_getElem? (i := 59) (by decide +kernel))) hE.1 hP0 hD0 va_S.rf hA rfl (df7_ok _) (by decide) (by decide) (by decide +kernel) (fun q1 H1 hP1 hD1 hS1 => ?_)
  refine lv_dup hx hb (by decide +kernel) rfl ?_
  refine callW (own := R_law) (nL := 4) (d := 120) (wr := []) hx hb hml hown hT hE hA mc_W lk_Law_9 (k_W l Δ) hP1 hD1 hS1 hl.1 (show 1 ≤ 8 by decide) (by decide) (by decide) (by decide) (by decide) (by decide) (by decide +kernel) (fun u1 H2 locs2 hu1 hP2 hD2 hS2 => ?_)
  refine lv_astore_n (k := 1) (i := 1) hx hb (by decide +kernel) rfl hl (by decide) rfl (fun ls1 hl1 => ?_)
  have hl1 : lv_has ls1 4 [(1, Value.ref q1), (0, Value.ref b)] := hl1
  refine va_new (ci := 8) (fs := df8.map (cFV (fun _ => 0))) (C := "NotWornModel") (T := FT8) (N := 38) (own := R_law) (index := 10) hx hb hT fw8_ok ft8 ft8_ok hown (hts _ (List.mem_of_getElem? (i := 922) (by decide +kernel))) (hts _ (List.mem_of_getElem? (i := 923) (by decide +kernel))) (hts _ (List.mem_of_getElem? (i := 67) (by decide +kernel))) hE.1 hP2 hD2 hS2 hA rfl (df8_ok _) (by decide) (by decide) (by decide +kernel) (fun q2 H3 hP3 hD3 hS3 => ?_)
  refine lv_dup hx hb (by decide +kernel) rfl ?_
  refine callW (own := R_law) (nL := 4) (d := 120) hx hb hml hown hT hE hA mc_M lk_Law_12 (k_M l Δ) hP3 hD3 hS3 hl1.1 (show 1 ≤ 8 by decide) (by decide) (by decide) (by decide) (by decide) (by decide) (by decide +kernel) (fun u2 H4 locs4 hu2 hP4 hD4 hS4 => ?_)
  refine lv_astore_n (k := 2) (i := 2) hx hb (by decide +kernel) rfl hl1 (by decide) rfl (fun ls2 hl2 => ?_)
  have hl2 : lv_has ls2 4 [(2, Value.ref q2), (1, Value.ref q1), (0, Value.ref b)] := hl2
  refine lv_iconst (n := 0) (v := nI 0) hx hb (by decide +kernel) (by decide) ?_
  refine lv_istore_n (k := 3) (i := 3) hx hb (by decide +kernel) rfl hl2 (by decide) rfl (fun ls3 hl3 => ?_)
  have hl3 : lv_has ls3 4 [(3, Value.int (nI 0)), (2, Value.ref q2), (1, Value.ref q1), (0, Value.ref b)] := hl3
  generalize ha : (fun k => if k < 95 then u1 k else u2 (k - 95)) = a
  have ews : wsE Δ.2 a EE 0 = wsE Δ.2 u1 es_W_end 0 ++ wsE Δ.2 u2 es_M_end 0 := EE_ws (fun k hk => by rw [← ha]; dsimp only; rw [if_pos hk]) (fun k => by rw [← ha]; dsimp only; rw [if_neg (by omega), Nat.add_sub_cancel])
  rw [List.nil_append] at hP4 hD4
  rw [← ews] at hP4 hD4
  generalize hθ : ((thA u1 u2 aA adK adV b, Δ) : Th) = θ
  have hθ2 : θ.2 = Δ := by rw [← hθ]
  have h1 : ∀ k, k < 120 → θ.1 k = a (piK k) := fun k hk => by
    rw [← hθ, ← ha]
    dsimp only
    rw [thA, if_pos hk]
  have g900 : θ.1 900 = aA := by rw [← hθ]; rfl
  have g910 : θ.1 910 = b := by rw [← hθ]; rfl
  have gK : ∀ i, i < 4 → θ.1 (901 + i) = adK i := fun i hi => by
    rw [← hθ]
    dsimp only
    rw [thA, if_neg (by omega), if_neg (by omega), if_pos (by omega), Nat.add_sub_cancel_left]
  have gV : ∀ i, i < 4 → θ.1 (905 + i) = adV i := fun i hi => by
    rw [← hθ]
    dsimp only
    rw [thA, if_neg (by omega), if_neg (by omega), if_neg (by omega), if_pos (by omega), Nat.add_sub_cancel_left]
  have g0 : θ.1 0 = q1 := by rw [h1 0 (by omega), ← ha, ← hu1]; rfl
  have g95 : θ.1 95 = q2 := by rw [h1 95 (by omega), ← ha, ← hu2]; rfl
  have hE2 := hEv θ hθ2 g900 gK gV
  clear hEv
  obtain ⟨hI, hAA⟩ := inj0 (θ := θ) h1 hD4
  clear hθ ha g900 gK gV ews
  subst hθ2
  have hPw : va_P θ.2.1 classes (wsOf θ sig0) H4 := hP4.by piK (fun k q hk => world0 h1 hk)
  have hG : Md (θ, (p, l, e, room_1, s, m, #[Value.ref b], below, meth, c), (fun q : Nat => s.heap.size ≤ q), (120, 7511), lw_Z below #[Value.ref b] s) l θ 120 m_Law p_LawH := ⟨⟨hx, hb, hml, hown, hT, hE2, hI, hAA⟩, pk_LawH, rfl, rfl, by decide, by decide, by decide, by decide⟩
  have hc : Scr (θ, (p, l, e, room_1, s, m, #[Value.ref b], below, meth, c), (fun q : Nat => s.heap.size ≤ q), (120, 7511), lw_Z below #[Value.ref b] s) L xs := by
    refine ⟨?_, ?_, ?_⟩
    · rw [g910]; exact hX
    · rw [g910]; exact hbl
    · rw [g910]; exact fun q => absurd q (Nat.not_le.mpr hbl)
  have key := law_loop hG hc hL (fun L2 σ => ?_) (L + 1) 0 sig0 (by omega) (by omega) cor0
  · refine key H4 locs4 ls3 hPw hS4 (lvh_sub hl3 fun q hq => ?_)
    have hq : q ∈ [(0, Value.ref (θ.1 910)), (1, Value.ref (θ.1 0)), (2, Value.ref (θ.1 95)), (3, Value.int (nI 0))] := hq
    rw [g910, g0, g95] at hq
    simp only [List.mem_cons, List.not_mem_nil, or_false] at hq ⊢
    rcases hq with rfl | rfl | rfl | rfl
    · exact Or.inr (Or.inr (Or.inr rfl))
    · exact Or.inr (Or.inr (Or.inl rfl))
    · exact Or.inr (Or.inl rfl)
    · exact Or.inl rfl
  · intro H locs ls hP hS hl
    refine va_forget hS.2.2 ?_
    refine W.widen (k := 600000) (n := 7302250) (by decide) (by decide) ?_
    exact lw_ret hx hb hr hlocks (by decide +kernel)
