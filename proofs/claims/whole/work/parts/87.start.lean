/-! THE CLAIM OUT OF ONE WALK OF THE LAW'S BODY. Your part is whole_start (and what it stands on); all else here is the same for every law, but numbers. -/
def R_law : String := "NotWornLaw"
def lw_P (b : Addr) (xs : List Int32) (args : Array Value) (s : State) : Prop := args = #[.ref b] ∧ s.IntsAt b xs ∧ xs.length ≤ 3072 ∧ (Jvm.Cond.and given_1 narrow_1).before args s = true
def lw_Q (_ : Array Value) (s : State) (o : Outcome) (t : State) : Prop := o = .returned (some (.int 1)) ∧ Framed s o t [] 600000 7302250
def lw_Z (below : List Frame) (a : Array Value) (s : State) : State → Prop := fun t => ∃ o, t.status = .running ∧ Ended t below o ∧ lw_Q a s o t
/-- the law's own end, with 1 on the stack, nothing written that was there before, its room as the claim has it -/
theorem lw_ret {p : Program} {l : Launch} {e : Env} {s : State} {m : MethodId} {below : List Frame} {meth : Method} {c : Code} {b : Nat} (hx : p.tables.exec = Jvm.exec) (hb : c.code = code) (hr : meth.sig.returnType = ret) (hlocks : meth.locks = false) {pc : Nat} {H : Heap} {ls : Array Slot} (hdg : decode code pc = .ok (.ireturn, 1)) : W p l e room_1 s m #[Value.ref b] below meth c H [] 600000 7302250 (lw_Z below #[Value.ref b] s) (F0 m pc ls [.int 1]) := by
  intro T hT X
  obtain ⟨fs, hret, hrun, hended, hW, hframe⟩ := X.leave (v := some (.int 1)) (hlocks := hlocks) (fun h => by rw [hr] at h; cases h)
  have hmeth' : T.vm.method? m = some meth := X.method'
  refine ⟨T.setFrames fs, ?_, .returned (some (.int 1)), hrun, hended, rfl, ⟨_, rfl⟩, hW, hframe⟩
  jvm_step X.here [X.here.top, hx, hb, hdg, hmeth', hr, ret, narrow_b1]
  (try refine ⟨rfl, ?_⟩); (try refine ⟨rfl, ?_⟩)
  first | (intro acts; rw [hret _ acts rfl rfl rfl]) | rw [hret _ _ rfl rfl rfl]
  exact Steps.refl _
/-- what holds at the law's entry: the machine, the code, the tables' words (any of lw_tbl by 'hts w (by decide +kernel)'), the script of L ints xs at the cell b, what the Statement gives of the start (any of its parts by flat_of_before) -/
def lw_At (p : Program) (s : State) (m : MethodId) (meth : Method) (c : Code) (b L : Nat) (xs : Nat → Int32) : Prop :=
  p.tables.exec = Jvm.exec ∧ c.code = code ∧ meth.sig.returnType = ret ∧ c.maxLocals = 4 ∧ s.vm.findClass R_law = some m.cls ∧ (∀ w ∈ lw_tbl, w.before #[Value.ref b] s = true) ∧ va_X b L xs s s.heap ∧ b < s.heap.size ∧ meth.locks = false ∧ (Jvm.Cond.and given_1 narrow_1).before #[Value.ref b] s = true
/-! the start: what is known of classes, arrays, statics, strings -/
theorem in_ok : ∀ q ∈ classes, Cond.instantiable q.1 q.2.2 ∈ TB := by
  have h := memTB [.instantiable "NotWorn$Dealer" 6, .instantiable "NotWorn$Laws" 2, .instantiable "NotWorn$Row" 3, .instantiable "NotWorn$Slot" 5, .instantiable "NotWorn$Tape" 6, .instantiable "NotWorn$Text" 4, .instantiable "NotWorn$Valley" 16, .instantiable "NotWorn" 12, .instantiable "NotWornModel" 38] [198, 87, 260, 278, 227, 94, 127, 79, 923] rfl (by decide +kernel)
  intro q hq
  simp only [classes, List.mem_cons, List.not_mem_nil, or_false] at hq
  rcases hq with rfl | rfl | rfl | rfl | rfl | rfl | rfl | rfl | rfl <;> exact h _ (by simp)
theorem st_D {args : Array Value} {s : State} (hts : ∀ w ∈ TB, w.before args s = true) : ∃ D : va_G, ∀ (c : Nat) (q : vw_C), classes[c]? = some q → u_Kn s q.1 q.2.1 q.2.2 (D.1 c) (D.2 c) := by
  have h : ∀ c : Nat, ∃ x : ClassId × (Nat → Nat), ∀ q : vw_C, classes[c]? = some q → u_Kn s q.1 q.2.1 q.2.2 x.1 x.2 := by
    intro c
    cases hc : classes[c]? with
    | none => exact ⟨(0, fun _ => 0), fun q hq => by cases hq⟩
    | some q =>
      have hm := List.mem_of_getElem? hc
      obtain ⟨cC, iS, h⟩ := u_known hts (cl_ok q hm).1 (hts _ (in_ok q hm))
      exact ⟨(cC, iS), fun q' hq' => by cases hq'; exact h⟩
  obtain ⟨f, hf⟩ := Classical.axiomOfChoice h
  exact ⟨(fun c => (f c).1, fun c => (f c).2), fun c q hq => hf c q hq⟩
theorem st_prim {args : Array Value} {s : State} (ty : FieldType) (h : (Cond.arrayClass ty).before args s = true) (hra : ∀ c, va_RA s c ty = (s.vm.findClass ("[" ++ ty.toString) = some c)) : ∃ c, ArrOfT s c ty ∧ va_RA s c ty := by
  obtain ⟨c, k, comp, h1, h2, h3⟩ := Cond.arrayClass_spec h
  exact ⟨c, fun n z => ⟨fun k h => (by cases h), k, h2, comp, h3⟩, by rw [hra]; exact h1⟩
theorem st_obj {args : Array Value} {s : State} (C : String) (h : (Cond.arrayOver (.object C)).before args s = true) : ∃ c, ArrOfT s c (.object C) ∧ va_RA s c (.object C) := by
  obtain ⟨comp, c, k, h1, -, h2, h3, h4⟩ := Cond.arrayOver_spec h
  exact ⟨c, fun n z => ⟨fun k h => (by cases h), k, h2, comp, h3⟩, k, comp, h2, h3, h1, h4⟩
theorem st_tc {args : Array Value} {s : State} (hts : ∀ w ∈ lw_tbl, w.before args s = true) : ∃ tc : Nat → ClassId, ∀ (k : Nat) (q : ClassId × FieldType), (tysC tc)[k]? = some q → ArrOfT s q.1 q.2 ∧ va_RA s q.1 q.2 := by
  obtain ⟨c0, a0⟩ := st_prim .int (hts _ (List.mem_of_getElem? (i := 117) (by decide +kernel))) (fun c => rfl)
  obtain ⟨c1, a1⟩ := st_prim .boolean (hts _ (List.mem_of_getElem? (i := 225) (by decide +kernel))) (fun c => rfl)
  obtain ⟨c2, a2⟩ := st_prim .char (hts _ (List.mem_of_getElem? (i := 1043) (by decide +kernel))) (fun c => rfl)
  obtain ⟨c3, a3⟩ := st_obj "NotWorn$Text" (hts _ (List.mem_of_getElem? (i := 93) (by decide +kernel)))
  obtain ⟨c4, a4⟩ := st_obj "NotWorn$Row" (hts _ (List.mem_of_getElem? (i := 257) (by decide +kernel)))
  obtain ⟨c5, a5⟩ := st_obj "NotWorn$Slot" (hts _ (List.mem_of_getElem? (i := 259) (by decide +kernel)))
  refine ⟨fun k => [c0, c1, c2, c3, c4, c5].getD k 0, fun k q hk => ?_⟩
  have hk' : k < 6 := (List.getElem?_eq_some_iff.mp hk).1
  match k, hk', hk with
  | 0, _, hk => cases hk; exact a0
  | 1, _, hk => cases hk; exact a1
  | 2, _, hk => cases hk; exact a2
  | 3, _, hk => cases hk; exact a3
  | 4, _, hk => cases hk; exact a4
  | 5, _, hk => cases hk; exact a5
theorem st_nest : ∀ w ∈ nestL, w ∈ lw_tbl := by
  intro w hw
  simp only [nestL, List.mem_cons, List.not_mem_nil, or_false] at hw
  rcases hw with rfl | rfl | rfl | rfl | rfl | rfl | rfl | rfl
  · exact List.mem_of_getElem? (i := 95) (by decide +kernel)
  · exact List.mem_of_getElem? (i := 128) (by decide +kernel)
  · exact List.mem_of_getElem? (i := 199) (by decide +kernel)
  · exact List.mem_of_getElem? (i := 228) (by decide +kernel)
  · exact List.mem_of_getElem? (i := 233) (by decide +kernel)
  · exact List.mem_of_getElem? (i := 261) (by decide +kernel)
  · exact List.mem_of_getElem? (i := 279) (by decide +kernel)
  · exact List.mem_of_getElem? (i := 284) (by decide +kernel)
abbrev tmS (i : Nat) : Term := .string "NotWorn$Tape" (st_idx.getD i 0)
theorem st_env {p : Program} {s : State} {m : MethodId} {meth : Method} {c : Code} {b L : Nat} {xs : Nat → Int32} (C0 : lw_At p s m meth c b L xs) : ∃ (Δ : Dl) (aA : Nat) (adK adV : Nat → Nat), EvC Δ s ∧ ∀ θ : Th, θ.2 = Δ → θ.1 900 = aA → (∀ i, i < 4 → θ.1 (901 + i) = adK i) → (∀ i, i < 4 → θ.1 (905 + i) = adV i) → Ev θ (fun q => s.heap.size ≤ q) s s.heap := by
  obtain ⟨hx, hb, hr, hml, hown, hts, hX, hbl, hlocks, hgv⟩ := C0
  obtain ⟨D, hD⟩ := st_D (fun w hw => hts w (TB_tbl hw))
  obtain ⟨tc, htc⟩ := st_tc hts
  have hA : ∀ a : Nat, a < s.heap.size → ¬ s.heap.size ≤ a := fun a h q => by omega
  have hs := flat_of_before _ hgv
  obtain ⟨aA, e1, e2⟩ := va_Tof (tm := .static "NotWorn$Kinds" "ABOVE" "[I") (ty := .int) (N := 6) (f := fun j => .int (abv j)) (A := fun q => s.heap.size ≤ q) (by decide) (hs _ (by decide +kernel)) (va_eqt (z := 6) (hs _ (by decide +kernel))) (fun j hj => va_eqt (z := abv j) (hs _ ((by decide +kernel : ∀ j, j < 6 → Cond.eq (.elem (.static "NotWorn$Kinds" "ABOVE" "[I") (.int (Int32.ofNat j))) (.int (abv j)) ∈ flatC (Jvm.Cond.and given_1 narrow_1)) j hj))) hA
  obtain ⟨adK, adV, g1, g2⟩ := vk_Sof (args := #[Value.ref b]) (s := s) (N := 4) (tm := tmS) (len := st_len) (byt := st_byt) (A := fun q => s.heap.size ≤ q) (by decide)
    (fun i hi => hs _ ((by decide +kernel : ∀ i, i < 4 → Cond.exactly (tmS i) "java/lang/String" ∈ flatC (Jvm.Cond.and given_1 narrow_1)) i hi))
    (fun i hi => hs _ ((by decide +kernel : ∀ i, i < 4 → Cond.eq (.field (tmS i) "java/lang/String" "coder" "B") (.int 0) ∈ flatC (Jvm.Cond.and given_1 narrow_1)) i hi))
    (fun i hi => hs _ ((by decide +kernel : ∀ i, i < 4 → Cond.arrayOf (.field (tmS i) "java/lang/String" "value" "[B") .byte ∈ flatC (Jvm.Cond.and given_1 narrow_1)) i hi))
    (fun i hi => hs _ ((by decide +kernel : ∀ i, i < 4 → Cond.eq (.length (.field (tmS i) "java/lang/String" "value" "[B")) (.int (Int32.ofNat (st_len.getD i 0))) ∈ flatC (Jvm.Cond.and given_1 narrow_1)) i hi))
    (fun i hi j hj => hs _ ((by decide +kernel : ∀ i, i < 4 → ∀ j, j < st_len.getD i 0 → Cond.eq (.elem (.field (tmS i) "java/lang/String" "value" "[B") (.int (Int32.ofNat j))) (.int ((st_byt.getD i []).getD j 0)) ∈ flatC (Jvm.Cond.and given_1 narrow_1)) i hi j hj))
    (fun i j hi hj hij => by
      rcases (by decide +kernel : ∀ i, i < 4 → ∀ j, j < 4 → i ≠ j → (Cond.not (Cond.eq (tmS i) (tmS j)) ∈ flatC (Jvm.Cond.and given_1 narrow_1) ∨ Cond.not (Cond.eq (tmS j) (tmS i)) ∈ flatC (Jvm.Cond.and given_1 narrow_1))) i hi j hj hij with h | h
      · exact Or.inl (hs _ h)
      · exact Or.inr (hs _ h)) hA
  refine ⟨(D, tc), aA, adK, adV, ⟨⟨hD, htc⟩, fun w hw => va_Nw.of (nest_tab w hw) (hts w (st_nest w hw)), va_AO.of (hts _ (List.mem_of_getElem? (i := 93) (by decide +kernel))), va_AO.of (hts _ (List.mem_of_getElem? (i := 257) (by decide +kernel))), va_AO.of (hts _ (List.mem_of_getElem? (i := 259) (by decide +kernel)))⟩, fun θ hθ hA0 hK hV => ?_⟩
  obtain ⟨a, Δ⟩ := θ
  cases hθ
  have hstr : ∀ i, i < 4 → Cond.stringRef "NotWorn$Tape" (st_idx.getD i 0) (st_txt.getD i "") ∈ lw_tbl := fun i hi => match i, hi with
    | 0, _ => List.mem_of_getElem? (i := 655) (by decide +kernel)
    | 1, _ => List.mem_of_getElem? (i := 723) (by decide +kernel)
    | 2, _ => List.mem_of_getElem? (i := 724) (by decide +kernel)
    | 3, _ => List.mem_of_getElem? (i := 725) (by decide +kernel)
  refine ⟨⟨hD, htc⟩, ⟨va_Nw.of rfl (hts _ (List.mem_of_getElem? (i := 574) (by decide +kernel))), va_Nw.of rfl (hts _ (List.mem_of_getElem? (i := 821) (by decide +kernel)))⟩, ?_, ⟨⟨fun i hi => ?_, fun i j hi hj e => ?_⟩, fun i hi => ?_⟩, ?_, ?_⟩
  · rw [show ((a, (D, tc)) : Th).1 900 = aA from hA0]
    exact ⟨va_Zof (args := #[Value.ref b]) (hts _ (List.mem_of_getElem? (i := 391) (by decide +kernel))) (hts _ (List.mem_of_getElem? (i := 68) (by decide +kernel))) e1 hA, e2⟩
  · have := g1.1 i hi
    rw [← hK i hi, ← hV i hi] at this
    exact this
  · exact g1.2 i j hi hj (by rw [← hK i hi, ← hK j hj]; exact e)
  · rw [hK i hi]
    exact vk_R.of (hts _ (hstr i hi)) (g2 i hi)
  · exact va_Zof (args := #[Value.ref b]) (hts _ (List.mem_of_getElem? (i := 665) (by decide +kernel))) (hts _ (List.mem_of_getElem? (i := 73) (by decide +kernel))) (va_eqi (hs _ (by decide +kernel))) hA
  · exact va_Zqof (args := #[Value.ref b]) (hts _ (List.mem_of_getElem? (i := 673) (by decide +kernel))) (hts _ (List.mem_of_getElem? (i := 75) (by decide +kernel))) (hs _ (by decide +kernel)) hA
