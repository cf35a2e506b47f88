/-! contracts over the fixed world, and a row for each instruction that isn't straight -/
def Ws (M : MI) : List Cond := .code M.1 M.2.1 M.2.2.1 M.2.2.2 :: TB
def rmd (d : Nat) : Room := { frames := d, cells := 0, slots := 0, locals := 128 * d }
def Pcf (θ : Th) (av : List AV) (σ : Sg) : Array Value → State → Prop := va_Pc (av.map (conc θ.1)) (fun U => va_P θ.2.1 classes (wsOf θ σ) U.heap ∧ Ev θ (AA θ) U U.heap ∧ Inj θ)
/-- a method that answers an int (or a boolean), within d frames -/
def Ci (l : Launch) (θ : Th) (d : Nat) (M : MI) (av : List AV) (σ : Sg) (post : Int32 → Sg → Prop) : Prop := Met l M.1 (Ws M) (rmd d) (Pcf θ av σ) (va_Qi post (fun σ' t => va_P θ.2.1 classes (wsOf θ σ') t.heap) (AA θ)) 0 0 (AA θ)
def Cv (l : Launch) (θ : Th) (d : Nat) (M : MI) (av : List AV) (σ : Sg) (post : Sg → Prop) : Prop := Met l M.1 (Ws M) (rmd d) (Pcf θ av σ) (va_Qv post (fun σ' t => va_P θ.2.1 classes (wsOf θ σ') t.heap) (AA θ)) 0 0 (AA θ)
/-- a method within its own frame -/
def Md (Γ : Cx) (l : Launch) (θ : Th) (d : Nat) (M : MI) (pg : List Rw) : Prop := Ok Γ M.1.cls M.2.1 M.2.2.1 ∧ okP M.1.cls M.2.1 pg ∧ (match Γ with
  | (θ', (_, l', _, R, _, _, _, _, _, _), _, (kc, ks), _) => θ' = θ ∧ l' = l ∧ d ≤ R.frames ∧ 128 * d ≤ R.locals ∧ kc ≤ R.cells ∧ ks ≤ R.slots)
def RtI (Γ : Cx) (M : MI) (post : Int32 → Sg → Prop) : Prop := ∀ (pc : Nat) (L : Lc) (v : Int32) (σ : Sg), decode M.2.1 pc = .ok (.ireturn, 1) → (∀ ty, M.2.2.2 = some ty → narrow ty (.int v) = .int v) → post v σ → X Γ pc L [.inl v] σ
def RtV (Γ : Cx) (M : MI) (post : Sg → Prop) : Prop := ∀ (pc : Nat) (L : Lc) (σ : Sg), decode M.2.1 pc = .ok (.return_, 1) → post σ → X Γ pc L [] σ
theorem fb_Pcf (θ : Th) (av : List AV) (σ : Sg) : FrameBlind (Pcf θ av σ) := by
  intro a U g mk h
  obtain ⟨h1, h2, h3, h4⟩ := h
  exact ⟨h1, h2, Ev.same (s := U) rfl h3, h4⟩
theorem prsF_args (a : Nat → Nat) : ∀ (av : List AV) (j : Nat), lv_args j (av.map (conc a)) = prsF a (av.map some) j
  | [], _ => rfl
  | v :: r, j => by
    simp only [List.map_cons, lv_args, prsF, conc_cat, prsF_args a r]
    rw [if_neg (by decide)]
theorem prsF_none (a : Nat → Nat) : ∀ (L : Lc) (n j : Nat), prsF a (L ++ List.replicate n none) j = prsF a L j
  | [], 0, _ => rfl
  | [], n + 1, j => by
    have := prsF_none a [] n (j + 1)
    simpa [List.replicate_succ, prsF] using this
  | none :: r, n, j => by simpa [prsF] using prsF_none a r n (j + 1)
  | some v :: r, n, j => by simpa [prsF] using prsF_none a r n (j + 1)
theorem lg_sl_len (a : Nat → Nat) : ∀ (av : List AV), (lg_sl (av.map (conc a))).length = av.length
  | [] => rfl
  | v :: r => by
    have := lg_sl_len a r
    simp only [lg_sl, List.map_cons, List.flatMap_cons, conc_cat, List.length_append, List.length_cons] at this ⊢
    rw [if_neg (by decide)]
    simp only [List.length_cons, List.length_nil, this]
    omega
def ent (av : List AV) (n : Nat) : Lc := av.map some ++ List.replicate (n - av.length) none
theorem ent_len {av : List AV} {n : Nat} (h : av.length ≤ n) : (ent av n).length = n := by simp [ent]; omega
theorem Ci.of {l : Launch} {θ : Th} {d : Nat} {M : MI} {av : List AV} {σ : Sg} {post : Int32 → Sg → Prop} {n : Nat} (hM : MV M n ∨ MS M n) {pg : List Rw} (hp : okP M.1.cls M.2.1 pg) (hlen : av.length ≤ M.2.2.1) (hret : M.2.2.2 = some .int ∨ M.2.2.2 = some .boolean) (L : Lc) (hL : ent av M.2.2.1 = L) (body : ∀ Γ : Cx, Md Γ l θ d M pg → RtI Γ M post → X Γ 0 L [] σ) : Ci l θ d M av σ post := by
  subst hL
  have hMD : MD M n := by rcases hM with h | h <;> exact h.2
  refine Met.ofW (cc := M.2.1) (maxL := M.2.2.1) (ret := M.2.2.2) hMD.1 rfl ?_
  intro p e s m args below meth c s₁ B hml hv
  obtain ⟨rfl, hP, hE, hI⟩ := hv
  have hx := B.exec
  have hb := B.bytes
  have hr := B.returns
  have hts := atoms_spec (ws := Ws M) B.pre
  have hown : s.vm.findClass M.1.cls = some m.cls := findClass_of_methodNamed B.named
  have hlocks := B.notSynchronized
  have hl := lv_entry (av.map (conc θ.1)) (n := M.2.2.1) (by rw [lg_sl_len]; exact hlen)
  rw [lg_entry_eq]
  generalize (lg_sl (av.map (conc θ.1)) ++ List.replicate (M.2.2.1 - (lg_sl (av.map (conc θ.1))).length) Slot.unset).toArray = ls at hl ⊢
  rw [prsF_args] at hl
  have key := body (θ, (p, l, e, (headSpec (Ws M) (rmd d)).room, s, m, (av.map (conc θ.1)).toArray, below, meth, c), AA θ, (0, 0), MQ below (va_Qi post (fun σ' t => va_P θ.2.1 classes (wsOf θ σ') t.heap) (AA θ)) (av.map (conc θ.1)).toArray s 0 0 (AA θ))
    ⟨⟨hx, hb, hml, hown, fun w hw => hts w (List.mem_cons_of_mem _ hw), hE, hI, fun _ h => h⟩, hp, rfl, rfl, Nat.le_refl _, Nat.le_refl _, Nat.zero_le _, Nat.zero_le _⟩
    (fun pc L v σ2 hd hn hpost H locs ls hP2 hS2 hl2 => ?_)
  · exact key s.heap [] ls hP va_S.rf (by rw [ent_len hlen]; rw [prs, ent, prsF_none]; exact hl)
  · rcases hret with h | h
    · exact W.iret hx hb (by rw [hr, h]) (fun t ht _ => ⟨⟨v, σ2, rfl, hpost, by show va_P _ _ _ t.heap; rw [ht]; exact hP2⟩, hS2.F ht⟩) hS2.2.2 hd
    · exact W.zret (ty := .boolean) hx hb (by rw [hr, h]) (hn _ h) (fun t ht _ => ⟨⟨v, σ2, rfl, hpost, by show va_P _ _ _ t.heap; rw [ht]; exact hP2⟩, hS2.F ht⟩) hS2.2.2 hd
theorem Cv.of {l : Launch} {θ : Th} {d : Nat} {M : MI} {av : List AV} {σ : Sg} {post : Sg → Prop} {n : Nat} (hM : MV M n ∨ MS M n) {pg : List Rw} (hp : okP M.1.cls M.2.1 pg) (hlen : av.length ≤ M.2.2.1) (hret : M.2.2.2 = none) (L : Lc) (hL : ent av M.2.2.1 = L) (body : ∀ Γ : Cx, Md Γ l θ d M pg → RtV Γ M post → X Γ 0 L [] σ) : Cv l θ d M av σ post := by
  subst hL
  have hMD : MD M n := by rcases hM with h | h <;> exact h.2
  refine Met.ofW (cc := M.2.1) (maxL := M.2.2.1) (ret := M.2.2.2) hMD.1 rfl ?_
  intro p e s m args below meth c s₁ B hml hv
  obtain ⟨rfl, hP, hE, hI⟩ := hv
  have hx := B.exec
  have hb := B.bytes
  have hr := B.returns
  have hts := atoms_spec (ws := Ws M) B.pre
  have hown : s.vm.findClass M.1.cls = some m.cls := findClass_of_methodNamed B.named
  have hlocks := B.notSynchronized
  have hl := lv_entry (av.map (conc θ.1)) (n := M.2.2.1) (by rw [lg_sl_len]; exact hlen)
  rw [lg_entry_eq]
  generalize (lg_sl (av.map (conc θ.1)) ++ List.replicate (M.2.2.1 - (lg_sl (av.map (conc θ.1))).length) Slot.unset).toArray = ls at hl ⊢
  rw [prsF_args] at hl
  have key := body (θ, (p, l, e, (headSpec (Ws M) (rmd d)).room, s, m, (av.map (conc θ.1)).toArray, below, meth, c), AA θ, (0, 0), MQ below (va_Qv post (fun σ' t => va_P θ.2.1 classes (wsOf θ σ') t.heap) (AA θ)) (av.map (conc θ.1)).toArray s 0 0 (AA θ))
    ⟨⟨hx, hb, hml, hown, fun w hw => hts w (List.mem_cons_of_mem _ hw), hE, hI, fun _ h => h⟩, hp, rfl, rfl, Nat.le_refl _, Nat.le_refl _, Nat.zero_le _, Nat.zero_le _⟩
    (fun pc L σ2 hd hpost H locs ls hP2 hS2 hl2 => ?_)
  · exact key s.heap [] ls hP va_S.rf (by rw [ent_len hlen]; rw [prs, ent, prsF_none]; exact hl)
  · exact W.vret hx hb (by rw [hr, hret]) (fun t ht _ => ⟨⟨σ2, rfl, hpost, by show va_P _ _ _ t.heap; rw [ht]; exact hP2⟩, hS2.F ht⟩) hS2.2.2 hd
theorem goodIn_TB {ws : List Cond} (h : ∀ w ∈ ws, w ∈ TB) : GoodIn TB ws := fun w hw => ⟨h w hw, good_of_word (goodTB (h w hw))⟩
theorem cat_sum (a : Nat → Nat) : ∀ r : List AV, ((r.map (conc a)).map fun v => v.category).sum = r.length
  | [] => rfl
  | v :: r => by
    simp only [List.map_cons, List.sum_cons, conc_cat, cat_sum a r, List.length_cons]
    omega
theorem layN_b : lay.all (fun s => match s with | .inr (kd, n, rs) => decide (n ≤ 1430) | .inl _ => true) = true := by decide +kernel
theorem layN {c kd n : Nat} {rs : List Nat} (h : lay[c]? = some (.inr (kd, n, rs))) : n ≤ 1430 := by
  have h1 := List.all_eq_true.mp layN_b _ (List.mem_of_getElem? h)
  simpa using h1
section Rows
variable {Γ : Cx} {l : Launch} {θ : Th} {d : Nat} {M : MI} {pg : List Rw} {pc pc' a1 a2 : Nat} {v : Int32} {L L' : Lc} {st st' r : List AV} {σ σ' : Sg}
theorem Md.go (hG : Md Γ l θ d M pg) (n : Nat) (hL : L.length = M.2.2.1) (hr : run pg n pc L st σ = (pc', L', st', σ')) (k : X Γ pc' L' st' σ') : X Γ pc L st σ := run_go hG.1 hG.2.1 n hL hr k
theorem Md.goto (hG : Md Γ l θ d M pg) {o : Int} (hq : lkp pc pg = some (.goto o, pc', v, a1, a2)) (k : X Γ a1 L st σ) : X Γ pc L st σ := X_goto hG.1 hG.2.1 hq k
/-- less is known of the locals -/
theorem X.weak (h : X Γ pc L' st σ) (hlen : L'.length = L.length) (hs : ∀ (k : Nat) (w : AV), L'[k]? = some (some w) → L[k]? = some (some w)) : X Γ pc L st σ := by
  obtain ⟨θ, ⟨p, l, e, R, s, m, args, below, meth, c⟩, A, ⟨kc, ks⟩, Q⟩ := Γ
  intro H locs ls hP hS hl
  exact h H locs ls hP hS (by rw [hlen]; exact lvh_forget hl hs)
theorem Md.tgt (hG : Md Γ l θ d M pg) {i : Instr} {o : Int} (hq : lkp pc pg = some (i, pc', v, a1, a2)) (hi : (∃ cd, i = .ifCond cd o) ∨ (∃ cd, i = .if_icmp cd o)) : (pc : Int) + o = (a1 : Int) := by
  obtain ⟨fl, ct, -, -, h3⟩ := okAux_of hG.2.1 hq
  rcases hi with ⟨cd, rfl⟩ | ⟨cd, rfl⟩ <;> simpa only [okAux, decide_eq_true_eq] using h3
theorem Md.ifeq (hG : Md Γ l θ d M pg) {o : Int} {x : Int32} (hq : lkp pc pg = some (.ifCond .eq o, pc', v, a1, a2)) (kt : x = 0 → X Γ a1 L r σ) (kf : ¬ x = 0 → X Γ pc' L r σ) : X Γ pc L (.inl x :: r) σ := by
  have ht := hG.tgt hq (Or.inl ⟨_, rfl⟩)
  obtain ⟨hd, he⟩ := okP_dec hG.2.1 hq (by simp [lenI])
  obtain ⟨θ, ⟨p, l, e, R, s, m, args, below, meth, c⟩, A, ⟨kc, ks⟩, Q⟩ := Γ
  subst he
  intro H locs ls hP hS hl
  exact lv_if_eq hG.1.1 hG.1.2.1 hd ht (fun h => kt h H locs ls hP hS hl) (fun h => kf h H locs ls hP hS hl)
theorem Md.ifne (hG : Md Γ l θ d M pg) {o : Int} {x : Int32} (hq : lkp pc pg = some (.ifCond .ne o, pc', v, a1, a2)) (kt : ¬ x = 0 → X Γ a1 L r σ) (kf : x = 0 → X Γ pc' L r σ) : X Γ pc L (.inl x :: r) σ := by
  have ht := hG.tgt hq (Or.inl ⟨_, rfl⟩)
  obtain ⟨hd, he⟩ := okP_dec hG.2.1 hq (by simp [lenI])
  obtain ⟨θ, ⟨p, l, e, R, s, m, args, below, meth, c⟩, A, ⟨kc, ks⟩, Q⟩ := Γ
  subst he
  intro H locs ls hP hS hl
  exact lv_if_ne hG.1.1 hG.1.2.1 hd ht (fun h => kt h H locs ls hP hS hl) (fun h => kf h H locs ls hP hS hl)
theorem Md.iflt (hG : Md Γ l θ d M pg) {o : Int} {x : Int32} (hq : lkp pc pg = some (.ifCond .lt o, pc', v, a1, a2)) (kt : x < 0 → X Γ a1 L r σ) (kf : ¬ x < 0 → X Γ pc' L r σ) : X Γ pc L (.inl x :: r) σ := by
  have ht := hG.tgt hq (Or.inl ⟨_, rfl⟩)
  obtain ⟨hd, he⟩ := okP_dec hG.2.1 hq (by simp [lenI])
  obtain ⟨θ, ⟨p, l, e, R, s, m, args, below, meth, c⟩, A, ⟨kc, ks⟩, Q⟩ := Γ
  subst he
  intro H locs ls hP hS hl
  exact lv_if_lt hG.1.1 hG.1.2.1 hd ht (fun h => kt h H locs ls hP hS hl) (fun h => kf h H locs ls hP hS hl)
theorem Md.ifge (hG : Md Γ l θ d M pg) {o : Int} {x : Int32} (hq : lkp pc pg = some (.ifCond .ge o, pc', v, a1, a2)) (kt : 0 ≤ x → X Γ a1 L r σ) (kf : ¬ 0 ≤ x → X Γ pc' L r σ) : X Γ pc L (.inl x :: r) σ := by
  have ht := hG.tgt hq (Or.inl ⟨_, rfl⟩)
  obtain ⟨hd, he⟩ := okP_dec hG.2.1 hq (by simp [lenI])
  obtain ⟨θ, ⟨p, l, e, R, s, m, args, below, meth, c⟩, A, ⟨kc, ks⟩, Q⟩ := Γ
  subst he
  intro H locs ls hP hS hl
  exact lv_if_ge hG.1.1 hG.1.2.1 hd ht (fun h => kt h H locs ls hP hS hl) (fun h => kf h H locs ls hP hS hl)
theorem Md.ifgt (hG : Md Γ l θ d M pg) {o : Int} {x : Int32} (hq : lkp pc pg = some (.ifCond .gt o, pc', v, a1, a2)) (kt : 0 < x → X Γ a1 L r σ) (kf : ¬ 0 < x → X Γ pc' L r σ) : X Γ pc L (.inl x :: r) σ := by
  have ht := hG.tgt hq (Or.inl ⟨_, rfl⟩)
  obtain ⟨hd, he⟩ := okP_dec hG.2.1 hq (by simp [lenI])
  obtain ⟨θ, ⟨p, l, e, R, s, m, args, below, meth, c⟩, A, ⟨kc, ks⟩, Q⟩ := Γ
  subst he
  intro H locs ls hP hS hl
  exact lv_if_gt hG.1.1 hG.1.2.1 hd ht (fun h => kt h H locs ls hP hS hl) (fun h => kf h H locs ls hP hS hl)
theorem Md.ifle (hG : Md Γ l θ d M pg) {o : Int} {x : Int32} (hq : lkp pc pg = some (.ifCond .le o, pc', v, a1, a2)) (kt : x ≤ 0 → X Γ a1 L r σ) (kf : ¬ x ≤ 0 → X Γ pc' L r σ) : X Γ pc L (.inl x :: r) σ := by
  have ht := hG.tgt hq (Or.inl ⟨_, rfl⟩)
  obtain ⟨hd, he⟩ := okP_dec hG.2.1 hq (by simp [lenI])
  obtain ⟨θ, ⟨p, l, e, R, s, m, args, below, meth, c⟩, A, ⟨kc, ks⟩, Q⟩ := Γ
  subst he
  intro H locs ls hP hS hl
  exact lv_if_le hG.1.1 hG.1.2.1 hd ht (fun h => kt h H locs ls hP hS hl) (fun h => kf h H locs ls hP hS hl)
theorem Md.icmpeq (hG : Md Γ l θ d M pg) {o : Int} {x y : Int32} (hq : lkp pc pg = some (.if_icmp .eq o, pc', v, a1, a2)) (kt : x = y → X Γ a1 L r σ) (kf : ¬ x = y → X Γ pc' L r σ) : X Γ pc L (.inl y :: .inl x :: r) σ := by
  have ht := hG.tgt hq (Or.inr ⟨_, rfl⟩)
  obtain ⟨hd, he⟩ := okP_dec hG.2.1 hq (by simp [lenI])
  obtain ⟨θ, ⟨p, l, e, R, s, m, args, below, meth, c⟩, A, ⟨kc, ks⟩, Q⟩ := Γ
  subst he
  intro H locs ls hP hS hl
  exact lv_icmp_eq hG.1.1 hG.1.2.1 hd ht (fun h => kt h H locs ls hP hS hl) (fun h => kf h H locs ls hP hS hl)
theorem Md.icmpne (hG : Md Γ l θ d M pg) {o : Int} {x y : Int32} (hq : lkp pc pg = some (.if_icmp .ne o, pc', v, a1, a2)) (kt : ¬ x = y → X Γ a1 L r σ) (kf : x = y → X Γ pc' L r σ) : X Γ pc L (.inl y :: .inl x :: r) σ := by
  have ht := hG.tgt hq (Or.inr ⟨_, rfl⟩)
  obtain ⟨hd, he⟩ := okP_dec hG.2.1 hq (by simp [lenI])
  obtain ⟨θ, ⟨p, l, e, R, s, m, args, below, meth, c⟩, A, ⟨kc, ks⟩, Q⟩ := Γ
  subst he
  intro H locs ls hP hS hl
  exact lv_icmp_ne hG.1.1 hG.1.2.1 hd ht (fun h => kt h H locs ls hP hS hl) (fun h => kf h H locs ls hP hS hl)
theorem Md.icmplt (hG : Md Γ l θ d M pg) {o : Int} {x y : Int32} (hq : lkp pc pg = some (.if_icmp .lt o, pc', v, a1, a2)) (kt : x < y → X Γ a1 L r σ) (kf : ¬ x < y → X Γ pc' L r σ) : X Γ pc L (.inl y :: .inl x :: r) σ := by
  have ht := hG.tgt hq (Or.inr ⟨_, rfl⟩)
  obtain ⟨hd, he⟩ := okP_dec hG.2.1 hq (by simp [lenI])
  obtain ⟨θ, ⟨p, l, e, R, s, m, args, below, meth, c⟩, A, ⟨kc, ks⟩, Q⟩ := Γ
  subst he
  intro H locs ls hP hS hl
  exact lv_icmp_lt hG.1.1 hG.1.2.1 hd ht (fun h => kt h H locs ls hP hS hl) (fun h => kf h H locs ls hP hS hl)
theorem Md.icmpge (hG : Md Γ l θ d M pg) {o : Int} {x y : Int32} (hq : lkp pc pg = some (.if_icmp .ge o, pc', v, a1, a2)) (kt : y ≤ x → X Γ a1 L r σ) (kf : ¬ y ≤ x → X Γ pc' L r σ) : X Γ pc L (.inl y :: .inl x :: r) σ := by
  have ht := hG.tgt hq (Or.inr ⟨_, rfl⟩)
  obtain ⟨hd, he⟩ := okP_dec hG.2.1 hq (by simp [lenI])
  obtain ⟨θ, ⟨p, l, e, R, s, m, args, below, meth, c⟩, A, ⟨kc, ks⟩, Q⟩ := Γ
  subst he
  intro H locs ls hP hS hl
  exact lv_icmp_ge hG.1.1 hG.1.2.1 hd ht (fun h => kt h H locs ls hP hS hl) (fun h => kf h H locs ls hP hS hl)
theorem Md.icmpgt (hG : Md Γ l θ d M pg) {o : Int} {x y : Int32} (hq : lkp pc pg = some (.if_icmp .gt o, pc', v, a1, a2)) (kt : y < x → X Γ a1 L r σ) (kf : ¬ y < x → X Γ pc' L r σ) : X Γ pc L (.inl y :: .inl x :: r) σ := by
  have ht := hG.tgt hq (Or.inr ⟨_, rfl⟩)
  obtain ⟨hd, he⟩ := okP_dec hG.2.1 hq (by simp [lenI])
  obtain ⟨θ, ⟨p, l, e, R, s, m, args, below, meth, c⟩, A, ⟨kc, ks⟩, Q⟩ := Γ
  subst he
  intro H locs ls hP hS hl
  exact lv_icmp_gt hG.1.1 hG.1.2.1 hd ht (fun h => kt h H locs ls hP hS hl) (fun h => kf h H locs ls hP hS hl)
theorem Md.icmple (hG : Md Γ l θ d M pg) {o : Int} {x y : Int32} (hq : lkp pc pg = some (.if_icmp .le o, pc', v, a1, a2)) (kt : x ≤ y → X Γ a1 L r σ) (kf : ¬ x ≤ y → X Γ pc' L r σ) : X Γ pc L (.inl y :: .inl x :: r) σ := by
  have ht := hG.tgt hq (Or.inr ⟨_, rfl⟩)
  obtain ⟨hd, he⟩ := okP_dec hG.2.1 hq (by simp [lenI])
  obtain ⟨θ, ⟨p, l, e, R, s, m, args, below, meth, c⟩, A, ⟨kc, ks⟩, Q⟩ := Γ
  subst he
  intro H locs ls hP hS hl
  exact lv_icmp_le hG.1.1 hG.1.2.1 hd ht (fun h => kt h H locs ls hP hS hl) (fun h => kf h H locs ls hP hS hl)
theorem Md.idiv (hG : Md Γ l θ d M pg) {x y : Int32} (hq : lkp pc pg = some (.idiv, pc', v, a1, a2)) (hy : ¬ y = 0) (k : X Γ pc' L (.inl (x / y) :: r) σ) : X Γ pc L (.inl y :: .inl x :: r) σ := by
  obtain ⟨hd, he⟩ := okP_dec hG.2.1 hq (by simp [lenI])
  obtain ⟨θ, ⟨p, l, e, R, s, m, args, below, meth, c⟩, A, ⟨kc, ks⟩, Q⟩ := Γ
  subst he
  intro H locs ls hP hS hl
  exact lv_idiv hG.1.1 hG.1.2.1 hd hy (k H locs ls hP hS hl)
theorem Md.irem (hG : Md Γ l θ d M pg) {x y : Int32} (hq : lkp pc pg = some (.irem, pc', v, a1, a2)) (hy : ¬ y = 0) (k : X Γ pc' L (.inl (x - x / y * y) :: r) σ) : X Γ pc L (.inl y :: .inl x :: r) σ := by
  obtain ⟨hd, he⟩ := okP_dec hG.2.1 hq (by simp [lenI])
  obtain ⟨θ, ⟨p, l, e, R, s, m, args, below, meth, c⟩, A, ⟨kc, ks⟩, Q⟩ := Γ
  subst he
  intro H locs ls hP hS hl
  exact lv_irem hG.1.1 hG.1.2.1 hd hy (k H locs ls hP hS hl)
theorem vp_inN {n N : Nat} (h : n < N) (hN : N ≤ 1430) : vp_in (nI n) N ∧ (nI n).toNatClampNeg = n := ⟨vp_in_nI h (by omega), nI_clamp (by omega)⟩
theorem Md.iald (hG : Md Γ l θ d M pg) {c0 n k : Nat} {i : Int32} {rs : List Nat} (hq : lkp pc pg = some (.iaload, pc', v, a1, a2)) (hl0 : lay[c0]? = some (.inr (0, n, rs))) (hi : i = nI k) (hk : k < n) (kk : X Γ pc' L (.inl (σ c0 k) :: r) σ) : X Γ pc L (.inl i :: .inr c0 :: r) σ := by
  obtain ⟨hd, he⟩ := okP_dec hG.2.1 hq (by simp [lenI])
  obtain ⟨θ, ⟨p, l, e, R, s, m, args, below, meth, c⟩, A, ⟨kc, ks⟩, Q⟩ := Γ
  obtain ⟨h1, h2⟩ := vp_inN hk (layN hl0)
  subst he; subst hi
  intro H locs ls hP hS hl
  refine va_iald (f := σ c0) hG.1.1 hG.1.2.1 hG.1.2.2.2.2.2.1.1 hP c0 0 (wsOf_get hl0) rfl h1 hd ?_
  rw [h2]; exact kk H locs ls hP hS hl
theorem Md.zald (hG : Md Γ l θ d M pg) {c0 n k : Nat} {i : Int32} {rs : List Nat} (hq : lkp pc pg = some (.baload, pc', v, a1, a2)) (hl0 : lay[c0]? = some (.inr (1, n, rs))) (hi : i = nI k) (hk : k < n) (kk : X Γ pc' L (.inl (σ c0 k) :: r) σ) : X Γ pc L (.inl i :: .inr c0 :: r) σ := by
  obtain ⟨hd, he⟩ := okP_dec hG.2.1 hq (by simp [lenI])
  obtain ⟨θ, ⟨p, l, e, R, s, m, args, below, meth, c⟩, A, ⟨kc, ks⟩, Q⟩ := Γ
  obtain ⟨h1, h2⟩ := vp_inN hk (layN hl0)
  subst he; subst hi
  intro H locs ls hP hS hl
  refine va_zald (f := σ c0) hG.1.1 hG.1.2.1 hG.1.2.2.2.2.2.1.1 hP c0 1 (wsOf_get hl0) rfl h1 hd ?_
  rw [h2]; exact kk H locs ls hP hS hl
theorem Md.cald (hG : Md Γ l θ d M pg) {c0 n k : Nat} {i : Int32} {rs : List Nat} (hq : lkp pc pg = some (.caload, pc', v, a1, a2)) (hl0 : lay[c0]? = some (.inr (2, n, rs))) (hi : i = nI k) (hk : k < n) (kk : X Γ pc' L (.inl (σ c0 k) :: r) σ) : X Γ pc L (.inl i :: .inr c0 :: r) σ := by
  obtain ⟨hd, he⟩ := okP_dec hG.2.1 hq (by simp [lenI])
  obtain ⟨θ, ⟨p, l, e, R, s, m, args, below, meth, c⟩, A, ⟨kc, ks⟩, Q⟩ := Γ
  obtain ⟨h1, h2⟩ := vp_inN hk (layN hl0)
  subst he; subst hi
  intro H locs ls hP hS hl
  refine va_cald (f := σ c0) hG.1.1 hG.1.2.1 hG.1.2.2.2.2.2.1.1 hP c0 2 (wsOf_get hl0) rfl h1 hd ?_
  rw [h2]; exact kk H locs ls hP hS hl
theorem Md.iast (hG : Md Γ l θ d M pg) {c0 n k : Nat} {i x : Int32} {rs : List Nat} (hq : lkp pc pg = some (.iastore, pc', v, a1, a2)) (hl0 : lay[c0]? = some (.inr (0, n, rs))) (hi : i = nI k) (hk : k < n) (kk : X Γ pc' L r (up σ c0 k x)) : X Γ pc L (.inl x :: .inl i :: .inr c0 :: r) σ := by
  obtain ⟨hd, he⟩ := okP_dec hG.2.1 hq (by simp [lenI])
  obtain ⟨θ, ⟨p, l, e, R, s, m, args, below, meth, c⟩, A, ⟨kc, ks⟩, Q⟩ := Γ
  obtain ⟨h1, h2⟩ := vp_inN hk (layN hl0)
  subst he; subst hi
  intro H locs ls hP hS hl
  refine va_iast (f := σ c0) hG.1.1 hG.1.2.1 hG.1.2.2.2.2.2.1.1 hP (wsOf_D hG.1.2.2.2.2.2.2.1 hG.1.2.2.2.2.2.2.2 σ) hS c0 0 (wsOf_get hl0) rfl h1 hd ?_
  intro H1 locs1 hP1 _ hS1
  rw [h2] at hP1
  exact kk H1 locs1 ls (by rw [up, ← wsOf_upc hl0]; exact hP1) hS1 hl
theorem nar_bool {x : Int32} (h : x = 0 ∨ x = 1) : vp_nar .boolean x = x := by rcases h with rfl | rfl <;> decide +kernel
theorem Md.zast (hG : Md Γ l θ d M pg) {c0 n k : Nat} {i x : Int32} {rs : List Nat} (hq : lkp pc pg = some (.bastore, pc', v, a1, a2)) (hl0 : lay[c0]? = some (.inr (1, n, rs))) (hi : i = nI k) (hk : k < n) (hx : x = 0 ∨ x = 1) (kk : X Γ pc' L r (up σ c0 k x)) : X Γ pc L (.inl x :: .inl i :: .inr c0 :: r) σ := by
  obtain ⟨hd, he⟩ := okP_dec hG.2.1 hq (by simp [lenI])
  obtain ⟨θ, ⟨p, l, e, R, s, m, args, below, meth, c⟩, A, ⟨kc, ks⟩, Q⟩ := Γ
  obtain ⟨h1, h2⟩ := vp_inN hk (layN hl0)
  subst he; subst hi
  intro H locs ls hP hS hl
  refine va_zast (f := σ c0) hG.1.1 hG.1.2.1 hG.1.2.2.2.2.2.1.1 hP (wsOf_D hG.1.2.2.2.2.2.2.1 hG.1.2.2.2.2.2.2.2 σ) hS c0 1 (wsOf_get hl0) rfl h1 hd ?_
  intro H1 locs1 hP1 _ hS1
  rw [h2, nar_bool hx] at hP1
  exact kk H1 locs1 ls (by rw [up, ← wsOf_upc hl0]; exact hP1) hS1 hl
theorem Md.aald (hG : Md Γ l θ d M pg) {c0 kd n k z : Nat} {i : Int32} {rs : List Nat} (hq : lkp pc pg = some (.aaload, pc', v, a1, a2)) (hl0 : lay[c0]? = some (.inr (kd, n, rs))) (hkd : kd = 3 ∨ kd = 4 ∨ kd = 5) (hi : i = nI k) (hk : k < n) (hz : rs[k]? = some z) (kk : X Γ pc' L (.inr z :: r) σ) : X Γ pc L (.inl i :: .inr c0 :: r) σ := by
  obtain ⟨hd, he⟩ := okP_dec hG.2.1 hq (by simp [lenI])
  obtain ⟨θ, ⟨p, l, e, R, s, m, args, below, meth, c⟩, A, ⟨kc, ks⟩, Q⟩ := Γ
  obtain ⟨h1, h2⟩ := vp_inN hk (layN hl0)
  subst he; subst hi
  intro H locs ls hP hS hl
  have hw := wsOf_get (θ := θ) (σ := σ) hl0
  have hf : Option.map θ.1 rs[(nI k).toNatClampNeg]? = some (θ.1 z) := by rw [h2, hz]; rfl
  rcases hkd with rfl | rfl | rfl
  · refine va_aldq (C := "NotWorn$Text") (f := fun i : Nat => (rs[i]?).map θ.1) hG.1.1 hG.1.2.1 hG.1.2.2.2.2.2.1.1 hP c0 3 hw rfl h1 hd ?_
    rw [hf]; exact kk H locs ls hP hS hl
  · refine va_aldq (C := "NotWorn$Row") (f := fun i : Nat => (rs[i]?).map θ.1) hG.1.1 hG.1.2.1 hG.1.2.2.2.2.2.1.1 hP c0 4 hw rfl h1 hd ?_
    rw [hf]; exact kk H locs ls hP hS hl
  · refine va_aldq (C := "NotWorn$Slot") (f := fun i : Nat => (rs[i]?).map θ.1) hG.1.1 hG.1.2.1 hG.1.2.2.2.2.2.1.1 hP c0 5 hw rfl h1 hd ?_
    rw [hf]; exact kk H locs ls hP hS hl
theorem Md.ret {post : Int32 → Sg → Prop} (hG : Md Γ l θ d M pg) (hR : RtI Γ M post) {x : Int32} (hq : lkp pc pg = some (.ireturn, pc', v, a1, a2)) (hi : M.2.2.2 = some .int) (hpost : post x σ) : X Γ pc L [.inl x] σ := by
  obtain ⟨hd, he⟩ := okP_dec hG.2.1 hq (by simp [lenI])
  exact hR pc L x σ hd (fun ty h => by rw [hi] at h; cases h; rfl) hpost
theorem nar_bool2 {x : Int32} (h : x = 0 ∨ x = 1) : narrow .boolean (.int x) = .int x := by rcases h with rfl | rfl <;> decide +kernel
theorem Md.retz {post : Int32 → Sg → Prop} (hG : Md Γ l θ d M pg) (hR : RtI Γ M post) {x : Int32} (hq : lkp pc pg = some (.ireturn, pc', v, a1, a2)) (hi : M.2.2.2 = some .boolean) (hx : x = 0 ∨ x = 1) (hpost : post x σ) : X Γ pc L [.inl x] σ := by
  obtain ⟨hd, he⟩ := okP_dec hG.2.1 hq (by simp [lenI])
  exact hR pc L x σ hd (fun ty h => by rw [hi] at h; cases h; exact nar_bool2 hx) hpost
theorem Md.retv {post : Sg → Prop} (hG : Md Γ l θ d M pg) (hR : RtV Γ M post) (hq : lkp pc pg = some (.return_, pc', v, a1, a2)) (hpost : post σ) : X Γ pc L [] σ := by
  obtain ⟨hd, he⟩ := okP_dec hG.2.1 hq (by simp [lenI])
  exact hR pc L σ hd hpost
theorem room_le {d' d mL : Nat} {R : Room} (h : d' + 1 ≤ d) (hm : mL ≤ 100) (h1 : d ≤ R.frames) (h2 : 128 * d ≤ R.locals) : (rmd d').frames + 1 ≤ R.frames ∧ 8 + (mL + 11) + (rmd d').locals ≤ R.locals := by
  refine ⟨by show d' + 1 ≤ _; omega, ?_⟩
  show 8 + (mL + 11) + 128 * d' ≤ _
  omega
theorem Ws_TB {N : MI} (h : Cond.code N.1 N.2.1 N.2.2.1 N.2.2.2 ∈ TB) : ∀ w ∈ Ws N, w ∈ TB := fun w hw => by
  rcases List.mem_cons.mp hw with rfl | h1
  · exact h
  · exact h1
theorem Ok.preS {Γ : Cx} {own : String} {b : ByteArray} {nL : Nat} (hG : Ok Γ own b nL) {av : List AV} {σ : Sg} {H : Heap} {locs : List Loc} (hP : va_P Γ.1.2.1 classes (wsOf Γ.1 σ) H) (hS : va_S Γ.2.2.1 Γ.2.1.2.2.2.2.1.heap H locs) : PreS Γ.2.1.2.2.2.2.1 H (Pcf Γ.1 av σ) (av.map (conc Γ.1.1)) := by
  obtain ⟨θ, ⟨p, l, e, R, s, m, args, below, meth, c⟩, A, ⟨kc, ks⟩, Q⟩ := Γ
  obtain ⟨hx, hb, hml, hown, hts, hE, hI, hA⟩ := hG
  exact ⟨fb_Pcf _ _ _, fun U hU hW => ⟨rfl, by rw [hU]; exact hP, by rw [hU]; exact Ev.warm hW ((hE.kept hS.2.1).narrow hA), hI⟩⟩
theorem Md.callV {N : MI} {n d' idx o ci : Nat} {av rest : List AV} {fds : List (Option Nat)} {post : Int32 → Sg → Prop} (hG : Md Γ l θ d M pg) (hq : lkp pc pg = some (.invokevirtual idx, pc', v, a1, a2)) (hlk : LK M.1.cls idx N.1) (hN : MV N n) (hC : Ci l θ d' N (.inr o :: av) σ post) (hd' : d' + 1 ≤ d) (hn : av.length = n) (hst : st = av.reverse ++ .inr o :: rest) (hlo : lay[o]? = some (.inl (ci, fds))) (hcl : (classes[ci]?).map (fun q => q.1) = some N.1.cls) (hre : rest.length ≤ 8) (hL : L.length = M.2.2.1) (kk : ∀ (x : Int32) (σ' : Sg), post x σ' → X Γ pc' L (.inl x :: rest) σ') : X Γ pc L st σ := by
  obtain ⟨hd, he⟩ := okP_dec hG.2.1 hq (by simp [lenI])
  have hG1 := hG.1
  obtain ⟨θ', ⟨p, l', e, R, s, m, args, below, meth, c⟩, A, ⟨kc, ks⟩, Q⟩ := Γ
  obtain ⟨⟨hx, hb, hml, hown, hts, hE, hI, hA⟩, hp, e1, e2, hf1, hf2, hf3, hf4⟩ := hG
  subst e1; subst e2; subst he; subst hst
  obtain ⟨hw, -, hcl2, hdesc, hmx⟩ := hN
  intro H locs ls hP hS hl
  obtain ⟨q, hcq, hq1⟩ : ∃ q, classes[ci]? = some q ∧ q.1 = N.1.cls := by
    cases hcc : classes[ci]? with
    | none => rw [hcc] at hcl; cases hcl
    | some q => rw [hcc] at hcl; exact ⟨q, rfl, Option.some.inj hcl⟩
  have hcode : Cond.code N.1 N.2.1 N.2.2.1 N.2.2.2 ∈ TB := hw _ (by simp)
  have hgood : GoodIn TB (wsV M.1.cls idx N.1.cls N.1 (Ws N)) := goodIn_TB (fun w h => by
    rcases List.mem_append.mp h with h | h
    · simp only [List.mem_cons, List.not_mem_nil, or_false] at h
      rcases h with rfl | rfl | rfl | rfl
      · exact hlk
      · exact hw _ (by simp)
      · exact hw _ (by simp)
      · exact hw _ (by simp)
    · exact Ws_TB hcode w h)
  have hpre := Ok.preS hG1 (av := .inr o :: av) hP hS
  refine va_calli (A1 := AA θ') (va_runV (As := av.map (conc θ'.1)) (rest := rest.map (conc θ'.1)) ⟨hx, hb, hml, hown, hts⟩ hC (cwV n hts hgood rfl rfl rfl ⟨rfl, hcl2.1, hcl2.2, hdesc⟩ (room_le hd' hmx hf1 hf2)) ⟨hpre.1, by rw [← hq1]; exact va_recv hE.1 hP hcq (wsOf_get hlo), hpre.2⟩ rfl (by rw [List.length_map]; exact hn) (by rw [hl.1]; exact hL) (by simp [conc]) (lv_room (by rw [cat_sum]; exact hre)) hd ⟨hf3, hf4⟩) hS (fun q _ h => hA q h) hA ?_
  intro x u t H1 locs1 ht _ hpo hB _ _ hS1
  rw [ht] at hB
  exact kk x u hpo H1 locs1 ls hB hS1 hl
theorem Md.callVv {N : MI} {n d' idx o ci : Nat} {av rest : List AV} {fds : List (Option Nat)} {post : Sg → Prop} (hG : Md Γ l θ d M pg) (hq : lkp pc pg = some (.invokevirtual idx, pc', v, a1, a2)) (hlk : LK M.1.cls idx N.1) (hN : MV N n) (hC : Cv l θ d' N (.inr o :: av) σ post) (hd' : d' + 1 ≤ d) (hn : av.length = n) (hst : st = av.reverse ++ .inr o :: rest) (hlo : lay[o]? = some (.inl (ci, fds))) (hcl : (classes[ci]?).map (fun q => q.1) = some N.1.cls) (hre : rest.length ≤ 8) (hL : L.length = M.2.2.1) (kk : ∀ (σ' : Sg), post σ' → X Γ pc' L rest σ') : X Γ pc L st σ := by
  obtain ⟨hd, he⟩ := okP_dec hG.2.1 hq (by simp [lenI])
  have hG1 := hG.1
  obtain ⟨θ', ⟨p, l', e, R, s, m, args, below, meth, c⟩, A, ⟨kc, ks⟩, Q⟩ := Γ
  obtain ⟨⟨hx, hb, hml, hown, hts, hE, hI, hA⟩, hp, e1, e2, hf1, hf2, hf3, hf4⟩ := hG
  subst e1; subst e2; subst he; subst hst
  obtain ⟨hw, -, hcl2, hdesc, hmx⟩ := hN
  intro H locs ls hP hS hl
  obtain ⟨q, hcq, hq1⟩ : ∃ q, classes[ci]? = some q ∧ q.1 = N.1.cls := by
    cases hcc : classes[ci]? with
    | none => rw [hcc] at hcl; cases hcl
    | some q => rw [hcc] at hcl; exact ⟨q, rfl, Option.some.inj hcl⟩
  have hcode : Cond.code N.1 N.2.1 N.2.2.1 N.2.2.2 ∈ TB := hw _ (by simp)
  have hgood : GoodIn TB (wsV M.1.cls idx N.1.cls N.1 (Ws N)) := goodIn_TB (fun w h => by
    rcases List.mem_append.mp h with h | h
    · simp only [List.mem_cons, List.not_mem_nil, or_false] at h
      rcases h with rfl | rfl | rfl | rfl
      · exact hlk
      · exact hw _ (by simp)
      · exact hw _ (by simp)
      · exact hw _ (by simp)
    · exact Ws_TB hcode w h)
  have hpre := Ok.preS hG1 (av := .inr o :: av) hP hS
  refine va_callv (A1 := AA θ') (va_runV (As := av.map (conc θ'.1)) (rest := rest.map (conc θ'.1)) ⟨hx, hb, hml, hown, hts⟩ hC (cwV n hts hgood rfl rfl rfl ⟨rfl, hcl2.1, hcl2.2, hdesc⟩ (room_le hd' hmx hf1 hf2)) ⟨hpre.1, by rw [← hq1]; exact va_recv hE.1 hP hcq (wsOf_get hlo), hpre.2⟩ rfl (by rw [List.length_map]; exact hn) (by rw [hl.1]; exact hL) (by simp [conc]) (lv_room (by rw [cat_sum]; exact hre)) hd ⟨hf3, hf4⟩) hS (fun q _ h => hA q h) hA ?_
  intro u t H1 locs1 ht _ hpo hB _ _ hS1
  rw [ht] at hB
  exact kk u hpo H1 locs1 ls hB hS1 hl
theorem Md.callS {N : MI} {n d' idx : Nat} {av rest : List AV} {post : Int32 → Sg → Prop} (hG : Md Γ l θ d M pg) (hq : lkp pc pg = some (.invokestatic idx, pc', v, a1, a2)) (hlk : LK M.1.cls idx N.1) (hN : MS N n) (hC : Ci l θ d' N av σ post) (hd' : d' + 1 ≤ d) (hn : av.length = n) (hst : st = av.reverse ++ rest) (hre : rest.length ≤ 8) (hL : L.length = M.2.2.1) (kk : ∀ (x : Int32) (σ' : Sg), post x σ' → X Γ pc' L (.inl x :: rest) σ') : X Γ pc L st σ := by
  obtain ⟨hd, he⟩ := okP_dec hG.2.1 hq (by simp [lenI])
  have hG1 := hG.1
  obtain ⟨θ', ⟨p, l', e, R, s, m, args, below, meth, c⟩, A, ⟨kc, ks⟩, Q⟩ := Γ
  obtain ⟨⟨hx, hb, hml, hown, hts, hE, hI, hA⟩, hp, e1, e2, hf1, hf2, hf3, hf4⟩ := hG
  subst e1; subst e2; subst he; subst hst
  obtain ⟨hw, -, hcl2, hdesc, hmx⟩ := hN
  intro H locs ls hP hS hl
  have hcode : Cond.code N.1 N.2.1 N.2.2.1 N.2.2.2 ∈ TB := hw _ (by simp)
  have hgood : GoodIn TB (va_wsS M.1.cls idx N.1 (Ws N)) := goodIn_TB (fun w h => by
    rcases List.mem_append.mp h with h | h
    · simp only [List.mem_cons, List.not_mem_nil, or_false] at h
      rcases h with rfl | rfl | rfl
      · exact hlk
      · exact hw _ (by simp)
      · exact hw _ (by simp)
    · exact Ws_TB hcode w h)
  have hpre := Ok.preS hG1 (av := av) hP hS
  refine va_calli (A1 := AA θ') (va_runS (As := av.map (conc θ'.1)) (rest := rest.map (conc θ'.1)) ⟨hx, hb, hml, hown, hts⟩ hC (va_cwS n hts hgood rfl rfl rfl ⟨hcl2.1, hcl2.2, hdesc⟩ (room_le hd' hmx hf1 hf2)) hpre rfl (by rw [List.length_map]; exact hn) (by rw [hl.1]; exact hL) (by simp) (lv_room (by rw [cat_sum]; exact hre)) hd ⟨hf3, hf4⟩) hS (fun q _ h => hA q h) hA ?_
  intro x u t H1 locs1 ht _ hpo hB _ _ hS1
  rw [ht] at hB
  exact kk x u hpo H1 locs1 ls hB hS1 hl
theorem Md.callSv {N : MI} {n d' idx : Nat} {av rest : List AV} {post : Sg → Prop} (hG : Md Γ l θ d M pg) (hq : lkp pc pg = some (.invokestatic idx, pc', v, a1, a2)) (hlk : LK M.1.cls idx N.1) (hN : MS N n) (hC : Cv l θ d' N av σ post) (hd' : d' + 1 ≤ d) (hn : av.length = n) (hst : st = av.reverse ++ rest) (hre : rest.length ≤ 8) (hL : L.length = M.2.2.1) (kk : ∀ (σ' : Sg), post σ' → X Γ pc' L rest σ') : X Γ pc L st σ := by
  obtain ⟨hd, he⟩ := okP_dec hG.2.1 hq (by simp [lenI])
  have hG1 := hG.1
  obtain ⟨θ', ⟨p, l', e, R, s, m, args, below, meth, c⟩, A, ⟨kc, ks⟩, Q⟩ := Γ
  obtain ⟨⟨hx, hb, hml, hown, hts, hE, hI, hA⟩, hp, e1, e2, hf1, hf2, hf3, hf4⟩ := hG
  subst e1; subst e2; subst he; subst hst
  obtain ⟨hw, -, hcl2, hdesc, hmx⟩ := hN
  intro H locs ls hP hS hl
  have hcode : Cond.code N.1 N.2.1 N.2.2.1 N.2.2.2 ∈ TB := hw _ (by simp)
  have hgood : GoodIn TB (va_wsS M.1.cls idx N.1 (Ws N)) := goodIn_TB (fun w h => by
    rcases List.mem_append.mp h with h | h
    · simp only [List.mem_cons, List.not_mem_nil, or_false] at h
      rcases h with rfl | rfl | rfl
      · exact hlk
      · exact hw _ (by simp)
      · exact hw _ (by simp)
    · exact Ws_TB hcode w h)
  have hpre := Ok.preS hG1 (av := av) hP hS
  refine va_callv (A1 := AA θ') (va_runS (As := av.map (conc θ'.1)) (rest := rest.map (conc θ'.1)) ⟨hx, hb, hml, hown, hts⟩ hC (va_cwS n hts hgood rfl rfl rfl ⟨hcl2.1, hcl2.2, hdesc⟩ (room_le hd' hmx hf1 hf2)) hpre rfl (by rw [List.length_map]; exact hn) (by rw [hl.1]; exact hL) (by simp) (lv_room (by rw [cat_sum]; exact hre)) hd ⟨hf3, hf4⟩) hS (fun q _ h => hA q h) hA ?_
  intro u t H1 locs1 ht _ hpo hB _ _ hS1
  rw [ht] at hB
  exact kk u hpo H1 locs1 ls hB hS1 hl
end Rows
