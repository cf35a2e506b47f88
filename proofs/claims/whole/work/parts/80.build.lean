/-! THE BUILDING of the world: cells as data, in the order in which they are made; references are places in that order -/
abbrev FV : Type := Int32 ⊕ Option Nat
abbrev En : Type := (Nat × List FV) ⊕ ((Nat × Nat × List (Nat × Int32)) ⊕ (Nat × Nat × List (Nat × Nat)))
abbrev Dl : Type := va_G × (Nat → ClassId)
def cFV (a : Nat → Nat) : FV → Value
  | .inl v => .int v
  | .inr none => .null
  | .inr (some k) => .ref (a k)
def lku : List (Nat × Int32) → Nat → Int32
  | [], _ => 0
  | q :: r, j => if j = q.1 then q.2 else lku r j
def lkr : List (Nat × Nat) → Nat → Option Nat
  | [], _ => none
  | q :: r, j => if j = q.1 then some q.2 else lkr r j
def cEn (tc : Nat → ClassId) (a : Nat → Nat) : En → va_E
  | .inl (ci, fs) => .inr (ci, fs.map (cFV a))
  | .inr (.inl (kd, n, us)) => .inl (tc kd, n, .inl (lku us))
  | .inr (.inr (kd, n, rs)) => .inl (tc kd, n, .inr (.inr (.inr (.inr (fun j => (lkr rs j).map a)))))
def wsE (tc : Nat → ClassId) (a : Nat → Nat) : List En → Nat → va_W
  | [], _ => []
  | e :: r, c => (a c, cEn tc a e) :: wsE tc a r (c + 1)
def fvOk (n : Nat) : FV → Bool
  | .inr (some k) => decide (k < n)
  | _ => true
def enOk (n : Nat) : En → Bool
  | .inl (_, fs) => fs.all (fvOk n)
  | .inr (.inl _) => true
  | .inr (.inr (_, _, rs)) => rs.all (fun q => decide (q.2 < n))
def avOk (n : Nat) : AV → Bool
  | .inl _ => true
  | .inr k => decide (k < n)
def lcOk (n : Nat) (L : Lc) : Bool := L.all (fun o => match o with | none => true | some v => avOk n v)
def esOk (n : Nat) (es : List En) : Bool := es.all (enOk n)
theorem cFV_congr {a b : Nat → Nat} {n : Nat} (h : ∀ k, k < n → a k = b k) : ∀ v : FV, fvOk n v = true → cFV a v = cFV b v
  | .inl _, _ => rfl
  | .inr none, _ => rfl
  | .inr (some k), hk => by rw [cFV, cFV, h k (of_decide_eq_true hk)]
theorem lkr_ok {n : Nat} : ∀ (rs : List (Nat × Nat)) (j : Nat), rs.all (fun q => decide (q.2 < n)) = true → ∀ k, lkr rs j = some k → k < n
  | [], _, _, _, h => by cases h
  | q :: r, j, hr, k, h => by
    rw [List.all_cons, Bool.and_eq_true] at hr
    rw [lkr] at h
    split at h
    · cases h; exact of_decide_eq_true hr.1
    · exact lkr_ok r j hr.2 k h
theorem cEn_congr {tc : Nat → ClassId} {a b : Nat → Nat} {n : Nat} (h : ∀ k, k < n → a k = b k) : ∀ e : En, enOk n e = true → cEn tc a e = cEn tc b e
  | .inl (ci, fs), he => by
    rw [cEn, cEn]
    congr 2
    exact List.map_congr_left (fun v hv => cFV_congr h v (List.all_eq_true.mp he v hv))
  | .inr (.inl _), _ => rfl
  | .inr (.inr (kd, m, rs)), he => by
    rw [cEn, cEn]
    have : (fun j => (lkr rs j).map a) = (fun j => (lkr rs j).map b) := by
      funext j
      cases hj : lkr rs j with
      | none => rfl
      | some k => rw [Option.map_some, Option.map_some, h k (lkr_ok rs j he k hj)]
    rw [this]
theorem wsE_congr {tc : Nat → ClassId} {a b : Nat → Nat} {n : Nat} (h : ∀ k, k < n → a k = b k) : ∀ (es : List En) (c : Nat), c + es.length ≤ n → esOk n es = true → wsE tc a es c = wsE tc b es c
  | [], _, _, _ => rfl
  | e :: r, c, hc, he => by
    rw [esOk, List.all_cons, Bool.and_eq_true] at he
    simp only [List.length_cons] at hc
    rw [wsE, wsE, h c (by omega), cEn_congr h e he.1, wsE_congr h r (c + 1) (by omega) he.2]
theorem wsE_app (tc : Nat → ClassId) (a : Nat → Nat) : ∀ (x y : List En) (c : Nat), wsE tc a (x ++ y) c = wsE tc a x c ++ wsE tc a y (c + x.length)
  | [], y, c => rfl
  | e :: r, y, c => by
    rw [List.cons_append, wsE, wsE, wsE_app tc a r y (c + 1), List.length_cons, show c + 1 + r.length = c + (r.length + 1) by omega]; rfl
theorem wsE_len (tc : Nat → ClassId) (a : Nat → Nat) : ∀ (es : List En) (c : Nat), (wsE tc a es c).length = es.length
  | [], _ => rfl
  | e :: r, c => by rw [wsE, List.length_cons, List.length_cons, wsE_len tc a r]
theorem wsE_get {tc : Nat → ClassId} {a : Nat → Nat} : ∀ {es : List En} {c k : Nat} {e : En}, es[k]? = some e → (wsE tc a es c)[k]? = some (a (c + k), cEn tc a e)
  | [], _, _, _, h => by simp at h
  | x :: r, c, 0, e, h => by simp at h; simp [wsE, h]
  | x :: r, c, k + 1, e, h => by
    have := wsE_get (tc := tc) (a := a) (es := r) (c := c + 1) (k := k) (e := e) (by simpa using h)
    rw [show c + (k + 1) = c + 1 + k by omega]; simpa [wsE] using this
theorem wsE_set {tc : Nat → ClassId} {a : Nat → Nat} : ∀ {es : List En} {c k : Nat} {e : En}, k < es.length → wsE tc a (es.set k e) c = (wsE tc a es c).set k (a (c + k), cEn tc a e)
  | [], _, _, _, h => by simp at h
  | x :: r, c, 0, e, _ => by simp [wsE]
  | x :: r, c, k + 1, e, h => by
    have := wsE_set (tc := tc) (a := a) (es := r) (c := c + 1) (k := k) (e := e) (by simpa using h)
    rw [show c + (k + 1) = c + 1 + k by omega]; simp [wsE, this]
def upA (a : Nat → Nat) (n q : Nat) : Nat → Nat := fun k => if k = n then q else a k
theorem upA_lt {a : Nat → Nat} {n q k : Nat} (h : k < n) : upA a n q k = a k := by rw [upA, if_neg (by omega)]
theorem upA_n (a : Nat → Nat) (n q : Nat) : upA a n q n = q := by rw [upA, if_pos rfl]
theorem conc_congr {a b : Nat → Nat} {n : Nat} (h : ∀ k, k < n → a k = b k) : ∀ v : AV, avOk n v = true → conc a v = conc b v
  | .inl _, _ => rfl
  | .inr k, hk => by rw [conc, conc, h k (of_decide_eq_true hk)]
theorem prsF_congr {a b : Nat → Nat} {n : Nat} (h : ∀ k, k < n → a k = b k) : ∀ (L : Lc) (j : Nat), lcOk n L = true → prsF a L j = prsF b L j
  | [], _, _ => rfl
  | none :: r, j, hL => by
    rw [lcOk, List.all_cons, Bool.and_eq_true] at hL
    rw [prsF, prsF]; exact prsF_congr h r (j + 1) hL.2
  | some v :: r, j, hL => by
    rw [lcOk, List.all_cons, Bool.and_eq_true] at hL
    rw [prsF, prsF, conc_congr h v hL.1, prsF_congr h r (j + 1) hL.2]
def nestL : List Cond := [.methodLinkNest "NotWorn$Laws" 21 ⟨"NotWorn$Text", "<init>", "()V"⟩ "NotWorn", .methodLinkNest "NotWorn" 18 ⟨"NotWorn$Valley", "<init>", "()V"⟩ "NotWorn", .methodLinkNest "NotWorn" 31 ⟨"NotWorn$Dealer", "<init>", "()V"⟩ "NotWorn", .methodLinkNest "NotWorn" 38 ⟨"NotWorn$Tape", "<init>", "()V"⟩ "NotWorn", .methodLinkNest "NotWorn$Tape" 17 ⟨"NotWorn$Text", "<init>", "()V"⟩ "NotWorn", .methodLinkNest "NotWorn" 62 ⟨"NotWorn$Row", "<init>", "()V"⟩ "NotWorn", .methodLinkNest "NotWorn" 63 ⟨"NotWorn$Slot", "<init>", "()V"⟩ "NotWorn", .methodLinkNest "NotWorn$Slot" 17 ⟨"NotWorn$Row", "<init>", "()V"⟩ "NotWorn"]
def tysC (tc : Nat → ClassId) : List (ClassId × FieldType) := [(tc 0, .int), (tc 1, .boolean), (tc 2, .char), (tc 3, .object "NotWorn$Text"), (tc 4, .object "NotWorn$Row"), (tc 5, .object "NotWorn$Slot")]
def EvC (Δ : Dl) (U : State) : Prop := va_K Δ.1 classes (tysC Δ.2) U ∧ (∀ w ∈ nestL, va_Nw w U) ∧ va_AO "NotWorn$Text" U ∧ va_AO "NotWorn$Row" U ∧ va_AO "NotWorn$Slot" U
theorem nest_tab : ∀ w ∈ nestL, w.onTables = true := by
  intro w hw
  simp only [nestL, List.mem_cons, List.not_mem_nil, or_false] at hw
  rcases hw with rfl | rfl | rfl | rfl | rfl | rfl | rfl | rfl <;> rfl
theorem EvC.warm {Δ : Dl} {s U : State} (hW : s.WarmedH U.vm) (h : EvC Δ s) : EvC Δ U :=
  ⟨h.1.moved hW.alike, fun w hw => by
    have h1 := h.2.1 w hw
    simp only [nestL, List.mem_cons, List.not_mem_nil, or_false] at hw
    rcases hw with rfl | rfl | rfl | rfl | rfl | rfl | rfl | rfl <;> exact va_Nw.warmM hW h1, va_AO.moved hW.alike h.2.2.1, va_AO.moved hW.alike h.2.2.2.1, va_AO.moved hW.alike h.2.2.2.2⟩
theorem EvC.same {Δ : Dl} {s U : State} (hv : s.vm = U.vm) (h : EvC Δ s) : EvC Δ U :=
  have ha : s.vm.Alike U.vm := hv ▸ Vm.Alike.refl _
  ⟨h.1.moved ha, fun w hw => va_Nw.same (nest_tab w hw) hv (h.2.1 w hw), va_AO.moved ha h.2.2.1, va_AO.moved ha h.2.2.2.1, va_AO.moved ha h.2.2.2.2⟩
abbrev Cy : Type := Dl × Fr × (Nat → Prop) × (State → Prop) × Option Nat
def Y (Γ : Cy) (pc : Nat) (L : Lc) (st : List AV) (es : List En) (kc ks : Nat) : Prop := match Γ with
  | (Δ, (p, l, e, R, s, m, args, below, meth, c), A, Q, pin) => ∀ (a : Nat → Nat) (H : Heap) (locs : List Loc) (ls : Array Slot), (∀ h, pin = some h → a 0 = h) → va_P Δ.1 classes (wsE Δ.2 a es 0) H → va_D A (wsE Δ.2 a es 0) → va_S A s.heap H locs → lv_has ls L.length (prs a L) → W p l e R s m args below meth c H locs kc ks Q (F0 m pc ls (st.map (conc a)))
/-- what is known of the frame in which a world is built -/
def OkY (Γ : Cy) (own : String) (b : ByteArray) (nL fr lc cc cs : Nat) : Prop := match Γ with
  | (Δ, (p, _, _, R, s, m, args, _, meth, c), A, _, pin) => p.tables.exec = Jvm.exec ∧ c.code = b ∧ c.maxLocals = nL ∧ s.vm.findClass own = some m.cls ∧ (∀ w ∈ TB, w.before args s = true) ∧ EvC Δ s ∧ (∀ q : Nat, s.heap.size ≤ q → A q) ∧ (pin ≠ none → meth.name = "<init>") ∧ fr ≤ R.frames ∧ lc ≤ R.locals ∧ cc ≤ R.cells ∧ cs ≤ R.slots
section
variable {Γ : Cy} {own : String} {b : ByteArray} {nL fr lc cc cs pc kc ks : Nat} {L : Lc} {st : List AV} {es : List En}
theorem OkY.al (hO : OkY Γ own b nL fr lc cc cs) {k : Fin 4} (i q : Nat) (hi : (k : Nat) = i) (hk : L[i]? = some (some (.inr q))) (hd : decode b pc = .ok (.aload_n k, 1)) (kk : Y Γ (pc + 1) L (.inr q :: st) es kc ks) : Y Γ pc L st es kc ks := by
  obtain ⟨Δ, ⟨p, l, e, R, s, m, args, below, meth, c⟩, A, Q, pin⟩ := Γ
  obtain ⟨hx, hb, hml, hown, hts, hE, hA, hin, h1, h2, h3, h4⟩ := hO
  intro a H locs ls hp hP hD hS hl
  exact lv_aload_n hx hb hd hi (lvh_at hl hk) (kk a H locs ls hp hP hD hS hl)
theorem OkY.il (hO : OkY Γ own b nL fr lc cc cs) {k : Fin 4} (i : Nat) (v : Int32) (hi : (k : Nat) = i) (hk : L[i]? = some (some (.inl v))) (hd : decode b pc = .ok (.iload_n k, 1)) (kk : Y Γ (pc + 1) L (.inl v :: st) es kc ks) : Y Γ pc L st es kc ks := by
  obtain ⟨Δ, ⟨p, l, e, R, s, m, args, below, meth, c⟩, A, Q, pin⟩ := Γ
  obtain ⟨hx, hb, hml, hown, hts, hE, hA, hin, h1, h2, h3, h4⟩ := hO
  intro a H locs ls hp hP hD hS hl
  exact lv_iload_n hx hb hd hi (lvh_at hl hk) (kk a H locs ls hp hP hD hS hl)
theorem OkY.ic (hO : OkY Γ own b nL fr lc cc cs) {n : Int} (v : Int32) (hv : Int32.ofInt n = v) (hd : decode b pc = .ok (.iconst n, 1)) (kk : Y Γ (pc + 1) L (.inl v :: st) es kc ks) : Y Γ pc L st es kc ks := by
  obtain ⟨Δ, ⟨p, l, e, R, s, m, args, below, meth, c⟩, A, Q, pin⟩ := Γ
  obtain ⟨hx, hb, hml, hown, hts, hE, hA, hin, h1, h2, h3, h4⟩ := hO
  intro a H locs ls hp hP hD hS hl
  exact lv_iconst (v := v) hx hb hd hv (kk a H locs ls hp hP hD hS hl)
theorem OkY.bp (hO : OkY Γ own b nL fr lc cc cs) {n : Int} (v : Int32) (hv : (Int8.ofInt n).toInt32 = v) (hd : decode b pc = .ok (.bipush n, 2)) (kk : Y Γ (pc + 2) L (.inl v :: st) es kc ks) : Y Γ pc L st es kc ks := by
  obtain ⟨Δ, ⟨p, l, e, R, s, m, args, below, meth, c⟩, A, Q, pin⟩ := Γ
  obtain ⟨hx, hb, hml, hown, hts, hE, hA, hin, h1, h2, h3, h4⟩ := hO
  intro a H locs ls hp hP hD hS hl
  exact lv_bipush (v := v) hx hb hd hv (kk a H locs ls hp hP hD hS hl)
theorem OkY.sp (hO : OkY Γ own b nL fr lc cc cs) {n : Int} (v : Int32) (hv : (Int16.ofInt n).toInt32 = v) (hd : decode b pc = .ok (.sipush n, 3)) (kk : Y Γ (pc + 3) L (.inl v :: st) es kc ks) : Y Γ pc L st es kc ks := by
  obtain ⟨Δ, ⟨p, l, e, R, s, m, args, below, meth, c⟩, A, Q, pin⟩ := Γ
  obtain ⟨hx, hb, hml, hown, hts, hE, hA, hin, h1, h2, h3, h4⟩ := hO
  intro a H locs ls hp hP hD hS hl
  exact lv_sipush (v := v) hx hb hd hv (kk a H locs ls hp hP hD hS hl)
theorem OkY.dup (hO : OkY Γ own b nL fr lc cc cs) (v : AV) (hd : decode b pc = .ok (.dup, 1)) (kk : Y Γ (pc + 1) L (v :: v :: st) es kc ks) : Y Γ pc L (v :: st) es kc ks := by
  obtain ⟨Δ, ⟨p, l, e, R, s, m, args, below, meth, c⟩, A, Q, pin⟩ := Γ
  obtain ⟨hx, hb, hml, hown, hts, hE, hA, hin, h1, h2, h3, h4⟩ := hO
  intro a H locs ls hp hP hD hS hl
  exact lv_dup hx hb hd (conc_cat a v) (kk a H locs ls hp hP hD hS hl)
theorem OkY.ist (hO : OkY Γ own b nL fr lc cc cs) {k : Fin 4} (i : Nat) (v : Int32) (L' : Lc) (hi : (k : Nat) = i) (hk : i < L.length) (hL' : L.set i (some (.inl v)) = L') (hd : decode b pc = .ok (.istore_n k, 1)) (kk : Y Γ (pc + 1) L' st es kc ks) : Y Γ pc L (.inl v :: st) es kc ks := by
  obtain ⟨Δ, ⟨p, l, e, R, s, m, args, below, meth, c⟩, A, Q, pin⟩ := Γ
  obtain ⟨hx, hb, hml, hown, hts, hE, hA, hin, h1, h2, h3, h4⟩ := hO
  intro a H locs ls hp hP hD hS hl
  subst hL'
  refine lv_istore_n hx hb hd hi hl hk rfl (fun ls' hl' => ?_)
  exact kk a H locs ls' hp hP hD hS (by rw [List.length_set]; exact lvh_set (v := .inl v) hk hl')
theorem OkY.ast (hO : OkY Γ own b nL fr lc cc cs) {k : Fin 4} (i q : Nat) (L' : Lc) (hi : (k : Nat) = i) (hk : i < L.length) (hL' : L.set i (some (.inr q)) = L') (hd : decode b pc = .ok (.astore_n k, 1)) (kk : Y Γ (pc + 1) L' st es kc ks) : Y Γ pc L (.inr q :: st) es kc ks := by
  obtain ⟨Δ, ⟨p, l, e, R, s, m, args, below, meth, c⟩, A, Q, pin⟩ := Γ
  obtain ⟨hx, hb, hml, hown, hts, hE, hA, hin, h1, h2, h3, h4⟩ := hO
  intro a H locs ls hp hP hD hS hl
  subst hL'
  refine lv_astore_n hx hb hd hi hl hk rfl (fun ls' hl' => ?_)
  exact kk a H locs ls' hp hP hD hS (by rw [List.length_set]; exact lvh_set (v := .inr q) hk hl')
end
