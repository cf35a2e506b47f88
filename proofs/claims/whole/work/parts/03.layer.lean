/-! THE LAYER. The world is fixed after the two constructors: 'lay' tells the cells, their kinds, which cell a reference field or place holds; what changes is one table of ints, σ (cell, slot). An abstract machine runs over (pc, locals, stack, σ). -/
abbrev AV : Type := Int32 ⊕ Nat
abbrev Sg : Type := Nat → Nat → Int32
abbrev Sh : Type := (Nat × List (Option Nat)) ⊕ (Nat × Nat × List Nat)
abbrev Th : Type := (Nat → Nat) × va_G × (Nat → ClassId)
abbrev Lc : Type := List (Option AV)
def sh_text (s : Nat) : Sh := .inl (5, [none, none, none, some s])
def sh_row (s : Nat) : Sh := .inl (2, [none, none, some s])
def sh_ints (n : Nat) : Sh := .inr (0, n, [])
def sh_bits (n : Nat) : Sh := .inr (1, n, [])
def sh_val (b : Nat) : Sh := .inl (6, [some (b+1), some (b+2), some (b+3), some (b+4), none, some (b+5), some (b+6), none, none, none, none, none, some (b+7), none, some (b+8), none])
def lay : List Sh := [
  .inl (7, [some 1, some 32, some 41, some 50, none, some 59, some 64, some 68, some 69, some 93, none, some 94]),
  .inl (1, [some 2, some 3]),
  .inr (3, 14, [4, 6, 8, 10, 12, 14, 16, 18, 20, 22, 24, 26, 28, 30]),
  sh_ints 96,
  sh_text 5, sh_ints 96, sh_text 7, sh_ints 96, sh_text 9, sh_ints 96, sh_text 11, sh_ints 96, sh_text 13, sh_ints 96, sh_text 15, sh_ints 96, sh_text 17, sh_ints 96,
  sh_text 19, sh_ints 96, sh_text 21, sh_ints 96, sh_text 23, sh_ints 96, sh_text 25, sh_ints 96, sh_text 27, sh_ints 96, sh_text 29, sh_ints 96, sh_text 31, sh_ints 96,
  sh_val 32, sh_ints 10, sh_ints 10, sh_ints 10, sh_ints 10, sh_ints 6, sh_ints 6, sh_ints 3, sh_ints 10,
  sh_val 41, sh_ints 10, sh_ints 10, sh_ints 10, sh_ints 10, sh_ints 6, sh_ints 6, sh_ints 3, sh_ints 10,
  sh_val 50, sh_ints 10, sh_ints 10, sh_ints 10, sh_ints 10, sh_ints 6, sh_ints 6, sh_ints 3, sh_ints 10,
  .inl (0, [some 60, none, none, some 61, some 62, some 63]), sh_ints 6, sh_ints 6, sh_bits 6, sh_bits 6,
  .inl (4, [some 65, none, none, none, none, some 66]), sh_ints 96, sh_text 67, sh_ints 96,
  .inr (4, 4, [70, 72, 74, 76]), .inr (5, 5, [78, 81, 84, 87, 90]),
  sh_row 71, sh_ints 24, sh_row 73, sh_ints 24, sh_row 75, sh_ints 24, sh_row 77, sh_ints 24,
  .inl (3, [none, none, none, none, some 79]), sh_row 80, sh_ints 24,
  .inl (3, [none, none, none, none, some 82]), sh_row 83, sh_ints 24,
  .inl (3, [none, none, none, none, some 85]), sh_row 86, sh_ints 24,
  .inl (3, [none, none, none, none, some 88]), sh_row 89, sh_ints 24,
  .inl (3, [none, none, none, none, some 91]), sh_row 92, sh_ints 24,
  sh_ints 60, sh_ints 24,
  .inl (8, [some 96, some 97, some 98, none, some 99, some 100, some 101, none, none, some 102, some 103, none, none, none, none, none, none, none, some 104, some 105, some 106, none, none, some 107, none, some 108, some 109, some 110, some 111, some 112, some 113, some 114, some 115, some 116, some 117, some 118, some 119, none]),
  sh_ints 1430, sh_ints 1430, sh_ints 1430, sh_bits 16, sh_ints 6, sh_ints 6, sh_ints 58, sh_ints 96, .inr (2, 12, []), sh_ints 4, sh_ints 96, sh_ints 96, sh_bits 10,
  sh_ints 96, sh_ints 4, sh_ints 4, sh_ints 4, sh_ints 96, sh_ints 5, sh_ints 5, sh_ints 5, sh_ints 120, sh_ints 24, sh_ints 60]
theorem lay_length : lay.length = 120 := by decide +kernel
def conc (a : Nat → Nat) : AV → Value
  | .inl v => .int v
  | .inr k => .ref (a k)
theorem conc_cat (a : Nat → Nat) (v : AV) : (conc a v).category = 1 := by cases v <;> rfl
def conF (a : Nat → Nat) (f : Nat → Int32) : List (Option Nat) → Nat → List Value
  | [], _ => []
  | none :: r, j => .int (f j) :: conF a f r (j + 1)
  | some k :: r, j => .ref (a k) :: conF a f r (j + 1)
theorem conF_int {a : Nat → Nat} {f : Nat → Int32} : ∀ {l : List (Option Nat)} {j0 j : Nat}, l[j]? = some none → (conF a f l j0)[j]? = some (.int (f (j0 + j)))
  | [], _, _, h => by simp at h
  | none :: r, j0, 0, _ => by simp [conF]
  | some k :: r, j0, 0, h => by simp at h
  | none :: r, j0, j + 1, h => by
    have := conF_int (a := a) (f := f) (l := r) (j0 := j0 + 1) (j := j) (by simpa using h)
    rw [show j0 + (j + 1) = j0 + 1 + j by omega]; simpa [conF] using this
  | some k :: r, j0, j + 1, h => by
    have := conF_int (a := a) (f := f) (l := r) (j0 := j0 + 1) (j := j) (by simpa using h)
    rw [show j0 + (j + 1) = j0 + 1 + j by omega]; simpa [conF] using this
theorem conF_ref {a : Nat → Nat} {f : Nat → Int32} {q : Nat} : ∀ {l : List (Option Nat)} {j0 j : Nat}, l[j]? = some (some q) → (conF a f l j0)[j]? = some (.ref (a q))
  | [], _, _, h => by simp at h
  | none :: r, j0, 0, h => by simp at h
  | some k :: r, j0, 0, h => by simp at h; simp [conF, h]
  | none :: r, j0, j + 1, h => by
    have := conF_ref (a := a) (f := f) (l := r) (j0 := j0 + 1) (j := j) (by simpa using h)
    simpa [conF] using this
  | some k :: r, j0, j + 1, h => by
    have := conF_ref (a := a) (f := f) (l := r) (j0 := j0 + 1) (j := j) (by simpa using h)
    simpa [conF] using this
theorem conF_len (a : Nat → Nat) (f : Nat → Int32) : ∀ (l : List (Option Nat)) (j0 : Nat), (conF a f l j0).length = l.length
  | [], _ => rfl
  | none :: r, j0 => by simp [conF, conF_len a f r]
  | some k :: r, j0 => by simp [conF, conF_len a f r]
theorem conF_congr {a : Nat → Nat} {f g : Nat → Int32} : ∀ {l : List (Option Nat)} {j0 : Nat}, (∀ j, j0 ≤ j → f j = g j) → conF a f l j0 = conF a g l j0
  | [], _, _ => rfl
  | none :: r, j0, h => by
    simp only [conF, h j0 (Nat.le_refl _)]
    rw [conF_congr (l := r) (fun j hj => h j (by omega))]
  | some k :: r, j0, h => by
    simp only [conF]
    rw [conF_congr (l := r) (fun j hj => h j (by omega))]
theorem conF_set {a : Nat → Nat} {f : Nat → Int32} {v : Int32} : ∀ {l : List (Option Nat)} {j0 j : Nat}, l[j]? = some none → conF a (upd f (j0 + j) v) l j0 = (conF a f l j0).set j (.int v)
  | [], _, _, h => by simp at h
  | none :: r, j0, 0, _ => by
    simp only [conF, List.set_cons_zero]
    rw [conF_congr (l := r) (g := f) (fun j hj => by simp [upd]; omega)]
    simp [upd]
  | some k :: r, j0, 0, h => by simp at h
  | none :: r, j0, j + 1, h => by
    have := conF_set (a := a) (f := f) (v := v) (l := r) (j0 := j0 + 1) (j := j) (by simpa using h)
    rw [show j0 + (j + 1) = j0 + 1 + j by omega]
    simp only [conF, List.set_cons_succ, this]
    congr 2
    simp [upd]; omega
  | some k :: r, j0, j + 1, h => by
    have := conF_set (a := a) (f := f) (v := v) (l := r) (j0 := j0 + 1) (j := j) (by simpa using h)
    rw [show j0 + (j + 1) = j0 + 1 + j by omega]
    simp only [conF, List.set_cons_succ, this]
def conE (θ : Th) (f : Nat → Int32) : Sh → va_E
  | .inl (ci, fds) => .inr (ci, conF θ.1 f fds 0)
  | .inr (kd, n, rs) => .inl (θ.2.2 kd, n, if kd < 3 then .inl f else .inr (.inr (.inr (.inr (fun i => (rs[i]?).map θ.1)))))
def wsF (θ : Th) (σ : Sg) : List Sh → Nat → va_W
  | [], _ => []
  | s :: r, c => (θ.1 c, conE θ (σ c) s) :: wsF θ σ r (c + 1)
def wsOf (θ : Th) (σ : Sg) : va_W := wsF θ σ lay 0
theorem wsF_get (θ : Th) (σ : Sg) : ∀ (l : List Sh) (c k : Nat), (wsF θ σ l c)[k]? = (l[k]?).map (fun s => (θ.1 (c + k), conE θ (σ (c + k)) s))
  | [], c, k => by simp [wsF]
  | s :: r, c, 0 => by simp [wsF]
  | s :: r, c, k + 1 => by
    have := wsF_get θ σ r (c + 1) k
    rw [show c + (k + 1) = c + 1 + k by omega]
    simpa [wsF] using this
theorem wsOf_map (θ : Th) (σ : Sg) (k : Nat) : (wsOf θ σ)[k]? = (lay[k]?).map (fun s => (θ.1 k, conE θ (σ k) s)) := by
  have := wsF_get θ σ lay 0 k
  simpa [wsOf] using this
theorem wsOf_get {θ : Th} {σ : Sg} {k : Nat} {s : Sh} (h : lay[k]? = some s) : (wsOf θ σ)[k]? = some (θ.1 k, conE θ (σ k) s) := by rw [wsOf_map, h]; rfl
def upc (σ : Sg) (c : Nat) (f : Nat → Int32) : Sg := fun c' => if c' = c then f else σ c'
def up (σ : Sg) (c j : Nat) (v : Int32) : Sg := upc σ c (upd (σ c) j v)
theorem wsOf_upc {θ : Th} {σ : Sg} {c : Nat} {f : Nat → Int32} {s : Sh} (h : lay[c]? = some s) : (wsOf θ σ).set c (θ.1 c, conE θ f s) = wsOf θ (upc σ c f) := by
  apply List.ext_getElem?
  intro k
  rw [List.getElem?_set]
  have hlen : c < (wsOf θ σ).length := (List.getElem?_eq_some_iff.mp (wsOf_get (θ := θ) (σ := σ) h)).1
  by_cases hk : c = k
  · subst hk
    rw [if_pos rfl, if_pos hlen, wsOf_map, h]
    simp [upc]
  · rw [if_neg hk, wsOf_map, wsOf_map]
    have : upc σ c f k = σ k := by simp [upc]; intro q; exact absurd q.symm hk
    rw [this]
theorem up_self (σ : Sg) (c j : Nat) (v : Int32) : up σ c j v c j = v := by simp [up, upc, upd]
theorem up_c (σ : Sg) (c j : Nat) (v : Int32) {c' : Nat} (h : c' ≠ c) : up σ c j v c' = σ c' := by simp [up, upc, h]
theorem up_j (σ : Sg) (c j : Nat) (v : Int32) {j' : Nat} (h : j' ≠ j) : up σ c j v c j' = σ c j' := by simp [up, upc, upd, h]
theorem up_same (σ : Sg) (c j : Nat) (v : Int32) : up σ c j v c = upd (σ c) j v := by simp [up, upc]
theorem upc_same (σ : Sg) (c : Nat) (f : Nat → Int32) : upc σ c f c = f := by simp [upc]
theorem upc_c (σ : Sg) (c : Nat) (f : Nat → Int32) {c' : Nat} (h : c' ≠ c) : upc σ c f c' = σ c' := by simp [upc, h]
def Inj (θ : Th) : Prop := ∀ i j, i < 120 → j < 120 → θ.1 i = θ.1 j → i = j
def AA (θ : Th) (q : Nat) : Prop := ∃ c, c < 120 ∧ q = θ.1 c
theorem wsOf_D {θ : Th} (hI : Inj θ) {A : Nat → Prop} (hA : ∀ q, AA θ q → A q) (σ : Sg) : va_D A (wsOf θ σ) := by
  have at' : ∀ (k : Nat) (q : Nat × va_E), (wsOf θ σ)[k]? = some q → k < 120 ∧ q.1 = θ.1 k := by
    intro k q h
    rw [wsOf_map] at h
    cases hl : lay[k]? with
    | none => rw [hl] at h; cases h
    | some s =>
      rw [hl] at h
      have hk : k < lay.length := (List.getElem?_eq_some_iff.mp hl).1
      rw [lay_length] at hk
      cases h
      exact ⟨hk, rfl⟩
  refine ⟨fun i j p q hp hq he => ?_, fun k q hk => ?_⟩
  · obtain ⟨h1, h2⟩ := at' i p hp
    obtain ⟨h3, h4⟩ := at' j q hq
    exact hI i j h1 h3 (by rw [← h2, ← h4, he])
  · obtain ⟨h1, h2⟩ := at' k q hk
    exact hA _ ⟨k, h1, h2⟩
def tysOf (θ : Th) : List (ClassId × FieldType) := [(θ.2.2 0, .int), (θ.2.2 1, .boolean), (θ.2.2 2, .char), (θ.2.2 3, .object "NotWorn$Text"), (θ.2.2 4, .object "NotWorn$Row"), (θ.2.2 5, .object "NotWorn$Slot")]
-- what stands outside the world, and nobody changes
def abv (j : Nat) : Int32 := match j with
  | 0 => -1
  | 1 => 0
  | 2 => 0
  | 3 => 1
  | 4 => 2
  | _ => 0
def st_len : List Nat := [12, 3, 2, 2]
def st_byt : List (List Int32) := [[110, 101, 97, 114, 100, 105, 101, 115, 102, 105, 110, 101], [100, 102, 108], [97, 107], [121, 112]]
def st_idx : List Nat := [58, 103, 105, 107]
def st_txt : List String := ["neardiesfine", "dfl", "ak", "yp"]
def y_bit : MethodName := ⟨"NotWorn", "bit", "(Z)I"⟩
def Ev (θ : Th) (A : Nat → Prop) (U : State) (H : Heap) : Prop := va_K θ.2.1 classes (tysOf θ) U ∧ (va_Nw (.methodLinkNest "NotWorn$Laws" 33 y_bit "NotWorn") U ∧ va_Nw (.methodLinkNest "NotWorn$Valley" 128 y_bit "NotWorn") U) ∧ (va_Z "NotWorn$Kinds" "ABOVE" "[I" (.ref (θ.1 900)) A U H ∧ va_T .int (θ.1 900) 6 (fun j => .int (abv j)) A U H) ∧ (vk_S 4 st_len st_byt (fun i => θ.1 (901 + i)) (fun i => θ.1 (905 + i)) A U H ∧ ∀ i : Nat, i < 4 → vk_R "NotWorn$Tape" (st_idx.getD i 0) (st_txt.getD i "") (θ.1 (901 + i)) U) ∧ (va_Z "java/lang/String" "COMPACT_STRINGS" "Z" (.int 1) A U H ∧ va_Zq "jdk/internal/util/Preconditions" "SIOOBE_FORMATTER" "Ljava/util/function/BiFunction;" A U H)
theorem Ev.narrow {θ : Th} {A B : Nat → Prop} {U : State} {H : Heap} (h : Ev θ A U H) (hAB : ∀ q, B q → A q) : Ev θ B U H :=
  ⟨h.1, h.2.1, ⟨h.2.2.1.1.narrow hAB, h.2.2.1.2.narrow hAB⟩, ⟨h.2.2.2.1.1.narrow hAB, h.2.2.2.1.2⟩, ⟨h.2.2.2.2.1.narrow hAB, h.2.2.2.2.2.narrow hAB⟩⟩
theorem Ev.kept {θ : Th} {A : Nat → Prop} {U : State} {H H1 : Heap} (h : Ev θ A U H) (hq : ∀ a : Nat, a < H.size → ¬ A a → H1[a]? = H[a]?) : Ev θ A U H1 :=
  ⟨h.1, h.2.1, ⟨h.2.2.1.1.kept hq, h.2.2.1.2.kept hq⟩, ⟨h.2.2.2.1.1.kept hq, h.2.2.2.1.2⟩, ⟨h.2.2.2.2.1.kept hq, h.2.2.2.2.2.kept hq⟩⟩
theorem Ev.warm {θ : Th} {A : Nat → Prop} {s U : State} {H : Heap} (hW : s.WarmedH U.vm) (h : Ev θ A s H) : Ev θ A U H :=
  ⟨h.1.moved hW.alike, ⟨va_Nw.warmM hW h.2.1.1, va_Nw.warmM hW h.2.1.2⟩, ⟨h.2.2.1.1.moved hW.alike, h.2.2.1.2.moved hW.alike⟩, ⟨h.2.2.2.1.1.moved hW.alike, fun i hi => (h.2.2.2.1.2 i hi).warm hW⟩, ⟨h.2.2.2.2.1.moved hW.alike, h.2.2.2.2.2.moved hW.alike⟩⟩
theorem Ev.same {θ : Th} {A : Nat → Prop} {s U : State} {H : Heap} (hv : s.vm = U.vm) (h : Ev θ A s H) : Ev θ A U H :=
  have ha : s.vm.Alike U.vm := hv ▸ Vm.Alike.refl _
  ⟨h.1.moved ha, ⟨va_Nw.same rfl hv h.2.1.1, va_Nw.same rfl hv h.2.1.2⟩, ⟨h.2.2.1.1.moved ha, h.2.2.1.2.moved ha⟩, ⟨h.2.2.2.1.1.moved ha, fun i hi => (h.2.2.2.1.2 i hi).same hv.symm⟩, ⟨h.2.2.2.2.1.moved ha, h.2.2.2.2.2.moved ha⟩⟩
-- locals
def prsF (a : Nat → Nat) : Lc → Nat → List (Nat × Value)
  | [], _ => []
  | none :: r, j => prsF a r (j + 1)
  | some v :: r, j => (j, conc a v) :: prsF a r (j + 1)
theorem prsF_mem {a : Nat → Nat} {v : AV} : ∀ {L : Lc} {j0 k : Nat}, L[k]? = some (some v) → (j0 + k, conc a v) ∈ prsF a L j0
  | [], _, _, h => by simp at h
  | none :: r, j0, 0, h => by simp at h
  | some w :: r, j0, 0, h => by simp at h; simp [prsF, h]
  | none :: r, j0, k + 1, h => by
    have := prsF_mem (a := a) (v := v) (L := r) (j0 := j0 + 1) (k := k) (by simpa using h)
    rw [show j0 + (k + 1) = j0 + 1 + k by omega]; simpa [prsF] using this
  | some w :: r, j0, k + 1, h => by
    have := prsF_mem (a := a) (v := v) (L := r) (j0 := j0 + 1) (k := k) (by simpa using h)
    rw [show j0 + (k + 1) = j0 + 1 + k by omega]; simp only [prsF, List.mem_cons]; exact Or.inr this
theorem prsF_of {a : Nat → Nat} : ∀ {L : Lc} {j0 : Nat} {q : Nat × Value}, q ∈ prsF a L j0 → ∃ (k : Nat) (v : AV), q = (j0 + k, conc a v) ∧ L[k]? = some (some v)
  | [], _, _, h => by simp [prsF] at h
  | none :: r, j0, q, h => by
    obtain ⟨k, v, h1, h2⟩ := prsF_of (a := a) (L := r) (j0 := j0 + 1) (q := q) (by simpa [prsF] using h)
    exact ⟨k + 1, v, by rw [h1]; congr 1; omega, by simpa using h2⟩
  | some w :: r, j0, q, h => by
    simp only [prsF, List.mem_cons] at h
    rcases h with h | h
    · exact ⟨0, w, by simpa using h, by simp⟩
    · obtain ⟨k, v, h1, h2⟩ := prsF_of (a := a) (L := r) (j0 := j0 + 1) (q := q) h
      exact ⟨k + 1, v, by rw [h1]; congr 1; omega, by simpa using h2⟩
def prs (a : Nat → Nat) (L : Lc) : List (Nat × Value) := prsF a L 0
theorem prs_mem {a : Nat → Nat} {L : Lc} {k : Nat} {v : AV} (h : L[k]? = some (some v)) : (k, conc a v) ∈ prs a L := by
  have := prsF_mem (a := a) (j0 := 0) h
  simpa [prs] using this
theorem prs_of {a : Nat → Nat} {L : Lc} {q : Nat × Value} (h : q ∈ prs a L) : ∃ (k : Nat) (v : AV), q = (k, conc a v) ∧ L[k]? = some (some v) := by
  obtain ⟨k, v, h1, h2⟩ := prsF_of h
  exact ⟨k, v, by simpa using h1, h2⟩
theorem lvh_sub {ls : Array Slot} {n : Nat} {l l' : List (Nat × Value)} (h : lv_has ls n l) (hs : ∀ q ∈ l', q ∈ l) : lv_has ls n l' := ⟨h.1, h.2.1, fun q hq => h.2.2 q (hs q hq)⟩
theorem lvh_at {ls : Array Slot} {n : Nat} {a : Nat → Nat} {L : Lc} (h : lv_has ls n (prs a L)) {k : Nat} {v : AV} (hk : L[k]? = some (some v)) : ls[k]? = some (.val (conc a v)) := h.2.2 _ (prs_mem hk)
theorem lvh_set {ls : Array Slot} {n : Nat} {a : Nat → Nat} {L : Lc} {k : Nat} {v : AV} (hk : k < L.length) (h : lv_has ls n ((k, conc a v) :: (prs a L).filter (fun q => !(q.1 == k) && !(q.1 + 1 == k && q.2.category == 2)))) : lv_has ls n (prs a (L.set k (some v))) := by
  refine lvh_sub h fun q hq => ?_
  obtain ⟨j, w, h1, h2⟩ := prs_of hq
  rw [List.getElem?_set] at h2
  by_cases hj : k = j
  · subst hj
    rw [if_pos rfl, if_pos hk] at h2
    cases h2
    rw [h1]; exact List.mem_cons_self
  · rw [if_neg hj] at h2
    refine List.mem_cons_of_mem _ (List.mem_filter.mpr ⟨by rw [h1]; exact prs_mem h2, ?_⟩)
    rw [h1]
    simp [conc_cat, Ne.symm hj]
/-- less is known of the locals -/
theorem lvh_forget {ls : Array Slot} {n : Nat} {a : Nat → Nat} {L L' : Lc} (h : lv_has ls n (prs a L)) (hs : ∀ (k : Nat) (v : AV), L'[k]? = some (some v) → L[k]? = some (some v)) : lv_has ls n (prs a L') :=
  lvh_sub h fun q hq => by
    obtain ⟨k, v, h1, h2⟩ := prs_of hq
    rw [h1]; exact prs_mem (hs k v h2)
-- the frame in which a method runs
abbrev Fr : Type := Program × Launch × Env × Room × State × MethodId × Array Value × List Frame × Method × Code
abbrev Cx : Type := Th × Fr × (Nat → Prop) × (Nat × Nat) × (State → Prop)
def X (Γ : Cx) (pc : Nat) (L : Lc) (st : List AV) (σ : Sg) : Prop := match Γ with
  | (θ, (p, l, e, R, s, m, args, below, meth, c), A, (kc, ks), Q) => ∀ (H : Heap) (locs : List Loc) (ls : Array Slot), va_P θ.2.1 classes (wsOf θ σ) H → va_S A s.heap H locs → lv_has ls L.length (prs θ.1 L) → W p l e R s m args below meth c H locs kc ks Q (F0 m pc ls (st.map (conc θ.1)))
/-- what is known of the frame: code and tables -/
def Ok (Γ : Cx) (own : String) (b : ByteArray) (nL : Nat) : Prop := match Γ with
  | (θ, (p, _, _, _, s, m, args, _, _, c), A, _, _) => p.tables.exec = Jvm.exec ∧ c.code = b ∧ c.maxLocals = nL ∧ s.vm.findClass own = some m.cls ∧ (∀ w ∈ TB, w.before args s = true) ∧ Ev θ A s s.heap ∧ Inj θ ∧ ∀ q, AA θ q → A q
