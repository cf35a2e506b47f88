/-! the world that the two constructors leave is the layer's -/
def EE : List En := es_W_end ++ es_M_end.map (shE 95)
def piK (k : Nat) : Nat := if k < 70 then k else if k < 93 then k + 2 else if k < 95 then k - 23 else k
def sg0 : En → Nat → Int32
  | .inl (_, fs), j => (match fs[j]? with | some (.inl v) => v | _ => 0)
  | .inr (.inl (_, _, us)), j => lku us j
  | .inr (.inr _), _ => 0
def mtF : List (Option Nat) → List FV → Bool
  | [], [] => true
  | none :: r, .inl _ :: r' => mtF r r'
  | some k :: r, .inr (some k') :: r' => decide (k < 120) && decide (piK k = k') && mtF r r'
  | _, _ => false
def mt : Sh → En → Bool
  | .inl (ci, fds), .inl (ci', fs) => decide (ci = ci') && mtF fds fs
  | .inr (kd, n, _), .inr (.inl (kd', n', _)) => decide (kd = kd') && decide (n = n') && decide (kd < 3)
  | .inr (kd, n, rs), .inr (.inr (kd', n', qs)) => decide (kd = kd') && decide (n = n') && decide (3 ≤ kd) && decide (rs.length ≤ 20) && qs.all (fun q => decide (q.1 < 20)) && rs.all (fun k => decide (k < 120)) && (List.range 20).all (fun i => decide ((rs[i]?).map piK = lkr qs i))
  | _, _ => false
theorem mtF_ok {a t : Nat → Nat} (h : ∀ k, k < 120 → t k = a (piK k)) {f : Nat → Int32} : ∀ (fds : List (Option Nat)) (fs : List FV) (j0 : Nat), mtF fds fs = true → (∀ j v, fs[j]? = some (.inl v) → f (j0 + j) = v) → conF t f fds j0 = fs.map (cFV a)
  | [], [], _, _, _ => rfl
  | none :: r, .inl v :: r', j0, hm, hf => by
    rw [conF, List.map_cons, cFV, mtF_ok h r r' (j0 + 1) hm (fun j v hj => by rw [show j0 + 1 + j = j0 + (j + 1) by omega]; exact hf (j + 1) v hj)]
    rw [show f j0 = v from hf 0 v rfl]
  | some k :: r, .inr (some k') :: r', j0, hm, hf => by
    rw [mtF, Bool.and_eq_true, Bool.and_eq_true] at hm
    rw [conF, List.map_cons, cFV, mtF_ok h r r' (j0 + 1) hm.2 (fun j v hj => by rw [show j0 + 1 + j = j0 + (j + 1) by omega]; exact hf (j + 1) v hj), h k (of_decide_eq_true hm.1.1), of_decide_eq_true hm.1.2]
  | [], _ :: _, _, hm, _ => by cases hm
  | none :: _, [], _, hm, _ => by cases hm
  | none :: _, .inr _ :: _, _, hm, _ => by cases hm
  | some _ :: _, [], _, hm, _ => by cases hm
  | some _ :: _, .inl _ :: _, _, hm, _ => by cases hm
  | some _ :: _, .inr none :: _, _, hm, _ => by cases hm
theorem lkr_none : ∀ (qs : List (Nat × Nat)) (i : Nat), (∀ q ∈ qs, q.1 ≠ i) → lkr qs i = none
  | [], _, _ => rfl
  | q :: r, i, h => by
    rw [lkr, if_neg (fun e => h q List.mem_cons_self e.symm)]
    exact lkr_none r i (fun x hx => h x (List.mem_cons_of_mem _ hx))
theorem mt_ok {θ : Th} {a : Nat → Nat} (h : ∀ k, k < 120 → θ.1 k = a (piK k)) : ∀ (s : Sh) (e : En), mt s e = true → conE θ (sg0 e) s = cEn θ.2.2 a e
  | .inl (ci, fds), .inl (ci', fs), hm => by
    rw [mt, Bool.and_eq_true] at hm
    rw [conE, cEn, mtF_ok h fds fs 0 hm.2 (fun j v hj => by rw [Nat.zero_add, sg0, hj]), of_decide_eq_true hm.1]
  | .inr (kd, n, rs), .inr (.inl (kd', n', us)), hm => by
    rw [mt, Bool.and_eq_true, Bool.and_eq_true] at hm
    rw [conE, cEn, if_pos (of_decide_eq_true hm.2), of_decide_eq_true hm.1.1, of_decide_eq_true hm.1.2]
    rfl
  | .inr (kd, n, rs), .inr (.inr (kd', n', qs)), hm => by
    simp only [mt, Bool.and_eq_true] at hm
    obtain ⟨⟨⟨⟨⟨⟨h1, h2⟩, h3⟩, h4⟩, h5⟩, h6⟩, h7⟩ := hm
    have h1 := of_decide_eq_true h1
    have h2 := of_decide_eq_true h2
    have h3 := of_decide_eq_true h3
    have h4 := of_decide_eq_true h4
    have hf : (fun i => (rs[i]?).map θ.1) = (fun j => (lkr qs j).map a) := by
      funext i
      by_cases hi : i < 20
      · have h8 := List.all_eq_true.mp h7 i (List.mem_range.mpr hi)
        rw [← of_decide_eq_true h8]
        cases hr : rs[i]? with
        | none => rfl
        | some k => rw [Option.map_some, Option.map_some, Option.map_some, h k (of_decide_eq_true (List.all_eq_true.mp h6 k (List.mem_of_getElem? hr)))]
      · rw [List.getElem?_eq_none (by omega), lkr_none qs i (fun q hq => by have := of_decide_eq_true (List.all_eq_true.mp h5 q hq); omega)]; rfl
    rw [conE, cEn, if_neg (by omega), h1, h2, hf]
  | .inl _, .inr (.inl _), hm => by cases hm
  | .inl _, .inr (.inr _), hm => by cases hm
  | .inr _, .inl _, hm => by cases hm
def eN (k : Nat) : En := (EE[piK k]?).getD (.inr (.inl (0, 0, [])))
def sig0 : Sg := fun k => sg0 (eN k)
def mtA (k : Nat) : Bool := match lay[k]?, EE[piK k]? with
  | some s, some e => mt s e
  | _, _ => false
theorem lay_mt : (List.range 120).all mtA = true := by decide +kernel
theorem EE_len : EE.length = 120 := by decide +kernel
theorem piK_lt : ∀ k, k < 120 → piK k < 120 := by decide +kernel
theorem piK_inj : ∀ i, i < 120 → ∀ j, j < 120 → piK i = piK j → i = j := by decide +kernel
theorem world0 {θ : Th} {a : Nat → Nat} (h : ∀ k, k < 120 → θ.1 k = a (piK k)) {k : Nat} {q : Nat × va_E} (hq : (wsOf θ sig0)[k]? = some q) : (wsE θ.2.2 a EE 0)[piK k]? = some q := by
  rw [wsOf_map] at hq
  cases hl : lay[k]? with
  | none => rw [hl] at hq; cases hq
  | some s =>
    have hk : k < 120 := by
      have := (List.getElem?_eq_some_iff.mp hl).1
      rw [lay_length] at this; exact this
    have hm := List.all_eq_true.mp lay_mt k (List.mem_range.mpr hk)
    rw [hl] at hq
    cases he : EE[piK k]? with
    | none => rw [mtA, hl, he] at hm; cases hm
    | some e =>
      rw [mtA, hl, he] at hm
      have e1 : sig0 k = sg0 e := by rw [sig0, eN, he]; rfl
      rw [wsE_get he, Nat.zero_add, ← hq, Option.map_some, e1, mt_ok h s e hm, h k hk]
theorem EE_ws {tc : Nat → ClassId} {a u v : Nat → Nat} (h1 : ∀ k, k < 95 → a k = u k) (h2 : ∀ k, a (k + 95) = v k) : wsE tc a EE 0 = wsE tc u es_W_end 0 ++ wsE tc v es_M_end 0 := by
  have e2 := wsE_sh (tc := tc) h2 es_M_end 0
  have hl : 0 + es_W_end.length = 0 + 95 := by decide +kernel
  rw [EE, wsE_app, wsE_congr (n := 95) h1 es_W_end 0 (by decide +kernel) (by decide +kernel), hl, e2]
theorem inj0 {θ : Th} {a : Nat → Nat} {A : Nat → Prop} {tc : Nat → ClassId} (h : ∀ k, k < 120 → θ.1 k = a (piK k)) (hD : va_D A (wsE tc a EE 0)) : Inj θ ∧ ∀ q, AA θ q → A q := by
  have get : ∀ k, k < 120 → ∃ x, (wsE tc a EE 0)[piK k]? = some (θ.1 k, x) := fun k hk => by
    have hl : piK k < EE.length := by rw [EE_len]; exact piK_lt k hk
    have h1 : EE[piK k]? = some (EE[piK k]'hl) := List.getElem?_eq_getElem hl
    exact ⟨cEn tc a (EE[piK k]'hl), by rw [wsE_get h1, Nat.zero_add, h k hk]⟩
  refine ⟨fun i j hi hj e => ?_, fun q hq => ?_⟩
  · obtain ⟨x, hx⟩ := get i hi
    obtain ⟨y, hy⟩ := get j hj
    exact piK_inj i hi j hj (hD.1 _ _ _ _ hx hy e)
  · obtain ⟨c, hc, rfl⟩ := hq
    obtain ⟨x, hx⟩ := get c hc
    exact hD.2 _ _ hx
theorem cor0 : Cor sig0 := by
  refine ⟨0, 0, 0, 0, ⟨⟨by decide +kernel, by omega, by decide +kernel, by omega, by decide +kernel, by omega, by decide +kernel, by omega, fun i hi => by omega, fun i hi => by omega⟩, by omega, fun p hp => by omega, ⟨⟨by decide +kernel, by decide +kernel, by decide +kernel, by decide +kernel, by decide +kernel, by decide +kernel⟩, by decide +kernel, fun p hp => by omega, fun i hi => by omega, by decide +kernel⟩, fun i ky ln hi => by omega⟩, ⟨false, by decide +kernel, by decide +kernel, fun h => by cases h⟩, ⟨0, by omega, by decide +kernel, by decide +kernel, rfl⟩, ⟨fun s hs => ⟨Or.inl ((by decide +kernel : ∀ s, s < 4 → sig0 111 s = -1) s hs), 0, by omega, (by decide +kernel : ∀ s, s < 4 → sig0 112 s = nI 0) s hs⟩, by unfold SH; decide +kernel⟩, ?_, ⟨0, by omega, by decide +kernel, by decide +kernel, rfl⟩, by decide +kernel, by decide +kernel⟩
  have h0 : ∀ s, s < 5 → sig0 114 s = 0 := by decide +kernel
  refine ⟨fun s hs => ⟨Or.inl (h0 s hs), fun q => ?_⟩, fun k hk => ⟨(by decide +kernel : ∀ k, k < 5 → sig0 (78 + 3 * k) 0 = sig0 114 k) k hk, fun q => ?_, fun q => ?_, fun q => ?_⟩⟩
  · rw [h0 s hs] at q; exact absurd q (by decide)
  · rw [h0 k hk] at q; exact absurd q (by decide)
  · rw [h0 k hk] at q; exact absurd q (by decide)
  · rw [h0 k hk] at q; exact absurd q (by decide)
