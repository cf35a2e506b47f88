/-! the class's reading: what is drafted so far, and the reference's turns -/
def dpL : List Int32 → Nat
  | [] => 0
  | c :: o => if 0 ≤ c then dpL o + 1 else if c = -10 then dpL o else dpL o - 1
def wfL (m : Nat) : List Int32 → Prop
  | [] => True
  | c :: o => wfL m o ∧ (0 ≤ c → c < nI (10000 + m)) ∧ (¬ 0 ≤ c → c = -10 → 1 ≤ dpL o) ∧ (¬ 0 ≤ c → ¬ c = -10 → 2 ≤ dpL o ∧ -10 ≤ c)
def CPs (σ : Sg) (tp : Nat → Int32) (T key : Nat) (L : Lx) (o : List Int32) (lv : Nat) : Prop := σ 65 = tp ∧ σ 64 1 = nI T ∧ T ≤ 96 ∧ LxOk tp T L ∧ LxC σ L ∧ σ 66 0 = nI key ∧ key < 3 ∧ StkR (σ 67) (o.map stC) ∧ σ 66 2 = nI o.length ∧ σ 66 1 = nI lv ∧ wfL (nmK key) o
def Go (tp : Nat → Int32) (T key : Nat) (S S' : SyS) : Prop := ∀ n res, syR tp T key n S' = some res → ∃ n', syR tp T key n' S = some res
def Fl (tp : Nat → Int32) (T key : Nat) (S : SyS) (s : Nat) : Prop := ∃ n, syR tp T key n S = some (.inl s)
def fl (u : List Nat) (om : List Int32) : List Int32 := (u.map opI).reverse ++ om
def Blk (r : Nat) (w : List Nat) : Prop := w = [] ∨ ∃ s w', w = s :: w' ∧ (s = 11 ∨ rnk s < r)
theorem Go.rf {tp : Nat → Int32} {T key : Nat} {S : SyS} : Go tp T key S S := fun n _ h => ⟨n, h⟩
theorem Go.tr {tp : Nat → Int32} {T key : Nat} {S S1 S2 : SyS} (h : Go tp T key S S1) (h2 : Go tp T key S1 S2) : Go tp T key S S2 := fun n res hr => by
  obtain ⟨n1, h1⟩ := h2 n res hr
  exact h n1 res h1
theorem Go.fl {tp : Nat → Int32} {T key : Nat} {S S1 : SyS} {s : Nat} (h : Go tp T key S S1) (h2 : Fl tp T key S1 s) : Fl tp T key S s := by
  obtain ⟨n, hn⟩ := h2
  exact h n _ hn
theorem Go.step {tp : Nat → Int32} {T key : Nat} {L : Lx} {w : List Nat} {o : List Int32} {lv nots : Nat} {wants : Bool} {tst : List Bool} {S' : SyS} (h : syN tp T key (L, w, o, lv, wants, nots, tst) = some S') (hd : ¬ (wants = false ∧ L.2.2 = 0)) : Go tp T key (L, w, o, lv, wants, nots, tst) S' := fun n res hr => ⟨n + 1, by rw [syR, if_neg hd, h]; exact hr⟩
theorem Fl.of {tp : Nat → Int32} {T key : Nat} {L : Lx} {w : List Nat} {o : List Int32} {lv nots : Nat} {wants : Bool} {tst : List Bool} (h : syN tp T key (L, w, o, lv, wants, nots, tst) = none) (hd : ¬ (wants = false ∧ L.2.2 = 0)) : Fl tp T key (L, w, o, lv, wants, nots, tst) L.1 := ⟨1, by rw [syR, if_neg hd, h]⟩
theorem fl_nil (om : List Int32) : fl [] om = om := rfl
theorem fl_cons (s : Nat) (u : List Nat) (om : List Int32) : fl (s :: u) om = fl u (opI s :: om) := by simp [fl]
theorem fl_snoc (s : Nat) (u : List Nat) (om : List Int32) : fl (u ++ [s]) om = opI s :: fl u om := by simp [fl]
theorem stl_pre (r : Nat) : ∀ (u w : List Nat) (om : List Int32), (∀ s ∈ u, s ≠ 11 ∧ r ≤ rnk s) → stl r (u ++ w) om = stl r w (fl u om)
  | [], w, om, _ => rfl
  | s :: u, w, om, h => by
    rw [List.cons_append, stl, if_pos (h s List.mem_cons_self), stl_pre r u w _ (fun x hx => h x (List.mem_cons_of_mem _ hx)), fl_cons]
theorem Blk.eq {r : Nat} {w : List Nat} (h : Blk r w) (o : List Int32) : stl r w o = (w, o) := by
  rcases h with rfl | ⟨s, w', rfl, h⟩
  · rfl
  · rw [stl, if_neg (fun q => by
      rcases h with h | h
      · exact q.1 h
      · omega)]
theorem Blk.mono {r r' : Nat} {w : List Nat} (hr : r ≤ r') (h : Blk r w) : Blk r' w := by
  rcases h with h | ⟨s, w', e, h⟩
  · exact Or.inl h
  · exact Or.inr ⟨s, w', e, by rcases h with h | h; exact Or.inl h; exact Or.inr (by omega)⟩
theorem cntN_ne {s : Nat} {w : List Nat} (h : s ≠ 10) : cntN (s :: w) = cntN w := by rw [cntN, cntN, List.count_cons]; simp [h]
theorem opI_neg : ∀ s, s < 10 → 1 ≤ s → (¬ 0 ≤ opI s ∧ ¬ opI s = -10 ∧ -10 ≤ opI s) := by decide
theorem rnk_5 : ∀ s, s < 10 → 1 ≤ s → (1 ≤ rnk s ∧ rnk s ≤ 5) := by decide
theorem rnk_1 (s : Nat) : 1 ≤ rnk s := by unfold rnk; split; omega; split; omega; split; omega; split; omega; split <;> omega
theorem stC_op (x : Int32) (h : opB x ≠ 0) : stC (opI (opB x)) = -x := by
  by_cases h124 : x = 124
  · subst h124; decide
  by_cases h38 : x = 38
  · subst h38; decide
  by_cases h60 : x = 60
  · subst h60; decide
  by_cases h61 : x = 61
  · subst h61; decide
  by_cases h62 : x = 62
  · subst h62; decide
  by_cases h43 : x = 43
  · subst h43; decide
  by_cases h45 : x = 45
  · subst h45; decide
  by_cases h42 : x = 42
  · subst h42; decide
  by_cases h47 : x = 47
  · subst h47; decide
  exact absurd (by rw [opB, if_neg h124, if_neg h38, if_neg h60, if_neg h61, if_neg h62, if_neg h43, if_neg h45, if_neg h42, if_neg h47]) h
theorem opL_3 {tp : Nat → Int32} {L : Lx} (h : opL tp L ≠ 0) : L.2.2 = 3 ∧ opL tp L = opB (tp L.1) := by
  unfold opL at h ⊢
  by_cases h3 : L.2.2 = 3
  · rw [if_pos h3]; exact ⟨h3, rfl⟩
  · rw [if_neg h3] at h; exact absurd rfl h
theorem LxOk_3 {tp : Nat → Int32} {T : Nat} {L : Lx} (h : LxOk tp T L) (h3 : L.2.2 = 3) : L.1 < T ∧ L.2.1 = L.1 + 1 := by
  rcases h with ⟨h, -⟩ | ⟨-, h, h2, -⟩ | ⟨h, -⟩
  · omega
  · exact ⟨h, h2⟩
  · omega
theorem LxOk_w {tp : Nat → Int32} {T : Nat} {L : Lx} (h : LxOk tp T L) (h3 : L.2.2 = 1 ∨ L.2.2 = 2) : L.1 < L.2.1 ∧ L.2.1 ≤ T := by
  rcases h with ⟨h, -⟩ | ⟨h, -⟩ | ⟨-, h, h2, -⟩
  · omega
  · omega
  · exact ⟨h, h2⟩
theorem leafL_lt {tp : Nat → Int32} {T key v : Nat} {L : Lx} (hok : LxOk tp T L) (h : leafL tp key L = some v) : v < 10000 + nmK key := by
  rcases leafL_kind h with ⟨h1, h2, rfl⟩ | ⟨h1, h2, i, h3, rfl⟩
  · have hdig : ∀ i, L.1 ≤ i → i < L.1 + (L.2.1 - L.1) → kdB (tp i) = 2 := by
      rcases hok with ⟨h, -⟩ | ⟨h, -⟩ | ⟨-, h3, h4, -, h5, h6⟩
      · omega
      · omega
      · have e : kdB (tp L.1) = 2 := by rw [← h5 (by omega)]; exact h1
        rw [e] at h6
        intro i hi1 hi2
        exact rnE_in hi1 (by rw [← h6]; omega)
    have h7 := numN_lt tp (L.2.1 - L.1) L.1 0 hdig
    have h8 : 10 ^ (L.2.1 - L.1) ≤ 10 ^ 4 := Nat.pow_le_pow_right (by omega) h2
    rw [Nat.zero_add, Nat.one_mul] at h7
    omega
  · have := nmIx_lt h3
    omega
section
variable {l : Launch} {θ : Th} {σ σ' τ : Sg} {T key lv : Nat} {tp : Nat → Int32} {L : Lx} {o : List Int32}
theorem CPs.push (h : CPs σ tp T key L o lv) (c x : Int32) (lv' : Nat) (hx : stC c = x) (hw : wfL (nmK key) (c :: o)) (hs : Sm [66, 67] σ τ) (h67 : τ 67 = upd (σ 67) o.length x) (h2 : τ 66 2 = nI (o.length + 1)) (h1 : τ 66 1 = nI lv') (h0 : τ 66 0 = σ 66 0) : CPs τ tp T key L (c :: o) lv' := by
  obtain ⟨a1, a2, a3, a4, a5, a6, a7, a8, a9, a10, a11⟩ := h
  refine ⟨by rw [hs 65 (by decide)]; exact a1, by rw [hs 64 (by decide)]; exact a2, a3, a4, ?_, by rw [h0]; exact a6, a7, ?_, h2, h1, hw⟩
  · unfold LxC
    rw [hs 64 (by decide)]; exact a5
  · rw [h67, List.map_cons, hx]
    exact ⟨by rw [List.length_map, upd_same], StkR_upd a8 (by rw [List.length_map]; exact Nat.le_refl _)⟩
theorem CPs.adv (h : CPs σ tp T key L o lv) (hL : LxC τ (advL tp T L)) (hs : Sm [64] σ τ) (hf : F64 σ τ) : CPs τ tp T key (advL tp T L) o lv := by
  obtain ⟨a1, a2, a3, a4, a5, a6, a7, a8, a9, a10, a11⟩ := h
  refine ⟨by rw [hs 65 (by decide)]; exact a1, by rw [hf 1 (by decide) (by decide) (by decide)]; exact a2, a3, (advL_ok a4).1, hL, ?_, a7, ?_, ?_, ?_, a11⟩
  · rw [hs 66 (by decide)]; exact a6
  · rw [hs 67 (by decide)]; exact a8
  · rw [hs 66 (by decide)]; exact a9
  · rw [hs 66 (by decide)]; exact a10
theorem CPs.cadv (h : CPs σ tp T key L o lv) : Cv l θ 2 m_P_advance [.inr 64] σ (fun σ' => CPs σ' tp T key (advL tp T L) o lv ∧ Sm [64] σ σ') :=
  Cv.imp (c_P_adv h.1 h.2.1 h.2.2.1 h.2.2.2.1 h.2.2.2.2.1) (fun τ q => ⟨h.adv q.1 q.2.1 q.2.2, q.2.1⟩)
theorem CPs.chand (h : CPs σ tp T key L o lv) (x : Int32) : Ci l θ 1 m_P_atHand [.inr 64, .inl x] σ (fun r σ' => σ' = σ ∧ r = bi (sgnIs tp L x)) := c_P_atHand x h.1 h.2.1 h.2.2.1 h.2.2.2.1 h.2.2.2.2.1
theorem CPs.csign (h : CPs σ tp T key L o lv) (c x : Int32) (hx : stC c = -x) (hw : wfL (nmK key) (c :: o)) (ho : o.length < 96) : Cv l θ 2 m_X_addSign [.inr 66, .inl x] σ (fun σ' => CPs σ' tp T key L (c :: o) lv ∧ Sm [66, 67] σ σ') :=
  Cv.imp (c_X_addSign x o.length h.2.2.2.2.2.2.2.2.1 ho) (fun τ q => by
    have hs : Sm [66, 67] σ τ := by rw [q]; exact (Sm.rf.up (by decide)).up (by decide)
    refine ⟨h.push c (-x) lv hx hw hs ?_ ?_ ?_ ?_, hs⟩
    · rw [q, up_c _ _ _ _ (by decide), up_same]
    · rw [q, up_self]
    · rw [q, up_j _ _ _ _ (by decide), up_c _ _ _ _ (by decide)]; exact h.2.2.2.2.2.2.2.2.2.1
    · rw [q, up_j _ _ _ _ (by decide), up_c _ _ _ _ (by decide)])
theorem c_P_readLeaf (h : CPs σ tp T key L o lv) (hk : L.2.2 = 1 ∨ L.2.2 = 2) (ho : o.length < 96) : Ci l θ 7 m_P_readLeaf [.inr 64] σ (fun r σ' => (leafL tp key L = none → r = 0 ∧ σ' = σ) ∧ (∀ v, leafL tp key L = some v → r = 1 ∧ CPs σ' tp T key (advL tp T L) (nI v :: o) (lv + 1) ∧ Sm [64, 66, 67] σ σ')) := by
  obtain ⟨a1, a2, a3, a4, a5, a6, a7, a8, a9, a10, a11⟩ := id h
  refine Ci.of (Or.inl mi_P_readLeaf) pk_P_readLeaf (nb rfl) (Or.inr rfl) [some (.inr 64), none] rfl fun Γ hG hR => ?_
  have fin : X Γ 19 [some (.inr 64), none] [.inl (optN (-1) (leafL tp key L))] σ := by
    cases hlf : leafL tp key L with
    | none =>
      rw [hlf] at hR
      refine hG.br rfl rfl rfl rfl (fun k1 => ?_) (fun k1 => ?_)
      · exact absurd k1 (by decide)
      · refine hG.rz hR rfl rfl rfl rfl (Or.inl rfl) ?_
        exact ⟨fun _ => ⟨rfl, rfl⟩, fun v hv => by cases hv⟩
    | some v =>
      rw [hlf] at hR
      have hv := leafL_lt a4 hlf
      have hv3 : nmK key ≤ 3 := by unfold nmK; split <;> omega
      refine hG.br rfl rfl rfl rfl (fun k1 => ?_) (fun k1 => ?_)
      · refine hG.cVv lk_P_90 mi_X_addLeaf rfl rfl (c_X_addLeaf (nI v) o.length lv a9 ho a10) rfl rfl rfl rfl rfl rfl rfl rfl ?_
        rintro τ hτ
        have hs : Sm [66, 67] σ τ := by rw [hτ]; exact ((Sm.rf.up (by decide)).up (by decide)).up (by decide)
        have h0 : 0 ≤ nI v := nI_pos' (by omega)
        have hp : CPs τ tp T key L (nI v :: o) (lv + 1) := by
          refine h.push (nI v) (nI v) (lv + 1) (stC_pos h0) ⟨a11, fun _ => nI_lt hv (by omega), fun q => absurd h0 q, fun q => absurd h0 q⟩ hs ?_ ?_ ?_ ?_
          · rw [hτ, up_c _ _ _ _ (by decide), up_same, up_c _ _ _ _ (by decide)]
          · rw [hτ, up_self]
          · rw [hτ, up_j _ _ _ _ (by decide), up_c _ _ _ _ (by decide), up_self]
          · rw [hτ, up_j _ _ _ _ (by decide), up_c _ _ _ _ (by decide), up_j _ _ _ _ (by decide)]
        refine hG.cVv lk_P_32 mi_P_advance rfl rfl hp.cadv rfl rfl rfl rfl rfl rfl rfl rfl ?_
        rintro τ2 ⟨q1, q2⟩
        refine hG.rz hR rfl rfl rfl rfl (Or.inr rfl) ?_
        refine ⟨(fun q => by cases q), fun v' hv' => ?_⟩
        cases hv'
        exact ⟨rfl, q1, (hs.mono (by simp)).tr (q2.mono (by simp))⟩
      · exact absurd (show (0 : Int32) ≤ nI v from nI_pos' (by omega)) k1
  refine hG.br rfl rfl rfl rfl (fun k1 => ?_) (fun k1 => ?_)
  · rw [a5.2.2] at k1
    have h1 : L.2.2 = 1 := by
      rcases hk with h | h
      · exact h
      · exact absurd (by rw [h]; rfl) k1
    refine hG.cV lk_P_87 mi_P_nameAtHand rfl rfl (c_P_nameAtHand a7 a1 a6 a3 a4 a5 h1) rfl rfl rfl rfl rfl rfl rfl rfl ?_
    rintro x σ' ⟨rfl, rfl⟩
    exact fin
  · rw [a5.2.2] at k1
    have h2 : L.2.2 = 2 := (nI_eq (b := 2) (by have := LxOk_k4 a4; omega) (by omega)).mp k1
    refine hG.cV lk_P_84 mi_P_numberAtHand rfl rfl (c_P_numberAtHand (key := key) a1 a3 a4 a5 h2) rfl rfl rfl rfl rfl rfl rfl rfl ?_
    rintro x σ' ⟨rfl, rfl⟩
    exact hG.go 1 rfl rfl fin
end
