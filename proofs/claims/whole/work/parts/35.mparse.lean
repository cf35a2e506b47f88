/-! the reference's waiting signs -/
def rkI (x : Int32) : Int32 := if x = -1 then 1 else if x = -2 then 2 else if -5 ≤ x then 3 else if -7 ≤ x then 4 else if -9 ≤ x then 5 else 6
theorem rkI_op : ∀ s, 1 ≤ s → s < 11 → rkI (opI s) = nI (rnk s) := by
  intro s h1 h2
  rcases (show s = 1 ∨ s = 2 ∨ s = 3 ∨ s = 4 ∨ s = 5 ∨ s = 6 ∨ s = 7 ∨ s = 8 ∨ s = 9 ∨ s = 10 by omega) with rfl | rfl | rfl | rfl | rfl | rfl | rfl | rfl | rfl | rfl <;> decide
theorem opI_inj : ∀ a, a < 12 → ∀ b, b < 12 → opI a = opI b → a = b := by decide
theorem rnk_le (s : Nat) : rnk s ≤ 6 := by unfold rnk; split; omega; split; omega; split; omega; split; omega; split <;> omega
def opsOk (w : List Nat) : Prop := ∀ s ∈ w, 1 ≤ s ∧ s ≤ 11
theorem stl_ok (r : Nat) : ∀ (w : List Nat) (o : List Int32), opsOk w → opsOk (stl r w o).1 ∧ (stl r w o).1.length + (stl r w o).2.length = w.length + o.length
  | [], o, h => ⟨h, rfl⟩
  | s :: w, o, h => by
    rw [stl]
    split
    · have := stl_ok r w (opI s :: o) (fun x hx => h x (List.mem_cons_of_mem _ hx))
      refine ⟨this.1, ?_⟩
      rw [this.2]; simp; omega
    · exact ⟨h, rfl⟩
theorem stl_len (r : Nat) : ∀ (w : List Nat) (o : List Int32), (stl r w o).1.length ≤ w.length
  | [], _ => Nat.le_refl _
  | s :: w, o => by
    rw [stl]
    split
    · have := stl_len r w (opI s :: o)
      simp only [List.length_cons]
      omega
    · exact Nat.le_refl _
section
variable {l : Launch} {θ : Th} {σ : Sg} {T : Nat}
theorem c_M_rank (x : Int32) : Ci l θ 1 m_M_rank [.inl x] σ (fun r σ' => σ' = σ ∧ r = rkI x) := by
  refine Ci.of (Or.inr mi_M_rank) pk_M_rank (nb rfl) (Or.inl rfl) [some (.inl x)] rfl fun Γ hG hR => ?_
  refine hG.br rfl rfl rfl rfl (fun k1 => ?_) (fun k1 => ?_)
  · refine hG.br rfl rfl rfl rfl (fun k2 => ?_) (fun k2 => ?_)
    · refine hG.br rfl rfl rfl rfl (fun k3 => ?_) (fun k3 => ?_)
      · refine hG.br rfl rfl rfl rfl (fun k4 => ?_) (fun k4 => ?_)
        · refine hG.br rfl rfl rfl rfl (fun k5 => ?_) (fun k5 => ?_)
          · refine hG.rt hR rfl rfl rfl rfl ?_
            exact ⟨rfl, by rw [rkI, if_neg k1, if_neg k2, if_neg (i32_nle.mpr k3), if_neg (i32_nle.mpr k4), if_neg (i32_nle.mpr k5)]⟩
          · refine hG.rt hR rfl rfl rfl rfl ?_
            exact ⟨rfl, by rw [rkI, if_neg k1, if_neg k2, if_neg (i32_nle.mpr k3), if_neg (i32_nle.mpr k4), if_pos (i32_nlt.mp k5)]⟩
        · refine hG.rt hR rfl rfl rfl rfl ?_
          exact ⟨rfl, by rw [rkI, if_neg k1, if_neg k2, if_neg (i32_nle.mpr k3), if_pos (i32_nlt.mp k4)]⟩
      · refine hG.rt hR rfl rfl rfl rfl ?_
        exact ⟨rfl, by rw [rkI, if_neg k1, if_neg k2, if_pos (i32_nlt.mp k3)]⟩
    · refine hG.rt hR rfl rfl rfl rfl ?_
      exact ⟨rfl, by rw [rkI, if_neg k1, if_pos k2]⟩
  · refine hG.rt hR rfl rfl rfl rfl ?_
    exact ⟨rfl, by rw [rkI, if_pos k1]⟩
theorem c_M_settle (r : Nat) (hr : r ≤ 6) : ∀ (w : List Nat) (o : List Int32) (σ : Sg), opsOk w → w.length + o.length ≤ 96 → StkR (σ 107) (w.map opI) → σ 95 24 = nI w.length → StkR (σ 106) o → σ 95 21 = nI o.length → Cv l θ 2 m_M_settle [.inr 95, .inl (nI r)] σ (fun σ' => StkR (σ' 107) ((stl r w o).1.map opI) ∧ σ' 95 24 = nI (stl r w o).1.length ∧ StkR (σ' 106) (stl r w o).2 ∧ σ' 95 21 = nI (stl r w o).2.length ∧ Sm [95, 106] σ σ' ∧ F95 [21, 24] σ σ') := by
  intro w0 o0 σ h1 h2 h3 h4 h5 h6
  refine Cv.of (Or.inl mi_M_settle) pk_M_settle (nb rfl) rfl [some (.inr 95), some (.inl (nI r))] rfl fun Γ hG hR => ?_
  have loop : ∀ (w : List Nat) (o : List Int32) (τ : Sg), opsOk w → w.length + o.length ≤ 96 → StkR (τ 107) (w.map opI) → τ 95 24 = nI w.length → StkR (τ 106) o → τ 95 21 = nI o.length → Sm [95, 106] σ τ → F95 [21, 24] σ τ → stl r w0 o0 = stl r w o → X Γ 0 [some (.inr 95), some (.inl (nI r))] [] τ := by
    intro w
    induction w with
    | nil =>
      intro o τ a1 a2 a3 a4 a5 a6 a7 a8 he
      refine hG.br rfl rfl rfl rfl (fun k1 => ?_) (fun k1 => ?_)
      · refine hG.rv hR rfl rfl rfl ?_
        rw [he]
        exact ⟨a3, a4, a5, a6, a7, a8⟩
      · rw [a4] at k1
        exact absurd (show nI 0 ≤ 0 by decide) k1
    | cons s w ih =>
      intro o τ a1 a2 a3 a4 a5 a6 a7 a8 he
      simp only [List.length_cons] at a2 a4
      simp only [List.map_cons] at a3
      have hs := a1 s List.mem_cons_self
      have e107 : τ 107 w.length = opI s := by have := a3.1; rwa [List.length_map] at this
      have hend : ¬ (s ≠ 11 ∧ r ≤ rnk s) → X Γ 82 [some (.inr 95), some (.inl (nI r))] [] τ := by
        intro hn
        refine hG.rv hR rfl rfl rfl ?_
        rw [he, stl, if_neg hn]
        exact ⟨a3, a4, a5, a6, a7, a8⟩
      refine hG.br rfl rfl rfl rfl (fun k1 => ?_) (fun k1 => ?_)
      · rw [a4] at k1
        exact absurd k1 (nI_nle (by omega) (by omega))
      · refine hG.ld rfl w.length rfl rfl rfl rfl (by rw [a4]; exact nI_pred _) (by omega) ?_
        rw [e107]
        refine hG.br rfl rfl rfl rfl (fun k2 => ?_) (fun k2 => ?_)
        · have : s = 11 := opI_inj s (by omega) 11 (by omega) k2
          exact hend (fun q => q.1 this)
        · have hs11 : s ≠ 11 := fun e => k2 (by rw [e]; rfl)
          refine hG.ld rfl w.length rfl rfl rfl rfl (by rw [a4]; exact nI_pred _) (by omega) ?_
          rw [e107]
          refine hG.cS lk_M_232 mi_M_rank rfl rfl (c_M_rank (opI s)) rfl rfl rfl rfl rfl rfl ?_
          rintro x τ ⟨rfl, rfl⟩
          rw [rkI_op s hs.1 (by omega)]
          refine hG.br rfl rfl rfl rfl (fun k3 => ?_) (fun k3 => ?_)
          · exact hend (fun q => absurd k3 (nI_nlt q.2 (by have := rnk_le s; omega)))
          · have hrk : r ≤ rnk s := Nat.not_lt.mp (fun q => k3 (nI_lt q (by omega)))
            rw [stl, if_pos ⟨hs11, hrk⟩] at he
            refine hG.ld rfl w.length rfl rfl rfl rfl (by rw [up_self, a4]; exact nI_pred _) (by omega) ?_
            rw [up_c _ _ _ _ (show 107 ≠ 95 by decide), e107]
            refine hG.sti rfl o.length rfl rfl rfl (by rw [up_j _ _ _ _ (by decide)]; exact a6) (by omega) ?_
            refine hG.jp rfl rfl rfl ?_
            refine ih (opI s :: o) _ (fun x hx => a1 x (List.mem_cons_of_mem _ hx)) (by simp; omega) ?_ ?_ ?_ ?_ (((a7.up (by decide)).up (by decide)).up (by decide)) (((a8.up (by decide)).upo (by decide)).up (by decide)) he
            · rw [up_c _ _ _ _ (show 107 ≠ 95 by decide), up_c _ _ _ _ (show 107 ≠ 106 by decide), up_c _ _ _ _ (show 107 ≠ 95 by decide)]; exact a3.2
            · rw [up_j _ _ _ _ (by decide), up_c _ _ _ _ (by decide), up_self, a4]; exact nI_pred _
            · rw [up_c _ _ _ _ (show 106 ≠ 95 by decide), up_same, up_c _ _ _ _ (show 106 ≠ 95 by decide)]
              exact ⟨upd_same _ _ _, StkR_upd a5 (Nat.le_refl _)⟩
            · rw [up_self, up_c _ _ _ _ (by decide), up_j _ _ _ _ (by decide), a6, nI_1]; rfl
  exact loop w0 o0 σ h1 h2 h3 h4 h5 h6 Sm.rf F95.rf rfl
theorem StkR_at {g : Nat → Int32} : ∀ {s : List Int32} {i : Nat} {x : Int32}, StkR g s → s.reverse[i]? = some x → g i = x
  | [], i, x, _, h => by simp at h
  | y :: s, i, x, hR, h => by
    rw [List.reverse_cons] at h
    by_cases hi : i < s.reverse.length
    · rw [List.getElem?_append_left hi] at h
      exact StkR_at hR.2 h
    · rw [List.getElem?_append_right (by omega)] at h
      have h0 : i - s.reverse.length = 0 := by
        cases hq : i - s.reverse.length with
        | zero => rfl
        | succ k => rw [hq] at h; simp at h
      rw [h0] at h
      simp at h
      rw [List.length_reverse] at hi h0
      rw [show i = s.length by omega, ← h]
      exact hR.1
def cntN (w : List Nat) : Nat := w.count 10
theorem c_M_notsOpen (w : List Nat) (hw : opsOk w) (hl : w.length ≤ 96) (h1 : StkR (σ 107) (w.map opI)) (h2 : σ 95 24 = nI w.length) : Ci l θ 1 m_M_notsOpen [.inr 95] σ (fun r σ' => σ' = σ ∧ r = nI (cntN w)) := by
  refine Ci.of (Or.inl mi_M_notsOpen) pk_M_notsOpen (nb rfl) (Or.inl rfl) [some (.inr 95), none, none] rfl fun Γ hG hR => ?_
  have loop : ∀ m k a, k + m = w.length → cntN w = a + (w.reverse.drop k).count 10 → X Γ 4 [some (.inr 95), some (.inl (nI a)), some (.inl (nI k))] [] σ := by
    intro m
    induction m with
    | zero =>
      intro k a hk he
      rw [List.drop_eq_nil_of_le (by rw [List.length_reverse]; omega)] at he
      refine hG.br rfl rfl rfl rfl (fun k1 => ?_) (fun k1 => ?_)
      · refine hG.rt hR rfl rfl rfl rfl ?_
        exact ⟨rfl, by rw [he]; rfl⟩
      · rw [h2] at k1
        exact absurd (nI_le (show w.length ≤ k by omega) (by omega)) k1
    | succ m ih =>
      intro k a hk he
      have hkl : k < w.reverse.length := by rw [List.length_reverse]; omega
      rw [List.drop_eq_getElem_cons hkl, List.count_cons] at he
      have hx : w.reverse[k]? = some w.reverse[k] := List.getElem?_eq_getElem hkl
      have hop := hw _ (List.mem_reverse.mp (List.getElem_mem hkl))
      have hv : σ 107 k = opI w.reverse[k] := StkR_at h1 (by rw [← List.map_reverse, List.getElem?_map, hx]; rfl)
      refine hG.br rfl rfl rfl rfl (fun k1 => ?_) (fun k1 => ?_)
      · rw [h2] at k1
        exact absurd k1 (nI_ge (by omega) (by omega))
      · refine hG.ld rfl k rfl rfl rfl rfl rfl (by omega) ?_
        rw [hv]
        refine hG.br rfl rfl rfl rfl (fun k2 => ?_) (fun k2 => ?_)
        · have hne : ¬ w.reverse[k] = 10 := fun e => k2 (by rw [e]; rfl)
          refine hG.jp rfl rfl rfl ?_
          rw [nI_1, show nI a + 0 = nI (a + 0) from nI_add a 0]
          exact ih (k + 1) (a + 0) (by omega) (by rw [he, if_neg (by simpa using hne)]; omega)
        · have heq : w.reverse[k] = 10 := opI_inj _ (by omega) 10 (by omega) k2
          refine hG.jp rfl rfl rfl ?_
          rw [nI_1, nI_1]
          exact ih (k + 1) (a + 1) (by omega) (by rw [he, if_pos (by rw [heq]; rfl)]; omega)
  exact hG.go 4 rfl rfl (loop w.length 0 0 (by omega) (by rw [List.drop_zero, List.count_reverse, cntN]; omega))
theorem c_M_signHere (tp : Nat → Int32) (L : Lx) (hL : LxM σ tp L) (hk : L.2.2 = 0 ∨ L.2.2 = 1 ∨ L.2.2 = 2 ∨ L.2.2 = 3 ∨ L.2.2 = 4) : Ci l θ 1 m_M_signHere [.inr 95] σ (fun r σ' => σ' = σ ∧ r = opI (opL tp L)) := by
  obtain ⟨l13, l12, l0, l1, l2, l3, l4, l5, l6⟩ := hL
  refine Ci.of (Or.inl mi_M_signHere) pk_M_signHere (nb rfl) (Or.inl rfl) [some (.inr 95)] rfl fun Γ hG hR => ?_
  refine hG.br rfl rfl rfl rfl (fun k1 => ?_) (fun k1 => ?_)
  · have hk3 : L.2.2 = 3 := by
      rcases hk with h | h | h | h | h
      · rw [l0 h] at k1; exact absurd k1 (by decide)
      · rw [(l1 h).1] at k1; exact absurd k1 (by decide)
      · by_cases hle : L.2.1 - L.1 ≤ 4
        · rw [((l2 h).1 hle).1] at k1; exact absurd k1 (by decide)
        · rw [(l2 h).2 hle] at k1; exact absurd k1 (by decide)
      · exact h
      · rw [l4 h] at k1; exact absurd k1 (by decide)
    have e : opL tp L = opB (tp L.1) := by rw [opL, if_pos hk3]
    refine hG.lsw [(38, 98), (42, 116), (43, 110), (45, 113), (47, 119), (60, 101), (61, 104), (62, 107), (124, 96)] 122 rfl rfl rfl (by decide +kernel) ?_ ?_
    · intro k t hkt hx
      rw [(l3 hk3).2] at hx
      simp only [List.mem_cons, List.not_mem_nil, or_false, Prod.mk.injEq] at hkt
      rcases hkt with ⟨rfl, rfl⟩ | ⟨rfl, rfl⟩ | ⟨rfl, rfl⟩ | ⟨rfl, rfl⟩ | ⟨rfl, rfl⟩ | ⟨rfl, rfl⟩ | ⟨rfl, rfl⟩ | ⟨rfl, rfl⟩ | ⟨rfl, rfl⟩
      · refine hG.rt hR rfl rfl rfl rfl ?_
        exact ⟨rfl, by rw [e, tsw_x (w := 38) hx rfl]; rfl⟩
      · refine hG.rt hR rfl rfl rfl rfl ?_
        exact ⟨rfl, by rw [e, tsw_x (w := 42) hx rfl]; rfl⟩
      · refine hG.rt hR rfl rfl rfl rfl ?_
        exact ⟨rfl, by rw [e, tsw_x (w := 43) hx rfl]; rfl⟩
      · refine hG.rt hR rfl rfl rfl rfl ?_
        exact ⟨rfl, by rw [e, tsw_x (w := 45) hx rfl]; rfl⟩
      · refine hG.rt hR rfl rfl rfl rfl ?_
        exact ⟨rfl, by rw [e, tsw_x (w := 47) hx rfl]; rfl⟩
      · refine hG.rt hR rfl rfl rfl rfl ?_
        exact ⟨rfl, by rw [e, tsw_x (w := 60) hx rfl]; rfl⟩
      · refine hG.rt hR rfl rfl rfl rfl ?_
        exact ⟨rfl, by rw [e, tsw_x (w := 61) hx rfl]; rfl⟩
      · refine hG.rt hR rfl rfl rfl rfl ?_
        exact ⟨rfl, by rw [e, tsw_x (w := 62) hx rfl]; rfl⟩
      · refine hG.rt hR rfl rfl rfl rfl ?_
        exact ⟨rfl, by rw [e, tsw_x (w := 124) hx rfl]; rfl⟩
    · intro hno
      rw [(l3 hk3).2] at hno
      have n0 : ∀ (v : Int32) (i : Int) (t : Nat), (i, t) ∈ [((38 : Int), 98), (42, 116), (43, 110), (45, 113), (47, 119), (60, 101), (61, 104), (62, 107), (124, 96)] → v.toInt = i → ¬ tp L.1 = v := fun v i t hm hv h => hno _ hm (by rw [h, hv])
      have e0 : opB (tp L.1) = 0 := by
        rw [opB, if_neg (n0 124 124 96 (by decide) rfl), if_neg (n0 38 38 98 (by decide) rfl), if_neg (n0 60 60 101 (by decide) rfl), if_neg (n0 61 61 104 (by decide) rfl), if_neg (n0 62 62 107 (by decide) rfl), if_neg (n0 43 43 110 (by decide) rfl), if_neg (n0 45 45 113 (by decide) rfl), if_neg (n0 42 42 116 (by decide) rfl), if_neg (n0 47 47 119 (by decide) rfl)]
      refine hG.rt hR rfl rfl rfl rfl ?_
      exact ⟨rfl, by rw [e, e0]; rfl⟩
  · have hk3 : ¬ L.2.2 = 3 := fun h => k1 (l3 h).1
    refine hG.rt hR rfl rfl rfl rfl ?_
    exact ⟨rfl, by rw [opL, if_neg hk3]; rfl⟩
theorem c_M_nameOf (key : Nat) (x : Int32) (hk : key < 3) (h17 : σ 95 17 = nI key) : Ci l θ 1 m_M_nameOf [.inr 95, .inl x] σ (fun r σ' => σ' = σ ∧ r = optN (-1) (nmIx key x)) := by
  refine Ci.of (Or.inl mi_M_nameOf) pk_M_nameOf (nb rfl) (Or.inl rfl) [some (.inr 95), some (.inl x)] rfl fun Γ hG hR => ?_
  refine hG.lsw [(0, 32), (1, 64)] 86 rfl rfl rfl (by decide +kernel) ?_ ?_
  · intro k t hkt hx
    rw [h17] at hx
    simp only [List.mem_cons, List.not_mem_nil, or_false, Prod.mk.injEq] at hkt
    rcases hkt with ⟨rfl, rfl⟩ | ⟨rfl, rfl⟩
    · have hk0 : key = 0 := (nI_eq (by omega) (by omega)).mp (show nI key = nI 0 from tsw_x hx rfl)
      subst hk0
      refine hG.br rfl rfl rfl rfl (fun k1 => ?_) (fun k1 => ?_)
      · refine hG.br rfl rfl rfl rfl (fun k2 => ?_) (fun k2 => ?_)
        · refine hG.br rfl rfl rfl rfl (fun k3 => ?_) (fun k3 => ?_)
          · refine hG.rt hR rfl rfl rfl rfl ?_
            exact ⟨rfl, by rw [nmIx, if_pos rfl, if_neg k1, if_neg k2, if_neg k3]; rfl⟩
          · refine hG.rt hR rfl rfl rfl rfl ?_
            exact ⟨rfl, by rw [nmIx, if_pos rfl, if_neg k1, if_neg k2, if_pos k3]; rfl⟩
        · refine hG.rt hR rfl rfl rfl rfl ?_
          exact ⟨rfl, by rw [nmIx, if_pos rfl, if_neg k1, if_pos k2]; rfl⟩
      · refine hG.rt hR rfl rfl rfl rfl ?_
        exact ⟨rfl, by rw [nmIx, if_pos rfl, if_pos k1]; rfl⟩
    · have hk1 : key = 1 := (nI_eq (by omega) (by omega)).mp (show nI key = nI 1 from tsw_x hx rfl)
      subst hk1
      refine hG.br rfl rfl rfl rfl (fun k1 => ?_) (fun k1 => ?_)
      · refine hG.br rfl rfl rfl rfl (fun k2 => ?_) (fun k2 => ?_)
        · refine hG.rt hR rfl rfl rfl rfl ?_
          exact ⟨rfl, by rw [nmIx, if_neg (by decide), if_pos rfl, if_neg k1, if_neg k2]; rfl⟩
        · refine hG.rt hR rfl rfl rfl rfl ?_
          exact ⟨rfl, by rw [nmIx, if_neg (by decide), if_pos rfl, if_neg k1, if_pos k2]; rfl⟩
      · refine hG.rt hR rfl rfl rfl rfl ?_
        exact ⟨rfl, by rw [nmIx, if_neg (by decide), if_pos rfl, if_pos k1]; rfl⟩
  · intro hno
    rw [h17] at hno
    have k0 : key ≠ 0 := fun e => hno (0, 32) (by decide) (by rw [e]; rfl)
    have k1' : key ≠ 1 := fun e => hno (1, 64) (by decide) (by rw [e]; rfl)
    refine hG.br rfl rfl rfl rfl (fun k1 => ?_) (fun k1 => ?_)
    · refine hG.br rfl rfl rfl rfl (fun k2 => ?_) (fun k2 => ?_)
      · refine hG.rt hR rfl rfl rfl rfl ?_
        exact ⟨rfl, by rw [nmIx, if_neg k0, if_neg k1', if_neg k1, if_neg k2]; rfl⟩
      · refine hG.rt hR rfl rfl rfl rfl ?_
        exact ⟨rfl, by rw [nmIx, if_neg k0, if_neg k1', if_neg k1, if_pos k2]; rfl⟩
    · refine hG.rt hR rfl rfl rfl rfl ?_
      exact ⟨rfl, by rw [nmIx, if_neg k0, if_neg k1', if_pos k1]; rfl⟩
theorem LxOk_kind {tp : Nat → Int32} {T : Nat} {L : Lx} (h : LxOk tp T L) : L.2.2 = 0 ∨ L.2.2 = 1 ∨ L.2.2 = 2 ∨ L.2.2 = 3 ∨ L.2.2 = 4 := by
  rcases h with ⟨h, -⟩ | ⟨h, -⟩ | ⟨h, -⟩
  · exact Or.inl h
  · exact Or.inr (Or.inr (Or.inr (Or.inl h)))
  · rcases h with h | h | h
    · exact Or.inr (Or.inl h)
    · exact Or.inr (Or.inr (Or.inl h))
    · exact Or.inr (Or.inr (Or.inr (Or.inr h)))
theorem c_M_adv (tp : Nat → Int32) (L : Lx) (htp : σ 103 = tp) (hT : σ 95 11 = nI T) (hT96 : T ≤ 96) (hok : LxOk tp T L) (hL : LxM σ tp L) (hk : L.2.2 = 1 ∨ L.2.2 = 2 ∨ L.2.2 = 3) : Cv l θ 2 m_M_go [.inr 95] σ (fun σ' => LxM σ' tp (advL tp T L) ∧ Sm [95] σ σ' ∧ F95 [12, 13, 14, 15, 16] σ σ') := by
  obtain ⟨l13, l12, l0, l1, l2, l3, l4, l5, l6⟩ := hL
  have h := c_M_go (l := l) (θ := θ) (σ := σ) (T := T) L.2.1 (isW L) hT hT96 (LxOk_le hok).2.1 l12 (fun hw => l5 (by simpa [isW] using hw)) (fun hw q h1 h2 => l6 (by
    have : ¬ (L.2.2 = 1 ∨ L.2.2 = 2) := by simpa [isW] using hw
    rcases hk with h | h | h
    · exact absurd (Or.inl h) this
    · exact absurd (Or.inr h) this
    · exact h) q h1 h2)
  rw [htp] at h
  exact h
end
/-- the reference's reader: words, signs that wait, code, leaves -/
def SyM (σ : Sg) (tp : Nat → Int32) (T key : Nat) (L : Lx) (w : List Nat) (o : List Int32) (lv : Nat) : Prop := σ 103 = tp ∧ σ 95 11 = nI T ∧ T ≤ 96 ∧ σ 95 17 = nI key ∧ key < 3 ∧ LxOk tp T L ∧ LxM σ tp L ∧ StkR (σ 107) (w.map opI) ∧ σ 95 24 = nI w.length ∧ StkR (σ 106) o ∧ σ 95 21 = nI o.length ∧ σ 95 22 = nI lv ∧ opsOk w ∧ w.length + o.length ≤ L.1 ∧ lv ≤ o.length
section
variable {l : Launch} {θ : Th} {σ : Sg} {T key lv : Nat} {tp : Nat → Int32} {L : Lx} {w : List Nat} {o : List Int32}
theorem leafL_kind {v : Nat} (h : leafL tp key L = some v) : (L.2.2 = 2 ∧ L.2.1 - L.1 ≤ 4 ∧ v = numN tp (L.2.1 - L.1) L.1 0) ∨ (L.2.2 = 1 ∧ L.2.1 - L.1 = 1 ∧ ∃ i, nmIx key (tp L.1) = some i ∧ v = 10000 + i) := by
  unfold leafL at h
  split at h
  · rename_i h2
    split at h
    · rename_i h3; cases h; exact Or.inl ⟨h2, h3, rfl⟩
    · cases h
  · split at h
    · rename_i h1
      split at h
      · rename_i h3
        cases hn : nmIx key (tp L.1) with
        | none => rw [hn] at h; cases h
        | some i => rw [hn] at h; cases h; exact Or.inr ⟨h1, h3, i, rfl, rfl⟩
      · cases h
    · cases h
theorem c_M_takesPart (h : SyM σ tp T key L w o lv) : Ci l θ 3 m_M_takesPart [.inr 95] σ (fun r σ' => (leafL tp key L = none → r = 0 ∧ σ' = σ) ∧ (∀ v, leafL tp key L = some v → r = 1 ∧ SyM σ' tp T key (advL tp T L) (stl 6 w (nI v :: o)).1 (stl 6 w (nI v :: o)).2 (lv + 1) ∧ Sm [95, 106] σ σ' ∧ F95 [12, 13, 14, 15, 16, 21, 22, 24] σ σ')) := by
  obtain ⟨htp, hT, hT96, hkey, hk3, hok, hL, hw, hwl, ho, hol, hlv, hops, hle, hlvo⟩ := h
  have hL0 := hL
  obtain ⟨l13, l12, l0, l1, l2, l3, l4, l5, l6⟩ := hL
  have hLle := LxOk_le hok
  refine Ci.of (Or.inl mi_M_takesPart) pk_M_takesPart (nb rfl) (Or.inr rfl) [some (.inr 95), none] rfl fun Γ hG hR => ?_
  have bad : leafL tp key L = none → ∀ b : Bool, b = false → ¬ σ 95 14 = 2 → X Γ 37 [some (.inr 95), none] [.inl (bi b)] σ := by
    rintro hn b rfl h2
    refine hG.br rfl rfl rfl rfl (fun k1 => absurd k1 h2) (fun k1 => ?_)
    refine hG.br rfl rfl rfl rfl (fun k2 => ?_) (fun k2 => ?_)
    · exact absurd rfl k2
    · refine hG.rz hR rfl rfl rfl rfl (Or.inl rfl) ?_
      exact ⟨fun _ => ⟨rfl, rfl⟩, fun v hv => by rw [hn] at hv; cases hv⟩
  -- the leaf is at hand
  have good : ∀ (v : Nat) (w1 : Option AV), leafL tp key L = some v → L.1 < T → X Γ 87 [some (.inr 95), w1] [.inl (nI v), .inl (nI o.length), .inr 106] σ := by
    intro v w1 hv hlt
    refine hG.sti rfl o.length rfl rfl rfl rfl (by omega) ?_
    have hset := c_M_settle (l := l) (θ := θ) 6 (by omega) w (nI v :: o) (up (up (up σ 106 o.length (nI v)) 95 21 (nI (o.length + 1))) 95 22 (nI (lv + 1))) hops (by simp; omega) (by rw [up_c _ _ _ _ (by decide), up_c _ _ _ _ (by decide), up_c _ _ _ _ (by decide)]; exact hw) (by rw [up_j _ _ _ _ (by decide), up_j _ _ _ _ (by decide), up_c _ _ _ _ (by decide)]; exact hwl) (by
      rw [up_c _ _ _ _ (show 106 ≠ 95 by decide), up_c _ _ _ _ (show 106 ≠ 95 by decide), up_same]
      exact ⟨upd_same _ _ _, StkR_upd ho (Nat.le_refl _)⟩) (by rw [up_j _ _ _ _ (by decide), up_self]; rfl)
    have e : up (up (up σ 106 o.length (nI v)) 95 21 (up σ 106 o.length (nI v) 95 21 + 1)) 95 22 (up (up σ 106 o.length (nI v)) 95 21 (up σ 106 o.length (nI v) 95 21 + 1) 95 22 + 1) = up (up (up σ 106 o.length (nI v)) 95 21 (nI (o.length + 1))) 95 22 (nI (lv + 1)) := by
      rw [up_j _ _ _ _ (show 22 ≠ 21 by decide), up_c _ _ _ _ (show 95 ≠ 106 by decide), hol, hlv, nI_1, nI_1]
    refine hG.go 14 rfl rfl ?_
    rw [e]
    generalize hτ : up (up (up σ 106 o.length (nI v)) 95 21 (nI (o.length + 1))) 95 22 (nI (lv + 1)) = τ at hset ⊢
    have hSτ : Sm [95, 106] σ τ := by rw [← hτ]; exact ((Sm.rf.up (by decide)).up (by decide)).up (by decide)
    have hFτ : F95 [21, 22, 24] σ τ := by rw [← hτ]; exact ((F95.rf.upo (by decide)).up (by decide)).up (by decide)
    have hlvτ : τ 95 22 = nI (lv + 1) := by rw [← hτ, up_self]
    refine hG.cVv lk_M_244 mi_M_settle rfl rfl hset rfl rfl rfl rfl rfl rfl rfl rfl ?_
    rintro τ2 ⟨p1, p2, p3, p4, p5, p6⟩
    have hS2 := hSτ.tr p5
    have hF2 := hFτ.tr (p6.mono (ks := [21, 22, 24]) (by decide))
    have hL2 : LxM τ2 tp L := by
      refine ⟨?_, ?_, ?_, ?_, ?_, ?_, ?_, ?_, ?_⟩
      · rw [hF2 13 (by decide)]; exact l13
      · rw [hF2 12 (by decide)]; exact l12
      · rw [hF2 14 (by decide)]; exact l0
      · rw [hF2 14 (by decide), hF2 15 (by decide)]; exact l1
      · rw [hF2 14 (by decide), hF2 15 (by decide)]; exact l2
      · rw [hF2 14 (by decide), hF2 15 (by decide)]; exact l3
      · rw [hF2 14 (by decide)]; exact l4
      · rw [hF2 16 (by decide)]; exact l5
      · rw [hF2 16 (by decide)]; exact l6
    have hkd : L.2.2 = 1 ∨ L.2.2 = 2 ∨ L.2.2 = 3 := by
      rcases leafL_kind hv with ⟨h1, -⟩ | ⟨h1, -⟩
      · exact Or.inr (Or.inl h1)
      · exact Or.inl h1
    refine hG.cVv lk_M_226 mi_M_go rfl rfl (c_M_adv (T := T) tp L (by rw [hS2 103 (by decide)]; exact htp) (by rw [hF2 11 (by decide)]; exact hT) hT96 hok hL2 hkd) rfl rfl rfl rfl rfl rfl rfl rfl ?_
    rintro τ3 ⟨q1, q2, q3⟩
    refine hG.rz hR rfl rfl rfl rfl (Or.inr rfl) ?_
    refine ⟨fun hn => (by rw [hv] at hn; cases hn), fun v2 hv2 => ?_⟩
    rw [hv] at hv2; cases hv2
    have hst := stl_ok 6 w (nI v :: o) hops
    have hadv := advL_ok hok
    have h106 : τ3 106 = τ2 106 := q2 106 (by decide)
    have h107 : τ3 107 = τ2 107 := q2 107 (by decide)
    refine ⟨rfl, ⟨by rw [q2 103 (by decide), hS2 103 (by decide)]; exact htp, by rw [q3 11 (by decide), hF2 11 (by decide)]; exact hT, hT96, by rw [q3 17 (by decide), hF2 17 (by decide)]; exact hkey, hk3, hadv.1, q1, by rw [h107]; exact p1, by rw [q3 24 (by decide)]; exact p2, by rw [h106]; exact p3, by rw [q3 21 (by decide)]; exact p4, ?_, hst.1, ?_, ?_⟩, hS2.tr (q2.mono (by decide)), (hF2.mono (by decide)).tr (q3.mono (by decide))⟩
    · rw [q3 22 (by decide), p6 22 (by decide)]; exact hlvτ
    · have hlt2 : L.1 < L.2.1 := by
        rcases hok with ⟨h, -⟩ | ⟨h, h1, h2, -⟩ | ⟨-, h, -⟩
        · omega
        · omega
        · exact h
      have h1 := hst.2
      simp only [List.length_cons] at h1
      have h2 := hadv.2
      omega
    · have h1 := stl_len 6 w (nI v :: o)
      have h2 := hst.2
      simp only [List.length_cons] at h2
      omega
  have hlt : ∀ v, leafL tp key L = some v → L.1 < T := fun v hv => by
    rcases hok with ⟨h, -⟩ | ⟨-, h, -⟩ | ⟨-, h, h2, -⟩
    · rcases leafL_kind hv with ⟨h1, -⟩ | ⟨h1, -⟩ <;> rw [h] at h1 <;> cases h1
    · exact h
    · omega
  -- from 37 on with a name
  have name : ∀ i, L.2.2 = 1 → leafL tp key L = some (10000 + i) → nmIx key (tp L.1) = some i → X Γ 37 [some (.inr 95), none] [.inl (bi true)] σ := by
    intro i hk1 hv hn
    refine hG.br rfl rfl rfl rfl (fun k1 => ?_) (fun k1 => ?_)
    · rw [(l1 hk1).1] at k1; exact absurd k1 (by decide)
    · refine hG.br rfl rfl rfl rfl (fun k2 => ?_) (fun k2 => ?_)
      · refine hG.br rfl rfl rfl rfl (fun k3 => ?_) (fun k3 => ?_)
        · refine hG.go 4 rfl rfl ?_
          rw [(l1 hk1).2, hol]
          refine hG.cV lk_M_238 mi_M_nameOf rfl rfl (c_M_nameOf key (tp L.1) hk3 hkey) rfl rfl rfl rfl rfl rfl rfl rfl ?_
          rintro x τ ⟨rfl, rfl⟩
          rw [hn]
          refine hG.go 1 rfl rfl ?_
          rw [show (10000 : Int32) + optN (-1) (some i) = nI (10000 + i) from nI_add 10000 i]
          exact good _ _ hv (hlt _ hv)
        · rw [(l1 hk1).1] at k3; exact absurd k3 (by decide)
      · exact absurd k2 (by decide)
  refine hG.br rfl rfl rfl rfl (fun k1 => ?_) (fun k1 => ?_)
  · -- no word
    have hk1 : ¬ L.2.2 = 1 := fun h => k1 (l1 h).1
    by_cases h2 : σ 95 14 = 2
    · have hk2 : L.2.2 = 2 ∧ L.2.1 - L.1 ≤ 4 := by
        rcases LxOk_kind hok with h | h | h | h | h
        · rw [l0 h] at h2; exact absurd h2 (by decide)
        · exact absurd h hk1
        · by_cases hle2 : L.2.1 - L.1 ≤ 4
          · exact ⟨h, hle2⟩
          · rw [(l2 h).2 hle2] at h2; exact absurd h2 (by decide)
        · rw [(l3 h).1] at h2; exact absurd h2 (by decide)
        · rw [l4 h] at h2; exact absurd h2 (by decide)
      have hv : leafL tp key L = some (numN tp (L.2.1 - L.1) L.1 0) := by rw [leafL, if_pos hk2.1, if_pos hk2.2]
      refine hG.go 1 rfl rfl ?_
      refine hG.br rfl rfl rfl rfl (fun k2 => ?_) (fun k2 => absurd h2 k2)
      refine hG.br rfl rfl rfl rfl (fun k3 => absurd h2 k3) (fun k3 => ?_)
      refine hG.go 3 rfl rfl ?_
      rw [((l2 hk2.1).1 hk2.2).2, hol]
      exact good _ _ hv (hlt _ hv)
    · have hn : leafL tp key L = none := by
        cases hlf : leafL tp key L with
        | none => rfl
        | some v =>
          rcases leafL_kind hlf with ⟨h, hle2, -⟩ | ⟨h, -⟩
          · exact absurd ((l2 h).1 hle2).1 h2
          · exact absurd h hk1
      exact hG.go 1 rfl rfl (bad hn false rfl h2)
  · have hk1 : L.2.2 = 1 := by
      rcases LxOk_kind hok with h | h | h | h | h
      · rw [l0 h] at k1; exact absurd k1 (by decide)
      · exact h
      · by_cases hle2 : L.2.1 - L.1 ≤ 4
        · rw [((l2 h).1 hle2).1] at k1; exact absurd k1 (by decide)
        · rw [(l2 h).2 hle2] at k1; exact absurd k1 (by decide)
      · rw [(l3 h).1] at k1; exact absurd k1 (by decide)
      · rw [l4 h] at k1; exact absurd k1 (by decide)
    have h2 : ¬ σ 95 14 = 2 := by rw [k1]; decide
    refine hG.br rfl rfl rfl rfl (fun k2 => ?_) (fun k2 => ?_)
    · rw [l12, l13, pk_sub hLle.2.2] at k2
      have hne : ¬ L.2.1 - L.1 = 1 := fun e => k2 (by rw [e]; rfl)
      have hn : leafL tp key L = none := by rw [leafL, if_neg (by rw [hk1]; decide), if_pos hk1, if_neg hne]
      exact hG.go 1 rfl rfl (bad hn false rfl h2)
    · rw [l12, l13, pk_sub hLle.2.2] at k2
      have heq : L.2.1 - L.1 = 1 := (nI_eq (by omega) (by omega)).mp (show nI (L.2.1 - L.1) = nI 1 from k2)
      have hlf : leafL tp key L = (nmIx key (tp L.1)).map (fun i => 10000 + i) := by rw [leafL, if_neg (by rw [hk1]; decide), if_pos hk1, if_pos heq]
      refine hG.go 3 rfl rfl ?_
      rw [(l1 hk1).2]
      refine hG.cV lk_M_238 mi_M_nameOf rfl rfl (c_M_nameOf key (tp L.1) hk3 hkey) rfl rfl rfl rfl rfl rfl rfl rfl ?_
      rintro x τ ⟨rfl, rfl⟩
      cases hn : nmIx key (tp L.1) with
      | none =>
        rw [hn] at hlf
        refine hG.br rfl rfl rfl rfl (fun k3 => ?_) (fun k3 => ?_)
        · exact hG.go 1 rfl rfl (bad hlf false rfl h2)
        · exact absurd (show optN (-1) none < 0 by decide) k3
      | some i =>
        rw [hn] at hlf
        refine hG.br rfl rfl rfl rfl (fun k3 => ?_) (fun k3 => ?_)
        · have hi : i < 2 ^ 31 := by
            have : i ≤ 2 := by
              unfold nmIx at hn
              split at hn
              · split at hn
                · cases hn; omega
                · split at hn
                  · cases hn; omega
                  · split at hn <;> cases hn; omega
              · split at hn
                · split at hn
                  · cases hn; omega
                  · split at hn <;> cases hn; omega
                · split at hn
                  · cases hn; omega
                  · split at hn <;> cases hn; omega
            omega
          exact absurd (show nI i < 0 from k3) (nI_pos hi)
        · exact hG.go 2 rfl rfl (name i hk1 hlf hn)
end
