abbrev SyS : Type := Lx × List Nat × List Int32 × Nat × Bool × Nat × List Bool
/-- one turn of the reference's reader; none: no text goes on so -/
def syN (tp : Nat → Int32) (T key : Nat) (S : SyS) : Option SyS := match S with
  | (L, w, o, lv, wants, nots, tst) => if wants then (if sgnIs tp L 33 && decide (nots < 8) then some (advL tp T L, 10 :: w, o, lv, true, cntN (10 :: w), tst) else if sgnIs tp L 40 && decide (tst.length < 9) then some (advL tp T L, 11 :: w, o, lv, true, cntN (11 :: w), false :: tst) else match leafL tp key L with
      | none => none
      | some v => some (advL tp T L, (stl 6 w (nI v :: o)).1, (stl 6 w (nI v :: o)).2, lv + 1, false, cntN (stl 6 w (nI v :: o)).1, tst))
    else if sgnIs tp L 41 && decide (1 < tst.length) then some (advL tp T L, (stl 6 (stl 0 w o).1.tail (stl 0 w o).2).1, (stl 6 (stl 0 w o).1.tail (stl 0 w o).2).2, lv, false, cntN (stl 6 (stl 0 w o).1.tail (stl 0 w o).2).1, tst.tail)
    else if opL tp L = 0 ∨ (rnk (opL tp L) = 3 ∧ tst.headD false = true) then none
    else some (advL tp T L, opL tp L :: (stl (rnk (opL tp L)) w o).1, (stl (rnk (opL tp L)) w o).2, lv, true, nots, (decide (rnk (opL tp L) = 3) || (decide (3 < rnk (opL tp L)) && tst.headD false)) :: tst.tail)
def syR (tp : Nat → Int32) (T key : Nat) : Nat → SyS → Option (Nat ⊕ (List Int32 × Nat))
  | 0, _ => none
  | n + 1, S => match S with
    | (L, w, o, lv, wants, nots, tst) => if wants = false ∧ L.2.2 = 0 then (if tst.length = 1 then some (.inr ((stl 0 w o).2, lv)) else some (.inl L.1)) else match syN tp T key (L, w, o, lv, wants, nots, tst) with
      | none => some (.inl L.1)
      | some S' => syR tp T key n S'
theorem syN_op {tp : Nat → Int32} {T key : Nat} {L : Lx} {w : List Nat} {o : List Int32} {lv nots : Nat} {tst : List Bool} (c1 : (sgnIs tp L 41 && decide (1 < tst.length)) = false) : syN tp T key (L, w, o, lv, false, nots, tst) = if opL tp L = 0 ∨ (rnk (opL tp L) = 3 ∧ tst.headD false = true) then none
    else some (advL tp T L, opL tp L :: (stl (rnk (opL tp L)) w o).1, (stl (rnk (opL tp L)) w o).2, lv, true, nots, (decide (rnk (opL tp L) = 3) || (decide (3 < rnk (opL tp L)) && tst.headD false)) :: tst.tail) := by
  unfold syN
  dsimp only
  rw [if_neg (by decide), c1, if_neg (by decide)]
theorem opL_le (tp : Nat → Int32) (L : Lx) : opL tp L ≤ 9 := by
  unfold opL opB
  split
  · repeat (first | omega | split)
  · omega
theorem stl0_open : ∀ (w : List Nat) (o : List Int32), opsOk w → 1 ≤ w.count 11 → ∃ w', (stl 0 w o).1 = 11 :: w' ∧ w'.count 11 + 1 = w.count 11 ∧ opsOk w'
  | [], o, _, h => by simp at h
  | s :: w, o, hops, h => by
    rw [stl]
    by_cases hs : s = 11
    · subst hs
      rw [if_neg (fun q => q.1 rfl)]
      exact ⟨w, rfl, by simp, fun x hx => hops x (List.mem_cons_of_mem _ hx)⟩
    · rw [if_pos ⟨hs, Nat.zero_le _⟩]
      have hc : (s :: w).count 11 = w.count 11 := by rw [List.count_cons]; simp [hs]
      rw [hc] at h ⊢
      exact stl0_open w _ (fun x hx => hops x (List.mem_cons_of_mem _ hx)) h
theorem stl_cnt11 (r : Nat) : ∀ (w : List Nat) (o : List Int32), (stl r w o).1.count 11 = w.count 11
  | [], _ => rfl
  | s :: w, o => by
    rw [stl]
    split
    · rename_i h
      rw [stl_cnt11 r w, List.count_cons]; simp [h.1]
    · rfl
section
variable {l : Launch} {θ : Th} {σ : Sg} {T key lv : Nat} {tp : Nat → Int32} {L : Lx} {w : List Nat} {o : List Int32}
theorem tok_iff (hL : LxM σ tp L) (hok : LxOk tp T L) : (σ 95 14 = 3 ↔ L.2.2 = 3) ∧ (σ 95 14 = 0 ↔ L.2.2 = 0) := by
  obtain ⟨l13, l12, l0, l1, l2, l3, l4, l5, l6⟩ := hL
  rcases LxOk_kind hok with h | h | h | h | h
  · rw [l0 h, h]; decide
  · rw [(l1 h).1, h]; decide
  · by_cases hle : L.2.1 - L.1 ≤ 4
    · rw [((l2 h).1 hle).1, h]; decide
    · rw [(l2 h).2 hle, h]; decide
  · rw [(l3 h).1, h]; decide
  · rw [l4 h, h]; decide
theorem LxM.keep (hL : LxM σ tp L) {τ : Sg} (hF : ∀ j, j = 12 ∨ j = 13 ∨ j = 14 ∨ j = 15 ∨ j = 16 → τ 95 j = σ 95 j) : LxM τ tp L := by
  obtain ⟨l13, l12, l0, l1, l2, l3, l4, l5, l6⟩ := hL
  have e12 := hF 12 (by decide)
  have e13 := hF 13 (by decide)
  have e14 := hF 14 (by decide)
  have e15 := hF 15 (by decide)
  have e16 := hF 16 (by decide)
  unfold LxM
  rw [e12, e13, e14, e15, e16]
  exact ⟨l13, l12, l0, l1, l2, l3, l4, l5, l6⟩
set_option maxHeartbeats 2000000 in
theorem c_M_takesE (htp : σ 103 = tp) (hT : σ 95 11 = nI T) (hT96 : T ≤ 96) (hkey : σ 95 17 = nI key) (hk3 : key < 3) (hok : LxOk tp T L) (hL : LxM σ tp L) : Ci l θ 4 m_M_takesE [.inr 95] σ (fun r σ' => Sm [95, 106, 107, 108] σ σ' ∧ F95 [12, 13, 14, 15, 16, 21, 22, 24] σ σ' ∧ ∃ n, (∃ s, syR tp T key n (L, [], [], 0, true, 0, [false]) = some (.inl s) ∧ r = 0 ∧ σ' 95 13 = nI s) ∨ (∃ oo lv, syR tp T key n (L, [], [], 0, true, 0, [false]) = some (.inr (oo, lv)) ∧ r = 1 ∧ StkR (σ' 106) oo ∧ σ' 95 21 = nI oo.length ∧ σ' 95 22 = nI lv ∧ oo.length ≤ 96 ∧ lv ≤ oo.length)) := by
  refine Ci.of (Or.inl mi_M_takesE) pk_M_takesE (nb rfl) (Or.inr rfl) [some (.inr 95), none, none, none, none] rfl fun Γ hG hR => ?_
  generalize hS0 : ((L, [], [], 0, true, 0, [false]) : SyS) = S0
  have loop : ∀ m, ∀ (L : Lx) (w : List Nat) (o : List Int32) (lv : Nat) (wants : Bool) (nots : Nat) (tst : List Bool) (τ : Sg) (w4 : Option AV), T - L.1 < m → SyM τ tp T key L w o lv → StkR (τ 108) (tst.map bi) → tst.length = w.count 11 + 1 → tst.length ≤ 9 → nots ≤ 96 → Sm [95, 106, 107, 108] σ τ → F95 [12, 13, 14, 15, 16, 21, 22, 24] σ τ → (∀ n res, syR tp T key n (L, w, o, lv, wants, nots, tst) = some res → ∃ n', syR tp T key n' S0 = some res) → X Γ 28 [some (.inr 95), some (.inl (nI (tst.length - 1))), some (.inl (nI nots)), some (.inl (bi wants)), w4] [] τ := by
    intro m
    induction m with
    | zero => intro L w o lv wants nots tst τ w4 hm; omega
    | succ m ih =>
      intro L w o lv wants nots tst τ w4 hm hSy hts htl ht9 hno hS hF hres
      have hSy0 := hSy
      obtain ⟨htp, hT, hT96, hkey, hk3, hok, hL, hw, hwl, ho, hol, hlv, hops, hle, hlvo⟩ := hSy
      have hLle := LxOk_le hok
      have htok := tok_iff hL hok
      have hadv := advL_ok hok
      have hstep : ∀ S', syN tp T key (L, w, o, lv, wants, nots, tst) = some S' → ¬ (wants = false ∧ L.2.2 = 0) → ∀ n res, syR tp T key n S' = some res → ∃ n', syR tp T key n' S0 = some res := by
        intro S' hn hnd n res hr
        exact hres (n + 1) res (by rw [syR, if_neg hnd, hn]; exact hr)
      have hfail : syN tp T key (L, w, o, lv, wants, nots, tst) = none → ¬ (wants = false ∧ L.2.2 = 0) → ∃ n', syR tp T key n' S0 = some (.inl L.1) := by
        intro hn hnd
        exact hres 1 _ (by rw [syR, if_neg hnd, hn])
      have l13 := hL.1
      have hlt3 : (L.2.2 = 1 ∨ L.2.2 = 2 ∨ L.2.2 = 3) → L.1 < L.2.1 ∧ L.1 < T := by
        intro hk
        rcases hok with ⟨h, -⟩ | ⟨h, h1, h2, -⟩ | ⟨-, h, h2, -⟩
        · rw [h] at hk; omega
        · omega
        · omega
      -- the sign at hand
      have hsg : ∀ x : Int32, sgnIs tp L x = true ↔ (τ 95 14 = 3 ∧ τ 95 15 = x) := by
        intro x
        simp only [sgnIs, Bool.and_eq_true, decide_eq_true_eq]
        constructor
        · rintro ⟨h1, h2⟩
          exact ⟨htok.1.mpr h1, by rw [(hL.2.2.2.2.2.1 h1).2]; exact h2⟩
        · rintro ⟨h1, h2⟩
          have h3 := htok.1.mp h1
          exact ⟨h3, by rw [← (hL.2.2.2.2.2.1 h3).2]; exact h2⟩
      cases wants with
      | true =>
        have hnd : ¬ (true = false ∧ L.2.2 = 0) := fun q => by cases q.1
        -- a leaf
        have leaf : (sgnIs tp L 33 && decide (nots < 8)) = false → (sgnIs tp L 40 && decide (tst.length < 9)) = false → X Γ 158 [some (.inr 95), some (.inl (nI (tst.length - 1))), some (.inl (nI nots)), some (.inl (bi true)), w4] [] τ := by
          intro c1 c2
          refine hG.cV lk_M_248 mi_M_takesPart rfl rfl (c_M_takesPart hSy0) rfl rfl rfl rfl rfl rfl rfl rfl ?_
          rintro x τ1 ⟨p1, p2⟩
          cases hlf : leafL tp key L with
          | none =>
            obtain ⟨rfl, rfl⟩ := p1 hlf
            have hn : syN tp T key (L, w, o, lv, true, nots, tst) = none := by simp only [syN, c1, c2, hlf]; rfl
            refine hG.br rfl rfl rfl rfl (fun k1 => ?_) (fun k1 => ?_)
            · refine hG.rz hR rfl rfl rfl rfl (Or.inl rfl) ?_
              obtain ⟨n', hn'⟩ := hfail hn hnd
              exact ⟨hS, hF, n', Or.inl ⟨L.1, by rw [hS0]; exact hn', rfl, l13⟩⟩
            · exact absurd rfl k1
          | some v =>
            obtain ⟨rfl, q1, q2, q3⟩ := p2 v hlf
            have hn : syN tp T key (L, w, o, lv, true, nots, tst) = some (advL tp T L, (stl 6 w (nI v :: o)).1, (stl 6 w (nI v :: o)).2, lv + 1, false, cntN (stl 6 w (nI v :: o)).1, tst) := by simp only [syN, c1, c2, hlf]; rfl
            have hkd : L.2.2 = 1 ∨ L.2.2 = 2 ∨ L.2.2 = 3 := by
              rcases leafL_kind hlf with ⟨h1, -⟩ | ⟨h1, -⟩
              · exact Or.inr (Or.inl h1)
              · exact Or.inl h1
            have hl3 := hlt3 hkd
            have hcl := List.count_le_length (a := 10) (l := (stl 6 w (nI v :: o)).1)
            have hsl := stl_len 6 w (nI v :: o)
            refine hG.br rfl rfl rfl rfl (fun k1 => ?_) (fun k1 => ?_)
            · exact absurd k1 (by decide)
            · refine hG.cV lk_M_252 mi_M_notsOpen rfl rfl (c_M_notsOpen (stl 6 w (nI v :: o)).1 q1.2.2.2.2.2.2.2.2.2.2.2.2.1 (by omega) q1.2.2.2.2.2.2.2.1 q1.2.2.2.2.2.2.2.2.1) rfl rfl rfl rfl rfl rfl rfl rfl ?_
              rintro x τ2 ⟨rfl, rfl⟩
              refine hG.jp rfl rfl rfl ?_
              refine ih (advL tp T L) _ _ (lv + 1) false _ tst τ2 _ (by omega) q1 (by rw [q2 108 (by decide)]; exact hts) (by rw [stl_cnt11]; exact htl) ht9 (by unfold cntN; omega) (hS.tr (q2.mono (by decide))) (hF.tr q3) (hstep _ hn hnd)
        -- an opening bracket
        have opn : (sgnIs tp L 33 && decide (nots < 8)) = false → X Γ 97 [some (.inr 95), some (.inl (nI (tst.length - 1))), some (.inl (nI nots)), some (.inl (bi true)), w4] [] τ := by
          intro c1
          refine hG.br rfl rfl rfl rfl (fun k1 => ?_) (fun k1 => ?_)
          · refine leaf c1 ?_
            have : ¬ sgnIs tp L 40 = true := fun q => k1 ((hsg 40).mp q).1
            simp only [Bool.not_eq_true] at this
            rw [this]; rfl
          · refine hG.br rfl rfl rfl rfl (fun k2 => ?_) (fun k2 => ?_)
            · refine leaf c1 ?_
              have : ¬ sgnIs tp L 40 = true := fun q => k2 ((hsg 40).mp q).2
              simp only [Bool.not_eq_true] at this
              rw [this]; rfl
            · have h40 : sgnIs tp L 40 = true := (hsg 40).mpr ⟨k1, k2⟩
              refine hG.br rfl rfl rfl rfl (fun k3 => ?_) (fun k3 => ?_)
              · refine leaf c1 ?_
                have : ¬ tst.length < 9 := fun q => absurd (show nI 8 ≤ nI (tst.length - 1) from k3) (nI_ge (by omega) (by omega))
                simp [this]
              · have h9 : tst.length < 9 := Nat.not_le.mp (fun q => k3 (show nI 8 ≤ nI (tst.length - 1) from nI_le (by omega) (by omega)))
                have hkd : L.2.2 = 1 ∨ L.2.2 = 2 ∨ L.2.2 = 3 := Or.inr (Or.inr (htok.1.mp k1))
                have hl3 := hlt3 hkd
                have hn : syN tp T key (L, w, o, lv, true, nots, tst) = some (advL tp T L, 11 :: w, o, lv, true, cntN (11 :: w), false :: tst) := by simp only [syN, c1, h40, h9]; rfl
                refine hG.sti rfl w.length rfl rfl rfl hwl (by omega) ?_
                refine hG.stz rfl tst.length rfl rfl rfl (by rw [nI_1]; congr 1; omega) (by omega) (Or.inl rfl) ?_
                generalize hτ1 : up (up (up τ 107 w.length (-11)) 95 24 (up τ 107 w.length (-11) 95 24 + 1)) 108 tst.length 0 = τ1
                have hS1 : Sm [95, 106, 107, 108] τ τ1 := by rw [← hτ1]; exact ((Sm.rf.up (by decide)).up (by decide)).up (by decide)
                have hF1 : F95 [24] τ τ1 := by rw [← hτ1]; exact ((F95.rf.upo (by decide)).up (by decide)).upo (by decide)
                have e24 : τ1 95 24 = nI (w.length + 1) := by rw [← hτ1, up_c _ _ _ _ (by decide), up_self, up_c _ _ _ _ (by decide), hwl, nI_1]
                have e107 : StkR (τ1 107) ((11 :: w).map opI) := by
                  rw [← hτ1, up_c _ _ _ _ (show 107 ≠ 108 by decide), up_c _ _ _ _ (show 107 ≠ 95 by decide), up_same]
                  refine ⟨by rw [List.length_map, upd_same]; rfl, StkR_upd hw (by rw [List.length_map]; exact Nat.le_refl _)⟩
                have e106 : τ1 106 = τ 106 := by rw [← hτ1, up_c _ _ _ _ (by decide), up_c _ _ _ _ (by decide), up_c _ _ _ _ (by decide)]
                have e103 : τ1 103 = τ 103 := by rw [← hτ1, up_c _ _ _ _ (by decide), up_c _ _ _ _ (by decide), up_c _ _ _ _ (by decide)]
                have e108 : StkR (τ1 108) ((false :: tst).map bi) := by
                  rw [← hτ1, up_same, up_c _ _ _ _ (show 108 ≠ 95 by decide), up_c _ _ _ _ (show 108 ≠ 107 by decide)]
                  refine ⟨by rw [List.length_map, upd_same]; rfl, StkR_upd hts (by rw [List.length_map]; exact Nat.le_refl _)⟩
                have hL1 : LxM τ1 tp L := hL.keep (fun j hj => hF1 j (by rcases hj with rfl | rfl | rfl | rfl | rfl <;> decide))
                refine hG.cVv lk_M_226 mi_M_go rfl rfl (c_M_adv (T := T) tp L (by rw [e103]; exact htp) (by rw [hF1 11 (by decide)]; exact hT) hT96 hok hL1 hkd) rfl rfl rfl rfl rfl rfl rfl rfl ?_
                rintro τ2 ⟨q1, q2, q3⟩
                have hops2 : opsOk (11 :: w) := fun x hx => by
                  rcases List.mem_cons.mp hx with rfl | h
                  · omega
                  · exact hops x h
                have g107 : StkR (τ2 107) ((11 :: w).map opI) := by rw [q2 107 (by decide)]; exact e107
                have g24 : τ2 95 24 = nI (11 :: w).length := by rw [q3 24 (by decide), e24]; rfl
                have hcl := List.count_le_length (a := 10) (l := 11 :: w)
                simp only [List.length_cons] at hcl
                refine hG.cV lk_M_252 mi_M_notsOpen rfl rfl (c_M_notsOpen (11 :: w) hops2 (by simp only [List.length_cons]; omega) g107 g24) rfl rfl rfl rfl rfl rfl rfl rfl ?_
                rintro x τ3 ⟨rfl, rfl⟩
                refine hG.jp rfl rfl rfl ?_
                have hpar : nI (tst.length - 1) + 1 = nI ((false :: tst).length - 1) := by rw [nI_1]; congr 1; simp only [List.length_cons]; omega
                rw [hpar]
                refine ih (advL tp T L) (11 :: w) o lv true _ (false :: tst) τ3 _ (by omega) ⟨by rw [q2 103 (by decide), e103]; exact htp, by rw [q3 11 (by decide), hF1 11 (by decide)]; exact hT, hT96, by rw [q3 17 (by decide), hF1 17 (by decide)]; exact hkey, hk3, hadv.1, q1, g107, g24, by rw [q2 106 (by decide), e106]; exact ho, by rw [q3 21 (by decide), hF1 21 (by decide)]; exact hol, by rw [q3 22 (by decide), hF1 22 (by decide)]; exact hlv, hops2, by simp only [List.length_cons]; have := hadv.2; omega, hlvo⟩ (by rw [q2 108 (by decide)]; exact e108) (by simp only [List.length_cons, List.count_cons]; simp; omega) (by simp only [List.length_cons]; omega) (by unfold cntN; omega) (hS.tr (hS1.tr (q2.mono (by decide)))) (hF.tr ((hF1.mono (by decide)).tr (q3.mono (by decide)))) (hstep _ hn hnd)
        refine hG.br rfl rfl rfl rfl (fun k0 => ?_) (fun k0 => absurd k0 (by decide))
        refine hG.br rfl rfl rfl rfl (fun k0 => absurd k0 (by decide)) (fun k0 => ?_)
        refine hG.br rfl rfl rfl rfl (fun k1 => ?_) (fun k1 => ?_)
        · refine opn ?_
          have : ¬ sgnIs tp L 33 = true := fun q => k1 ((hsg 33).mp q).1
          simp only [Bool.not_eq_true] at this
          rw [this]; rfl
        · refine hG.br rfl rfl rfl rfl (fun k2 => ?_) (fun k2 => ?_)
          · refine opn ?_
            have : ¬ sgnIs tp L 33 = true := fun q => k2 ((hsg 33).mp q).2
            simp only [Bool.not_eq_true] at this
            rw [this]; rfl
          · have h33 : sgnIs tp L 33 = true := (hsg 33).mpr ⟨k1, k2⟩
            refine hG.br rfl rfl rfl rfl (fun k3 => ?_) (fun k3 => ?_)
            · refine opn ?_
              have : ¬ nots < 8 := fun q => absurd (show nI 8 ≤ nI nots from k3) (nI_ge q (by omega))
              simp [this]
            · have h8 : nots < 8 := Nat.not_le.mp (fun q => k3 (show nI 8 ≤ nI nots from nI_le q (by omega)))
              have hkd : L.2.2 = 1 ∨ L.2.2 = 2 ∨ L.2.2 = 3 := Or.inr (Or.inr (htok.1.mp k1))
              have hl3 := hlt3 hkd
              have hn : syN tp T key (L, w, o, lv, true, nots, tst) = some (advL tp T L, 10 :: w, o, lv, true, cntN (10 :: w), tst) := by simp only [syN, h33, h8]; rfl
              refine hG.sti rfl w.length rfl rfl rfl hwl (by omega) ?_
              generalize hτ1 : up (up τ 107 w.length (-10)) 95 24 (up τ 107 w.length (-10) 95 24 + 1) = τ1
              have hS1 : Sm [95, 106, 107, 108] τ τ1 := by rw [← hτ1]; exact (Sm.rf.up (by decide)).up (by decide)
              have hF1 : F95 [24] τ τ1 := by rw [← hτ1]; exact (F95.rf.upo (by decide)).up (by decide)
              have e24 : τ1 95 24 = nI (w.length + 1) := by rw [← hτ1, up_self, up_c _ _ _ _ (by decide), hwl, nI_1]
              have e107 : StkR (τ1 107) ((10 :: w).map opI) := by
                rw [← hτ1, up_c _ _ _ _ (show 107 ≠ 95 by decide), up_same]
                refine ⟨by rw [List.length_map, upd_same]; rfl, StkR_upd hw (by rw [List.length_map]; exact Nat.le_refl _)⟩
              have e106 : τ1 106 = τ 106 := by rw [← hτ1, up_c _ _ _ _ (by decide), up_c _ _ _ _ (by decide)]
              have e103 : τ1 103 = τ 103 := by rw [← hτ1, up_c _ _ _ _ (by decide), up_c _ _ _ _ (by decide)]
              have e108 : τ1 108 = τ 108 := by rw [← hτ1, up_c _ _ _ _ (by decide), up_c _ _ _ _ (by decide)]
              have hL1 : LxM τ1 tp L := hL.keep (fun j hj => hF1 j (by rcases hj with rfl | rfl | rfl | rfl | rfl <;> decide))
              refine hG.go 8 rfl rfl ?_
              rw [hτ1]
              refine hG.cVv lk_M_226 mi_M_go rfl rfl (c_M_adv (T := T) tp L (by rw [e103]; exact htp) (by rw [hF1 11 (by decide)]; exact hT) hT96 hok hL1 hkd) rfl rfl rfl rfl rfl rfl rfl rfl ?_
              rintro τ2 ⟨q1, q2, q3⟩
              have hops2 : opsOk (10 :: w) := fun x hx => by
                rcases List.mem_cons.mp hx with rfl | h
                · omega
                · exact hops x h
              have g107 : StkR (τ2 107) ((10 :: w).map opI) := by rw [q2 107 (by decide)]; exact e107
              have g24 : τ2 95 24 = nI (10 :: w).length := by rw [q3 24 (by decide), e24]; rfl
              have hcl := List.count_le_length (a := 10) (l := 10 :: w)
              simp only [List.length_cons] at hcl
              refine hG.cV lk_M_252 mi_M_notsOpen rfl rfl (c_M_notsOpen (10 :: w) hops2 (by simp only [List.length_cons]; omega) g107 g24) rfl rfl rfl rfl rfl rfl rfl rfl ?_
              rintro x τ3 ⟨rfl, rfl⟩
              refine hG.jp rfl rfl rfl ?_
              refine ih (advL tp T L) (10 :: w) o lv true _ tst τ3 _ (by omega) ⟨by rw [q2 103 (by decide), e103]; exact htp, by rw [q3 11 (by decide), hF1 11 (by decide)]; exact hT, hT96, by rw [q3 17 (by decide), hF1 17 (by decide)]; exact hkey, hk3, hadv.1, q1, g107, g24, by rw [q2 106 (by decide), e106]; exact ho, by rw [q3 21 (by decide), hF1 21 (by decide)]; exact hol, by rw [q3 22 (by decide), hF1 22 (by decide)]; exact hlv, hops2, by simp only [List.length_cons]; have := hadv.2; omega, hlvo⟩ (by rw [q2 108 (by decide), e108]; exact hts) (by rw [List.count_cons]; simpa using htl) ht9 (by unfold cntN; omega) (hS.tr (hS1.tr (q2.mono (by decide)))) (hF.tr ((hF1.mono (by decide)).tr (q3.mono (by decide)))) (hstep _ hn hnd)
      | false =>
        -- a sign between, or none
        have sgn : L.2.2 ≠ 0 → (sgnIs tp L 41 && decide (1 < tst.length)) = false → X Γ 237 [some (.inr 95), some (.inl (nI (tst.length - 1))), some (.inl (nI nots)), some (.inl (bi false)), w4] [] τ := by
          intro hk0 c1
          have hnd : ¬ (false = false ∧ L.2.2 = 0) := fun q => hk0 q.2
          refine hG.cV lk_M_255 mi_M_signHere rfl rfl (c_M_signHere tp L hL (LxOk_kind hok)) rfl rfl rfl rfl rfl rfl rfl rfl ?_
          rintro x τ ⟨rfl, rfl⟩
          have hop9 := opL_le tp L
          obtain ⟨hd, tl, rfl⟩ : ∃ hd tl, tst = hd :: tl := by
            cases tst with
            | nil => simp at htl
            | cons hd tl => exact ⟨hd, tl, rfl⟩
          simp only [List.length_cons] at *
          have e108 : τ 108 tl.length = bi hd := by have := hts.1; rwa [List.length_map] at this
          have fail : (opL tp L = 0 ∨ (rnk (opL tp L) = 3 ∧ hd = true)) → X Γ 266 [some (.inr 95), some (.inl (nI (tl.length + 1 - 1))), some (.inl (nI nots)), some (.inl (bi false)), some (.inl (opI (opL tp L)))] [] τ := by
            intro hc
            have hn : syN tp T key (L, w, o, lv, false, nots, hd :: tl) = none := by rw [syN_op c1, if_pos (show opL tp L = 0 ∨ (rnk (opL tp L) = 3 ∧ (hd :: tl).headD false = true) from hc)]
            refine hG.rz hR rfl rfl rfl rfl (Or.inl rfl) ?_
            obtain ⟨n', hn'⟩ := hfail hn hnd
            exact ⟨hS, hF, n', Or.inl ⟨L.1, by rw [hS0]; exact hn', rfl, l13⟩⟩
          refine hG.br rfl rfl rfl rfl (fun k1 => ?_) (fun k1 => ?_)
          · exact fail (Or.inl (opI_inj _ (by omega) 0 (by omega) k1))
          · have hop1 : 1 ≤ opL tp L := by
              rcases Nat.eq_zero_or_pos (opL tp L) with h | h
              · rw [h] at k1; exact absurd rfl k1
              · exact h
            have hkd : L.2.2 = 1 ∨ L.2.2 = 2 ∨ L.2.2 = 3 := by
              refine Or.inr (Or.inr ?_)
              cases Nat.decEq L.2.2 3 with
              | isTrue h => exact h
              | isFalse h => rw [opL, if_neg h] at hop1; omega
            have hl3 := hlt3 hkd
            have hrk := rkI_op (opL tp L) hop1 (by omega)
            have hrk6 := rnk_le (opL tp L)
            have go2 : ¬ (rnk (opL tp L) = 3 ∧ hd = true) → X Γ 268 [some (.inr 95), some (.inl (nI (tl.length + 1 - 1))), some (.inl (nI nots)), some (.inl (bi false)), some (.inl (opI (opL tp L)))] [] τ := by
              intro hc
              have hn : syN tp T key (L, w, o, lv, false, nots, hd :: tl) = some (advL tp T L, opL tp L :: (stl (rnk (opL tp L)) w o).1, (stl (rnk (opL tp L)) w o).2, lv, true, nots, (decide (rnk (opL tp L) = 3) || (decide (3 < rnk (opL tp L)) && hd)) :: tl) := by
                rw [syN_op c1, if_neg (show ¬ (opL tp L = 0 ∨ (rnk (opL tp L) = 3 ∧ (hd :: tl).headD false = true)) from fun q => Or.elim q (fun z => by omega) hc)]
                rfl
              have j305 : ∀ b : Bool, b = (decide (rnk (opL tp L) = 3) || (decide (3 < rnk (opL tp L)) && hd)) → X Γ 305 [some (.inr 95), some (.inl (nI (tl.length + 1 - 1))), some (.inl (nI nots)), some (.inl (bi false)), some (.inl (opI (opL tp L)))] [.inl (bi b), .inl (nI (tl.length + 1 - 1)), .inr 108] τ := by
                intro b hb
                refine hG.stz rfl tl.length rfl rfl rfl rfl (by omega) (bi_01 _) ?_
                generalize hτ1 : up τ 108 tl.length (bi b) = τ1
                have hS1 : Sm [95, 106, 107, 108] τ τ1 := by rw [← hτ1]; exact Sm.rf.up (by decide)
                have hF1 : F95 [] τ τ1 := by rw [← hτ1]; exact F95.rf.upo (by decide)
                have e107 : τ1 107 = τ 107 := by rw [← hτ1, up_c _ _ _ _ (by decide)]
                have e106 : τ1 106 = τ 106 := by rw [← hτ1, up_c _ _ _ _ (by decide)]
                have e103 : τ1 103 = τ 103 := by rw [← hτ1, up_c _ _ _ _ (by decide)]
                have g108 : StkR (τ1 108) ((b :: tl).map bi) := by
                  rw [← hτ1, up_same]
                  exact ⟨by rw [List.length_map, upd_same], StkR_upd hts.2 (by rw [List.length_map]; exact Nat.le_refl _)⟩
                refine hG.cS lk_M_232 mi_M_rank rfl rfl (c_M_rank _) rfl rfl rfl rfl rfl rfl ?_
                rintro x τ1 ⟨rfl, rfl⟩
                rw [hrk]
                refine hG.cVv lk_M_244 mi_M_settle rfl rfl (c_M_settle (rnk (opL tp L)) hrk6 w o τ1 hops (by omega) (by rw [e107]; exact hw) (by rw [hF1 24 (by decide)]; exact hwl) (by rw [e106]; exact ho) (by rw [hF1 21 (by decide)]; exact hol)) rfl rfl rfl rfl rfl rfl rfl rfl ?_
                rintro τ2 ⟨p1, p2, p3, p4, p5, p6⟩
                have hst := stl_ok (rnk (opL tp L)) w o hops
                have hsl := stl_len (rnk (opL tp L)) w o
                refine hG.sti rfl (stl (rnk (opL tp L)) w o).1.length rfl rfl rfl p2 (by omega) ?_
                generalize hτ3 : up (up τ2 107 (stl (rnk (opL tp L)) w o).1.length (opI (opL tp L))) 95 24 (up τ2 107 (stl (rnk (opL tp L)) w o).1.length (opI (opL tp L)) 95 24 + 1) = τ3
                have hS3 : Sm [95, 106, 107, 108] τ τ3 := by rw [← hτ3]; exact ((hS1.tr (p5.mono (by decide))).up (by decide)).up (by decide)
                have hF3 : F95 [21, 24] τ τ3 := by rw [← hτ3]; exact (((hF1.mono (by decide)).tr p6).upo (by decide)).up (by decide)
                have e24 : τ3 95 24 = nI ((stl (rnk (opL tp L)) w o).1.length + 1) := by rw [← hτ3, up_self, up_c _ _ _ _ (by decide), p2, nI_1]
                have h107 : StkR (τ3 107) ((opL tp L :: (stl (rnk (opL tp L)) w o).1).map opI) := by
                  rw [← hτ3, up_c _ _ _ _ (show 107 ≠ 95 by decide), up_same]
                  exact ⟨by rw [List.length_map, upd_same], StkR_upd p1 (by rw [List.length_map]; exact Nat.le_refl _)⟩
                have e1063 : τ3 106 = τ2 106 := by rw [← hτ3, up_c _ _ _ _ (by decide), up_c _ _ _ _ (by decide)]
                have e21 : τ3 95 21 = nI (stl (rnk (opL tp L)) w o).2.length := by rw [← hτ3, up_j _ _ _ _ (by decide), up_c _ _ _ _ (by decide)]; exact p4
                have e1083 : τ3 108 = τ1 108 := by rw [← hτ3, up_c _ _ _ _ (by decide), up_c _ _ _ _ (by decide), p5 108 (by decide)]
                have hL3 : LxM τ3 tp L := hL.keep (fun j hj => hF3 j (by rcases hj with rfl | rfl | rfl | rfl | rfl <;> decide))
                refine hG.go 9 rfl rfl ?_
                rw [hτ3]
                refine hG.cVv lk_M_226 mi_M_go rfl rfl (c_M_adv (T := T) tp L (by rw [hS3 103 (by decide)]; exact htp) (by rw [hF3 11 (by decide)]; exact hT) hT96 hok hL3 hkd) rfl rfl rfl rfl rfl rfl rfl rfl ?_
                rintro τ4 ⟨q1, q2, q3⟩
                refine hG.jp rfl rfl rfl ?_
                refine ih (advL tp T L) (opL tp L :: (stl (rnk (opL tp L)) w o).1) (stl (rnk (opL tp L)) w o).2 lv true nots (b :: tl) τ4 _ (by omega) ⟨by rw [q2 103 (by decide), hS3 103 (by decide)]; exact htp, by rw [q3 11 (by decide), hF3 11 (by decide)]; exact hT, hT96, by rw [q3 17 (by decide), hF3 17 (by decide)]; exact hkey, hk3, hadv.1, q1, by rw [q2 107 (by decide)]; exact h107, by rw [q3 24 (by decide), e24]; rfl, by rw [q2 106 (by decide), e1063]; exact p3, by rw [q3 21 (by decide)]; exact e21, by rw [q3 22 (by decide), hF3 22 (by decide)]; exact hlv, ?_, ?_, ?_⟩ (by rw [q2 108 (by decide), e1083]; exact g108) ?_ (by simp only [List.length_cons]; exact ht9) hno (hS.tr (hS3.tr (q2.mono (by decide)))) (hF.tr ((hF3.mono (by decide)).tr (q3.mono (by decide)))) (hstep _ (by rw [hb]; exact hn) hnd)
                · intro x hx
                  rcases List.mem_cons.mp hx with rfl | h
                  · omega
                  · exact hst.1 x h
                · simp only [List.length_cons]
                  have := hadv.2
                  have := hst.2
                  omega
                · have := hst.2
                  omega
                · rw [List.length_cons, List.count_cons, stl_cnt11]
                  have : ¬ (opL tp L == 11) = true := by simp; omega
                  rw [if_neg this]; exact htl
              refine hG.go 4 rfl rfl ?_
              refine hG.cS lk_M_232 mi_M_rank rfl rfl (c_M_rank _) rfl rfl rfl rfl rfl rfl ?_
              rintro x τ ⟨rfl, rfl⟩
              rw [hrk]
              refine hG.br rfl rfl rfl rfl (fun k2 => ?_) (fun k2 => ?_)
              · have h3 : rnk (opL tp L) = 3 := (nI_eq (by omega) (by omega)).mp (show nI (rnk (opL tp L)) = nI 3 from k2)
                exact hG.go 2 rfl rfl (j305 true (by simp [h3]))
              · have h3 : ¬ rnk (opL tp L) = 3 := fun e => k2 (by rw [e]; rfl)
                refine hG.cS lk_M_232 mi_M_rank rfl rfl (c_M_rank _) rfl rfl rfl rfl rfl rfl ?_
                rintro x τ ⟨rfl, rfl⟩
                rw [hrk]
                refine hG.br rfl rfl rfl rfl (fun k4 => ?_) (fun k4 => ?_)
                · have h4 : ¬ 3 < rnk (opL tp L) := fun q => absurd (show nI (rnk (opL tp L)) ≤ nI 3 from k4) (nI_ge q (by omega))
                  exact hG.go 1 rfl rfl (j305 false (by simp [h3, h4]))
                · have h4 : 3 < rnk (opL tp L) := Nat.not_le.mp (fun q => k4 (show nI (rnk (opL tp L)) ≤ nI 3 from nI_le q (by omega)))
                  refine hG.ld rfl (tl.length) rfl rfl rfl rfl rfl (by omega) ?_
                  rw [e108]
                  refine hG.br rfl rfl rfl rfl (fun k5 => ?_) (fun k5 => ?_)
                  · exact hG.go 1 rfl rfl (j305 false (by rw [bi_eq0.mp k5]; simp [h3]))
                  · exact hG.go 2 rfl rfl (j305 true (by rw [bi_ne0.mp k5]; simp [h4]))
            refine hG.cS lk_M_232 mi_M_rank rfl rfl (c_M_rank _) rfl rfl rfl rfl rfl rfl ?_
            rintro x τ ⟨rfl, rfl⟩
            rw [hrk]
            refine hG.br rfl rfl rfl rfl (fun k2 => ?_) (fun k2 => ?_)
            · exact go2 (fun q => k2 (by rw [q.1]; rfl))
            · have h3 : rnk (opL tp L) = 3 := (nI_eq (by omega) (by omega)).mp (show nI (rnk (opL tp L)) = nI 3 from k2)
              refine hG.ld rfl (tl.length) rfl rfl rfl rfl rfl (by omega) ?_
              rw [e108]
              refine hG.br rfl rfl rfl rfl (fun k3 => ?_) (fun k3 => ?_)
              · exact go2 (fun q => by rw [bi_eq0.mp k3] at q; cases q.2)
              · exact fail (Or.inr ⟨h3, bi_ne0.mp k3⟩)
        refine hG.br rfl rfl rfl rfl (fun k0 => absurd rfl k0) (fun k0 => ?_)
        refine hG.br rfl rfl rfl rfl (fun k1 => ?_) (fun k1 => ?_)
        · -- the end
          have hk0 : L.2.2 = 0 := htok.2.mp k1
          refine hG.cVv lk_M_244 mi_M_settle rfl rfl (c_M_settle 0 (by omega) w o τ hops (by omega) hw hwl ho hol) rfl rfl rfl rfl rfl rfl rfl rfl ?_
          rintro τ2 ⟨p1, p2, p3, p4, p5, p6⟩
          have hst := stl_ok 0 w o hops
          have hsl := stl_len 0 w o
          refine hG.br rfl rfl rfl rfl (fun k2 => ?_) (fun k2 => ?_)
          · have hne : ¬ tst.length = 1 := fun e => k2 (by rw [e]; rfl)
            refine hG.rz hR rfl rfl rfl rfl (Or.inl rfl) ?_
            obtain ⟨n', hn'⟩ := hres 1 (.inl L.1) (by rw [syR, if_pos ⟨rfl, hk0⟩, if_neg hne])
            exact ⟨hS.tr (p5.mono (by decide)), hF.tr (p6.mono (by decide)), n', Or.inl ⟨L.1, by rw [hS0]; exact hn', rfl, by rw [p6 13 (by decide)]; exact l13⟩⟩
          · have heq : tst.length = 1 := by
              have := (nI_eq (by omega) (by omega)).mp (show nI (tst.length - 1) = nI 0 from k2)
              omega
            refine hG.rz hR rfl rfl rfl rfl (Or.inr rfl) ?_
            obtain ⟨n', hn'⟩ := hres 1 (.inr ((stl 0 w o).2, lv)) (by rw [syR, if_pos ⟨rfl, hk0⟩, if_pos heq])
            exact ⟨hS.tr (p5.mono (by decide)), hF.tr (p6.mono (by decide)), n', Or.inr ⟨_, lv, by rw [hS0]; exact hn', rfl, p3, p4, by rw [p6 22 (by decide)]; exact hlv, by have := hst.2; omega, by have := hst.2; omega⟩⟩
        · have hk0 : L.2.2 ≠ 0 := fun e => k1 (htok.2.mpr e)
          have hnd : ¬ (false = false ∧ L.2.2 = 0) := fun q => hk0 q.2
          refine hG.br rfl rfl rfl rfl (fun k2 => ?_) (fun k2 => absurd rfl k2)
          refine hG.br rfl rfl rfl rfl (fun k3 => ?_) (fun k3 => ?_)
          · refine sgn hk0 ?_
            have : ¬ sgnIs tp L 41 = true := fun q => k3 ((hsg 41).mp q).1
            simp only [Bool.not_eq_true] at this
            rw [this]; rfl
          · refine hG.br rfl rfl rfl rfl (fun k4 => ?_) (fun k4 => ?_)
            · refine sgn hk0 ?_
              have : ¬ sgnIs tp L 41 = true := fun q => k4 ((hsg 41).mp q).2
              simp only [Bool.not_eq_true] at this
              rw [this]; rfl
            · have h41 : sgnIs tp L 41 = true := (hsg 41).mpr ⟨k3, k4⟩
              refine hG.br rfl rfl rfl rfl (fun k5 => ?_) (fun k5 => ?_)
              · refine sgn hk0 ?_
                have : ¬ 1 < tst.length := fun q => absurd k5 (nI_nle (by omega) (by omega))
                simp [this]
              · have h1 : 1 < tst.length := by
                  rcases Nat.lt_or_ge 1 tst.length with h | h
                  · exact h
                  · exact absurd (show nI (tst.length - 1) ≤ 0 by rw [show tst.length - 1 = 0 by omega]; decide) k5
                have hkd : L.2.2 = 1 ∨ L.2.2 = 2 ∨ L.2.2 = 3 := Or.inr (Or.inr (htok.1.mp k3))
                have hl3 := hlt3 hkd
                obtain ⟨w', hw', hcw', hopw'⟩ := stl0_open w o hops (by omega)
                have hn : syN tp T key (L, w, o, lv, false, nots, tst) = some (advL tp T L, (stl 6 w' (stl 0 w o).2).1, (stl 6 w' (stl 0 w o).2).2, lv, false, cntN (stl 6 w' (stl 0 w o).2).1, tst.tail) := by
                  simp only [syN, h41, h1, hw', List.tail_cons]; rfl
                refine hG.cVv lk_M_244 mi_M_settle rfl rfl (c_M_settle 0 (by omega) w o τ hops (by omega) hw hwl ho hol) rfl rfl rfl rfl rfl rfl rfl rfl ?_
                rintro τ2 ⟨p1, p2, p3, p4, p5, p6⟩
                have hst := stl_ok 0 w o hops
                have hsl0 := stl_len 0 w o
                rw [hw'] at p1 p2 hst hsl0
                simp only [List.length_cons, List.map_cons] at p1 p2 hst hsl0
                have e24 : up τ2 95 24 (τ2 95 24 - 1) = up τ2 95 24 (nI w'.length) := by rw [p2, nI_pred]
                refine hG.go 8 rfl rfl ?_
                rw [e24]
                refine hG.cVv lk_M_244 mi_M_settle rfl rfl (c_M_settle 6 (by omega) w' (stl 0 w o).2 (up τ2 95 24 (nI w'.length)) hopw' (by omega) (by rw [up_c _ _ _ _ (by decide)]; exact p1.2) (up_self _ _ _ _) (by rw [up_c _ _ _ _ (by decide)]; exact p3) (by rw [up_j _ _ _ _ (by decide)]; exact p4)) rfl rfl rfl rfl rfl rfl rfl rfl ?_
                rintro τ3 ⟨r1, r2, r3, r4, r5, r6⟩
                have hst6 := stl_ok 6 w' (stl 0 w o).2 hopw'
                have hsl6 := stl_len 6 w' (stl 0 w o).2
                have hcl := List.count_le_length (a := 10) (l := (stl 6 w' (stl 0 w o).2).1)
                have hS3 : Sm [95, 106, 107, 108] τ τ3 := ((p5.mono (ds := [95, 106, 107, 108]) (by decide)).up (by decide)).tr (r5.mono (by decide))
                have hF3 : F95 [21, 24] τ τ3 := (p6.up (by decide)).tr r6
                refine hG.cV lk_M_252 mi_M_notsOpen rfl rfl (c_M_notsOpen (stl 6 w' (stl 0 w o).2).1 hst6.1 (by omega) r1 r2) rfl rfl rfl rfl rfl rfl rfl rfl ?_
                rintro x τ4 ⟨rfl, rfl⟩
                have hL3 : LxM τ4 tp L := hL.keep (fun j hj => hF3 j (by rcases hj with rfl | rfl | rfl | rfl | rfl <;> decide))
                have e1084 : τ4 108 = τ 108 := by rw [r5 108 (by decide), up_c _ _ _ _ (by decide), p5 108 (by decide)]
                refine hG.cVv lk_M_226 mi_M_go rfl rfl (c_M_adv (T := T) tp L (by rw [hS3 103 (by decide)]; exact htp) (by rw [hF3 11 (by decide)]; exact hT) hT96 hok hL3 hkd) rfl rfl rfl rfl rfl rfl rfl rfl ?_
                rintro τ5 ⟨q1, q2, q3⟩
                refine hG.jp rfl rfl rfl ?_
                obtain ⟨hd, tl, rfl⟩ : ∃ hd tl, tst = hd :: tl := by
                  cases tst with
                  | nil => simp at htl
                  | cons hd tl => exact ⟨hd, tl, rfl⟩
                simp only [List.length_cons] at *
                have hpar : nI (tl.length + 1 - 1) + -1 = nI (tl.length - 1) := by
                  rw [i32_sub1, show tl.length + 1 - 1 = (tl.length - 1) + 1 by omega, nI_pred]
                rw [hpar]
                refine ih (advL tp T L) (stl 6 w' (stl 0 w o).2).1 (stl 6 w' (stl 0 w o).2).2 lv false _ tl τ5 _ (by omega) ⟨by rw [q2 103 (by decide), hS3 103 (by decide)]; exact htp, by rw [q3 11 (by decide), hF3 11 (by decide)]; exact hT, hT96, by rw [q3 17 (by decide), hF3 17 (by decide)]; exact hkey, hk3, hadv.1, q1, by rw [q2 107 (by decide)]; exact r1, by rw [q3 24 (by decide)]; exact r2, by rw [q2 106 (by decide)]; exact r3, by rw [q3 21 (by decide)]; exact r4, by rw [q3 22 (by decide), hF3 22 (by decide)]; exact hlv, hst6.1, by have := hadv.2; have := hst6.2; omega, by have := hst6.2; omega⟩ (by rw [q2 108 (by decide), e1084]; exact hts.2) (by rw [stl_cnt11]; omega) (by omega) (by unfold cntN; omega) (hS.tr (hS3.tr (q2.mono (by decide)))) (hF.tr ((hF3.mono (by decide)).tr (q3.mono (by decide)))) (hstep _ hn hnd)
  -- the start
  refine hG.stz rfl 0 rfl rfl rfl rfl (by decide) (Or.inl rfl) ?_
  generalize hτ : up (up (up (up σ 95 21 0) 95 22 0) 95 24 0) 108 0 0 = τ
  have hSτ : Sm [95, 106, 107, 108] σ τ := by rw [← hτ]; exact (((Sm.rf.up (by decide)).up (by decide)).up (by decide)).up (by decide)
  have hFτ : F95 [21, 22, 24] σ τ := by rw [← hτ]; exact (((F95.rf.up (by decide)).up (by decide)).up (by decide)).upo (by decide)
  refine loop (T + 1) L [] [] 0 true 0 [false] τ none (by omega) ⟨by rw [hSτ 103 (by decide)]; exact htp, by rw [hFτ 11 (by decide)]; exact hT, hT96, by rw [hFτ 17 (by decide)]; exact hkey, hk3, hok, hL.keep (fun j hj => hFτ j (by rcases hj with rfl | rfl | rfl | rfl | rfl <;> decide)), trivial, ?_, trivial, ?_, ?_, fun x hx => absurd hx List.not_mem_nil, Nat.zero_le _, Nat.le_refl _⟩ ⟨?_, trivial⟩ rfl (by decide) (by omega) hSτ (hFτ.mono (by decide)) (fun n res h => ⟨n, by rw [← hS0]; exact h⟩)
  · rw [← hτ, up_c _ _ _ _ (by decide), up_self]; rfl
  · rw [← hτ, up_c _ _ _ _ (by decide), up_j _ _ _ _ (by decide), up_j _ _ _ _ (by decide), up_self]; rfl
  · rw [← hτ, up_c _ _ _ _ (by decide), up_j _ _ _ _ (by decide), up_self]; rfl
  · rw [← hτ, up_same]; exact upd_same _ _ _
end
