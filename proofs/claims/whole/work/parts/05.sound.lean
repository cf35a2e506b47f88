theorem layOk_b : lay.all (fun s => match s with | .inl (ci, fds) => (match classes[ci]? with | some q => fds.length == q.2.2 | none => false) | .inr _ => true) = true := by decide +kernel
theorem layOk {c ci : Nat} {fds : List (Option Nat)} (h : lay[c]? = some (.inl (ci, fds))) : ∃ q, classes[ci]? = some q ∧ fds.length = q.2.2 := by
  have h1 := List.all_eq_true.mp layOk_b _ (List.mem_of_getElem? h)
  dsimp only at h1
  cases hq : classes[ci]? with
  | none => rw [hq] at h1; cases h1
  | some q => rw [hq] at h1; exact ⟨q, rfl, by simpa using h1⟩
theorem tys_at (θ : Th) {kd : Nat} (h : kd ≤ 5) : ∃ ty, (tysOf θ)[kd]? = some (θ.2.2 kd, ty) := by
  match kd, h with
  | 0, _ => exact ⟨_, rfl⟩
  | 1, _ => exact ⟨_, rfl⟩
  | 2, _ => exact ⟨_, rfl⟩
  | 3, _ => exact ⟨_, rfl⟩
  | 4, _ => exact ⟨_, rfl⟩
  | 5, _ => exact ⟨_, rfl⟩
  | k + 6, h => omega
theorem okAux_of {own : String} {b : ByteArray} {pg : List Rw} (hp : okP own b pg) {pc pc' : Nat} {i : Instr} {v : Int32} {a1 a2 : Nat} (h : lkp pc pg = some (i, pc', v, a1, a2)) : ∃ (fl : List (Nat × Nat × Nat)) (ct : List (Nat × Int32)), FLok own fl ∧ CTok own ct ∧ okAux fl ct (pc, i, pc', v, a1, a2) = true := by
  obtain ⟨fl, ct, h1, h2, -, -, -, h6⟩ := okP_row hp h
  exact ⟨fl, ct, h1, h2, h6⟩
section Sound
variable {Γ : Cx} {own : String} {b : ByteArray} {nL : Nat} {pg : List Rw} {pc pc' a1 a2 : Nat} {v : Int32} {L : Lc} {st r : List AV} {σ : Sg}
theorem X_goto (hG : Ok Γ own b nL) (hp : okP own b pg) {o : Int} (hq : lkp pc pg = some (.goto o, pc', v, a1, a2)) (k : X Γ a1 L st σ) : X Γ pc L st σ := by
  obtain ⟨θ, ⟨p, l, e, R, s, m, args, below, meth, c⟩, A, ⟨kc, ks⟩, Q⟩ := Γ
  obtain ⟨hx, hb, hml, hown, hts, hE, hI, hA⟩ := hG
  obtain ⟨hd, he⟩ := okP_dec hp hq (by simp [lenI])
  obtain ⟨fl, ct, -, -, h3⟩ := okAux_of hp hq
  simp only [okAux, decide_eq_true_eq] at h3
  intro H locs ls hP hS hl
  exact lv_goto hx hb hd h3 (k H locs ls hP hS hl)
theorem X_getfield (hG : Ok Γ own b nL) (hp : okP own b pg) {k c0 ci : Nat} {fds : List (Option Nat)} (hq : lkp pc pg = some (.getfield k, pc', v, a1, a2)) (hl0 : lay[c0]? = some (.inl (ci, fds))) (hci : ci = a1) {w : AV} (hw : fds[a2]? = some none ∧ w = .inl (σ c0 a2) ∨ ∃ z, fds[a2]? = some (some z) ∧ w = .inr z) (kk : X Γ pc' L (w :: r) σ) : X Γ pc L (.inr c0 :: r) σ := by
  obtain ⟨θ, ⟨p, l, e, R, s, m, args, below, meth, c⟩, A, ⟨kc, ks⟩, Q⟩ := Γ
  obtain ⟨hx, hb, hml, hown, hts, hE, hI, hA⟩ := hG
  obtain ⟨hd, he⟩ := okP_dec hp hq (by simp [lenI])
  obtain ⟨fl, ct, h1, -, h3⟩ := okAux_of hp hq
  simp only [okAux, decide_eq_true_eq] at h3
  subst hci
  obtain ⟨⟨C, T, N⟩, hcq, hlen⟩ := layOk hl0
  have hlink := h1 _ h3
  have hgd : classes.getD ci ("", FT0, 0) = (C, T, N) := by rw [List.getD_eq_getElem?_getD, hcq]; rfl
  simp only [FLc, hgd] at hlink
  obtain ⟨hw1, ⟨ty0, hty⟩, hnm, hcl⟩ := cl_ok _ (List.mem_of_getElem? hcq)
  dsimp only at hw1 hty hnm hcl hlen
  subst he
  intro H locs ls hP hS hl
  have hk : a2 < N := by
    rw [← hlen]
    rcases hw with ⟨h, -⟩ | ⟨z, h, -⟩ <;> exact (List.getElem?_eq_some_iff.mp h).1
  have hv : (conF θ.1 (σ c0) fds 0)[a2]? = some (conc θ.1 w) := by
    rcases hw with ⟨h, rfl⟩ | ⟨z, h, rfl⟩
    · rw [conF_int h, Nat.zero_add]; rfl
    · rw [conF_ref h]; rfl
  refine va_get (C := C) (T := T) (N := N) (ci := ci) (ref := (T a2).1) (index := k) (Ts := TB) hx hb hts hw1 hown hE.1 hP c0 (wsOf_get hl0) hcq a2 hk (hts _ hlink) (fun _ h => h) hv hd ?_
  exact kk H locs ls hP hS hl
theorem X_putfield (hG : Ok Γ own b nL) (hp : okP own b pg) {k c0 ci : Nat} {fds : List (Option Nat)} {x : Int32} (hq : lkp pc pg = some (.putfield k, pc', v, a1, a2)) (hl0 : lay[c0]? = some (.inl (ci, fds))) (hci : ci = a1) (hw : fds[a2]? = some none) (hf : putOk a1 a2 finOkT = true) (kk : X Γ pc' L r (up σ c0 a2 x)) : X Γ pc L (.inl x :: .inr c0 :: r) σ := by
  obtain ⟨θ, ⟨p, l, e, R, s, m, args, below, meth, c⟩, A, ⟨kc, ks⟩, Q⟩ := Γ
  obtain ⟨hx, hb, hml, hown, hts, hE, hI, hA⟩ := hG
  obtain ⟨hd, he⟩ := okP_dec hp hq (by simp [lenI])
  obtain ⟨fl, ct, h1, -, h3⟩ := okAux_of hp hq
  simp only [okAux, decide_eq_true_eq] at h3
  subst hci
  obtain ⟨⟨C, T, N⟩, hcq, hlen⟩ := layOk hl0
  have hlink := h1 _ h3
  have hgd : classes.getD ci ("", FT0, 0) = (C, T, N) := by rw [List.getD_eq_getElem?_getD, hcq]; rfl
  simp only [FLc, hgd] at hlink
  obtain ⟨hw1, ⟨ty0, hty⟩, hnm, hcl⟩ := cl_ok _ (List.mem_of_getElem? hcq)
  dsimp only at hw1 hty hnm hcl hlen
  have hfo := putOk_fin hf
  rw [finOk, hcq] at hfo
  simp only [Bool.and_eq_true, Bool.not_eq_true', beq_iff_eq, decide_eq_true_eq] at hfo
  obtain ⟨⟨hf1, hf2⟩, hk⟩ := hfo
  subst he
  intro H locs ls hP hS hl
  refine va_put (C := C) (T := T) (N := N) (ci := ci) (ref := (T a2).1) (index := k) (Ts := TB) (ty := .int) (v := .int x) hx hb hts hw1 ty0 hty hnm hown hE.1 hP (wsOf_D hI hA σ) hS c0 (wsOf_get hl0) hcq a2 hk (hts _ hlink) (fun _ h => h) hf1 (by rw [hf2]; decide +kernel) rfl rfl (by rw [conF_len]; exact (List.getElem?_eq_some_iff.mp hw).1) hd ?_
  intro H1 locs1 hP1 hD1 hS1
  refine kk H1 locs1 ls ?_ hS1 hl
  have e1 : (conF θ.1 (σ c0) fds 0).set a2 (.int x) = conF θ.1 (upd (σ c0) a2 x) fds 0 := by
    have := conF_set (a := θ.1) (f := σ c0) (v := x) (l := fds) (j0 := 0) (j := a2) hw
    rw [Nat.zero_add] at this
    exact this.symm
  rw [e1] at hP1
  rw [up, ← wsOf_upc hl0]
  exact hP1
theorem X_alen (hG : Ok Γ own b nL) (hp : okP own b pg) {c0 kd n : Nat} {rs : List Nat} (hq : lkp pc pg = some (.arraylength, pc', v, a1, a2)) (hl0 : lay[c0]? = some (.inr (kd, n, rs))) (hkd : kd ≤ 5) (kk : X Γ pc' L (.inl (nI n) :: r) σ) : X Γ pc L (.inr c0 :: r) σ := by
  obtain ⟨θ, ⟨p, l, e, R, s, m, args, below, meth, c⟩, A, ⟨kc, ks⟩, Q⟩ := Γ
  obtain ⟨hx, hb, hml, hown, hts, hE, hI, hA⟩ := hG
  obtain ⟨hd, he⟩ := okP_dec hp hq (by simp [lenI])
  obtain ⟨ty, hty⟩ := tys_at θ hkd
  subst he
  intro H locs ls hP hS hl
  exact va_alen (v := nI n) hx hb hE.1 hP c0 kd (wsOf_get hl0) hty rfl hd (kk H locs ls hP hS hl)
end Sound
set_option maxHeartbeats 4000000 in
theorem stp_sound {Γ : Cx} {own : String} {b : ByteArray} {nL : Nat} (hG : Ok Γ own b nL) {pg : List Rw} (hp : okP own b pg) {pc : Nat} {L : Lc} {st : List AV} {σ : Sg} {q : Rq} (hq : lkp pc pg = some q) (hL : L.length = nL) {K : Nat → Lc → List AV → Sg → Mst} (hK : ∀ pc' L' st' σ', L'.length = nL → XT Γ (K pc' L' st' σ') → X Γ pc' L' st' σ') (h : XT Γ (stp q pc L st σ (pc, L, st, σ) K)) : X Γ pc L st σ := by
  have hG0 := hG
  obtain ⟨θ, ⟨p, l, e, R, s, m, args, below, meth, c⟩, A, ⟨kc, ks⟩, Q⟩ := Γ
  obtain ⟨hx, hb, hml, hown, hts, hE, hI, hA⟩ := hG
  obtain ⟨i, pc', v, a1, a2⟩ := q
  have hcons : ∀ (j : Nat), ∀ (ins : Instr), i = ins → (decode b pc = .ok (ins, j) ∧ pc' = pc + j) → (∀ (H : Heap) (locs : List Loc) (ls : Array Slot), va_P θ.2.1 classes (wsOf θ σ) H → va_S A s.heap H locs → lv_has ls L.length (prs θ.1 L) → (W p l e R s m args below meth c H locs kc ks Q (F0 m (pc + j) ls (.int v :: st.map (conc θ.1)))) → W p l e R s m args below meth c H locs kc ks Q (F0 m pc ls (st.map (conc θ.1)))) → XT (θ, (p, l, e, R, s, m, args, below, meth, c), A, (kc, ks), Q) (K pc' L (.inl v :: st) σ) → X (θ, (p, l, e, R, s, m, args, below, meth, c), A, (kc, ks), Q) pc L st σ := by
    intro j ins _ ⟨_, he⟩ hrow hk
    have hX := hK _ _ _ _ hL hk
    subst he
    intro H locs ls hP hS hl
    exact hrow H locs ls hP hS hl (hX H locs ls hP hS hl)
  cases i <;> (try exact h)
  case iconst n =>
    have hd := okP_dec hp hq (by simp [lenI])
    obtain ⟨fl, ct, -, -, h3⟩ := okAux_of hp hq
    simp only [okAux, decide_eq_true_eq] at h3
    exact hcons 1 _ rfl hd (fun H locs ls hP hS hl k => lv_iconst hx hb hd.1 h3 k) h
  case bipush n =>
    have hd := okP_dec hp hq (by simp [lenI])
    obtain ⟨fl, ct, -, -, h3⟩ := okAux_of hp hq
    simp only [okAux, decide_eq_true_eq] at h3
    exact hcons 2 _ rfl hd (fun H locs ls hP hS hl k => lv_bipush hx hb hd.1 h3 k) h
  case sipush n =>
    have hd := okP_dec hp hq (by simp [lenI])
    obtain ⟨fl, ct, -, -, h3⟩ := okAux_of hp hq
    simp only [okAux, decide_eq_true_eq] at h3
    exact hcons 3 _ rfl hd (fun H locs ls hP hS hl k => lv_sipush hx hb hd.1 h3 k) h
  case ldc n =>
    dsimp only [stp] at h
    cases hb1 : Nat.beq a1 1 with
    | true => rw [hb1] at h; exact h
    | false =>
      rw [hb1] at h
      have hd := okP_dec hp hq (by simp [lenI])
      obtain ⟨fl, ct, -, h2, h3⟩ := okAux_of hp hq
      simp only [okAux, Bool.or_eq_true, decide_eq_true_eq] at h3
      rcases h3 with h3 | h3
      · rw [h3] at hb1; cases hb1
      · exact hcons 2 _ rfl hd (fun H locs ls hP hS hl k => lv_ldc hx hb hown (hts _ (h2 _ h3)) hd.1 k) h
  case ldc_w n =>
    have hd := okP_dec hp hq (by simp [lenI])
    obtain ⟨fl, ct, -, h2, h3⟩ := okAux_of hp hq
    simp only [okAux, decide_eq_true_eq] at h3
    exact hcons 3 _ rfl hd (fun H locs ls hP hS hl k => lv_ldcw hx hb hown (hts _ (h2 _ h3)) hd.1 k) h
  case iload_n k =>
    dsimp only [stp] at h
    split at h
    · rename_i x hk
      obtain ⟨hd, he⟩ := okP_dec hp hq (by simp [lenI])
      have hX := hK _ _ _ _ hL h
      subst he
      intro H locs ls hP hS hl
      exact lv_iload_n hx hb hd rfl (lvh_at hl hk) (hX H locs ls hP hS hl)
    · exact h
  case iload k =>
    dsimp only [stp] at h
    split at h
    · rename_i x hk
      obtain ⟨hd, he⟩ := okP_dec hp hq (by simp [lenI])
      have hX := hK _ _ _ _ hL h
      subst he
      intro H locs ls hP hS hl
      exact lv_iload hx hb hd (lvh_at hl hk) (hX H locs ls hP hS hl)
    · exact h
  case aload_n k =>
    dsimp only [stp] at h
    split at h
    · rename_i x hk
      obtain ⟨hd, he⟩ := okP_dec hp hq (by simp [lenI])
      have hX := hK _ _ _ _ hL h
      subst he
      intro H locs ls hP hS hl
      exact lv_aload_n hx hb hd rfl (lvh_at hl hk) (hX H locs ls hP hS hl)
    · exact h
  case aload k =>
    dsimp only [stp] at h
    split at h
    · rename_i x hk
      obtain ⟨hd, he⟩ := okP_dec hp hq (by simp [lenI])
      have hX := hK _ _ _ _ hL h
      subst he
      intro H locs ls hP hS hl
      exact lv_aload hx hb hd (lvh_at hl hk) (hX H locs ls hP hS hl)
    · exact h
  case istore_n k =>
    dsimp only [stp] at h
    split at h
    · rename_i x r
      by_cases hkl : k.val < L.length
      · rw [setK_eq _ _ _ _ _ hkl] at h
        obtain ⟨hd, he⟩ := okP_dec hp hq (by simp [lenI])
        have hX := hK _ _ _ _ (by simpa using hL) h
        subst he
        intro H locs ls hP hS hl
        exact lv_istore_n hx hb hd rfl hl hkl rfl (fun ls' hl' => hX H locs ls' hP hS (by rw [List.length_set]; exact lvh_set hkl hl'))
      · rw [setK_ge _ _ _ _ _ (by omega)] at h; exact h
    · exact h
  case istore k =>
    dsimp only [stp] at h
    split at h
    · rename_i x r
      by_cases hkl : k < L.length
      · rw [setK_eq _ _ _ _ _ hkl] at h
        obtain ⟨hd, he⟩ := okP_dec hp hq (by simp [lenI])
        have hX := hK _ _ _ _ (by simpa using hL) h
        subst he
        intro H locs ls hP hS hl
        exact lv_istore hx hb hd hl hkl rfl (fun ls' hl' => hX H locs ls' hP hS (by rw [List.length_set]; exact lvh_set hkl hl'))
      · rw [setK_ge _ _ _ _ _ (by omega)] at h; exact h
    · exact h
  case astore_n k =>
    dsimp only [stp] at h
    split at h
    · rename_i x r
      by_cases hkl : k.val < L.length
      · rw [setK_eq _ _ _ _ _ hkl] at h
        obtain ⟨hd, he⟩ := okP_dec hp hq (by simp [lenI])
        have hX := hK _ _ _ _ (by simpa using hL) h
        subst he
        intro H locs ls hP hS hl
        exact lv_astore_n hx hb hd rfl hl hkl rfl (fun ls' hl' => hX H locs ls' hP hS (by rw [List.length_set]; exact lvh_set hkl hl'))
      · rw [setK_ge _ _ _ _ _ (by omega)] at h; exact h
    · exact h
  case astore k =>
    dsimp only [stp] at h
    split at h
    · rename_i x r
      by_cases hkl : k < L.length
      · rw [setK_eq _ _ _ _ _ hkl] at h
        obtain ⟨hd, he⟩ := okP_dec hp hq (by simp [lenI])
        have hX := hK _ _ _ _ (by simpa using hL) h
        subst he
        intro H locs ls hP hS hl
        exact lv_astore hx hb hd hl hkl rfl (fun ls' hl' => hX H locs ls' hP hS (by rw [List.length_set]; exact lvh_set hkl hl'))
      · rw [setK_ge _ _ _ _ _ (by omega)] at h; exact h
    · exact h
  case iinc k n =>
    dsimp only [stp] at h
    split at h
    · rename_i x hk
      have hkl : k < L.length := (List.getElem?_eq_some_iff.mp hk).1
      rw [setK_eq _ _ _ _ _ hkl] at h
      obtain ⟨hd, he⟩ := okP_dec hp hq (by simp [lenI])
      obtain ⟨fl, ct, -, -, h3⟩ := okAux_of hp hq
      simp only [okAux, decide_eq_true_eq] at h3
      have hX := hK _ _ _ _ (by simpa using hL) h
      subst he
      intro H locs ls hP hS hl
      obtain ⟨j, hj⟩ := List.getElem?_of_mem (prs_mem (a := θ.1) hk)
      exact lv_iinc hx hb hd hl hj (v := x + v) (by rw [h3]) hkl rfl (fun ls' hl' => hX H locs ls' hP hS (by rw [List.length_set]; exact lvh_set (v := .inl (x + v)) hkl hl'))
    · exact h
  case iadd =>
    dsimp only [stp] at h
    split at h
    · obtain ⟨hd, he⟩ := okP_dec hp hq (by simp [lenI])
      have hX := hK _ _ _ _ hL h
      subst he
      intro H locs ls hP hS hl
      exact lv_iadd hx hb hd (hX H locs ls hP hS hl)
    · exact h
  case isub =>
    dsimp only [stp] at h
    split at h
    · obtain ⟨hd, he⟩ := okP_dec hp hq (by simp [lenI])
      have hX := hK _ _ _ _ hL h
      subst he
      intro H locs ls hP hS hl
      exact lv_isub hx hb hd (hX H locs ls hP hS hl)
    · exact h
  case imul =>
    dsimp only [stp] at h
    split at h
    · obtain ⟨hd, he⟩ := okP_dec hp hq (by simp [lenI])
      have hX := hK _ _ _ _ hL h
      subst he
      intro H locs ls hP hS hl
      exact lv_imul hx hb hd (hX H locs ls hP hS hl)
    · exact h
  case iand =>
    dsimp only [stp] at h
    split at h
    · obtain ⟨hd, he⟩ := okP_dec hp hq (by simp [lenI])
      have hX := hK _ _ _ _ hL h
      subst he
      intro H locs ls hP hS hl
      exact lv_iand hx hb hd (hX H locs ls hP hS hl)
    · exact h
  case ior =>
    dsimp only [stp] at h
    split at h
    · obtain ⟨hd, he⟩ := okP_dec hp hq (by simp [lenI])
      have hX := hK _ _ _ _ hL h
      subst he
      intro H locs ls hP hS hl
      exact lv_ior hx hb hd (hX H locs ls hP hS hl)
    · exact h
  case ishl =>
    dsimp only [stp] at h
    split at h
    · obtain ⟨hd, he⟩ := okP_dec hp hq (by simp [lenI])
      have hX := hK _ _ _ _ hL h
      subst he
      intro H locs ls hP hS hl
      exact lv_ishl hx hb hd (hX H locs ls hP hS hl)
    · exact h
  case ishr =>
    dsimp only [stp] at h
    split at h
    · obtain ⟨hd, he⟩ := okP_dec hp hq (by simp [lenI])
      have hX := hK _ _ _ _ hL h
      subst he
      intro H locs ls hP hS hl
      exact lv_ishr hx hb hd (hX H locs ls hP hS hl)
    · exact h
  case iushr =>
    dsimp only [stp] at h
    split at h
    · obtain ⟨hd, he⟩ := okP_dec hp hq (by simp [lenI])
      have hX := hK _ _ _ _ hL h
      subst he
      intro H locs ls hP hS hl
      exact lv_iushr hx hb hd rfl (hX H locs ls hP hS hl)
    · exact h
  case ineg =>
    dsimp only [stp] at h
    split at h
    · obtain ⟨hd, he⟩ := okP_dec hp hq (by simp [lenI])
      have hX := hK _ _ _ _ hL h
      subst he
      intro H locs ls hP hS hl
      exact lv_ineg hx hb hd (hX H locs ls hP hS hl)
    · exact h
  case i2s =>
    dsimp only [stp] at h
    split at h
    · obtain ⟨hd, he⟩ := okP_dec hp hq (by simp [lenI])
      have hX := hK _ _ _ _ hL h
      subst he
      intro H locs ls hP hS hl
      exact lv_i2s hx hb hd rfl (hX H locs ls hP hS hl)
    · exact h
  case i2c =>
    dsimp only [stp] at h
    split at h
    · obtain ⟨hd, he⟩ := okP_dec hp hq (by simp [lenI])
      have hX := hK _ _ _ _ hL h
      subst he
      intro H locs ls hP hS hl
      exact lv_i2c hx hb hd rfl (hX H locs ls hP hS hl)
    · exact h
  case dup =>
    dsimp only [stp] at h
    split at h
    · obtain ⟨hd, he⟩ := okP_dec hp hq (by simp [lenI])
      have hX := hK _ _ _ _ hL h
      subst he
      intro H locs ls hP hS hl
      exact lv_dup hx hb hd (conc_cat _ _) (hX H locs ls hP hS hl)
    · exact h
  case pop =>
    dsimp only [stp] at h
    split at h
    · obtain ⟨hd, he⟩ := okP_dec hp hq (by simp [lenI])
      have hX := hK _ _ _ _ hL h
      subst he
      intro H locs ls hP hS hl
      exact lv_pop hx hb hd (conc_cat _ _) (hX H locs ls hP hS hl)
    · exact h
  case dup2 =>
    dsimp only [stp] at h
    split at h
    · obtain ⟨hd, he⟩ := okP_dec hp hq (by simp [lenI])
      have hX := hK _ _ _ _ hL h
      subst he
      intro H locs ls hP hS hl
      exact lv_dup2_11 hx hb hd (conc_cat _ _) (conc_cat _ _) (hX H locs ls hP hS hl)
    · exact h
  case goto o =>
    dsimp only [stp] at h
    cases hb1 : Nat.ble a1 pc with
    | true => rw [hb1] at h; exact h
    | false =>
      rw [hb1] at h
      exact X_goto hG0 hp hq (hK _ _ _ _ hL h)
  case getfield k =>
    dsimp only [stp] at h
    split at h
    · rename_i c0 r
      split at h
      · rename_i ci fds hl0
        cases hb1 : Nat.beq ci a1 with
        | false => rw [hb1] at h; exact h
        | true =>
          rw [hb1] at h
          dsimp only at h
          split at h
          · rename_i hf
            exact X_getfield hG0 hp hq hl0 (Nat.eq_of_beq_eq_true hb1) (Or.inl ⟨hf, rfl⟩) (hK _ _ _ _ hL h)
          · rename_i z hf
            exact X_getfield hG0 hp hq hl0 (Nat.eq_of_beq_eq_true hb1) (Or.inr ⟨z, hf, rfl⟩) (hK _ _ _ _ hL h)
          · exact h
      · exact h
    · exact h
  case putfield k =>
    dsimp only [stp] at h
    split at h
    · rename_i x c0 r
      split at h
      · rename_i ci fds hl0
        cases hb1 : Nat.beq ci a1 with
        | false => rw [hb1] at h; exact h
        | true =>
          rw [hb1] at h
          dsimp only at h
          split at h
          · rename_i hf
            cases hb2 : putOk a1 a2 finOkT with
            | false => rw [hb2] at h; exact h
            | true =>
              rw [hb2] at h
              exact X_putfield hG0 hp hq hl0 (Nat.eq_of_beq_eq_true hb1) hf hb2 (hK _ _ _ _ hL h)
          · exact h
      · exact h
    · exact h
  case arraylength =>
    dsimp only [stp] at h
    split at h
    · rename_i c0 r
      split at h
      · rename_i kd n rs hl0
        cases hb1 : Nat.ble kd 5 with
        | false => rw [hb1] at h; exact h
        | true =>
          rw [hb1] at h
          exact X_alen hG0 hp hq hl0 (Nat.le_of_ble_eq_true hb1) (hK _ _ _ _ hL h)
      · exact h
    · exact h
theorem run_sound {Γ : Cx} {own : String} {b : ByteArray} {nL : Nat} (hG : Ok Γ own b nL) {pg : List Rw} (hp : okP own b pg) : ∀ (n pc : Nat) (L : Lc) (st : List AV) (σ : Sg), L.length = nL → XT Γ (run pg n pc L st σ) → X Γ pc L st σ
  | 0, _, _, _, _, _, h => h
  | n + 1, pc, L, st, σ, hL, h => by
    rw [run] at h
    cases hq : lkp pc pg with
    | none => rw [hq] at h; exact h
    | some q =>
      rw [hq] at h
      exact stp_sound hG hp hq hL (fun pc' L' st' σ' hL' h' => run_sound hG hp n pc' L' st' σ' hL' h') h
/-- go on, as far as the run is straight -/
theorem run_go {Γ : Cx} {own : String} {b : ByteArray} {nL : Nat} (hG : Ok Γ own b nL) {pg : List Rw} (hp : okP own b pg) (n : Nat) {pc pc' : Nat} {L L' : Lc} {st st' : List AV} {σ σ' : Sg} (hL : L.length = nL) (hr : run pg n pc L st σ = (pc', L', st', σ')) (k : X Γ pc' L' st' σ') : X Γ pc L st σ :=
  run_sound hG hp n pc L st σ hL (by rw [hr]; exact k)
