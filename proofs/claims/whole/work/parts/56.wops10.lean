/-! a weaker post; the dispatch over sheets -/
theorem Ci.imp {l : Launch} {θ : Th} {d : Nat} {M : MI} {av : List AV} {σ : Sg} {post post2 : Int32 → Sg → Prop} (h : Ci l θ d M av σ post) (hp : ∀ r σ', post r σ' → post2 r σ') : Ci l θ d M av σ post2 := by
  intro p e ha hc hk s m args below hf happ hP hK
  obtain ⟨n, o, h1, h2, h3, h4⟩ := h p e ha hc hk s m args below hf happ hP hK
  obtain ⟨⟨⟨r, u, q1, q2, q3⟩, q4⟩, q5⟩ := h4
  exact ⟨n, o, h1, h2, h3, ⟨⟨r, u, q1, hp r u q2, q3⟩, q4⟩, q5⟩
theorem Cv.imp {l : Launch} {θ : Th} {d : Nat} {M : MI} {av : List AV} {σ : Sg} {post post2 : Sg → Prop} (h : Cv l θ d M av σ post) (hp : ∀ σ', post σ' → post2 σ') : Cv l θ d M av σ post2 := by
  intro p e ha hc hk s m args below hf happ hP hK
  obtain ⟨n, o, h1, h2, h3, h4⟩ := h p e ha hc hk s m args below hf happ hP hK
  obtain ⟨⟨⟨u, q1, q2, q3⟩, q4⟩, q5⟩ := h4
  exact ⟨n, o, h1, h2, h3, ⟨⟨u, q1, hp u q2, q3⟩, q4⟩, q5⟩
section
variable {l : Launch} {θ : Th} {σ σ' : Sg} {n c t y : Nat} {f so sz ce : Nat → Int32}
theorem o_W_sheet (s t' nn : Int32) (hH : SH σ so sz ce) : Ci l θ 5 m_W_sheet [.inr 0, .inl s, .inl t', .inl nn] σ (fun r σ' => (shtG s t' nn = false → r = -1000000001 ∧ σ' = σ) ∧ (shtG s t' nn = true → shtZ t' nn = true → r = -1000000014 ∧ σ' = σ) ∧ (shtG s t' nn = true → shtZ t' nn = false → r = (if t' < 0 then 0 else nn) ∧ Sm [70, 71, 72, 73, 74, 75, 76, 77] σ σ' ∧ SH σ' (upd so s.toNatClampNeg t') (upd sz s.toNatClampNeg (if t' < 0 then 0 else nn)) (zr24 ce s.toNatClampNeg))) := by
  cases hs : inB s 0 3 with
  | false =>
    have eg : shtG s t' nn = false := by rw [shtG, hs]; rfl
    refine Ci.of (Or.inl mi_W_sheet) pk_W_sheet (nb rfl) (Or.inl rfl) [some (.inr 0), some (.inl s), some (.inl t'), some (.inl nn)] rfl fun Γ hG hR => ?_
    refine hG.cS lk_W_206 mi_W_isSheet rfl rfl (c_W_isSheet s) rfl rfl rfl rfl rfl rfl ?_
    rintro x σ' ⟨rfl, rfl⟩
    refine hG.br rfl rfl rfl rfl (fun h1 => ?_) (fun h1 => ?_)
    · refine hG.rt hR rfl rfl rfl rfl ?_
      exact ⟨fun _ => ⟨rfl, rfl⟩, fun h => absurd h (by rw [eg]; decide), fun h => absurd h (by rw [eg]; decide)⟩
    · exact absurd (bi_ne0.mp h1) (by rw [hs]; decide)
  | true =>
    obtain ⟨S, hS, rfl⟩ := (inB_nI (m := 3) (by omega)).mp hs
    rw [nI_clamp (by omega)]
    rcases (by omega : S = 0 ∨ S = 1 ∨ S = 2 ∨ S = 3) with rfl | rfl | rfl | rfl
    · refine Ci.imp (o_W_sheet0 t' nn hH) ?_
      rintro r σ' ⟨q1, q2, q3⟩
      refine ⟨q1, q2, fun a b => ?_⟩
      obtain ⟨c1, c2, c3⟩ := q3 a b
      exact ⟨c1, c2.mono (by simp), c3⟩
    · refine Ci.imp (o_W_sheet1 t' nn hH) ?_
      rintro r σ' ⟨q1, q2, q3⟩
      refine ⟨q1, q2, fun a b => ?_⟩
      obtain ⟨c1, c2, c3⟩ := q3 a b
      exact ⟨c1, c2.mono (by simp), c3⟩
    · refine Ci.imp (o_W_sheet2 t' nn hH) ?_
      rintro r σ' ⟨q1, q2, q3⟩
      refine ⟨q1, q2, fun a b => ?_⟩
      obtain ⟨c1, c2, c3⟩ := q3 a b
      exact ⟨c1, c2.mono (by simp), c3⟩
    · refine Ci.imp (o_W_sheet3 t' nn hH) ?_
      rintro r σ' ⟨q1, q2, q3⟩
      refine ⟨q1, q2, fun a b => ?_⟩
      obtain ⟨c1, c2, c3⟩ := q3 a b
      exact ⟨c1, c2.mono (by simp), c3⟩
theorem SH.cell (h : SH σ so sz ce) (S P : Nat) (hS : S < 4) (hP : P < 24) (v : Int32) : SH (up σ (71 + 2 * S) P v) so sz (upd ce (24 * S + P) v) := by
  intro s hs
  obtain ⟨a1, a2, a3⟩ := h s hs
  rw [up_c _ _ _ _ (show 70 + 2 * s ≠ 71 + 2 * S by omega)]
  refine ⟨a1, a2, fun j hj => ?_⟩
  by_cases e : s = S
  · subst e
    by_cases ej : j = P
    · subst ej; rw [up_self, upd_same]
    · rw [up_j _ _ _ _ ej, upd_ne (by omega)]; exact a3 j hj
  · rw [up_c _ _ _ _ (show 71 + 2 * s ≠ 71 + 2 * S by omega), upd_ne (by omega)]; exact a3 j hj
theorem SH.sm {cs : List Nat} (h : SH σ so sz ce) (hs : Sm cs σ σ') (hc : ∀ k, 70 ≤ k → k < 78 → k ∉ cs) : SH σ' so sz ce := by
  intro s h4
  rw [hs (70 + 2 * s) (hc _ (by omega) (by omega)), hs (71 + 2 * s) (hc _ (by omega) (by omega))]
  exact h s h4
theorem SH.cells (h : SH σ so sz ce) (S : Nat) (hS : S < 4) (g : Nat → Int32) (hs : Sm [71 + 2 * S] σ σ') (hc : ∀ j, j < 24 → σ' (71 + 2 * S) j = g (24 * S + j)) (hg : ∀ j, ¬ (24 * S ≤ j ∧ j < 24 * S + 24) → g j = ce j) : SH σ' so sz g := by
  intro s h4
  obtain ⟨a1, a2, a3⟩ := h s h4
  rw [hs (70 + 2 * s) (by simp; omega)]
  refine ⟨a1, a2, fun j hj => ?_⟩
  by_cases e : s = S
  · subst e; exact hc j hj
  · rw [hs (71 + 2 * s) (by simp; omega), a3 j hj, hg _ (by omega)]
theorem so_ne {x : Int32} (h : x = -1 ∨ x = 0 ∨ x = 1) (h1 : ¬ x = -1) : ¬ x < 0 := by
  rcases h with h | h | h
  · exact absurd h h1
  · rw [h]; decide
  · rw [h]; decide
theorem so_eq {x : Int32} (h : x = -1) : x < 0 := by rw [h]; decide
end
