/-! the class's calls: lay, ask, item, rest -/
def SL (σ : Sg) (sl ha hb hc : Nat → Int32) : Prop := ∀ k, k < 5 → σ (78 + 3 * k) 0 = sl k ∧ (sl k = 1 → σ (78 + 3 * k) 1 = ha k ∧ hb k = worthK (ha k) (σ (78 + 3 * k) 2) ∧ ∃ q, q < 6 ∧ ha k = nI q) ∧ (sl k = 2 → σ (79 + 3 * k) 1 = ha k ∧ ∀ j, j < 24 → σ (80 + 3 * k) j = hc (24 * k + j)) ∧ (sl k = 3 → σ (78 + 3 * k) 3 = ha k)
theorem sdiv_m1 (x : BitVec 32) : x.sdiv (-1#32) = -x := by
  rw [BitVec.sdiv_eq]
  cases x.msb <;> simp <;> rw [show (4294967295#32 : BitVec 32).msb = true by decide]
theorem rm_m1 (x : Int32) : x - x / (-1) * (-1) = 0 := by
  have h : x / (-1) = -x := by
    apply Int32.toBitVec_inj.mp
    rw [Int32.toBitVec_div, Int32.toBitVec_neg]
    exact sdiv_m1 x.toBitVec
  rw [h, Int32.neg_mul, Int32.mul_neg, Int32.neg_neg, Int32.mul_one, Int32.sub_self]
section
variable {l : Launch} {θ : Th} {σ σ' : Sg} {n c t y : Nat} {f so sz ce sl ha hb hc : Nat → Int32}
theorem SL.sm {cs : List Nat} (h : SL σ sl ha hb hc) (hs : Sm cs σ σ') (hk : ∀ k, 78 ≤ k → k < 93 → k ∉ cs) : SL σ' sl ha hb hc := by
  intro k h5
  rw [hs (78 + 3 * k) (hk _ (by omega) (by omega)), hs (79 + 3 * k) (hk _ (by omega) (by omega)), hs (80 + 3 * k) (hk _ (by omega) (by omega))]
  exact h k h5
theorem SL.put (h : SL σ sl ha hb hc) (K : Nat) (hK : K < 5) (a b d : Int32) (hc2 : Nat → Int32) (hs : Sm [78 + 3 * K, 79 + 3 * K, 80 + 3 * K] σ σ') (h0 : σ' (78 + 3 * K) 0 = a) (h1 : a = 1 → σ' (78 + 3 * K) 1 = b ∧ d = worthK b (σ' (78 + 3 * K) 2) ∧ ∃ q, q < 6 ∧ b = nI q) (h2 : a = 2 → σ' (79 + 3 * K) 1 = b ∧ ∀ j, j < 24 → σ' (80 + 3 * K) j = hc2 (24 * K + j)) (h3 : a = 3 → σ' (78 + 3 * K) 3 = b) (hg : ∀ j, ¬ (24 * K ≤ j ∧ j < 24 * K + 24) → hc2 j = hc j) : SL σ' (upd sl K a) (upd ha K b) (upd hb K d) hc2 := by
  intro k h5
  by_cases e : k = K
  · subst e
    rw [upd_same, upd_same, upd_same]
    exact ⟨h0, h1, h2, h3⟩
  · rw [upd_ne e, upd_ne e, upd_ne e, hs (78 + 3 * k) (by simp; omega), hs (79 + 3 * k) (by simp; omega), hs (80 + 3 * k) (by simp; omega)]
    obtain ⟨a1, a2, a3, a4⟩ := h k h5
    refine ⟨a1, a2, fun q => ?_, a4⟩
    obtain ⟨b1, b2⟩ := a3 q
    exact ⟨b1, fun j hj => by rw [b2 j hj, hg _ (by omega)]⟩
theorem o_W_lay0 (th k : Int32) (hS : SV σ f n c t y) (hH : SH σ so sz ce) (hs : SOk so sz) (hL : SL σ sl ha hb hc) : Ci l θ 5 m_W_lay [.inr 0, .inl (nI 0), .inl th, .inl k] σ (fun r σ' => (layG (nI 0) th k n = false → r = -1000000001 ∧ σ' = σ) ∧ (layG (nI 0) th k n = true → (th = 2 ∧ so k.toNatClampNeg < 0) → r = -1000000011 ∧ σ' = σ) ∧ (layG (nI 0) th k n = true → ¬ (th = 2 ∧ so k.toNatClampNeg < 0) → r = sl 0 ∧ Sm [78, 79, 80] σ σ' ∧ SL σ' (upd sl 0 th) (upd ha 0 (layA f sz th k)) (upd hb 0 (layB f th k)) (layC hc ce 0 th k))) := by
  have s0 : σ 78 0 = sl 0 := (hL 0 (by omega)).1
  have hn := hS.n10
  generalize hgg : layG (nI 0) th k n = gg
  rw [layG, show inB (nI 0) 0 4 = true by decide, Bool.true_and] at hgg
  refine Ci.of (Or.inl mi_W_lay) pk_W_lay (nb rfl) (Or.inl rfl) [some (.inr 0), some (.inl (nI 0)), some (.inl th), some (.inl k), none, none] rfl fun Γ hG hR => ?_
  have bad1 : gg = false → X Γ 16 [some (.inr 0), some (.inl (nI 0)), some (.inl th), some (.inl k), none, none] [] σ := by
    intro h
    refine hG.rt hR rfl rfl rfl rfl ?_
    exact ⟨fun _ => ⟨rfl, rfl⟩, fun q => absurd (q.symm.trans h) (by decide), fun q => absurd (q.symm.trans h) (by decide)⟩
  have bad2 : gg = false → X Γ 44 [some (.inr 0), some (.inl (nI 0)), some (.inl th), some (.inl k), none, none] [] σ := by
    intro h
    refine hG.rt hR rfl rfl rfl rfl ?_
    exact ⟨fun _ => ⟨rfl, rfl⟩, fun q => absurd (q.symm.trans h) (by decide), fun q => absurd (q.symm.trans h) (by decide)⟩
  -- the end, each thing by itself
  have at68 : gg = true → ¬ (th = 2 ∧ so k.toNatClampNeg < 0) → inB th 0 3 = true → (th = 1 → inB k 0 (nI n - 1) = true) → (th = 2 → inB k 0 3 = true) → X Γ 68 [some (.inr 0), some (.inl (nI 0)), some (.inl th), some (.inl k), none, none] [] σ := by
    intro hg hne h3 hp1 hp2
    have fin : ∀ (r : Int32) (τ : Sg), r = sl 0 → Sm [78, 79, 80] σ τ → SL τ (upd sl 0 th) (upd ha 0 (layA f sz th k)) (upd hb 0 (layB f th k)) (layC hc ce 0 th k) → ((gg = false → r = -1000000001 ∧ τ = σ) ∧ (gg = true → (th = 2 ∧ so k.toNatClampNeg < 0) → r = -1000000011 ∧ τ = σ) ∧ (gg = true → ¬ (th = 2 ∧ so k.toNatClampNeg < 0) → r = sl 0 ∧ Sm [78, 79, 80] σ τ ∧ SL τ (upd sl 0 th) (upd ha 0 (layA f sz th k)) (upd hb 0 (layB f th k)) (layC hc ce 0 th k))) := fun r τ e1 e2 e3 => ⟨fun q => absurd (q.symm.trans hg) (by decide), fun _ q => absurd q hne, fun _ _ => ⟨e1, e2, e3⟩⟩
    refine hG.lda rfl 0 rfl rfl rfl (Or.inr (Or.inr rfl)) rfl (by decide) rfl ?_
    refine hG.br rfl rfl rfl rfl (fun k1 => ?_) (fun k1 => ?_)
    · refine hG.br rfl rfl rfl rfl (fun k2 => ?_) (fun k2 => ?_)
      · refine hG.br rfl rfl rfl rfl (fun k3 => ?_) (fun k3 => ?_)
        · -- nothing is held
          refine hG.rt hR rfl rfl rfl rfl ?_
          refine fin _ _ s0 (Sm.rf.up (by decide)) (hL.put 0 (by omega) _ _ _ _ (Sm.rf.up (by decide)) (up_self _ _ _ _) (fun q => absurd q k1) (fun q => absurd q k2) (fun q => absurd q k3) (fun j hj => by rw [layC, if_neg k2]))
        · -- a number
          subst k3
          refine hG.rt hR rfl rfl rfl rfl ?_
          refine fin _ _ s0 ((Sm.rf.up (by decide)).up (by decide)) (hL.put 0 (by omega) _ _ _ _ ((Sm.rf.up (by decide)).up (by decide)) (by rw [up_j _ _ _ _ (by decide), up_self]) (fun q => absurd q (by decide)) (fun q => absurd q (by decide)) (fun _ => by rw [up_self, layA, if_neg (by decide), if_neg (by decide)]) (fun j hj => by rw [layC, if_neg (by decide)]))
      · -- a sheet
        subst k2
        obtain ⟨S, hS4, rfl⟩ := (inB_nI (m := 3) (by omega)).mp (hp2 rfl)
        have ecl : (nI S).toNatClampNeg = S := nI_clamp (by omega)
        rcases (by omega : S = 0 ∨ S = 1 ∨ S = 2 ∨ S = 3) with rfl | rfl | rfl | rfl
        · refine hG.lda rfl 0 rfl rfl rfl (Or.inr (Or.inl rfl)) rfl (by decide) rfl ?_
          refine hG.cVv lk_W_309 mi_R_become rfl rfl c_R_become79_70 rfl rfl rfl rfl rfl rfl rfl rfl ?_
          rintro τ ⟨q1, q2, q3, q4⟩
          have hH1 : SH (up σ 78 0 2) so sz ce := hH.sm (cs := [78]) (Sm.rf.up (by decide)) (by intro k h1 h2; simp; omega)
          have hsm : Sm [78, 79, 80] σ τ := Sm.tr (Sm.rf.up (by decide)) (q1.mono (by simp))
          refine hG.rt hR rfl rfl rfl rfl ?_
          refine fin _ _ s0 hsm (hL.put 0 (by omega) _ _ _ _ hsm (by rw [q1 78 (by decide), up_self]) (fun q => absurd q (by decide)) (fun _ => ⟨?_, fun j hj => ?_⟩) (fun q => absurd q (by decide)) (fun j hj => ?_))
          · rw [layA, if_neg (by decide), if_pos rfl, ecl, ← (hH1 0 (by omega)).2.1]; exact q3
          · rw [layC, if_pos rfl, ecl, va_cpy, if_pos ⟨by omega, by omega⟩]
            refine (q4 j hj).trans (((hH1 0 (by omega)).2.2 j hj).trans ?_)
            congr 1; omega
          · rw [layC, if_pos rfl, ecl, va_cpy, if_neg hj]
        · refine hG.lda rfl 1 rfl rfl rfl (Or.inr (Or.inl rfl)) rfl (by decide) rfl ?_
          refine hG.cVv lk_W_309 mi_R_become rfl rfl c_R_become79_72 rfl rfl rfl rfl rfl rfl rfl rfl ?_
          rintro τ ⟨q1, q2, q3, q4⟩
          have hH1 : SH (up σ 78 0 2) so sz ce := hH.sm (cs := [78]) (Sm.rf.up (by decide)) (by intro k h1 h2; simp; omega)
          have hsm : Sm [78, 79, 80] σ τ := Sm.tr (Sm.rf.up (by decide)) (q1.mono (by simp))
          refine hG.rt hR rfl rfl rfl rfl ?_
          refine fin _ _ s0 hsm (hL.put 0 (by omega) _ _ _ _ hsm (by rw [q1 78 (by decide), up_self]) (fun q => absurd q (by decide)) (fun _ => ⟨?_, fun j hj => ?_⟩) (fun q => absurd q (by decide)) (fun j hj => ?_))
          · rw [layA, if_neg (by decide), if_pos rfl, ecl, ← (hH1 1 (by omega)).2.1]; exact q3
          · rw [layC, if_pos rfl, ecl, va_cpy, if_pos ⟨by omega, by omega⟩]
            refine (q4 j hj).trans (((hH1 1 (by omega)).2.2 j hj).trans ?_)
            congr 1; omega
          · rw [layC, if_pos rfl, ecl, va_cpy, if_neg hj]
        · refine hG.lda rfl 2 rfl rfl rfl (Or.inr (Or.inl rfl)) rfl (by decide) rfl ?_
          refine hG.cVv lk_W_309 mi_R_become rfl rfl c_R_become79_74 rfl rfl rfl rfl rfl rfl rfl rfl ?_
          rintro τ ⟨q1, q2, q3, q4⟩
          have hH1 : SH (up σ 78 0 2) so sz ce := hH.sm (cs := [78]) (Sm.rf.up (by decide)) (by intro k h1 h2; simp; omega)
          have hsm : Sm [78, 79, 80] σ τ := Sm.tr (Sm.rf.up (by decide)) (q1.mono (by simp))
          refine hG.rt hR rfl rfl rfl rfl ?_
          refine fin _ _ s0 hsm (hL.put 0 (by omega) _ _ _ _ hsm (by rw [q1 78 (by decide), up_self]) (fun q => absurd q (by decide)) (fun _ => ⟨?_, fun j hj => ?_⟩) (fun q => absurd q (by decide)) (fun j hj => ?_))
          · rw [layA, if_neg (by decide), if_pos rfl, ecl, ← (hH1 2 (by omega)).2.1]; exact q3
          · rw [layC, if_pos rfl, ecl, va_cpy, if_pos ⟨by omega, by omega⟩]
            refine (q4 j hj).trans (((hH1 2 (by omega)).2.2 j hj).trans ?_)
            congr 1; omega
          · rw [layC, if_pos rfl, ecl, va_cpy, if_neg hj]
        · refine hG.lda rfl 3 rfl rfl rfl (Or.inr (Or.inl rfl)) rfl (by decide) rfl ?_
          refine hG.cVv lk_W_309 mi_R_become rfl rfl c_R_become79_76 rfl rfl rfl rfl rfl rfl rfl rfl ?_
          rintro τ ⟨q1, q2, q3, q4⟩
          have hH1 : SH (up σ 78 0 2) so sz ce := hH.sm (cs := [78]) (Sm.rf.up (by decide)) (by intro k h1 h2; simp; omega)
          have hsm : Sm [78, 79, 80] σ τ := Sm.tr (Sm.rf.up (by decide)) (q1.mono (by simp))
          refine hG.rt hR rfl rfl rfl rfl ?_
          refine fin _ _ s0 hsm (hL.put 0 (by omega) _ _ _ _ hsm (by rw [q1 78 (by decide), up_self]) (fun q => absurd q (by decide)) (fun _ => ⟨?_, fun j hj => ?_⟩) (fun q => absurd q (by decide)) (fun j hj => ?_))
          · rw [layA, if_neg (by decide), if_pos rfl, ecl, ← (hH1 3 (by omega)).2.1]; exact q3
          · rw [layC, if_pos rfl, ecl, va_cpy, if_pos ⟨by omega, by omega⟩]
            refine (q4 j hj).trans (((hH1 3 (by omega)).2.2 j hj).trans ?_)
            congr 1; omega
          · rw [layC, if_pos rfl, ecl, va_cpy, if_neg hj]
    · -- one of the people
      subst k1
      obtain ⟨p, hp, rfl⟩ := (inB_one hn).mp (hp1 rfl)
      have ecl : (nI p).toNatClampNeg = p := nI_clamp (by omega)
      refine hG.ld rfl p rfl rfl rfl rfl rfl (by omega) ?_
      refine hG.ld rfl p rfl rfl rfl rfl rfl (by omega) ?_
      refine hG.rt hR rfl rfl rfl rfl ?_
      have hsm : Sm [78, 79, 80] σ (up (up (up σ 78 0 1) 78 1 (up σ 78 0 1 33 p)) 78 2 (up (up σ 78 0 1) 78 1 (up σ 78 0 1 33 p) 34 p)) := ((Sm.rf.up (by decide)).up (by decide)).up (by decide)
      have ek : up σ 78 0 1 33 p = f (18 + 4 * p) := by rw [up_c _ _ _ _ (by decide)]; exact hS.rv.kd hp
      have em : up (up σ 78 0 1) 78 1 (up σ 78 0 1 33 p) 34 p = f (18 + 4 * p + 1) := by rw [up_c _ _ _ _ (by decide), up_c _ _ _ _ (by decide)]; exact hS.rv.nm hp
      refine fin _ _ s0 hsm (hL.put 0 (by omega) _ _ _ _ hsm (by rw [up_j _ _ _ _ (by decide), up_j _ _ _ _ (by decide), up_self]) (fun _ => ⟨?_, ?_, ?_⟩) (fun q => absurd q (by decide)) (fun q => absurd q (by decide)) (fun j hj => by rw [layC, if_neg (by decide)]))
      · rw [up_j _ _ _ _ (by decide), up_self, ek, layA, if_pos rfl, ecl]
      · rw [up_self, em, layA, layB, if_pos rfl, if_pos rfl, ecl]
      · rw [layA, if_pos rfl, ecl]
        exact (hS.ko p hp).1
  have at47 : gg = true → inB th 0 3 = true → (th = 1 → inB k 0 (nI n - 1) = true) → (th = 2 → inB k 0 3 = true) → X Γ 47 [some (.inr 0), some (.inl (nI 0)), some (.inl th), some (.inl k), none, none] [] σ := by
    intro hg h3 hp1 hp2
    refine hG.br rfl rfl rfl rfl (fun k1 => ?_) (fun k1 => ?_)
    · exact at68 hg (fun q => k1 q.1) h3 hp1 hp2
    · subst k1
      obtain ⟨S, hS4, rfl⟩ := (inB_nI (m := 3) (by omega)).mp (hp2 rfl)
      have ecl : (nI S).toNatClampNeg = S := nI_clamp (by omega)
      obtain ⟨hso, Z, hZ, hsz⟩ := hs S (by omega)
      have a0 := (hH S (by omega)).1
      have at68 := fun h => at68 hg h h3 hp1 hp2
      rw [ecl] at at68
      have hR2 : (r : Int32) → (r = -1000000011) → so S < 0 → ((gg = false → r = -1000000001 ∧ σ = σ) ∧ (gg = true → ((2 : Int32) = 2 ∧ so (nI S).toNatClampNeg < 0) → r = -1000000011 ∧ σ = σ) ∧ (gg = true → ¬ ((2 : Int32) = 2 ∧ so (nI S).toNatClampNeg < 0) → r = sl 0 ∧ Sm [78, 79, 80] σ σ ∧ SL σ (upd sl 0 2) (upd ha 0 (layA f sz 2 (nI S))) (upd hb 0 (layB f 2 (nI S))) (layC hc ce 0 2 (nI S)))) := fun r e h => ⟨fun q => absurd (q.symm.trans hg) (by decide), fun _ _ => ⟨e, rfl⟩, fun _ q => absurd ⟨rfl, by rw [ecl]; exact h⟩ q⟩
      rcases (by omega : S = 0 ∨ S = 1 ∨ S = 2 ∨ S = 3) with rfl | rfl | rfl | rfl
      · refine hG.lda rfl 0 rfl rfl rfl (Or.inr (Or.inl rfl)) rfl (by decide) rfl ?_
        refine hG.br rfl rfl rfl rfl (fun k2 => ?_) (fun k2 => ?_)
        · exact at68 (fun q => so_ne hso (by rw [← a0]; exact k2) q.2)
        · refine hG.rt hR rfl rfl rfl rfl ?_
          exact hR2 _ rfl (so_eq (by rw [← a0]; exact k2))
      · refine hG.lda rfl 1 rfl rfl rfl (Or.inr (Or.inl rfl)) rfl (by decide) rfl ?_
        refine hG.br rfl rfl rfl rfl (fun k2 => ?_) (fun k2 => ?_)
        · exact at68 (fun q => so_ne hso (by rw [← a0]; exact k2) q.2)
        · refine hG.rt hR rfl rfl rfl rfl ?_
          exact hR2 _ rfl (so_eq (by rw [← a0]; exact k2))
      · refine hG.lda rfl 2 rfl rfl rfl (Or.inr (Or.inl rfl)) rfl (by decide) rfl ?_
        refine hG.br rfl rfl rfl rfl (fun k2 => ?_) (fun k2 => ?_)
        · exact at68 (fun q => so_ne hso (by rw [← a0]; exact k2) q.2)
        · refine hG.rt hR rfl rfl rfl rfl ?_
          exact hR2 _ rfl (so_eq (by rw [← a0]; exact k2))
      · refine hG.lda rfl 3 rfl rfl rfl (Or.inr (Or.inl rfl)) rfl (by decide) rfl ?_
        refine hG.br rfl rfl rfl rfl (fun k2 => ?_) (fun k2 => ?_)
        · exact at68 (fun q => so_ne hso (by rw [← a0]; exact k2) q.2)
        · refine hG.rt hR rfl rfl rfl rfl ?_
          exact hR2 _ rfl (so_eq (by rw [← a0]; exact k2))
  refine hG.cS lk_W_293 mi_W_isSlot rfl rfl (c_W_isSlot (nI 0)) rfl rfl rfl rfl rfl rfl ?_
  rintro x σ' ⟨rfl, rfl⟩
  refine hG.br rfl rfl rfl rfl (fun h1 => ?_) (fun h1 => ?_)
  · exact absurd (bi_eq0.mp h1) (by decide)
  · refine hG.br rfl rfl rfl rfl (fun h2 => ?_) (fun h2 => ?_)
    · exact bad1 (by rw [← hgg, inB, decide_eq_false (i32_nle.mpr h2)]; rfl)
    · refine hG.br rfl rfl rfl rfl (fun h3 => ?_) (fun h3 => ?_)
      · have hin : inB th 0 3 = true := by rw [inB, decide_eq_true (i32_nlt.mp h2), decide_eq_true h3]; rfl
        rw [hin, Bool.true_and] at hgg
        have at32 : (th = 1 → inB k 0 (nI n - 1) = true) → X Γ 32 [some (.inr 0), some (.inl (nI 0)), some (.inl th), some (.inl k), none, none] [] σ' := by
          intro hp1
          refine hG.br rfl rfl rfl rfl (fun h4 => ?_) (fun h4 => ?_)
          · refine at47 ?_ hin hp1 (fun q => absurd q h4)
            rw [← hgg, decide_eq_false h4]
            by_cases h5 : th = 1
            · rw [hp1 h5]; simp
            · rw [decide_eq_false h5]; rfl
          · subst h4
            refine hG.cS lk_W_206 mi_W_isSheet rfl rfl (c_W_isSheet k) rfl rfl rfl rfl rfl rfl ?_
            rintro x σ' ⟨rfl, rfl⟩
            refine hG.br rfl rfl rfl rfl (fun h5 => ?_) (fun h5 => ?_)
            · refine at47 ?_ hin hp1 (fun _ => bi_ne0.mp h5)
              rw [← hgg, bi_ne0.mp h5]; simp
            · refine hG.go 0 rfl rfl (bad2 ?_)
              rw [← hgg, bi_eq0.mp h5]; simp
        refine hG.br rfl rfl rfl rfl (fun h4 => ?_) (fun h4 => ?_)
        · exact at32 (fun q => absurd q h4)
        · subst h4
          refine hG.cV lk_W_86 mi_W_isPerson rfl rfl (c_W_isPerson k hS) rfl rfl rfl rfl rfl rfl rfl rfl ?_
          rintro x σ' ⟨rfl, rfl⟩
          refine hG.br rfl rfl rfl rfl (fun h5 => ?_) (fun h5 => ?_)
          · refine bad2 ?_
            rw [← hgg, bi_eq0.mp h5]; simp
          · exact at32 (fun _ => bi_ne0.mp h5)
      · exact bad1 (by rw [← hgg, inB, decide_eq_false (p := th ≤ 3) h3, Bool.and_false]; rfl)
theorem o_W_ask0 (k : Int32) (hL : SL σ sl ha hb hc) : Ci l θ 5 m_W_ask [.inr 0, .inl (nI 0), .inl k] σ (fun r σ' => r = askR sl ha hb (nI 0) k ∧ σ' = σ) := by
  obtain ⟨s0, s1, s2, s3⟩ := hL 0 (by omega)
  have s0 : σ 78 0 = sl 0 := s0
  have hg : askR sl ha hb (nI 0) k = if inB k 0 5 then (if sl 0 = 0 then -1000000011 else if sl 0 = 1 ∧ underK (ha 0) k = true then hb 0 else -1000000012) else -1000000001 := by
    rw [askR, show inB (nI 0) 0 4 = true by decide, Bool.true_and, nI_clamp (by omega)]
  rw [hg]
  refine Ci.of (Or.inl mi_W_ask) pk_W_ask (nb rfl) (Or.inl rfl) [some (.inr 0), some (.inl (nI 0)), some (.inl k), none] rfl fun Γ hG hR => ?_
  refine hG.cS lk_W_293 mi_W_isSlot rfl rfl (c_W_isSlot (nI 0)) rfl rfl rfl rfl rfl rfl ?_
  rintro x σ' ⟨rfl, rfl⟩
  refine hG.br rfl rfl rfl rfl (fun h1 => ?_) (fun h1 => ?_)
  · exact absurd (bi_eq0.mp h1) (by decide)
  · refine hG.cS lk_W_64 mi_K_isKind rfl rfl (c_K_isKind k) rfl rfl rfl rfl rfl rfl ?_
    rintro x σ' ⟨rfl, rfl⟩
    refine hG.br rfl rfl rfl rfl (fun h2 => ?_) (fun h2 => ?_)
    · have h2 := bi_ne0.mp h2
      rw [if_pos h2] at hR
      obtain ⟨o, ho, rfl⟩ := (inB_nI (m := 5) (by omega)).mp h2
      refine hG.lda rfl 0 rfl rfl rfl (Or.inr (Or.inr rfl)) rfl (by decide) rfl ?_
      refine hG.br rfl rfl rfl rfl (fun h3 => ?_) (fun h3 => ?_)
      · rw [s0] at h3
        rw [if_neg h3] at hR
        refine hG.br rfl rfl rfl rfl (fun h4 => ?_) (fun h4 => ?_)
        · rw [s0] at h4
          rw [if_neg (fun q => h4 q.1)] at hR
          refine hG.rt hR rfl rfl rfl rfl ?_
          exact ⟨rfl, rfl⟩
        · rw [s0] at h4
          obtain ⟨e1, e2, q, hq, e3⟩ := s1 h4
          have e1 : σ' 78 1 = nI q := e1.trans e3
          have c0 : Ci l θ 2 m_K_isOf [.inl (σ' 78 1), .inl (nI o)] σ' (fun r σ'' => σ'' = σ' ∧ r = bi (underK (nI q) (nI o))) := by rw [e1]; exact c_K_isOf q o hq
          refine hG.cS lk_W_116 mi_K_isOf rfl rfl c0 rfl rfl rfl rfl rfl rfl ?_
          rintro x σ' ⟨rfl, rfl⟩
          refine hG.br rfl rfl rfl rfl (fun h5 => ?_) (fun h5 => ?_)
          · rw [if_pos ⟨h4, by rw [e3]; exact bi_ne0.mp h5⟩] at hR
            refine hG.cS lk_W_112 mi_K_worth rfl rfl (c_K_worth _ _) rfl rfl rfl rfl rfl rfl ?_
            rintro x σ' ⟨rfl, rfl⟩
            refine hG.rt hR rfl rfl rfl rfl ?_
            exact ⟨by rw [e2, e3, e1], rfl⟩
          · rw [if_neg (fun q => by rw [e3, bi_eq0.mp h5] at q; cases q.2)] at hR
            refine hG.rt hR rfl rfl rfl rfl ?_
            exact ⟨rfl, rfl⟩
      · rw [s0] at h3
        rw [if_pos h3] at hR
        refine hG.rt hR rfl rfl rfl rfl ?_
        exact ⟨rfl, rfl⟩
    · rw [bi_eq0.mp h2, if_neg (by decide)] at hR
      refine hG.rt hR rfl rfl rfl rfl ?_
      exact ⟨rfl, rfl⟩
theorem o_W_item0 (p : Int32) (hL : SL σ sl ha hb hc) (hl : LOk sl ha) : Ci l θ 5 m_W_item [.inr 0, .inl (nI 0), .inl p] σ (fun r σ' => r = itmR sl ha hc (nI 0) p ∧ σ' = σ) := by
  obtain ⟨s0, s1, s2, s3⟩ := hL 0 (by omega)
  have s0 : σ 78 0 = sl 0 := s0
  have hg : itmR sl ha hc (nI 0) p = if sl 0 = 0 then -1000000011 else if ¬ sl 0 = 2 then -1000000012 else if inB p 0 (ha 0 - 1) then (if hc (24 * 0 + p.toNatClampNeg) = -1000000005 then -1000000012 else hc (24 * 0 + p.toNatClampNeg)) else -1000000013 := by
    rw [itmR, show inB (nI 0) 0 4 = true by decide, if_pos rfl, nI_clamp (by omega)]
  rw [hg]
  refine Ci.of (Or.inl mi_W_item) pk_W_item (nb rfl) (Or.inl rfl) [some (.inr 0), some (.inl (nI 0)), some (.inl p), none] rfl fun Γ hG hR => ?_
  refine hG.cS lk_W_293 mi_W_isSlot rfl rfl (c_W_isSlot (nI 0)) rfl rfl rfl rfl rfl rfl ?_
  rintro x σ' ⟨rfl, rfl⟩
  refine hG.br rfl rfl rfl rfl (fun h1 => ?_) (fun h1 => ?_)
  · refine hG.lda rfl 0 rfl rfl rfl (Or.inr (Or.inr rfl)) rfl (by decide) rfl ?_
    refine hG.br rfl rfl rfl rfl (fun h3 => ?_) (fun h3 => ?_)
    · rw [s0] at h3
      rw [if_neg h3] at hR
      refine hG.br rfl rfl rfl rfl (fun h4 => ?_) (fun h4 => ?_)
      · rw [s0] at h4
        rw [if_neg (fun q => q h4)] at hR
        obtain ⟨Z, hZ, eZ⟩ := (hl 0 (by omega)).2 h4
        obtain ⟨e1, e2⟩ := s2 h4
        have e1 : σ' 79 1 = nI Z := e1.trans eZ
        have e2 : ∀ j, j < 24 → σ' 80 j = hc (24 * 0 + j) := e2
        rw [eZ] at hR
        refine hG.cV lk_W_275 mi_R_hasPlace rfl rfl (c_R_hasPlace79 p) rfl rfl rfl rfl rfl rfl rfl rfl ?_
        rintro x σ' ⟨rfl, rfl⟩
        rw [e1, ← inB_m1 p Z (by omega)]
        refine hG.br rfl rfl rfl rfl (fun h5 => ?_) (fun h5 => ?_)
        · have h5 := bi_ne0.mp h5
          rw [if_pos h5] at hR
          obtain ⟨P, hP, rfl⟩ := (inB_lt (by omega)).mp h5
          rw [nI_clamp (by omega)] at hR
          refine hG.ld rfl P rfl rfl rfl rfl rfl (by omega) ?_
          rw [e2 P (by omega)]
          refine hG.br rfl rfl rfl rfl (fun h6 => ?_) (fun h6 => ?_)
          · rw [if_neg h6] at hR
            refine hG.ld rfl P rfl rfl rfl rfl rfl (by omega) ?_
            rw [e2 P (by omega)]
            refine hG.rt hR rfl rfl rfl rfl ?_
            exact ⟨rfl, rfl⟩
          · rw [if_pos h6] at hR
            refine hG.rt hR rfl rfl rfl rfl ?_
            exact ⟨rfl, rfl⟩
        · rw [bi_eq0.mp h5, if_neg (by decide)] at hR
          refine hG.rt hR rfl rfl rfl rfl ?_
          exact ⟨rfl, rfl⟩
      · rw [s0] at h4
        rw [if_pos h4] at hR
        refine hG.rt hR rfl rfl rfl rfl ?_
        exact ⟨rfl, rfl⟩
    · rw [s0] at h3
      rw [if_pos h3] at hR
      refine hG.rt hR rfl rfl rfl rfl ?_
      exact ⟨rfl, rfl⟩
  · exact absurd (bi_eq0.mp h1) (by decide)
theorem o_W_rest0 (k : Int32) (hL : SL σ sl ha hb hc) : Ci l θ 5 m_W_rest [.inr 0, .inl (nI 0), .inl k] σ (fun r σ' => r = rstR sl ha (nI 0) k ∧ σ' = σ) := by
  obtain ⟨s0, s1, s2, s3⟩ := hL 0 (by omega)
  have s0 : σ 78 0 = sl 0 := s0
  have hg : rstR sl ha (nI 0) k = if sl 0 = 0 then -1000000011 else if ¬ sl 0 = 3 then -1000000012 else if k = 0 then -1000000002 else if k = -1 then 0 else rmI (ha 0) k := by
    rw [rstR, show inB (nI 0) 0 4 = true by decide, if_pos rfl, nI_clamp (by omega)]
  rw [hg]
  refine Ci.of (Or.inl mi_W_rest) pk_W_rest (nb rfl) (Or.inl rfl) [some (.inr 0), some (.inl (nI 0)), some (.inl k), none] rfl fun Γ hG hR => ?_
  refine hG.cS lk_W_293 mi_W_isSlot rfl rfl (c_W_isSlot (nI 0)) rfl rfl rfl rfl rfl rfl ?_
  rintro x σ' ⟨rfl, rfl⟩
  refine hG.br rfl rfl rfl rfl (fun h1 => ?_) (fun h1 => ?_)
  · refine hG.lda rfl 0 rfl rfl rfl (Or.inr (Or.inr rfl)) rfl (by decide) rfl ?_
    refine hG.br rfl rfl rfl rfl (fun h3 => ?_) (fun h3 => ?_)
    · rw [s0] at h3
      rw [if_neg h3] at hR
      refine hG.br rfl rfl rfl rfl (fun h4 => ?_) (fun h4 => ?_)
      · rw [s0] at h4
        rw [if_neg (fun q => q h4)] at hR
        have e1 : σ' 78 3 = ha 0 := s3 h4
        refine hG.br rfl rfl rfl rfl (fun h5 => ?_) (fun h5 => ?_)
        · rw [if_neg h5] at hR
          refine hG.rm rfl rfl rfl h5 ?_
          rw [e1]
          refine hG.rt hR rfl rfl rfl rfl ?_
          refine ⟨?_, rfl⟩
          by_cases h6 : k = -1
          · rw [if_pos h6, h6, rm_m1]
          · rw [if_neg h6]; rfl
        · rw [if_pos h5] at hR
          refine hG.rt hR rfl rfl rfl rfl ?_
          exact ⟨rfl, rfl⟩
      · rw [s0] at h4
        rw [if_pos h4] at hR
        refine hG.rt hR rfl rfl rfl rfl ?_
        exact ⟨rfl, rfl⟩
    · rw [s0] at h3
      rw [if_pos h3] at hR
      refine hG.rt hR rfl rfl rfl rfl ?_
      exact ⟨rfl, rfl⟩
  · exact absurd (bi_eq0.mp h1) (by decide)
theorem o_W_lay1 (th k : Int32) (hS : SV σ f n c t y) (hH : SH σ so sz ce) (hs : SOk so sz) (hL : SL σ sl ha hb hc) : Ci l θ 5 m_W_lay [.inr 0, .inl (nI 1), .inl th, .inl k] σ (fun r σ' => (layG (nI 1) th k n = false → r = -1000000001 ∧ σ' = σ) ∧ (layG (nI 1) th k n = true → (th = 2 ∧ so k.toNatClampNeg < 0) → r = -1000000011 ∧ σ' = σ) ∧ (layG (nI 1) th k n = true → ¬ (th = 2 ∧ so k.toNatClampNeg < 0) → r = sl 1 ∧ Sm [81, 82, 83] σ σ' ∧ SL σ' (upd sl 1 th) (upd ha 1 (layA f sz th k)) (upd hb 1 (layB f th k)) (layC hc ce 1 th k))) := by
  have s0 : σ 81 0 = sl 1 := (hL 1 (by omega)).1
  have hn := hS.n10
  generalize hgg : layG (nI 1) th k n = gg
  rw [layG, show inB (nI 1) 0 4 = true by decide, Bool.true_and] at hgg
  refine Ci.of (Or.inl mi_W_lay) pk_W_lay (nb rfl) (Or.inl rfl) [some (.inr 0), some (.inl (nI 1)), some (.inl th), some (.inl k), none, none] rfl fun Γ hG hR => ?_
  have bad1 : gg = false → X Γ 16 [some (.inr 0), some (.inl (nI 1)), some (.inl th), some (.inl k), none, none] [] σ := by
    intro h
    refine hG.rt hR rfl rfl rfl rfl ?_
    exact ⟨fun _ => ⟨rfl, rfl⟩, fun q => absurd (q.symm.trans h) (by decide), fun q => absurd (q.symm.trans h) (by decide)⟩
  have bad2 : gg = false → X Γ 44 [some (.inr 0), some (.inl (nI 1)), some (.inl th), some (.inl k), none, none] [] σ := by
    intro h
    refine hG.rt hR rfl rfl rfl rfl ?_
    exact ⟨fun _ => ⟨rfl, rfl⟩, fun q => absurd (q.symm.trans h) (by decide), fun q => absurd (q.symm.trans h) (by decide)⟩
  -- the end, each thing by itself
  have at68 : gg = true → ¬ (th = 2 ∧ so k.toNatClampNeg < 0) → inB th 0 3 = true → (th = 1 → inB k 0 (nI n - 1) = true) → (th = 2 → inB k 0 3 = true) → X Γ 68 [some (.inr 0), some (.inl (nI 1)), some (.inl th), some (.inl k), none, none] [] σ := by
    intro hg hne h3 hp1 hp2
    have fin : ∀ (r : Int32) (τ : Sg), r = sl 1 → Sm [81, 82, 83] σ τ → SL τ (upd sl 1 th) (upd ha 1 (layA f sz th k)) (upd hb 1 (layB f th k)) (layC hc ce 1 th k) → ((gg = false → r = -1000000001 ∧ τ = σ) ∧ (gg = true → (th = 2 ∧ so k.toNatClampNeg < 0) → r = -1000000011 ∧ τ = σ) ∧ (gg = true → ¬ (th = 2 ∧ so k.toNatClampNeg < 0) → r = sl 1 ∧ Sm [81, 82, 83] σ τ ∧ SL τ (upd sl 1 th) (upd ha 1 (layA f sz th k)) (upd hb 1 (layB f th k)) (layC hc ce 1 th k))) := fun r τ e1 e2 e3 => ⟨fun q => absurd (q.symm.trans hg) (by decide), fun _ q => absurd q hne, fun _ _ => ⟨e1, e2, e3⟩⟩
    refine hG.lda rfl 1 rfl rfl rfl (Or.inr (Or.inr rfl)) rfl (by decide) rfl ?_
    refine hG.br rfl rfl rfl rfl (fun k1 => ?_) (fun k1 => ?_)
    · refine hG.br rfl rfl rfl rfl (fun k2 => ?_) (fun k2 => ?_)
      · refine hG.br rfl rfl rfl rfl (fun k3 => ?_) (fun k3 => ?_)
        · -- nothing is held
          refine hG.rt hR rfl rfl rfl rfl ?_
          refine fin _ _ s0 (Sm.rf.up (by decide)) (hL.put 1 (by omega) _ _ _ _ (Sm.rf.up (by decide)) (up_self _ _ _ _) (fun q => absurd q k1) (fun q => absurd q k2) (fun q => absurd q k3) (fun j hj => by rw [layC, if_neg k2]))
        · -- a number
          subst k3
          refine hG.rt hR rfl rfl rfl rfl ?_
          refine fin _ _ s0 ((Sm.rf.up (by decide)).up (by decide)) (hL.put 1 (by omega) _ _ _ _ ((Sm.rf.up (by decide)).up (by decide)) (by rw [up_j _ _ _ _ (by decide), up_self]) (fun q => absurd q (by decide)) (fun q => absurd q (by decide)) (fun _ => by rw [up_self, layA, if_neg (by decide), if_neg (by decide)]) (fun j hj => by rw [layC, if_neg (by decide)]))
      · -- a sheet
        subst k2
        obtain ⟨S, hS4, rfl⟩ := (inB_nI (m := 3) (by omega)).mp (hp2 rfl)
        have ecl : (nI S).toNatClampNeg = S := nI_clamp (by omega)
        rcases (by omega : S = 0 ∨ S = 1 ∨ S = 2 ∨ S = 3) with rfl | rfl | rfl | rfl
        · refine hG.lda rfl 0 rfl rfl rfl (Or.inr (Or.inl rfl)) rfl (by decide) rfl ?_
          refine hG.cVv lk_W_309 mi_R_become rfl rfl c_R_become82_70 rfl rfl rfl rfl rfl rfl rfl rfl ?_
          rintro τ ⟨q1, q2, q3, q4⟩
          have hH1 : SH (up σ 81 0 2) so sz ce := hH.sm (cs := [81]) (Sm.rf.up (by decide)) (by intro k h1 h2; simp; omega)
          have hsm : Sm [81, 82, 83] σ τ := Sm.tr (Sm.rf.up (by decide)) (q1.mono (by simp))
          refine hG.rt hR rfl rfl rfl rfl ?_
          refine fin _ _ s0 hsm (hL.put 1 (by omega) _ _ _ _ hsm (by rw [q1 81 (by decide), up_self]) (fun q => absurd q (by decide)) (fun _ => ⟨?_, fun j hj => ?_⟩) (fun q => absurd q (by decide)) (fun j hj => ?_))
          · rw [layA, if_neg (by decide), if_pos rfl, ecl, ← (hH1 0 (by omega)).2.1]; exact q3
          · rw [layC, if_pos rfl, ecl, va_cpy, if_pos ⟨by omega, by omega⟩]
            refine (q4 j hj).trans (((hH1 0 (by omega)).2.2 j hj).trans ?_)
            congr 1; omega
          · rw [layC, if_pos rfl, ecl, va_cpy, if_neg hj]
        · refine hG.lda rfl 1 rfl rfl rfl (Or.inr (Or.inl rfl)) rfl (by decide) rfl ?_
          refine hG.cVv lk_W_309 mi_R_become rfl rfl c_R_become82_72 rfl rfl rfl rfl rfl rfl rfl rfl ?_
          rintro τ ⟨q1, q2, q3, q4⟩
          have hH1 : SH (up σ 81 0 2) so sz ce := hH.sm (cs := [81]) (Sm.rf.up (by decide)) (by intro k h1 h2; simp; omega)
          have hsm : Sm [81, 82, 83] σ τ := Sm.tr (Sm.rf.up (by decide)) (q1.mono (by simp))
          refine hG.rt hR rfl rfl rfl rfl ?_
          refine fin _ _ s0 hsm (hL.put 1 (by omega) _ _ _ _ hsm (by rw [q1 81 (by decide), up_self]) (fun q => absurd q (by decide)) (fun _ => ⟨?_, fun j hj => ?_⟩) (fun q => absurd q (by decide)) (fun j hj => ?_))
          · rw [layA, if_neg (by decide), if_pos rfl, ecl, ← (hH1 1 (by omega)).2.1]; exact q3
          · rw [layC, if_pos rfl, ecl, va_cpy, if_pos ⟨by omega, by omega⟩]
            refine (q4 j hj).trans (((hH1 1 (by omega)).2.2 j hj).trans ?_)
            congr 1; omega
          · rw [layC, if_pos rfl, ecl, va_cpy, if_neg hj]
        · refine hG.lda rfl 2 rfl rfl rfl (Or.inr (Or.inl rfl)) rfl (by decide) rfl ?_
          refine hG.cVv lk_W_309 mi_R_become rfl rfl c_R_become82_74 rfl rfl rfl rfl rfl rfl rfl rfl ?_
          rintro τ ⟨q1, q2, q3, q4⟩
          have hH1 : SH (up σ 81 0 2) so sz ce := hH.sm (cs := [81]) (Sm.rf.up (by decide)) (by intro k h1 h2; simp; omega)
          have hsm : Sm [81, 82, 83] σ τ := Sm.tr (Sm.rf.up (by decide)) (q1.mono (by simp))
          refine hG.rt hR rfl rfl rfl rfl ?_
          refine fin _ _ s0 hsm (hL.put 1 (by omega) _ _ _ _ hsm (by rw [q1 81 (by decide), up_self]) (fun q => absurd q (by decide)) (fun _ => ⟨?_, fun j hj => ?_⟩) (fun q => absurd q (by decide)) (fun j hj => ?_))
          · rw [layA, if_neg (by decide), if_pos rfl, ecl, ← (hH1 2 (by omega)).2.1]; exact q3
          · rw [layC, if_pos rfl, ecl, va_cpy, if_pos ⟨by omega, by omega⟩]
            refine (q4 j hj).trans (((hH1 2 (by omega)).2.2 j hj).trans ?_)
            congr 1; omega
          · rw [layC, if_pos rfl, ecl, va_cpy, if_neg hj]
        · refine hG.lda rfl 3 rfl rfl rfl (Or.inr (Or.inl rfl)) rfl (by decide) rfl ?_
          refine hG.cVv lk_W_309 mi_R_become rfl rfl c_R_become82_76 rfl rfl rfl rfl rfl rfl rfl rfl ?_
          rintro τ ⟨q1, q2, q3, q4⟩
          have hH1 : SH (up σ 81 0 2) so sz ce := hH.sm (cs := [81]) (Sm.rf.up (by decide)) (by intro k h1 h2; simp; omega)
          have hsm : Sm [81, 82, 83] σ τ := Sm.tr (Sm.rf.up (by decide)) (q1.mono (by simp))
          refine hG.rt hR rfl rfl rfl rfl ?_
          refine fin _ _ s0 hsm (hL.put 1 (by omega) _ _ _ _ hsm (by rw [q1 81 (by decide), up_self]) (fun q => absurd q (by decide)) (fun _ => ⟨?_, fun j hj => ?_⟩) (fun q => absurd q (by decide)) (fun j hj => ?_))
          · rw [layA, if_neg (by decide), if_pos rfl, ecl, ← (hH1 3 (by omega)).2.1]; exact q3
          · rw [layC, if_pos rfl, ecl, va_cpy, if_pos ⟨by omega, by omega⟩]
            refine (q4 j hj).trans (((hH1 3 (by omega)).2.2 j hj).trans ?_)
            congr 1; omega
          · rw [layC, if_pos rfl, ecl, va_cpy, if_neg hj]
    · -- one of the people
      subst k1
      obtain ⟨p, hp, rfl⟩ := (inB_one hn).mp (hp1 rfl)
      have ecl : (nI p).toNatClampNeg = p := nI_clamp (by omega)
      refine hG.ld rfl p rfl rfl rfl rfl rfl (by omega) ?_
      refine hG.ld rfl p rfl rfl rfl rfl rfl (by omega) ?_
      refine hG.rt hR rfl rfl rfl rfl ?_
      have hsm : Sm [81, 82, 83] σ (up (up (up σ 81 0 1) 81 1 (up σ 81 0 1 33 p)) 81 2 (up (up σ 81 0 1) 81 1 (up σ 81 0 1 33 p) 34 p)) := ((Sm.rf.up (by decide)).up (by decide)).up (by decide)
      have ek : up σ 81 0 1 33 p = f (18 + 4 * p) := by rw [up_c _ _ _ _ (by decide)]; exact hS.rv.kd hp
      have em : up (up σ 81 0 1) 81 1 (up σ 81 0 1 33 p) 34 p = f (18 + 4 * p + 1) := by rw [up_c _ _ _ _ (by decide), up_c _ _ _ _ (by decide)]; exact hS.rv.nm hp
      refine fin _ _ s0 hsm (hL.put 1 (by omega) _ _ _ _ hsm (by rw [up_j _ _ _ _ (by decide), up_j _ _ _ _ (by decide), up_self]) (fun _ => ⟨?_, ?_, ?_⟩) (fun q => absurd q (by decide)) (fun q => absurd q (by decide)) (fun j hj => by rw [layC, if_neg (by decide)]))
      · rw [up_j _ _ _ _ (by decide), up_self, ek, layA, if_pos rfl, ecl]
      · rw [up_self, em, layA, layB, if_pos rfl, if_pos rfl, ecl]
      · rw [layA, if_pos rfl, ecl]
        exact (hS.ko p hp).1
  have at47 : gg = true → inB th 0 3 = true → (th = 1 → inB k 0 (nI n - 1) = true) → (th = 2 → inB k 0 3 = true) → X Γ 47 [some (.inr 0), some (.inl (nI 1)), some (.inl th), some (.inl k), none, none] [] σ := by
    intro hg h3 hp1 hp2
    refine hG.br rfl rfl rfl rfl (fun k1 => ?_) (fun k1 => ?_)
    · exact at68 hg (fun q => k1 q.1) h3 hp1 hp2
    · subst k1
      obtain ⟨S, hS4, rfl⟩ := (inB_nI (m := 3) (by omega)).mp (hp2 rfl)
      have ecl : (nI S).toNatClampNeg = S := nI_clamp (by omega)
      obtain ⟨hso, Z, hZ, hsz⟩ := hs S (by omega)
      have a0 := (hH S (by omega)).1
      have at68 := fun h => at68 hg h h3 hp1 hp2
      rw [ecl] at at68
      have hR2 : (r : Int32) → (r = -1000000011) → so S < 0 → ((gg = false → r = -1000000001 ∧ σ = σ) ∧ (gg = true → ((2 : Int32) = 2 ∧ so (nI S).toNatClampNeg < 0) → r = -1000000011 ∧ σ = σ) ∧ (gg = true → ¬ ((2 : Int32) = 2 ∧ so (nI S).toNatClampNeg < 0) → r = sl 1 ∧ Sm [81, 82, 83] σ σ ∧ SL σ (upd sl 1 2) (upd ha 1 (layA f sz 2 (nI S))) (upd hb 1 (layB f 2 (nI S))) (layC hc ce 1 2 (nI S)))) := fun r e h => ⟨fun q => absurd (q.symm.trans hg) (by decide), fun _ _ => ⟨e, rfl⟩, fun _ q => absurd ⟨rfl, by rw [ecl]; exact h⟩ q⟩
      rcases (by omega : S = 0 ∨ S = 1 ∨ S = 2 ∨ S = 3) with rfl | rfl | rfl | rfl
      · refine hG.lda rfl 0 rfl rfl rfl (Or.inr (Or.inl rfl)) rfl (by decide) rfl ?_
        refine hG.br rfl rfl rfl rfl (fun k2 => ?_) (fun k2 => ?_)
        · exact at68 (fun q => so_ne hso (by rw [← a0]; exact k2) q.2)
        · refine hG.rt hR rfl rfl rfl rfl ?_
          exact hR2 _ rfl (so_eq (by rw [← a0]; exact k2))
      · refine hG.lda rfl 1 rfl rfl rfl (Or.inr (Or.inl rfl)) rfl (by decide) rfl ?_
        refine hG.br rfl rfl rfl rfl (fun k2 => ?_) (fun k2 => ?_)
        · exact at68 (fun q => so_ne hso (by rw [← a0]; exact k2) q.2)
        · refine hG.rt hR rfl rfl rfl rfl ?_
          exact hR2 _ rfl (so_eq (by rw [← a0]; exact k2))
      · refine hG.lda rfl 2 rfl rfl rfl (Or.inr (Or.inl rfl)) rfl (by decide) rfl ?_
        refine hG.br rfl rfl rfl rfl (fun k2 => ?_) (fun k2 => ?_)
        · exact at68 (fun q => so_ne hso (by rw [← a0]; exact k2) q.2)
        · refine hG.rt hR rfl rfl rfl rfl ?_
          exact hR2 _ rfl (so_eq (by rw [← a0]; exact k2))
      · refine hG.lda rfl 3 rfl rfl rfl (Or.inr (Or.inl rfl)) rfl (by decide) rfl ?_
        refine hG.br rfl rfl rfl rfl (fun k2 => ?_) (fun k2 => ?_)
        · exact at68 (fun q => so_ne hso (by rw [← a0]; exact k2) q.2)
        · refine hG.rt hR rfl rfl rfl rfl ?_
          exact hR2 _ rfl (so_eq (by rw [← a0]; exact k2))
  refine hG.cS lk_W_293 mi_W_isSlot rfl rfl (c_W_isSlot (nI 1)) rfl rfl rfl rfl rfl rfl ?_
  rintro x σ' ⟨rfl, rfl⟩
  refine hG.br rfl rfl rfl rfl (fun h1 => ?_) (fun h1 => ?_)
  · exact absurd (bi_eq0.mp h1) (by decide)
  · refine hG.br rfl rfl rfl rfl (fun h2 => ?_) (fun h2 => ?_)
    · exact bad1 (by rw [← hgg, inB, decide_eq_false (i32_nle.mpr h2)]; rfl)
    · refine hG.br rfl rfl rfl rfl (fun h3 => ?_) (fun h3 => ?_)
      · have hin : inB th 0 3 = true := by rw [inB, decide_eq_true (i32_nlt.mp h2), decide_eq_true h3]; rfl
        rw [hin, Bool.true_and] at hgg
        have at32 : (th = 1 → inB k 0 (nI n - 1) = true) → X Γ 32 [some (.inr 0), some (.inl (nI 1)), some (.inl th), some (.inl k), none, none] [] σ' := by
          intro hp1
          refine hG.br rfl rfl rfl rfl (fun h4 => ?_) (fun h4 => ?_)
          · refine at47 ?_ hin hp1 (fun q => absurd q h4)
            rw [← hgg, decide_eq_false h4]
            by_cases h5 : th = 1
            · rw [hp1 h5]; simp
            · rw [decide_eq_false h5]; rfl
          · subst h4
            refine hG.cS lk_W_206 mi_W_isSheet rfl rfl (c_W_isSheet k) rfl rfl rfl rfl rfl rfl ?_
            rintro x σ' ⟨rfl, rfl⟩
            refine hG.br rfl rfl rfl rfl (fun h5 => ?_) (fun h5 => ?_)
            · refine at47 ?_ hin hp1 (fun _ => bi_ne0.mp h5)
              rw [← hgg, bi_ne0.mp h5]; simp
            · refine hG.go 0 rfl rfl (bad2 ?_)
              rw [← hgg, bi_eq0.mp h5]; simp
        refine hG.br rfl rfl rfl rfl (fun h4 => ?_) (fun h4 => ?_)
        · exact at32 (fun q => absurd q h4)
        · subst h4
          refine hG.cV lk_W_86 mi_W_isPerson rfl rfl (c_W_isPerson k hS) rfl rfl rfl rfl rfl rfl rfl rfl ?_
          rintro x σ' ⟨rfl, rfl⟩
          refine hG.br rfl rfl rfl rfl (fun h5 => ?_) (fun h5 => ?_)
          · refine bad2 ?_
            rw [← hgg, bi_eq0.mp h5]; simp
          · exact at32 (fun _ => bi_ne0.mp h5)
      · exact bad1 (by rw [← hgg, inB, decide_eq_false (p := th ≤ 3) h3, Bool.and_false]; rfl)
theorem o_W_ask1 (k : Int32) (hL : SL σ sl ha hb hc) : Ci l θ 5 m_W_ask [.inr 0, .inl (nI 1), .inl k] σ (fun r σ' => r = askR sl ha hb (nI 1) k ∧ σ' = σ) := by
  obtain ⟨s0, s1, s2, s3⟩ := hL 1 (by omega)
  have s0 : σ 81 0 = sl 1 := s0
  have hg : askR sl ha hb (nI 1) k = if inB k 0 5 then (if sl 1 = 0 then -1000000011 else if sl 1 = 1 ∧ underK (ha 1) k = true then hb 1 else -1000000012) else -1000000001 := by
    rw [askR, show inB (nI 1) 0 4 = true by decide, Bool.true_and, nI_clamp (by omega)]
  rw [hg]
  refine Ci.of (Or.inl mi_W_ask) pk_W_ask (nb rfl) (Or.inl rfl) [some (.inr 0), some (.inl (nI 1)), some (.inl k), none] rfl fun Γ hG hR => ?_
  refine hG.cS lk_W_293 mi_W_isSlot rfl rfl (c_W_isSlot (nI 1)) rfl rfl rfl rfl rfl rfl ?_
  rintro x σ' ⟨rfl, rfl⟩
  refine hG.br rfl rfl rfl rfl (fun h1 => ?_) (fun h1 => ?_)
  · exact absurd (bi_eq0.mp h1) (by decide)
  · refine hG.cS lk_W_64 mi_K_isKind rfl rfl (c_K_isKind k) rfl rfl rfl rfl rfl rfl ?_
    rintro x σ' ⟨rfl, rfl⟩
    refine hG.br rfl rfl rfl rfl (fun h2 => ?_) (fun h2 => ?_)
    · have h2 := bi_ne0.mp h2
      rw [if_pos h2] at hR
      obtain ⟨o, ho, rfl⟩ := (inB_nI (m := 5) (by omega)).mp h2
      refine hG.lda rfl 1 rfl rfl rfl (Or.inr (Or.inr rfl)) rfl (by decide) rfl ?_
      refine hG.br rfl rfl rfl rfl (fun h3 => ?_) (fun h3 => ?_)
      · rw [s0] at h3
        rw [if_neg h3] at hR
        refine hG.br rfl rfl rfl rfl (fun h4 => ?_) (fun h4 => ?_)
        · rw [s0] at h4
          rw [if_neg (fun q => h4 q.1)] at hR
          refine hG.rt hR rfl rfl rfl rfl ?_
          exact ⟨rfl, rfl⟩
        · rw [s0] at h4
          obtain ⟨e1, e2, q, hq, e3⟩ := s1 h4
          have e1 : σ' 81 1 = nI q := e1.trans e3
          have c0 : Ci l θ 2 m_K_isOf [.inl (σ' 81 1), .inl (nI o)] σ' (fun r σ'' => σ'' = σ' ∧ r = bi (underK (nI q) (nI o))) := by rw [e1]; exact c_K_isOf q o hq
          refine hG.cS lk_W_116 mi_K_isOf rfl rfl c0 rfl rfl rfl rfl rfl rfl ?_
          rintro x σ' ⟨rfl, rfl⟩
          refine hG.br rfl rfl rfl rfl (fun h5 => ?_) (fun h5 => ?_)
          · rw [if_pos ⟨h4, by rw [e3]; exact bi_ne0.mp h5⟩] at hR
            refine hG.cS lk_W_112 mi_K_worth rfl rfl (c_K_worth _ _) rfl rfl rfl rfl rfl rfl ?_
            rintro x σ' ⟨rfl, rfl⟩
            refine hG.rt hR rfl rfl rfl rfl ?_
            exact ⟨by rw [e2, e3, e1], rfl⟩
          · rw [if_neg (fun q => by rw [e3, bi_eq0.mp h5] at q; cases q.2)] at hR
            refine hG.rt hR rfl rfl rfl rfl ?_
            exact ⟨rfl, rfl⟩
      · rw [s0] at h3
        rw [if_pos h3] at hR
        refine hG.rt hR rfl rfl rfl rfl ?_
        exact ⟨rfl, rfl⟩
    · rw [bi_eq0.mp h2, if_neg (by decide)] at hR
      refine hG.rt hR rfl rfl rfl rfl ?_
      exact ⟨rfl, rfl⟩
theorem o_W_item1 (p : Int32) (hL : SL σ sl ha hb hc) (hl : LOk sl ha) : Ci l θ 5 m_W_item [.inr 0, .inl (nI 1), .inl p] σ (fun r σ' => r = itmR sl ha hc (nI 1) p ∧ σ' = σ) := by
  obtain ⟨s0, s1, s2, s3⟩ := hL 1 (by omega)
  have s0 : σ 81 0 = sl 1 := s0
  have hg : itmR sl ha hc (nI 1) p = if sl 1 = 0 then -1000000011 else if ¬ sl 1 = 2 then -1000000012 else if inB p 0 (ha 1 - 1) then (if hc (24 * 1 + p.toNatClampNeg) = -1000000005 then -1000000012 else hc (24 * 1 + p.toNatClampNeg)) else -1000000013 := by
    rw [itmR, show inB (nI 1) 0 4 = true by decide, if_pos rfl, nI_clamp (by omega)]
  rw [hg]
  refine Ci.of (Or.inl mi_W_item) pk_W_item (nb rfl) (Or.inl rfl) [some (.inr 0), some (.inl (nI 1)), some (.inl p), none] rfl fun Γ hG hR => ?_
  refine hG.cS lk_W_293 mi_W_isSlot rfl rfl (c_W_isSlot (nI 1)) rfl rfl rfl rfl rfl rfl ?_
  rintro x σ' ⟨rfl, rfl⟩
  refine hG.br rfl rfl rfl rfl (fun h1 => ?_) (fun h1 => ?_)
  · refine hG.lda rfl 1 rfl rfl rfl (Or.inr (Or.inr rfl)) rfl (by decide) rfl ?_
    refine hG.br rfl rfl rfl rfl (fun h3 => ?_) (fun h3 => ?_)
    · rw [s0] at h3
      rw [if_neg h3] at hR
      refine hG.br rfl rfl rfl rfl (fun h4 => ?_) (fun h4 => ?_)
      · rw [s0] at h4
        rw [if_neg (fun q => q h4)] at hR
        obtain ⟨Z, hZ, eZ⟩ := (hl 1 (by omega)).2 h4
        obtain ⟨e1, e2⟩ := s2 h4
        have e1 : σ' 82 1 = nI Z := e1.trans eZ
        have e2 : ∀ j, j < 24 → σ' 83 j = hc (24 * 1 + j) := e2
        rw [eZ] at hR
        refine hG.cV lk_W_275 mi_R_hasPlace rfl rfl (c_R_hasPlace82 p) rfl rfl rfl rfl rfl rfl rfl rfl ?_
        rintro x σ' ⟨rfl, rfl⟩
        rw [e1, ← inB_m1 p Z (by omega)]
        refine hG.br rfl rfl rfl rfl (fun h5 => ?_) (fun h5 => ?_)
        · have h5 := bi_ne0.mp h5
          rw [if_pos h5] at hR
          obtain ⟨P, hP, rfl⟩ := (inB_lt (by omega)).mp h5
          rw [nI_clamp (by omega)] at hR
          refine hG.ld rfl P rfl rfl rfl rfl rfl (by omega) ?_
          rw [e2 P (by omega)]
          refine hG.br rfl rfl rfl rfl (fun h6 => ?_) (fun h6 => ?_)
          · rw [if_neg h6] at hR
            refine hG.ld rfl P rfl rfl rfl rfl rfl (by omega) ?_
            rw [e2 P (by omega)]
            refine hG.rt hR rfl rfl rfl rfl ?_
            exact ⟨rfl, rfl⟩
          · rw [if_pos h6] at hR
            refine hG.rt hR rfl rfl rfl rfl ?_
            exact ⟨rfl, rfl⟩
        · rw [bi_eq0.mp h5, if_neg (by decide)] at hR
          refine hG.rt hR rfl rfl rfl rfl ?_
          exact ⟨rfl, rfl⟩
      · rw [s0] at h4
        rw [if_pos h4] at hR
        refine hG.rt hR rfl rfl rfl rfl ?_
        exact ⟨rfl, rfl⟩
    · rw [s0] at h3
      rw [if_pos h3] at hR
      refine hG.rt hR rfl rfl rfl rfl ?_
      exact ⟨rfl, rfl⟩
  · exact absurd (bi_eq0.mp h1) (by decide)
theorem o_W_rest1 (k : Int32) (hL : SL σ sl ha hb hc) : Ci l θ 5 m_W_rest [.inr 0, .inl (nI 1), .inl k] σ (fun r σ' => r = rstR sl ha (nI 1) k ∧ σ' = σ) := by
  obtain ⟨s0, s1, s2, s3⟩ := hL 1 (by omega)
  have s0 : σ 81 0 = sl 1 := s0
  have hg : rstR sl ha (nI 1) k = if sl 1 = 0 then -1000000011 else if ¬ sl 1 = 3 then -1000000012 else if k = 0 then -1000000002 else if k = -1 then 0 else rmI (ha 1) k := by
    rw [rstR, show inB (nI 1) 0 4 = true by decide, if_pos rfl, nI_clamp (by omega)]
  rw [hg]
  refine Ci.of (Or.inl mi_W_rest) pk_W_rest (nb rfl) (Or.inl rfl) [some (.inr 0), some (.inl (nI 1)), some (.inl k), none] rfl fun Γ hG hR => ?_
  refine hG.cS lk_W_293 mi_W_isSlot rfl rfl (c_W_isSlot (nI 1)) rfl rfl rfl rfl rfl rfl ?_
  rintro x σ' ⟨rfl, rfl⟩
  refine hG.br rfl rfl rfl rfl (fun h1 => ?_) (fun h1 => ?_)
  · refine hG.lda rfl 1 rfl rfl rfl (Or.inr (Or.inr rfl)) rfl (by decide) rfl ?_
    refine hG.br rfl rfl rfl rfl (fun h3 => ?_) (fun h3 => ?_)
    · rw [s0] at h3
      rw [if_neg h3] at hR
      refine hG.br rfl rfl rfl rfl (fun h4 => ?_) (fun h4 => ?_)
      · rw [s0] at h4
        rw [if_neg (fun q => q h4)] at hR
        have e1 : σ' 81 3 = ha 1 := s3 h4
        refine hG.br rfl rfl rfl rfl (fun h5 => ?_) (fun h5 => ?_)
        · rw [if_neg h5] at hR
          refine hG.rm rfl rfl rfl h5 ?_
          rw [e1]
          refine hG.rt hR rfl rfl rfl rfl ?_
          refine ⟨?_, rfl⟩
          by_cases h6 : k = -1
          · rw [if_pos h6, h6, rm_m1]
          · rw [if_neg h6]; rfl
        · rw [if_pos h5] at hR
          refine hG.rt hR rfl rfl rfl rfl ?_
          exact ⟨rfl, rfl⟩
      · rw [s0] at h4
        rw [if_pos h4] at hR
        refine hG.rt hR rfl rfl rfl rfl ?_
        exact ⟨rfl, rfl⟩
    · rw [s0] at h3
      rw [if_pos h3] at hR
      refine hG.rt hR rfl rfl rfl rfl ?_
      exact ⟨rfl, rfl⟩
  · exact absurd (bi_eq0.mp h1) (by decide)
theorem o_W_lay2 (th k : Int32) (hS : SV σ f n c t y) (hH : SH σ so sz ce) (hs : SOk so sz) (hL : SL σ sl ha hb hc) : Ci l θ 5 m_W_lay [.inr 0, .inl (nI 2), .inl th, .inl k] σ (fun r σ' => (layG (nI 2) th k n = false → r = -1000000001 ∧ σ' = σ) ∧ (layG (nI 2) th k n = true → (th = 2 ∧ so k.toNatClampNeg < 0) → r = -1000000011 ∧ σ' = σ) ∧ (layG (nI 2) th k n = true → ¬ (th = 2 ∧ so k.toNatClampNeg < 0) → r = sl 2 ∧ Sm [84, 85, 86] σ σ' ∧ SL σ' (upd sl 2 th) (upd ha 2 (layA f sz th k)) (upd hb 2 (layB f th k)) (layC hc ce 2 th k))) := by
  have s0 : σ 84 0 = sl 2 := (hL 2 (by omega)).1
  have hn := hS.n10
  generalize hgg : layG (nI 2) th k n = gg
  rw [layG, show inB (nI 2) 0 4 = true by decide, Bool.true_and] at hgg
  refine Ci.of (Or.inl mi_W_lay) pk_W_lay (nb rfl) (Or.inl rfl) [some (.inr 0), some (.inl (nI 2)), some (.inl th), some (.inl k), none, none] rfl fun Γ hG hR => ?_
  have bad1 : gg = false → X Γ 16 [some (.inr 0), some (.inl (nI 2)), some (.inl th), some (.inl k), none, none] [] σ := by
    intro h
    refine hG.rt hR rfl rfl rfl rfl ?_
    exact ⟨fun _ => ⟨rfl, rfl⟩, fun q => absurd (q.symm.trans h) (by decide), fun q => absurd (q.symm.trans h) (by decide)⟩
  have bad2 : gg = false → X Γ 44 [some (.inr 0), some (.inl (nI 2)), some (.inl th), some (.inl k), none, none] [] σ := by
    intro h
    refine hG.rt hR rfl rfl rfl rfl ?_
    exact ⟨fun _ => ⟨rfl, rfl⟩, fun q => absurd (q.symm.trans h) (by decide), fun q => absurd (q.symm.trans h) (by decide)⟩
  -- the end, each thing by itself
  have at68 : gg = true → ¬ (th = 2 ∧ so k.toNatClampNeg < 0) → inB th 0 3 = true → (th = 1 → inB k 0 (nI n - 1) = true) → (th = 2 → inB k 0 3 = true) → X Γ 68 [some (.inr 0), some (.inl (nI 2)), some (.inl th), some (.inl k), none, none] [] σ := by
    intro hg hne h3 hp1 hp2
    have fin : ∀ (r : Int32) (τ : Sg), r = sl 2 → Sm [84, 85, 86] σ τ → SL τ (upd sl 2 th) (upd ha 2 (layA f sz th k)) (upd hb 2 (layB f th k)) (layC hc ce 2 th k) → ((gg = false → r = -1000000001 ∧ τ = σ) ∧ (gg = true → (th = 2 ∧ so k.toNatClampNeg < 0) → r = -1000000011 ∧ τ = σ) ∧ (gg = true → ¬ (th = 2 ∧ so k.toNatClampNeg < 0) → r = sl 2 ∧ Sm [84, 85, 86] σ τ ∧ SL τ (upd sl 2 th) (upd ha 2 (layA f sz th k)) (upd hb 2 (layB f th k)) (layC hc ce 2 th k))) := fun r τ e1 e2 e3 => ⟨fun q => absurd (q.symm.trans hg) (by decide), fun _ q => absurd q hne, fun _ _ => ⟨e1, e2, e3⟩⟩
    refine hG.lda rfl 2 rfl rfl rfl (Or.inr (Or.inr rfl)) rfl (by decide) rfl ?_
    refine hG.br rfl rfl rfl rfl (fun k1 => ?_) (fun k1 => ?_)
    · refine hG.br rfl rfl rfl rfl (fun k2 => ?_) (fun k2 => ?_)
      · refine hG.br rfl rfl rfl rfl (fun k3 => ?_) (fun k3 => ?_)
        · -- nothing is held
          refine hG.rt hR rfl rfl rfl rfl ?_
          refine fin _ _ s0 (Sm.rf.up (by decide)) (hL.put 2 (by omega) _ _ _ _ (Sm.rf.up (by decide)) (up_self _ _ _ _) (fun q => absurd q k1) (fun q => absurd q k2) (fun q => absurd q k3) (fun j hj => by rw [layC, if_neg k2]))
        · -- a number
          subst k3
          refine hG.rt hR rfl rfl rfl rfl ?_
          refine fin _ _ s0 ((Sm.rf.up (by decide)).up (by decide)) (hL.put 2 (by omega) _ _ _ _ ((Sm.rf.up (by decide)).up (by decide)) (by rw [up_j _ _ _ _ (by decide), up_self]) (fun q => absurd q (by decide)) (fun q => absurd q (by decide)) (fun _ => by rw [up_self, layA, if_neg (by decide), if_neg (by decide)]) (fun j hj => by rw [layC, if_neg (by decide)]))
      · -- a sheet
        subst k2
        obtain ⟨S, hS4, rfl⟩ := (inB_nI (m := 3) (by omega)).mp (hp2 rfl)
        have ecl : (nI S).toNatClampNeg = S := nI_clamp (by omega)
        rcases (by omega : S = 0 ∨ S = 1 ∨ S = 2 ∨ S = 3) with rfl | rfl | rfl | rfl
        · refine hG.lda rfl 0 rfl rfl rfl (Or.inr (Or.inl rfl)) rfl (by decide) rfl ?_
          refine hG.cVv lk_W_309 mi_R_become rfl rfl c_R_become85_70 rfl rfl rfl rfl rfl rfl rfl rfl ?_
          rintro τ ⟨q1, q2, q3, q4⟩
          have hH1 : SH (up σ 84 0 2) so sz ce := hH.sm (cs := [84]) (Sm.rf.up (by decide)) (by intro k h1 h2; simp; omega)
          have hsm : Sm [84, 85, 86] σ τ := Sm.tr (Sm.rf.up (by decide)) (q1.mono (by simp))
          refine hG.rt hR rfl rfl rfl rfl ?_
          refine fin _ _ s0 hsm (hL.put 2 (by omega) _ _ _ _ hsm (by rw [q1 84 (by decide), up_self]) (fun q => absurd q (by decide)) (fun _ => ⟨?_, fun j hj => ?_⟩) (fun q => absurd q (by decide)) (fun j hj => ?_))
          · rw [layA, if_neg (by decide), if_pos rfl, ecl, ← (hH1 0 (by omega)).2.1]; exact q3
          · rw [layC, if_pos rfl, ecl, va_cpy, if_pos ⟨by omega, by omega⟩]
            refine (q4 j hj).trans (((hH1 0 (by omega)).2.2 j hj).trans ?_)
            congr 1; omega
          · rw [layC, if_pos rfl, ecl, va_cpy, if_neg hj]
        · refine hG.lda rfl 1 rfl rfl rfl (Or.inr (Or.inl rfl)) rfl (by decide) rfl ?_
          refine hG.cVv lk_W_309 mi_R_become rfl rfl c_R_become85_72 rfl rfl rfl rfl rfl rfl rfl rfl ?_
          rintro τ ⟨q1, q2, q3, q4⟩
          have hH1 : SH (up σ 84 0 2) so sz ce := hH.sm (cs := [84]) (Sm.rf.up (by decide)) (by intro k h1 h2; simp; omega)
          have hsm : Sm [84, 85, 86] σ τ := Sm.tr (Sm.rf.up (by decide)) (q1.mono (by simp))
          refine hG.rt hR rfl rfl rfl rfl ?_
          refine fin _ _ s0 hsm (hL.put 2 (by omega) _ _ _ _ hsm (by rw [q1 84 (by decide), up_self]) (fun q => absurd q (by decide)) (fun _ => ⟨?_, fun j hj => ?_⟩) (fun q => absurd q (by decide)) (fun j hj => ?_))
          · rw [layA, if_neg (by decide), if_pos rfl, ecl, ← (hH1 1 (by omega)).2.1]; exact q3
          · rw [layC, if_pos rfl, ecl, va_cpy, if_pos ⟨by omega, by omega⟩]
            refine (q4 j hj).trans (((hH1 1 (by omega)).2.2 j hj).trans ?_)
            congr 1; omega
          · rw [layC, if_pos rfl, ecl, va_cpy, if_neg hj]
        · refine hG.lda rfl 2 rfl rfl rfl (Or.inr (Or.inl rfl)) rfl (by decide) rfl ?_
          refine hG.cVv lk_W_309 mi_R_become rfl rfl c_R_become85_74 rfl rfl rfl rfl rfl rfl rfl rfl ?_
          rintro τ ⟨q1, q2, q3, q4⟩
          have hH1 : SH (up σ 84 0 2) so sz ce := hH.sm (cs := [84]) (Sm.rf.up (by decide)) (by intro k h1 h2; simp; omega)
          have hsm : Sm [84, 85, 86] σ τ := Sm.tr (Sm.rf.up (by decide)) (q1.mono (by simp))
          refine hG.rt hR rfl rfl rfl rfl ?_
          refine fin _ _ s0 hsm (hL.put 2 (by omega) _ _ _ _ hsm (by rw [q1 84 (by decide), up_self]) (fun q => absurd q (by decide)) (fun _ => ⟨?_, fun j hj => ?_⟩) (fun q => absurd q (by decide)) (fun j hj => ?_))
          · rw [layA, if_neg (by decide), if_pos rfl, ecl, ← (hH1 2 (by omega)).2.1]; exact q3
          · rw [layC, if_pos rfl, ecl, va_cpy, if_pos ⟨by omega, by omega⟩]
            refine (q4 j hj).trans (((hH1 2 (by omega)).2.2 j hj).trans ?_)
            congr 1; omega
          · rw [layC, if_pos rfl, ecl, va_cpy, if_neg hj]
        · refine hG.lda rfl 3 rfl rfl rfl (Or.inr (Or.inl rfl)) rfl (by decide) rfl ?_
          refine hG.cVv lk_W_309 mi_R_become rfl rfl c_R_become85_76 rfl rfl rfl rfl rfl rfl rfl rfl ?_
          rintro τ ⟨q1, q2, q3, q4⟩
          have hH1 : SH (up σ 84 0 2) so sz ce := hH.sm (cs := [84]) (Sm.rf.up (by decide)) (by intro k h1 h2; simp; omega)
          have hsm : Sm [84, 85, 86] σ τ := Sm.tr (Sm.rf.up (by decide)) (q1.mono (by simp))
          refine hG.rt hR rfl rfl rfl rfl ?_
          refine fin _ _ s0 hsm (hL.put 2 (by omega) _ _ _ _ hsm (by rw [q1 84 (by decide), up_self]) (fun q => absurd q (by decide)) (fun _ => ⟨?_, fun j hj => ?_⟩) (fun q => absurd q (by decide)) (fun j hj => ?_))
          · rw [layA, if_neg (by decide), if_pos rfl, ecl, ← (hH1 3 (by omega)).2.1]; exact q3
          · rw [layC, if_pos rfl, ecl, va_cpy, if_pos ⟨by omega, by omega⟩]
            refine (q4 j hj).trans (((hH1 3 (by omega)).2.2 j hj).trans ?_)
            congr 1; omega
          · rw [layC, if_pos rfl, ecl, va_cpy, if_neg hj]
    · -- one of the people
      subst k1
      obtain ⟨p, hp, rfl⟩ := (inB_one hn).mp (hp1 rfl)
      have ecl : (nI p).toNatClampNeg = p := nI_clamp (by omega)
      refine hG.ld rfl p rfl rfl rfl rfl rfl (by omega) ?_
      refine hG.ld rfl p rfl rfl rfl rfl rfl (by omega) ?_
      refine hG.rt hR rfl rfl rfl rfl ?_
      have hsm : Sm [84, 85, 86] σ (up (up (up σ 84 0 1) 84 1 (up σ 84 0 1 33 p)) 84 2 (up (up σ 84 0 1) 84 1 (up σ 84 0 1 33 p) 34 p)) := ((Sm.rf.up (by decide)).up (by decide)).up (by decide)
      have ek : up σ 84 0 1 33 p = f (18 + 4 * p) := by rw [up_c _ _ _ _ (by decide)]; exact hS.rv.kd hp
      have em : up (up σ 84 0 1) 84 1 (up σ 84 0 1 33 p) 34 p = f (18 + 4 * p + 1) := by rw [up_c _ _ _ _ (by decide), up_c _ _ _ _ (by decide)]; exact hS.rv.nm hp
      refine fin _ _ s0 hsm (hL.put 2 (by omega) _ _ _ _ hsm (by rw [up_j _ _ _ _ (by decide), up_j _ _ _ _ (by decide), up_self]) (fun _ => ⟨?_, ?_, ?_⟩) (fun q => absurd q (by decide)) (fun q => absurd q (by decide)) (fun j hj => by rw [layC, if_neg (by decide)]))
      · rw [up_j _ _ _ _ (by decide), up_self, ek, layA, if_pos rfl, ecl]
      · rw [up_self, em, layA, layB, if_pos rfl, if_pos rfl, ecl]
      · rw [layA, if_pos rfl, ecl]
        exact (hS.ko p hp).1
  have at47 : gg = true → inB th 0 3 = true → (th = 1 → inB k 0 (nI n - 1) = true) → (th = 2 → inB k 0 3 = true) → X Γ 47 [some (.inr 0), some (.inl (nI 2)), some (.inl th), some (.inl k), none, none] [] σ := by
    intro hg h3 hp1 hp2
    refine hG.br rfl rfl rfl rfl (fun k1 => ?_) (fun k1 => ?_)
    · exact at68 hg (fun q => k1 q.1) h3 hp1 hp2
    · subst k1
      obtain ⟨S, hS4, rfl⟩ := (inB_nI (m := 3) (by omega)).mp (hp2 rfl)
      have ecl : (nI S).toNatClampNeg = S := nI_clamp (by omega)
      obtain ⟨hso, Z, hZ, hsz⟩ := hs S (by omega)
      have a0 := (hH S (by omega)).1
      have at68 := fun h => at68 hg h h3 hp1 hp2
      rw [ecl] at at68
      have hR2 : (r : Int32) → (r = -1000000011) → so S < 0 → ((gg = false → r = -1000000001 ∧ σ = σ) ∧ (gg = true → ((2 : Int32) = 2 ∧ so (nI S).toNatClampNeg < 0) → r = -1000000011 ∧ σ = σ) ∧ (gg = true → ¬ ((2 : Int32) = 2 ∧ so (nI S).toNatClampNeg < 0) → r = sl 2 ∧ Sm [84, 85, 86] σ σ ∧ SL σ (upd sl 2 2) (upd ha 2 (layA f sz 2 (nI S))) (upd hb 2 (layB f 2 (nI S))) (layC hc ce 2 2 (nI S)))) := fun r e h => ⟨fun q => absurd (q.symm.trans hg) (by decide), fun _ _ => ⟨e, rfl⟩, fun _ q => absurd ⟨rfl, by rw [ecl]; exact h⟩ q⟩
      rcases (by omega : S = 0 ∨ S = 1 ∨ S = 2 ∨ S = 3) with rfl | rfl | rfl | rfl
      · refine hG.lda rfl 0 rfl rfl rfl (Or.inr (Or.inl rfl)) rfl (by decide) rfl ?_
        refine hG.br rfl rfl rfl rfl (fun k2 => ?_) (fun k2 => ?_)
        · exact at68 (fun q => so_ne hso (by rw [← a0]; exact k2) q.2)
        · refine hG.rt hR rfl rfl rfl rfl ?_
          exact hR2 _ rfl (so_eq (by rw [← a0]; exact k2))
      · refine hG.lda rfl 1 rfl rfl rfl (Or.inr (Or.inl rfl)) rfl (by decide) rfl ?_
        refine hG.br rfl rfl rfl rfl (fun k2 => ?_) (fun k2 => ?_)
        · exact at68 (fun q => so_ne hso (by rw [← a0]; exact k2) q.2)
        · refine hG.rt hR rfl rfl rfl rfl ?_
          exact hR2 _ rfl (so_eq (by rw [← a0]; exact k2))
      · refine hG.lda rfl 2 rfl rfl rfl (Or.inr (Or.inl rfl)) rfl (by decide) rfl ?_
        refine hG.br rfl rfl rfl rfl (fun k2 => ?_) (fun k2 => ?_)
        · exact at68 (fun q => so_ne hso (by rw [← a0]; exact k2) q.2)
        · refine hG.rt hR rfl rfl rfl rfl ?_
          exact hR2 _ rfl (so_eq (by rw [← a0]; exact k2))
      · refine hG.lda rfl 3 rfl rfl rfl (Or.inr (Or.inl rfl)) rfl (by decide) rfl ?_
        refine hG.br rfl rfl rfl rfl (fun k2 => ?_) (fun k2 => ?_)
        · exact at68 (fun q => so_ne hso (by rw [← a0]; exact k2) q.2)
        · refine hG.rt hR rfl rfl rfl rfl ?_
          exact hR2 _ rfl (so_eq (by rw [← a0]; exact k2))
  refine hG.cS lk_W_293 mi_W_isSlot rfl rfl (c_W_isSlot (nI 2)) rfl rfl rfl rfl rfl rfl ?_
  rintro x σ' ⟨rfl, rfl⟩
  refine hG.br rfl rfl rfl rfl (fun h1 => ?_) (fun h1 => ?_)
  · exact absurd (bi_eq0.mp h1) (by decide)
  · refine hG.br rfl rfl rfl rfl (fun h2 => ?_) (fun h2 => ?_)
    · exact bad1 (by rw [← hgg, inB, decide_eq_false (i32_nle.mpr h2)]; rfl)
    · refine hG.br rfl rfl rfl rfl (fun h3 => ?_) (fun h3 => ?_)
      · have hin : inB th 0 3 = true := by rw [inB, decide_eq_true (i32_nlt.mp h2), decide_eq_true h3]; rfl
        rw [hin, Bool.true_and] at hgg
        have at32 : (th = 1 → inB k 0 (nI n - 1) = true) → X Γ 32 [some (.inr 0), some (.inl (nI 2)), some (.inl th), some (.inl k), none, none] [] σ' := by
          intro hp1
          refine hG.br rfl rfl rfl rfl (fun h4 => ?_) (fun h4 => ?_)
          · refine at47 ?_ hin hp1 (fun q => absurd q h4)
            rw [← hgg, decide_eq_false h4]
            by_cases h5 : th = 1
            · rw [hp1 h5]; simp
            · rw [decide_eq_false h5]; rfl
          · subst h4
            refine hG.cS lk_W_206 mi_W_isSheet rfl rfl (c_W_isSheet k) rfl rfl rfl rfl rfl rfl ?_
            rintro x σ' ⟨rfl, rfl⟩
            refine hG.br rfl rfl rfl rfl (fun h5 => ?_) (fun h5 => ?_)
            · refine at47 ?_ hin hp1 (fun _ => bi_ne0.mp h5)
              rw [← hgg, bi_ne0.mp h5]; simp
            · refine hG.go 0 rfl rfl (bad2 ?_)
              rw [← hgg, bi_eq0.mp h5]; simp
        refine hG.br rfl rfl rfl rfl (fun h4 => ?_) (fun h4 => ?_)
        · exact at32 (fun q => absurd q h4)
        · subst h4
          refine hG.cV lk_W_86 mi_W_isPerson rfl rfl (c_W_isPerson k hS) rfl rfl rfl rfl rfl rfl rfl rfl ?_
          rintro x σ' ⟨rfl, rfl⟩
          refine hG.br rfl rfl rfl rfl (fun h5 => ?_) (fun h5 => ?_)
          · refine bad2 ?_
            rw [← hgg, bi_eq0.mp h5]; simp
          · exact at32 (fun _ => bi_ne0.mp h5)
      · exact bad1 (by rw [← hgg, inB, decide_eq_false (p := th ≤ 3) h3, Bool.and_false]; rfl)
theorem o_W_ask2 (k : Int32) (hL : SL σ sl ha hb hc) : Ci l θ 5 m_W_ask [.inr 0, .inl (nI 2), .inl k] σ (fun r σ' => r = askR sl ha hb (nI 2) k ∧ σ' = σ) := by
  obtain ⟨s0, s1, s2, s3⟩ := hL 2 (by omega)
  have s0 : σ 84 0 = sl 2 := s0
  have hg : askR sl ha hb (nI 2) k = if inB k 0 5 then (if sl 2 = 0 then -1000000011 else if sl 2 = 1 ∧ underK (ha 2) k = true then hb 2 else -1000000012) else -1000000001 := by
    rw [askR, show inB (nI 2) 0 4 = true by decide, Bool.true_and, nI_clamp (by omega)]
  rw [hg]
  refine Ci.of (Or.inl mi_W_ask) pk_W_ask (nb rfl) (Or.inl rfl) [some (.inr 0), some (.inl (nI 2)), some (.inl k), none] rfl fun Γ hG hR => ?_
  refine hG.cS lk_W_293 mi_W_isSlot rfl rfl (c_W_isSlot (nI 2)) rfl rfl rfl rfl rfl rfl ?_
  rintro x σ' ⟨rfl, rfl⟩
  refine hG.br rfl rfl rfl rfl (fun h1 => ?_) (fun h1 => ?_)
  · exact absurd (bi_eq0.mp h1) (by decide)
  · refine hG.cS lk_W_64 mi_K_isKind rfl rfl (c_K_isKind k) rfl rfl rfl rfl rfl rfl ?_
    rintro x σ' ⟨rfl, rfl⟩
    refine hG.br rfl rfl rfl rfl (fun h2 => ?_) (fun h2 => ?_)
    · have h2 := bi_ne0.mp h2
      rw [if_pos h2] at hR
      obtain ⟨o, ho, rfl⟩ := (inB_nI (m := 5) (by omega)).mp h2
      refine hG.lda rfl 2 rfl rfl rfl (Or.inr (Or.inr rfl)) rfl (by decide) rfl ?_
      refine hG.br rfl rfl rfl rfl (fun h3 => ?_) (fun h3 => ?_)
      · rw [s0] at h3
        rw [if_neg h3] at hR
        refine hG.br rfl rfl rfl rfl (fun h4 => ?_) (fun h4 => ?_)
        · rw [s0] at h4
          rw [if_neg (fun q => h4 q.1)] at hR
          refine hG.rt hR rfl rfl rfl rfl ?_
          exact ⟨rfl, rfl⟩
        · rw [s0] at h4
          obtain ⟨e1, e2, q, hq, e3⟩ := s1 h4
          have e1 : σ' 84 1 = nI q := e1.trans e3
          have c0 : Ci l θ 2 m_K_isOf [.inl (σ' 84 1), .inl (nI o)] σ' (fun r σ'' => σ'' = σ' ∧ r = bi (underK (nI q) (nI o))) := by rw [e1]; exact c_K_isOf q o hq
          refine hG.cS lk_W_116 mi_K_isOf rfl rfl c0 rfl rfl rfl rfl rfl rfl ?_
          rintro x σ' ⟨rfl, rfl⟩
          refine hG.br rfl rfl rfl rfl (fun h5 => ?_) (fun h5 => ?_)
          · rw [if_pos ⟨h4, by rw [e3]; exact bi_ne0.mp h5⟩] at hR
            refine hG.cS lk_W_112 mi_K_worth rfl rfl (c_K_worth _ _) rfl rfl rfl rfl rfl rfl ?_
            rintro x σ' ⟨rfl, rfl⟩
            refine hG.rt hR rfl rfl rfl rfl ?_
            exact ⟨by rw [e2, e3, e1], rfl⟩
          · rw [if_neg (fun q => by rw [e3, bi_eq0.mp h5] at q; cases q.2)] at hR
            refine hG.rt hR rfl rfl rfl rfl ?_
            exact ⟨rfl, rfl⟩
      · rw [s0] at h3
        rw [if_pos h3] at hR
        refine hG.rt hR rfl rfl rfl rfl ?_
        exact ⟨rfl, rfl⟩
    · rw [bi_eq0.mp h2, if_neg (by decide)] at hR
      refine hG.rt hR rfl rfl rfl rfl ?_
      exact ⟨rfl, rfl⟩
theorem o_W_item2 (p : Int32) (hL : SL σ sl ha hb hc) (hl : LOk sl ha) : Ci l θ 5 m_W_item [.inr 0, .inl (nI 2), .inl p] σ (fun r σ' => r = itmR sl ha hc (nI 2) p ∧ σ' = σ) := by
  obtain ⟨s0, s1, s2, s3⟩ := hL 2 (by omega)
  have s0 : σ 84 0 = sl 2 := s0
  have hg : itmR sl ha hc (nI 2) p = if sl 2 = 0 then -1000000011 else if ¬ sl 2 = 2 then -1000000012 else if inB p 0 (ha 2 - 1) then (if hc (24 * 2 + p.toNatClampNeg) = -1000000005 then -1000000012 else hc (24 * 2 + p.toNatClampNeg)) else -1000000013 := by
    rw [itmR, show inB (nI 2) 0 4 = true by decide, if_pos rfl, nI_clamp (by omega)]
  rw [hg]
  refine Ci.of (Or.inl mi_W_item) pk_W_item (nb rfl) (Or.inl rfl) [some (.inr 0), some (.inl (nI 2)), some (.inl p), none] rfl fun Γ hG hR => ?_
  refine hG.cS lk_W_293 mi_W_isSlot rfl rfl (c_W_isSlot (nI 2)) rfl rfl rfl rfl rfl rfl ?_
  rintro x σ' ⟨rfl, rfl⟩
  refine hG.br rfl rfl rfl rfl (fun h1 => ?_) (fun h1 => ?_)
  · refine hG.lda rfl 2 rfl rfl rfl (Or.inr (Or.inr rfl)) rfl (by decide) rfl ?_
    refine hG.br rfl rfl rfl rfl (fun h3 => ?_) (fun h3 => ?_)
    · rw [s0] at h3
      rw [if_neg h3] at hR
      refine hG.br rfl rfl rfl rfl (fun h4 => ?_) (fun h4 => ?_)
      · rw [s0] at h4
        rw [if_neg (fun q => q h4)] at hR
        obtain ⟨Z, hZ, eZ⟩ := (hl 2 (by omega)).2 h4
        obtain ⟨e1, e2⟩ := s2 h4
        have e1 : σ' 85 1 = nI Z := e1.trans eZ
        have e2 : ∀ j, j < 24 → σ' 86 j = hc (24 * 2 + j) := e2
        rw [eZ] at hR
        refine hG.cV lk_W_275 mi_R_hasPlace rfl rfl (c_R_hasPlace85 p) rfl rfl rfl rfl rfl rfl rfl rfl ?_
        rintro x σ' ⟨rfl, rfl⟩
        rw [e1, ← inB_m1 p Z (by omega)]
        refine hG.br rfl rfl rfl rfl (fun h5 => ?_) (fun h5 => ?_)
        · have h5 := bi_ne0.mp h5
          rw [if_pos h5] at hR
          obtain ⟨P, hP, rfl⟩ := (inB_lt (by omega)).mp h5
          rw [nI_clamp (by omega)] at hR
          refine hG.ld rfl P rfl rfl rfl rfl rfl (by omega) ?_
          rw [e2 P (by omega)]
          refine hG.br rfl rfl rfl rfl (fun h6 => ?_) (fun h6 => ?_)
          · rw [if_neg h6] at hR
            refine hG.ld rfl P rfl rfl rfl rfl rfl (by omega) ?_
            rw [e2 P (by omega)]
            refine hG.rt hR rfl rfl rfl rfl ?_
            exact ⟨rfl, rfl⟩
          · rw [if_pos h6] at hR
            refine hG.rt hR rfl rfl rfl rfl ?_
            exact ⟨rfl, rfl⟩
        · rw [bi_eq0.mp h5, if_neg (by decide)] at hR
          refine hG.rt hR rfl rfl rfl rfl ?_
          exact ⟨rfl, rfl⟩
      · rw [s0] at h4
        rw [if_pos h4] at hR
        refine hG.rt hR rfl rfl rfl rfl ?_
        exact ⟨rfl, rfl⟩
    · rw [s0] at h3
      rw [if_pos h3] at hR
      refine hG.rt hR rfl rfl rfl rfl ?_
      exact ⟨rfl, rfl⟩
  · exact absurd (bi_eq0.mp h1) (by decide)
theorem o_W_rest2 (k : Int32) (hL : SL σ sl ha hb hc) : Ci l θ 5 m_W_rest [.inr 0, .inl (nI 2), .inl k] σ (fun r σ' => r = rstR sl ha (nI 2) k ∧ σ' = σ) := by
  obtain ⟨s0, s1, s2, s3⟩ := hL 2 (by omega)
  have s0 : σ 84 0 = sl 2 := s0
  have hg : rstR sl ha (nI 2) k = if sl 2 = 0 then -1000000011 else if ¬ sl 2 = 3 then -1000000012 else if k = 0 then -1000000002 else if k = -1 then 0 else rmI (ha 2) k := by
    rw [rstR, show inB (nI 2) 0 4 = true by decide, if_pos rfl, nI_clamp (by omega)]
  rw [hg]
  refine Ci.of (Or.inl mi_W_rest) pk_W_rest (nb rfl) (Or.inl rfl) [some (.inr 0), some (.inl (nI 2)), some (.inl k), none] rfl fun Γ hG hR => ?_
  refine hG.cS lk_W_293 mi_W_isSlot rfl rfl (c_W_isSlot (nI 2)) rfl rfl rfl rfl rfl rfl ?_
  rintro x σ' ⟨rfl, rfl⟩
  refine hG.br rfl rfl rfl rfl (fun h1 => ?_) (fun h1 => ?_)
  · refine hG.lda rfl 2 rfl rfl rfl (Or.inr (Or.inr rfl)) rfl (by decide) rfl ?_
    refine hG.br rfl rfl rfl rfl (fun h3 => ?_) (fun h3 => ?_)
    · rw [s0] at h3
      rw [if_neg h3] at hR
      refine hG.br rfl rfl rfl rfl (fun h4 => ?_) (fun h4 => ?_)
      · rw [s0] at h4
        rw [if_neg (fun q => q h4)] at hR
        have e1 : σ' 84 3 = ha 2 := s3 h4
        refine hG.br rfl rfl rfl rfl (fun h5 => ?_) (fun h5 => ?_)
        · rw [if_neg h5] at hR
          refine hG.rm rfl rfl rfl h5 ?_
          rw [e1]
          refine hG.rt hR rfl rfl rfl rfl ?_
          refine ⟨?_, rfl⟩
          by_cases h6 : k = -1
          · rw [if_pos h6, h6, rm_m1]
          · rw [if_neg h6]; rfl
        · rw [if_pos h5] at hR
          refine hG.rt hR rfl rfl rfl rfl ?_
          exact ⟨rfl, rfl⟩
      · rw [s0] at h4
        rw [if_pos h4] at hR
        refine hG.rt hR rfl rfl rfl rfl ?_
        exact ⟨rfl, rfl⟩
    · rw [s0] at h3
      rw [if_pos h3] at hR
      refine hG.rt hR rfl rfl rfl rfl ?_
      exact ⟨rfl, rfl⟩
  · exact absurd (bi_eq0.mp h1) (by decide)
theorem o_W_lay3 (th k : Int32) (hS : SV σ f n c t y) (hH : SH σ so sz ce) (hs : SOk so sz) (hL : SL σ sl ha hb hc) : Ci l θ 5 m_W_lay [.inr 0, .inl (nI 3), .inl th, .inl k] σ (fun r σ' => (layG (nI 3) th k n = false → r = -1000000001 ∧ σ' = σ) ∧ (layG (nI 3) th k n = true → (th = 2 ∧ so k.toNatClampNeg < 0) → r = -1000000011 ∧ σ' = σ) ∧ (layG (nI 3) th k n = true → ¬ (th = 2 ∧ so k.toNatClampNeg < 0) → r = sl 3 ∧ Sm [87, 88, 89] σ σ' ∧ SL σ' (upd sl 3 th) (upd ha 3 (layA f sz th k)) (upd hb 3 (layB f th k)) (layC hc ce 3 th k))) := by
  have s0 : σ 87 0 = sl 3 := (hL 3 (by omega)).1
  have hn := hS.n10
  generalize hgg : layG (nI 3) th k n = gg
  rw [layG, show inB (nI 3) 0 4 = true by decide, Bool.true_and] at hgg
  refine Ci.of (Or.inl mi_W_lay) pk_W_lay (nb rfl) (Or.inl rfl) [some (.inr 0), some (.inl (nI 3)), some (.inl th), some (.inl k), none, none] rfl fun Γ hG hR => ?_
  have bad1 : gg = false → X Γ 16 [some (.inr 0), some (.inl (nI 3)), some (.inl th), some (.inl k), none, none] [] σ := by
    intro h
    refine hG.rt hR rfl rfl rfl rfl ?_
    exact ⟨fun _ => ⟨rfl, rfl⟩, fun q => absurd (q.symm.trans h) (by decide), fun q => absurd (q.symm.trans h) (by decide)⟩
  have bad2 : gg = false → X Γ 44 [some (.inr 0), some (.inl (nI 3)), some (.inl th), some (.inl k), none, none] [] σ := by
    intro h
    refine hG.rt hR rfl rfl rfl rfl ?_
    exact ⟨fun _ => ⟨rfl, rfl⟩, fun q => absurd (q.symm.trans h) (by decide), fun q => absurd (q.symm.trans h) (by decide)⟩
  -- the end, each thing by itself
  have at68 : gg = true → ¬ (th = 2 ∧ so k.toNatClampNeg < 0) → inB th 0 3 = true → (th = 1 → inB k 0 (nI n - 1) = true) → (th = 2 → inB k 0 3 = true) → X Γ 68 [some (.inr 0), some (.inl (nI 3)), some (.inl th), some (.inl k), none, none] [] σ := by
    intro hg hne h3 hp1 hp2
    have fin : ∀ (r : Int32) (τ : Sg), r = sl 3 → Sm [87, 88, 89] σ τ → SL τ (upd sl 3 th) (upd ha 3 (layA f sz th k)) (upd hb 3 (layB f th k)) (layC hc ce 3 th k) → ((gg = false → r = -1000000001 ∧ τ = σ) ∧ (gg = true → (th = 2 ∧ so k.toNatClampNeg < 0) → r = -1000000011 ∧ τ = σ) ∧ (gg = true → ¬ (th = 2 ∧ so k.toNatClampNeg < 0) → r = sl 3 ∧ Sm [87, 88, 89] σ τ ∧ SL τ (upd sl 3 th) (upd ha 3 (layA f sz th k)) (upd hb 3 (layB f th k)) (layC hc ce 3 th k))) := fun r τ e1 e2 e3 => ⟨fun q => absurd (q.symm.trans hg) (by decide), fun _ q => absurd q hne, fun _ _ => ⟨e1, e2, e3⟩⟩
    refine hG.lda rfl 3 rfl rfl rfl (Or.inr (Or.inr rfl)) rfl (by decide) rfl ?_
    refine hG.br rfl rfl rfl rfl (fun k1 => ?_) (fun k1 => ?_)
    · refine hG.br rfl rfl rfl rfl (fun k2 => ?_) (fun k2 => ?_)
      · refine hG.br rfl rfl rfl rfl (fun k3 => ?_) (fun k3 => ?_)
        · -- nothing is held
          refine hG.rt hR rfl rfl rfl rfl ?_
          refine fin _ _ s0 (Sm.rf.up (by decide)) (hL.put 3 (by omega) _ _ _ _ (Sm.rf.up (by decide)) (up_self _ _ _ _) (fun q => absurd q k1) (fun q => absurd q k2) (fun q => absurd q k3) (fun j hj => by rw [layC, if_neg k2]))
        · -- a number
          subst k3
          refine hG.rt hR rfl rfl rfl rfl ?_
          refine fin _ _ s0 ((Sm.rf.up (by decide)).up (by decide)) (hL.put 3 (by omega) _ _ _ _ ((Sm.rf.up (by decide)).up (by decide)) (by rw [up_j _ _ _ _ (by decide), up_self]) (fun q => absurd q (by decide)) (fun q => absurd q (by decide)) (fun _ => by rw [up_self, layA, if_neg (by decide), if_neg (by decide)]) (fun j hj => by rw [layC, if_neg (by decide)]))
      · -- a sheet
        subst k2
        obtain ⟨S, hS4, rfl⟩ := (inB_nI (m := 3) (by omega)).mp (hp2 rfl)
        have ecl : (nI S).toNatClampNeg = S := nI_clamp (by omega)
        rcases (by omega : S = 0 ∨ S = 1 ∨ S = 2 ∨ S = 3) with rfl | rfl | rfl | rfl
        · refine hG.lda rfl 0 rfl rfl rfl (Or.inr (Or.inl rfl)) rfl (by decide) rfl ?_
          refine hG.cVv lk_W_309 mi_R_become rfl rfl c_R_become88_70 rfl rfl rfl rfl rfl rfl rfl rfl ?_
          rintro τ ⟨q1, q2, q3, q4⟩
          have hH1 : SH (up σ 87 0 2) so sz ce := hH.sm (cs := [87]) (Sm.rf.up (by decide)) (by intro k h1 h2; simp; omega)
          have hsm : Sm [87, 88, 89] σ τ := Sm.tr (Sm.rf.up (by decide)) (q1.mono (by simp))
          refine hG.rt hR rfl rfl rfl rfl ?_
          refine fin _ _ s0 hsm (hL.put 3 (by omega) _ _ _ _ hsm (by rw [q1 87 (by decide), up_self]) (fun q => absurd q (by decide)) (fun _ => ⟨?_, fun j hj => ?_⟩) (fun q => absurd q (by decide)) (fun j hj => ?_))
          · rw [layA, if_neg (by decide), if_pos rfl, ecl, ← (hH1 0 (by omega)).2.1]; exact q3
          · rw [layC, if_pos rfl, ecl, va_cpy, if_pos ⟨by omega, by omega⟩]
            refine (q4 j hj).trans (((hH1 0 (by omega)).2.2 j hj).trans ?_)
            congr 1; omega
          · rw [layC, if_pos rfl, ecl, va_cpy, if_neg hj]
        · refine hG.lda rfl 1 rfl rfl rfl (Or.inr (Or.inl rfl)) rfl (by decide) rfl ?_
          refine hG.cVv lk_W_309 mi_R_become rfl rfl c_R_become88_72 rfl rfl rfl rfl rfl rfl rfl rfl ?_
          rintro τ ⟨q1, q2, q3, q4⟩
          have hH1 : SH (up σ 87 0 2) so sz ce := hH.sm (cs := [87]) (Sm.rf.up (by decide)) (by intro k h1 h2; simp; omega)
          have hsm : Sm [87, 88, 89] σ τ := Sm.tr (Sm.rf.up (by decide)) (q1.mono (by simp))
          refine hG.rt hR rfl rfl rfl rfl ?_
          refine fin _ _ s0 hsm (hL.put 3 (by omega) _ _ _ _ hsm (by rw [q1 87 (by decide), up_self]) (fun q => absurd q (by decide)) (fun _ => ⟨?_, fun j hj => ?_⟩) (fun q => absurd q (by decide)) (fun j hj => ?_))
          · rw [layA, if_neg (by decide), if_pos rfl, ecl, ← (hH1 1 (by omega)).2.1]; exact q3
          · rw [layC, if_pos rfl, ecl, va_cpy, if_pos ⟨by omega, by omega⟩]
            refine (q4 j hj).trans (((hH1 1 (by omega)).2.2 j hj).trans ?_)
            congr 1; omega
          · rw [layC, if_pos rfl, ecl, va_cpy, if_neg hj]
        · refine hG.lda rfl 2 rfl rfl rfl (Or.inr (Or.inl rfl)) rfl (by decide) rfl ?_
          refine hG.cVv lk_W_309 mi_R_become rfl rfl c_R_become88_74 rfl rfl rfl rfl rfl rfl rfl rfl ?_
          rintro τ ⟨q1, q2, q3, q4⟩
          have hH1 : SH (up σ 87 0 2) so sz ce := hH.sm (cs := [87]) (Sm.rf.up (by decide)) (by intro k h1 h2; simp; omega)
          have hsm : Sm [87, 88, 89] σ τ := Sm.tr (Sm.rf.up (by decide)) (q1.mono (by simp))
          refine hG.rt hR rfl rfl rfl rfl ?_
          refine fin _ _ s0 hsm (hL.put 3 (by omega) _ _ _ _ hsm (by rw [q1 87 (by decide), up_self]) (fun q => absurd q (by decide)) (fun _ => ⟨?_, fun j hj => ?_⟩) (fun q => absurd q (by decide)) (fun j hj => ?_))
          · rw [layA, if_neg (by decide), if_pos rfl, ecl, ← (hH1 2 (by omega)).2.1]; exact q3
          · rw [layC, if_pos rfl, ecl, va_cpy, if_pos ⟨by omega, by omega⟩]
            refine (q4 j hj).trans (((hH1 2 (by omega)).2.2 j hj).trans ?_)
            congr 1; omega
          · rw [layC, if_pos rfl, ecl, va_cpy, if_neg hj]
        · refine hG.lda rfl 3 rfl rfl rfl (Or.inr (Or.inl rfl)) rfl (by decide) rfl ?_
          refine hG.cVv lk_W_309 mi_R_become rfl rfl c_R_become88_76 rfl rfl rfl rfl rfl rfl rfl rfl ?_
          rintro τ ⟨q1, q2, q3, q4⟩
          have hH1 : SH (up σ 87 0 2) so sz ce := hH.sm (cs := [87]) (Sm.rf.up (by decide)) (by intro k h1 h2; simp; omega)
          have hsm : Sm [87, 88, 89] σ τ := Sm.tr (Sm.rf.up (by decide)) (q1.mono (by simp))
          refine hG.rt hR rfl rfl rfl rfl ?_
          refine fin _ _ s0 hsm (hL.put 3 (by omega) _ _ _ _ hsm (by rw [q1 87 (by decide), up_self]) (fun q => absurd q (by decide)) (fun _ => ⟨?_, fun j hj => ?_⟩) (fun q => absurd q (by decide)) (fun j hj => ?_))
          · rw [layA, if_neg (by decide), if_pos rfl, ecl, ← (hH1 3 (by omega)).2.1]; exact q3
          · rw [layC, if_pos rfl, ecl, va_cpy, if_pos ⟨by omega, by omega⟩]
            refine (q4 j hj).trans (((hH1 3 (by omega)).2.2 j hj).trans ?_)
            congr 1; omega
          · rw [layC, if_pos rfl, ecl, va_cpy, if_neg hj]
    · -- one of the people
      subst k1
      obtain ⟨p, hp, rfl⟩ := (inB_one hn).mp (hp1 rfl)
      have ecl : (nI p).toNatClampNeg = p := nI_clamp (by omega)
      refine hG.ld rfl p rfl rfl rfl rfl rfl (by omega) ?_
      refine hG.ld rfl p rfl rfl rfl rfl rfl (by omega) ?_
      refine hG.rt hR rfl rfl rfl rfl ?_
      have hsm : Sm [87, 88, 89] σ (up (up (up σ 87 0 1) 87 1 (up σ 87 0 1 33 p)) 87 2 (up (up σ 87 0 1) 87 1 (up σ 87 0 1 33 p) 34 p)) := ((Sm.rf.up (by decide)).up (by decide)).up (by decide)
      have ek : up σ 87 0 1 33 p = f (18 + 4 * p) := by rw [up_c _ _ _ _ (by decide)]; exact hS.rv.kd hp
      have em : up (up σ 87 0 1) 87 1 (up σ 87 0 1 33 p) 34 p = f (18 + 4 * p + 1) := by rw [up_c _ _ _ _ (by decide), up_c _ _ _ _ (by decide)]; exact hS.rv.nm hp
      refine fin _ _ s0 hsm (hL.put 3 (by omega) _ _ _ _ hsm (by rw [up_j _ _ _ _ (by decide), up_j _ _ _ _ (by decide), up_self]) (fun _ => ⟨?_, ?_, ?_⟩) (fun q => absurd q (by decide)) (fun q => absurd q (by decide)) (fun j hj => by rw [layC, if_neg (by decide)]))
      · rw [up_j _ _ _ _ (by decide), up_self, ek, layA, if_pos rfl, ecl]
      · rw [up_self, em, layA, layB, if_pos rfl, if_pos rfl, ecl]
      · rw [layA, if_pos rfl, ecl]
        exact (hS.ko p hp).1
  have at47 : gg = true → inB th 0 3 = true → (th = 1 → inB k 0 (nI n - 1) = true) → (th = 2 → inB k 0 3 = true) → X Γ 47 [some (.inr 0), some (.inl (nI 3)), some (.inl th), some (.inl k), none, none] [] σ := by
    intro hg h3 hp1 hp2
    refine hG.br rfl rfl rfl rfl (fun k1 => ?_) (fun k1 => ?_)
    · exact at68 hg (fun q => k1 q.1) h3 hp1 hp2
    · subst k1
      obtain ⟨S, hS4, rfl⟩ := (inB_nI (m := 3) (by omega)).mp (hp2 rfl)
      have ecl : (nI S).toNatClampNeg = S := nI_clamp (by omega)
      obtain ⟨hso, Z, hZ, hsz⟩ := hs S (by omega)
      have a0 := (hH S (by omega)).1
      have at68 := fun h => at68 hg h h3 hp1 hp2
      rw [ecl] at at68
      have hR2 : (r : Int32) → (r = -1000000011) → so S < 0 → ((gg = false → r = -1000000001 ∧ σ = σ) ∧ (gg = true → ((2 : Int32) = 2 ∧ so (nI S).toNatClampNeg < 0) → r = -1000000011 ∧ σ = σ) ∧ (gg = true → ¬ ((2 : Int32) = 2 ∧ so (nI S).toNatClampNeg < 0) → r = sl 3 ∧ Sm [87, 88, 89] σ σ ∧ SL σ (upd sl 3 2) (upd ha 3 (layA f sz 2 (nI S))) (upd hb 3 (layB f 2 (nI S))) (layC hc ce 3 2 (nI S)))) := fun r e h => ⟨fun q => absurd (q.symm.trans hg) (by decide), fun _ _ => ⟨e, rfl⟩, fun _ q => absurd ⟨rfl, by rw [ecl]; exact h⟩ q⟩
      rcases (by omega : S = 0 ∨ S = 1 ∨ S = 2 ∨ S = 3) with rfl | rfl | rfl | rfl
      · refine hG.lda rfl 0 rfl rfl rfl (Or.inr (Or.inl rfl)) rfl (by decide) rfl ?_
        refine hG.br rfl rfl rfl rfl (fun k2 => ?_) (fun k2 => ?_)
        · exact at68 (fun q => so_ne hso (by rw [← a0]; exact k2) q.2)
        · refine hG.rt hR rfl rfl rfl rfl ?_
          exact hR2 _ rfl (so_eq (by rw [← a0]; exact k2))
      · refine hG.lda rfl 1 rfl rfl rfl (Or.inr (Or.inl rfl)) rfl (by decide) rfl ?_
        refine hG.br rfl rfl rfl rfl (fun k2 => ?_) (fun k2 => ?_)
        · exact at68 (fun q => so_ne hso (by rw [← a0]; exact k2) q.2)
        · refine hG.rt hR rfl rfl rfl rfl ?_
          exact hR2 _ rfl (so_eq (by rw [← a0]; exact k2))
      · refine hG.lda rfl 2 rfl rfl rfl (Or.inr (Or.inl rfl)) rfl (by decide) rfl ?_
        refine hG.br rfl rfl rfl rfl (fun k2 => ?_) (fun k2 => ?_)
        · exact at68 (fun q => so_ne hso (by rw [← a0]; exact k2) q.2)
        · refine hG.rt hR rfl rfl rfl rfl ?_
          exact hR2 _ rfl (so_eq (by rw [← a0]; exact k2))
      · refine hG.lda rfl 3 rfl rfl rfl (Or.inr (Or.inl rfl)) rfl (by decide) rfl ?_
        refine hG.br rfl rfl rfl rfl (fun k2 => ?_) (fun k2 => ?_)
        · exact at68 (fun q => so_ne hso (by rw [← a0]; exact k2) q.2)
        · refine hG.rt hR rfl rfl rfl rfl ?_
          exact hR2 _ rfl (so_eq (by rw [← a0]; exact k2))
  refine hG.cS lk_W_293 mi_W_isSlot rfl rfl (c_W_isSlot (nI 3)) rfl rfl rfl rfl rfl rfl ?_
  rintro x σ' ⟨rfl, rfl⟩
  refine hG.br rfl rfl rfl rfl (fun h1 => ?_) (fun h1 => ?_)
  · exact absurd (bi_eq0.mp h1) (by decide)
  · refine hG.br rfl rfl rfl rfl (fun h2 => ?_) (fun h2 => ?_)
    · exact bad1 (by rw [← hgg, inB, decide_eq_false (i32_nle.mpr h2)]; rfl)
    · refine hG.br rfl rfl rfl rfl (fun h3 => ?_) (fun h3 => ?_)
      · have hin : inB th 0 3 = true := by rw [inB, decide_eq_true (i32_nlt.mp h2), decide_eq_true h3]; rfl
        rw [hin, Bool.true_and] at hgg
        have at32 : (th = 1 → inB k 0 (nI n - 1) = true) → X Γ 32 [some (.inr 0), some (.inl (nI 3)), some (.inl th), some (.inl k), none, none] [] σ' := by
          intro hp1
          refine hG.br rfl rfl rfl rfl (fun h4 => ?_) (fun h4 => ?_)
          · refine at47 ?_ hin hp1 (fun q => absurd q h4)
            rw [← hgg, decide_eq_false h4]
            by_cases h5 : th = 1
            · rw [hp1 h5]; simp
            · rw [decide_eq_false h5]; rfl
          · subst h4
            refine hG.cS lk_W_206 mi_W_isSheet rfl rfl (c_W_isSheet k) rfl rfl rfl rfl rfl rfl ?_
            rintro x σ' ⟨rfl, rfl⟩
            refine hG.br rfl rfl rfl rfl (fun h5 => ?_) (fun h5 => ?_)
            · refine at47 ?_ hin hp1 (fun _ => bi_ne0.mp h5)
              rw [← hgg, bi_ne0.mp h5]; simp
            · refine hG.go 0 rfl rfl (bad2 ?_)
              rw [← hgg, bi_eq0.mp h5]; simp
        refine hG.br rfl rfl rfl rfl (fun h4 => ?_) (fun h4 => ?_)
        · exact at32 (fun q => absurd q h4)
        · subst h4
          refine hG.cV lk_W_86 mi_W_isPerson rfl rfl (c_W_isPerson k hS) rfl rfl rfl rfl rfl rfl rfl rfl ?_
          rintro x σ' ⟨rfl, rfl⟩
          refine hG.br rfl rfl rfl rfl (fun h5 => ?_) (fun h5 => ?_)
          · refine bad2 ?_
            rw [← hgg, bi_eq0.mp h5]; simp
          · exact at32 (fun _ => bi_ne0.mp h5)
      · exact bad1 (by rw [← hgg, inB, decide_eq_false (p := th ≤ 3) h3, Bool.and_false]; rfl)
theorem o_W_ask3 (k : Int32) (hL : SL σ sl ha hb hc) : Ci l θ 5 m_W_ask [.inr 0, .inl (nI 3), .inl k] σ (fun r σ' => r = askR sl ha hb (nI 3) k ∧ σ' = σ) := by
  obtain ⟨s0, s1, s2, s3⟩ := hL 3 (by omega)
  have s0 : σ 87 0 = sl 3 := s0
  have hg : askR sl ha hb (nI 3) k = if inB k 0 5 then (if sl 3 = 0 then -1000000011 else if sl 3 = 1 ∧ underK (ha 3) k = true then hb 3 else -1000000012) else -1000000001 := by
    rw [askR, show inB (nI 3) 0 4 = true by decide, Bool.true_and, nI_clamp (by omega)]
  rw [hg]
  refine Ci.of (Or.inl mi_W_ask) pk_W_ask (nb rfl) (Or.inl rfl) [some (.inr 0), some (.inl (nI 3)), some (.inl k), none] rfl fun Γ hG hR => ?_
  refine hG.cS lk_W_293 mi_W_isSlot rfl rfl (c_W_isSlot (nI 3)) rfl rfl rfl rfl rfl rfl ?_
  rintro x σ' ⟨rfl, rfl⟩
  refine hG.br rfl rfl rfl rfl (fun h1 => ?_) (fun h1 => ?_)
  · exact absurd (bi_eq0.mp h1) (by decide)
  · refine hG.cS lk_W_64 mi_K_isKind rfl rfl (c_K_isKind k) rfl rfl rfl rfl rfl rfl ?_
    rintro x σ' ⟨rfl, rfl⟩
    refine hG.br rfl rfl rfl rfl (fun h2 => ?_) (fun h2 => ?_)
    · have h2 := bi_ne0.mp h2
      rw [if_pos h2] at hR
      obtain ⟨o, ho, rfl⟩ := (inB_nI (m := 5) (by omega)).mp h2
      refine hG.lda rfl 3 rfl rfl rfl (Or.inr (Or.inr rfl)) rfl (by decide) rfl ?_
      refine hG.br rfl rfl rfl rfl (fun h3 => ?_) (fun h3 => ?_)
      · rw [s0] at h3
        rw [if_neg h3] at hR
        refine hG.br rfl rfl rfl rfl (fun h4 => ?_) (fun h4 => ?_)
        · rw [s0] at h4
          rw [if_neg (fun q => h4 q.1)] at hR
          refine hG.rt hR rfl rfl rfl rfl ?_
          exact ⟨rfl, rfl⟩
        · rw [s0] at h4
          obtain ⟨e1, e2, q, hq, e3⟩ := s1 h4
          have e1 : σ' 87 1 = nI q := e1.trans e3
          have c0 : Ci l θ 2 m_K_isOf [.inl (σ' 87 1), .inl (nI o)] σ' (fun r σ'' => σ'' = σ' ∧ r = bi (underK (nI q) (nI o))) := by rw [e1]; exact c_K_isOf q o hq
          refine hG.cS lk_W_116 mi_K_isOf rfl rfl c0 rfl rfl rfl rfl rfl rfl ?_
          rintro x σ' ⟨rfl, rfl⟩
          refine hG.br rfl rfl rfl rfl (fun h5 => ?_) (fun h5 => ?_)
          · rw [if_pos ⟨h4, by rw [e3]; exact bi_ne0.mp h5⟩] at hR
            refine hG.cS lk_W_112 mi_K_worth rfl rfl (c_K_worth _ _) rfl rfl rfl rfl rfl rfl ?_
            rintro x σ' ⟨rfl, rfl⟩
            refine hG.rt hR rfl rfl rfl rfl ?_
            exact ⟨by rw [e2, e3, e1], rfl⟩
          · rw [if_neg (fun q => by rw [e3, bi_eq0.mp h5] at q; cases q.2)] at hR
            refine hG.rt hR rfl rfl rfl rfl ?_
            exact ⟨rfl, rfl⟩
      · rw [s0] at h3
        rw [if_pos h3] at hR
        refine hG.rt hR rfl rfl rfl rfl ?_
        exact ⟨rfl, rfl⟩
    · rw [bi_eq0.mp h2, if_neg (by decide)] at hR
      refine hG.rt hR rfl rfl rfl rfl ?_
      exact ⟨rfl, rfl⟩
theorem o_W_item3 (p : Int32) (hL : SL σ sl ha hb hc) (hl : LOk sl ha) : Ci l θ 5 m_W_item [.inr 0, .inl (nI 3), .inl p] σ (fun r σ' => r = itmR sl ha hc (nI 3) p ∧ σ' = σ) := by
  obtain ⟨s0, s1, s2, s3⟩ := hL 3 (by omega)
  have s0 : σ 87 0 = sl 3 := s0
  have hg : itmR sl ha hc (nI 3) p = if sl 3 = 0 then -1000000011 else if ¬ sl 3 = 2 then -1000000012 else if inB p 0 (ha 3 - 1) then (if hc (24 * 3 + p.toNatClampNeg) = -1000000005 then -1000000012 else hc (24 * 3 + p.toNatClampNeg)) else -1000000013 := by
    rw [itmR, show inB (nI 3) 0 4 = true by decide, if_pos rfl, nI_clamp (by omega)]
  rw [hg]
  refine Ci.of (Or.inl mi_W_item) pk_W_item (nb rfl) (Or.inl rfl) [some (.inr 0), some (.inl (nI 3)), some (.inl p), none] rfl fun Γ hG hR => ?_
  refine hG.cS lk_W_293 mi_W_isSlot rfl rfl (c_W_isSlot (nI 3)) rfl rfl rfl rfl rfl rfl ?_
  rintro x σ' ⟨rfl, rfl⟩
  refine hG.br rfl rfl rfl rfl (fun h1 => ?_) (fun h1 => ?_)
  · refine hG.lda rfl 3 rfl rfl rfl (Or.inr (Or.inr rfl)) rfl (by decide) rfl ?_
    refine hG.br rfl rfl rfl rfl (fun h3 => ?_) (fun h3 => ?_)
    · rw [s0] at h3
      rw [if_neg h3] at hR
      refine hG.br rfl rfl rfl rfl (fun h4 => ?_) (fun h4 => ?_)
      · rw [s0] at h4
        rw [if_neg (fun q => q h4)] at hR
        obtain ⟨Z, hZ, eZ⟩ := (hl 3 (by omega)).2 h4
        obtain ⟨e1, e2⟩ := s2 h4
        have e1 : σ' 88 1 = nI Z := e1.trans eZ
        have e2 : ∀ j, j < 24 → σ' 89 j = hc (24 * 3 + j) := e2
        rw [eZ] at hR
        refine hG.cV lk_W_275 mi_R_hasPlace rfl rfl (c_R_hasPlace88 p) rfl rfl rfl rfl rfl rfl rfl rfl ?_
        rintro x σ' ⟨rfl, rfl⟩
        rw [e1, ← inB_m1 p Z (by omega)]
        refine hG.br rfl rfl rfl rfl (fun h5 => ?_) (fun h5 => ?_)
        · have h5 := bi_ne0.mp h5
          rw [if_pos h5] at hR
          obtain ⟨P, hP, rfl⟩ := (inB_lt (by omega)).mp h5
          rw [nI_clamp (by omega)] at hR
          refine hG.ld rfl P rfl rfl rfl rfl rfl (by omega) ?_
          rw [e2 P (by omega)]
          refine hG.br rfl rfl rfl rfl (fun h6 => ?_) (fun h6 => ?_)
          · rw [if_neg h6] at hR
            refine hG.ld rfl P rfl rfl rfl rfl rfl (by omega) ?_
            rw [e2 P (by omega)]
            refine hG.rt hR rfl rfl rfl rfl ?_
            exact ⟨rfl, rfl⟩
          · rw [if_pos h6] at hR
            refine hG.rt hR rfl rfl rfl rfl ?_
            exact ⟨rfl, rfl⟩
        · rw [bi_eq0.mp h5, if_neg (by decide)] at hR
          refine hG.rt hR rfl rfl rfl rfl ?_
          exact ⟨rfl, rfl⟩
      · rw [s0] at h4
        rw [if_pos h4] at hR
        refine hG.rt hR rfl rfl rfl rfl ?_
        exact ⟨rfl, rfl⟩
    · rw [s0] at h3
      rw [if_pos h3] at hR
      refine hG.rt hR rfl rfl rfl rfl ?_
      exact ⟨rfl, rfl⟩
  · exact absurd (bi_eq0.mp h1) (by decide)
theorem o_W_rest3 (k : Int32) (hL : SL σ sl ha hb hc) : Ci l θ 5 m_W_rest [.inr 0, .inl (nI 3), .inl k] σ (fun r σ' => r = rstR sl ha (nI 3) k ∧ σ' = σ) := by
  obtain ⟨s0, s1, s2, s3⟩ := hL 3 (by omega)
  have s0 : σ 87 0 = sl 3 := s0
  have hg : rstR sl ha (nI 3) k = if sl 3 = 0 then -1000000011 else if ¬ sl 3 = 3 then -1000000012 else if k = 0 then -1000000002 else if k = -1 then 0 else rmI (ha 3) k := by
    rw [rstR, show inB (nI 3) 0 4 = true by decide, if_pos rfl, nI_clamp (by omega)]
  rw [hg]
  refine Ci.of (Or.inl mi_W_rest) pk_W_rest (nb rfl) (Or.inl rfl) [some (.inr 0), some (.inl (nI 3)), some (.inl k), none] rfl fun Γ hG hR => ?_
  refine hG.cS lk_W_293 mi_W_isSlot rfl rfl (c_W_isSlot (nI 3)) rfl rfl rfl rfl rfl rfl ?_
  rintro x σ' ⟨rfl, rfl⟩
  refine hG.br rfl rfl rfl rfl (fun h1 => ?_) (fun h1 => ?_)
  · refine hG.lda rfl 3 rfl rfl rfl (Or.inr (Or.inr rfl)) rfl (by decide) rfl ?_
    refine hG.br rfl rfl rfl rfl (fun h3 => ?_) (fun h3 => ?_)
    · rw [s0] at h3
      rw [if_neg h3] at hR
      refine hG.br rfl rfl rfl rfl (fun h4 => ?_) (fun h4 => ?_)
      · rw [s0] at h4
        rw [if_neg (fun q => q h4)] at hR
        have e1 : σ' 87 3 = ha 3 := s3 h4
        refine hG.br rfl rfl rfl rfl (fun h5 => ?_) (fun h5 => ?_)
        · rw [if_neg h5] at hR
          refine hG.rm rfl rfl rfl h5 ?_
          rw [e1]
          refine hG.rt hR rfl rfl rfl rfl ?_
          refine ⟨?_, rfl⟩
          by_cases h6 : k = -1
          · rw [if_pos h6, h6, rm_m1]
          · rw [if_neg h6]; rfl
        · rw [if_pos h5] at hR
          refine hG.rt hR rfl rfl rfl rfl ?_
          exact ⟨rfl, rfl⟩
      · rw [s0] at h4
        rw [if_pos h4] at hR
        refine hG.rt hR rfl rfl rfl rfl ?_
        exact ⟨rfl, rfl⟩
    · rw [s0] at h3
      rw [if_pos h3] at hR
      refine hG.rt hR rfl rfl rfl rfl ?_
      exact ⟨rfl, rfl⟩
  · exact absurd (bi_eq0.mp h1) (by decide)
theorem o_W_lay4 (th k : Int32) (hS : SV σ f n c t y) (hH : SH σ so sz ce) (hs : SOk so sz) (hL : SL σ sl ha hb hc) : Ci l θ 5 m_W_lay [.inr 0, .inl (nI 4), .inl th, .inl k] σ (fun r σ' => (layG (nI 4) th k n = false → r = -1000000001 ∧ σ' = σ) ∧ (layG (nI 4) th k n = true → (th = 2 ∧ so k.toNatClampNeg < 0) → r = -1000000011 ∧ σ' = σ) ∧ (layG (nI 4) th k n = true → ¬ (th = 2 ∧ so k.toNatClampNeg < 0) → r = sl 4 ∧ Sm [90, 91, 92] σ σ' ∧ SL σ' (upd sl 4 th) (upd ha 4 (layA f sz th k)) (upd hb 4 (layB f th k)) (layC hc ce 4 th k))) := by
  have s0 : σ 90 0 = sl 4 := (hL 4 (by omega)).1
  have hn := hS.n10
  generalize hgg : layG (nI 4) th k n = gg
  rw [layG, show inB (nI 4) 0 4 = true by decide, Bool.true_and] at hgg
  refine Ci.of (Or.inl mi_W_lay) pk_W_lay (nb rfl) (Or.inl rfl) [some (.inr 0), some (.inl (nI 4)), some (.inl th), some (.inl k), none, none] rfl fun Γ hG hR => ?_
  have bad1 : gg = false → X Γ 16 [some (.inr 0), some (.inl (nI 4)), some (.inl th), some (.inl k), none, none] [] σ := by
    intro h
    refine hG.rt hR rfl rfl rfl rfl ?_
    exact ⟨fun _ => ⟨rfl, rfl⟩, fun q => absurd (q.symm.trans h) (by decide), fun q => absurd (q.symm.trans h) (by decide)⟩
  have bad2 : gg = false → X Γ 44 [some (.inr 0), some (.inl (nI 4)), some (.inl th), some (.inl k), none, none] [] σ := by
    intro h
    refine hG.rt hR rfl rfl rfl rfl ?_
    exact ⟨fun _ => ⟨rfl, rfl⟩, fun q => absurd (q.symm.trans h) (by decide), fun q => absurd (q.symm.trans h) (by decide)⟩
  -- the end, each thing by itself
  have at68 : gg = true → ¬ (th = 2 ∧ so k.toNatClampNeg < 0) → inB th 0 3 = true → (th = 1 → inB k 0 (nI n - 1) = true) → (th = 2 → inB k 0 3 = true) → X Γ 68 [some (.inr 0), some (.inl (nI 4)), some (.inl th), some (.inl k), none, none] [] σ := by
    intro hg hne h3 hp1 hp2
    have fin : ∀ (r : Int32) (τ : Sg), r = sl 4 → Sm [90, 91, 92] σ τ → SL τ (upd sl 4 th) (upd ha 4 (layA f sz th k)) (upd hb 4 (layB f th k)) (layC hc ce 4 th k) → ((gg = false → r = -1000000001 ∧ τ = σ) ∧ (gg = true → (th = 2 ∧ so k.toNatClampNeg < 0) → r = -1000000011 ∧ τ = σ) ∧ (gg = true → ¬ (th = 2 ∧ so k.toNatClampNeg < 0) → r = sl 4 ∧ Sm [90, 91, 92] σ τ ∧ SL τ (upd sl 4 th) (upd ha 4 (layA f sz th k)) (upd hb 4 (layB f th k)) (layC hc ce 4 th k))) := fun r τ e1 e2 e3 => ⟨fun q => absurd (q.symm.trans hg) (by decide), fun _ q => absurd q hne, fun _ _ => ⟨e1, e2, e3⟩⟩
    refine hG.lda rfl 4 rfl rfl rfl (Or.inr (Or.inr rfl)) rfl (by decide) rfl ?_
    refine hG.br rfl rfl rfl rfl (fun k1 => ?_) (fun k1 => ?_)
    · refine hG.br rfl rfl rfl rfl (fun k2 => ?_) (fun k2 => ?_)
      · refine hG.br rfl rfl rfl rfl (fun k3 => ?_) (fun k3 => ?_)
        · -- nothing is held
          refine hG.rt hR rfl rfl rfl rfl ?_
          refine fin _ _ s0 (Sm.rf.up (by decide)) (hL.put 4 (by omega) _ _ _ _ (Sm.rf.up (by decide)) (up_self _ _ _ _) (fun q => absurd q k1) (fun q => absurd q k2) (fun q => absurd q k3) (fun j hj => by rw [layC, if_neg k2]))
        · -- a number
          subst k3
          refine hG.rt hR rfl rfl rfl rfl ?_
          refine fin _ _ s0 ((Sm.rf.up (by decide)).up (by decide)) (hL.put 4 (by omega) _ _ _ _ ((Sm.rf.up (by decide)).up (by decide)) (by rw [up_j _ _ _ _ (by decide), up_self]) (fun q => absurd q (by decide)) (fun q => absurd q (by decide)) (fun _ => by rw [up_self, layA, if_neg (by decide), if_neg (by decide)]) (fun j hj => by rw [layC, if_neg (by decide)]))
      · -- a sheet
        subst k2
        obtain ⟨S, hS4, rfl⟩ := (inB_nI (m := 3) (by omega)).mp (hp2 rfl)
        have ecl : (nI S).toNatClampNeg = S := nI_clamp (by omega)
        rcases (by omega : S = 0 ∨ S = 1 ∨ S = 2 ∨ S = 3) with rfl | rfl | rfl | rfl
        · refine hG.lda rfl 0 rfl rfl rfl (Or.inr (Or.inl rfl)) rfl (by decide) rfl ?_
          refine hG.cVv lk_W_309 mi_R_become rfl rfl c_R_become91_70 rfl rfl rfl rfl rfl rfl rfl rfl ?_
          rintro τ ⟨q1, q2, q3, q4⟩
          have hH1 : SH (up σ 90 0 2) so sz ce := hH.sm (cs := [90]) (Sm.rf.up (by decide)) (by intro k h1 h2; simp; omega)
          have hsm : Sm [90, 91, 92] σ τ := Sm.tr (Sm.rf.up (by decide)) (q1.mono (by simp))
          refine hG.rt hR rfl rfl rfl rfl ?_
          refine fin _ _ s0 hsm (hL.put 4 (by omega) _ _ _ _ hsm (by rw [q1 90 (by decide), up_self]) (fun q => absurd q (by decide)) (fun _ => ⟨?_, fun j hj => ?_⟩) (fun q => absurd q (by decide)) (fun j hj => ?_))
          · rw [layA, if_neg (by decide), if_pos rfl, ecl, ← (hH1 0 (by omega)).2.1]; exact q3
          · rw [layC, if_pos rfl, ecl, va_cpy, if_pos ⟨by omega, by omega⟩]
            refine (q4 j hj).trans (((hH1 0 (by omega)).2.2 j hj).trans ?_)
            congr 1; omega
          · rw [layC, if_pos rfl, ecl, va_cpy, if_neg hj]
        · refine hG.lda rfl 1 rfl rfl rfl (Or.inr (Or.inl rfl)) rfl (by decide) rfl ?_
          refine hG.cVv lk_W_309 mi_R_become rfl rfl c_R_become91_72 rfl rfl rfl rfl rfl rfl rfl rfl ?_
          rintro τ ⟨q1, q2, q3, q4⟩
          have hH1 : SH (up σ 90 0 2) so sz ce := hH.sm (cs := [90]) (Sm.rf.up (by decide)) (by intro k h1 h2; simp; omega)
          have hsm : Sm [90, 91, 92] σ τ := Sm.tr (Sm.rf.up (by decide)) (q1.mono (by simp))
          refine hG.rt hR rfl rfl rfl rfl ?_
          refine fin _ _ s0 hsm (hL.put 4 (by omega) _ _ _ _ hsm (by rw [q1 90 (by decide), up_self]) (fun q => absurd q (by decide)) (fun _ => ⟨?_, fun j hj => ?_⟩) (fun q => absurd q (by decide)) (fun j hj => ?_))
          · rw [layA, if_neg (by decide), if_pos rfl, ecl, ← (hH1 1 (by omega)).2.1]; exact q3
          · rw [layC, if_pos rfl, ecl, va_cpy, if_pos ⟨by omega, by omega⟩]
            refine (q4 j hj).trans (((hH1 1 (by omega)).2.2 j hj).trans ?_)
            congr 1; omega
          · rw [layC, if_pos rfl, ecl, va_cpy, if_neg hj]
        · refine hG.lda rfl 2 rfl rfl rfl (Or.inr (Or.inl rfl)) rfl (by decide) rfl ?_
          refine hG.cVv lk_W_309 mi_R_become rfl rfl c_R_become91_74 rfl rfl rfl rfl rfl rfl rfl rfl ?_
          rintro τ ⟨q1, q2, q3, q4⟩
          have hH1 : SH (up σ 90 0 2) so sz ce := hH.sm (cs := [90]) (Sm.rf.up (by decide)) (by intro k h1 h2; simp; omega)
          have hsm : Sm [90, 91, 92] σ τ := Sm.tr (Sm.rf.up (by decide)) (q1.mono (by simp))
          refine hG.rt hR rfl rfl rfl rfl ?_
          refine fin _ _ s0 hsm (hL.put 4 (by omega) _ _ _ _ hsm (by rw [q1 90 (by decide), up_self]) (fun q => absurd q (by decide)) (fun _ => ⟨?_, fun j hj => ?_⟩) (fun q => absurd q (by decide)) (fun j hj => ?_))
          · rw [layA, if_neg (by decide), if_pos rfl, ecl, ← (hH1 2 (by omega)).2.1]; exact q3
          · rw [layC, if_pos rfl, ecl, va_cpy, if_pos ⟨by omega, by omega⟩]
            refine (q4 j hj).trans (((hH1 2 (by omega)).2.2 j hj).trans ?_)
            congr 1; omega
          · rw [layC, if_pos rfl, ecl, va_cpy, if_neg hj]
        · refine hG.lda rfl 3 rfl rfl rfl (Or.inr (Or.inl rfl)) rfl (by decide) rfl ?_
          refine hG.cVv lk_W_309 mi_R_become rfl rfl c_R_become91_76 rfl rfl rfl rfl rfl rfl rfl rfl ?_
          rintro τ ⟨q1, q2, q3, q4⟩
          have hH1 : SH (up σ 90 0 2) so sz ce := hH.sm (cs := [90]) (Sm.rf.up (by decide)) (by intro k h1 h2; simp; omega)
          have hsm : Sm [90, 91, 92] σ τ := Sm.tr (Sm.rf.up (by decide)) (q1.mono (by simp))
          refine hG.rt hR rfl rfl rfl rfl ?_
          refine fin _ _ s0 hsm (hL.put 4 (by omega) _ _ _ _ hsm (by rw [q1 90 (by decide), up_self]) (fun q => absurd q (by decide)) (fun _ => ⟨?_, fun j hj => ?_⟩) (fun q => absurd q (by decide)) (fun j hj => ?_))
          · rw [layA, if_neg (by decide), if_pos rfl, ecl, ← (hH1 3 (by omega)).2.1]; exact q3
          · rw [layC, if_pos rfl, ecl, va_cpy, if_pos ⟨by omega, by omega⟩]
            refine (q4 j hj).trans (((hH1 3 (by omega)).2.2 j hj).trans ?_)
            congr 1; omega
          · rw [layC, if_pos rfl, ecl, va_cpy, if_neg hj]
    · -- one of the people
      subst k1
      obtain ⟨p, hp, rfl⟩ := (inB_one hn).mp (hp1 rfl)
      have ecl : (nI p).toNatClampNeg = p := nI_clamp (by omega)
      refine hG.ld rfl p rfl rfl rfl rfl rfl (by omega) ?_
      refine hG.ld rfl p rfl rfl rfl rfl rfl (by omega) ?_
      refine hG.rt hR rfl rfl rfl rfl ?_
      have hsm : Sm [90, 91, 92] σ (up (up (up σ 90 0 1) 90 1 (up σ 90 0 1 33 p)) 90 2 (up (up σ 90 0 1) 90 1 (up σ 90 0 1 33 p) 34 p)) := ((Sm.rf.up (by decide)).up (by decide)).up (by decide)
      have ek : up σ 90 0 1 33 p = f (18 + 4 * p) := by rw [up_c _ _ _ _ (by decide)]; exact hS.rv.kd hp
      have em : up (up σ 90 0 1) 90 1 (up σ 90 0 1 33 p) 34 p = f (18 + 4 * p + 1) := by rw [up_c _ _ _ _ (by decide), up_c _ _ _ _ (by decide)]; exact hS.rv.nm hp
      refine fin _ _ s0 hsm (hL.put 4 (by omega) _ _ _ _ hsm (by rw [up_j _ _ _ _ (by decide), up_j _ _ _ _ (by decide), up_self]) (fun _ => ⟨?_, ?_, ?_⟩) (fun q => absurd q (by decide)) (fun q => absurd q (by decide)) (fun j hj => by rw [layC, if_neg (by decide)]))
      · rw [up_j _ _ _ _ (by decide), up_self, ek, layA, if_pos rfl, ecl]
      · rw [up_self, em, layA, layB, if_pos rfl, if_pos rfl, ecl]
      · rw [layA, if_pos rfl, ecl]
        exact (hS.ko p hp).1
  have at47 : gg = true → inB th 0 3 = true → (th = 1 → inB k 0 (nI n - 1) = true) → (th = 2 → inB k 0 3 = true) → X Γ 47 [some (.inr 0), some (.inl (nI 4)), some (.inl th), some (.inl k), none, none] [] σ := by
    intro hg h3 hp1 hp2
    refine hG.br rfl rfl rfl rfl (fun k1 => ?_) (fun k1 => ?_)
    · exact at68 hg (fun q => k1 q.1) h3 hp1 hp2
    · subst k1
      obtain ⟨S, hS4, rfl⟩ := (inB_nI (m := 3) (by omega)).mp (hp2 rfl)
      have ecl : (nI S).toNatClampNeg = S := nI_clamp (by omega)
      obtain ⟨hso, Z, hZ, hsz⟩ := hs S (by omega)
      have a0 := (hH S (by omega)).1
      have at68 := fun h => at68 hg h h3 hp1 hp2
      rw [ecl] at at68
      have hR2 : (r : Int32) → (r = -1000000011) → so S < 0 → ((gg = false → r = -1000000001 ∧ σ = σ) ∧ (gg = true → ((2 : Int32) = 2 ∧ so (nI S).toNatClampNeg < 0) → r = -1000000011 ∧ σ = σ) ∧ (gg = true → ¬ ((2 : Int32) = 2 ∧ so (nI S).toNatClampNeg < 0) → r = sl 4 ∧ Sm [90, 91, 92] σ σ ∧ SL σ (upd sl 4 2) (upd ha 4 (layA f sz 2 (nI S))) (upd hb 4 (layB f 2 (nI S))) (layC hc ce 4 2 (nI S)))) := fun r e h => ⟨fun q => absurd (q.symm.trans hg) (by decide), fun _ _ => ⟨e, rfl⟩, fun _ q => absurd ⟨rfl, by rw [ecl]; exact h⟩ q⟩
      rcases (by omega : S = 0 ∨ S = 1 ∨ S = 2 ∨ S = 3) with rfl | rfl | rfl | rfl
      · refine hG.lda rfl 0 rfl rfl rfl (Or.inr (Or.inl rfl)) rfl (by decide) rfl ?_
        refine hG.br rfl rfl rfl rfl (fun k2 => ?_) (fun k2 => ?_)
        · exact at68 (fun q => so_ne hso (by rw [← a0]; exact k2) q.2)
        · refine hG.rt hR rfl rfl rfl rfl ?_
          exact hR2 _ rfl (so_eq (by rw [← a0]; exact k2))
      · refine hG.lda rfl 1 rfl rfl rfl (Or.inr (Or.inl rfl)) rfl (by decide) rfl ?_
        refine hG.br rfl rfl rfl rfl (fun k2 => ?_) (fun k2 => ?_)
        · exact at68 (fun q => so_ne hso (by rw [← a0]; exact k2) q.2)
        · refine hG.rt hR rfl rfl rfl rfl ?_
          exact hR2 _ rfl (so_eq (by rw [← a0]; exact k2))
      · refine hG.lda rfl 2 rfl rfl rfl (Or.inr (Or.inl rfl)) rfl (by decide) rfl ?_
        refine hG.br rfl rfl rfl rfl (fun k2 => ?_) (fun k2 => ?_)
        · exact at68 (fun q => so_ne hso (by rw [← a0]; exact k2) q.2)
        · refine hG.rt hR rfl rfl rfl rfl ?_
          exact hR2 _ rfl (so_eq (by rw [← a0]; exact k2))
      · refine hG.lda rfl 3 rfl rfl rfl (Or.inr (Or.inl rfl)) rfl (by decide) rfl ?_
        refine hG.br rfl rfl rfl rfl (fun k2 => ?_) (fun k2 => ?_)
        · exact at68 (fun q => so_ne hso (by rw [← a0]; exact k2) q.2)
        · refine hG.rt hR rfl rfl rfl rfl ?_
          exact hR2 _ rfl (so_eq (by rw [← a0]; exact k2))
  refine hG.cS lk_W_293 mi_W_isSlot rfl rfl (c_W_isSlot (nI 4)) rfl rfl rfl rfl rfl rfl ?_
  rintro x σ' ⟨rfl, rfl⟩
  refine hG.br rfl rfl rfl rfl (fun h1 => ?_) (fun h1 => ?_)
  · exact absurd (bi_eq0.mp h1) (by decide)
  · refine hG.br rfl rfl rfl rfl (fun h2 => ?_) (fun h2 => ?_)
    · exact bad1 (by rw [← hgg, inB, decide_eq_false (i32_nle.mpr h2)]; rfl)
    · refine hG.br rfl rfl rfl rfl (fun h3 => ?_) (fun h3 => ?_)
      · have hin : inB th 0 3 = true := by rw [inB, decide_eq_true (i32_nlt.mp h2), decide_eq_true h3]; rfl
        rw [hin, Bool.true_and] at hgg
        have at32 : (th = 1 → inB k 0 (nI n - 1) = true) → X Γ 32 [some (.inr 0), some (.inl (nI 4)), some (.inl th), some (.inl k), none, none] [] σ' := by
          intro hp1
          refine hG.br rfl rfl rfl rfl (fun h4 => ?_) (fun h4 => ?_)
          · refine at47 ?_ hin hp1 (fun q => absurd q h4)
            rw [← hgg, decide_eq_false h4]
            by_cases h5 : th = 1
            · rw [hp1 h5]; simp
            · rw [decide_eq_false h5]; rfl
          · subst h4
            refine hG.cS lk_W_206 mi_W_isSheet rfl rfl (c_W_isSheet k) rfl rfl rfl rfl rfl rfl ?_
            rintro x σ' ⟨rfl, rfl⟩
            refine hG.br rfl rfl rfl rfl (fun h5 => ?_) (fun h5 => ?_)
            · refine at47 ?_ hin hp1 (fun _ => bi_ne0.mp h5)
              rw [← hgg, bi_ne0.mp h5]; simp
            · refine hG.go 0 rfl rfl (bad2 ?_)
              rw [← hgg, bi_eq0.mp h5]; simp
        refine hG.br rfl rfl rfl rfl (fun h4 => ?_) (fun h4 => ?_)
        · exact at32 (fun q => absurd q h4)
        · subst h4
          refine hG.cV lk_W_86 mi_W_isPerson rfl rfl (c_W_isPerson k hS) rfl rfl rfl rfl rfl rfl rfl rfl ?_
          rintro x σ' ⟨rfl, rfl⟩
          refine hG.br rfl rfl rfl rfl (fun h5 => ?_) (fun h5 => ?_)
          · refine bad2 ?_
            rw [← hgg, bi_eq0.mp h5]; simp
          · exact at32 (fun _ => bi_ne0.mp h5)
      · exact bad1 (by rw [← hgg, inB, decide_eq_false (p := th ≤ 3) h3, Bool.and_false]; rfl)
theorem o_W_ask4 (k : Int32) (hL : SL σ sl ha hb hc) : Ci l θ 5 m_W_ask [.inr 0, .inl (nI 4), .inl k] σ (fun r σ' => r = askR sl ha hb (nI 4) k ∧ σ' = σ) := by
  obtain ⟨s0, s1, s2, s3⟩ := hL 4 (by omega)
  have s0 : σ 90 0 = sl 4 := s0
  have hg : askR sl ha hb (nI 4) k = if inB k 0 5 then (if sl 4 = 0 then -1000000011 else if sl 4 = 1 ∧ underK (ha 4) k = true then hb 4 else -1000000012) else -1000000001 := by
    rw [askR, show inB (nI 4) 0 4 = true by decide, Bool.true_and, nI_clamp (by omega)]
  rw [hg]
  refine Ci.of (Or.inl mi_W_ask) pk_W_ask (nb rfl) (Or.inl rfl) [some (.inr 0), some (.inl (nI 4)), some (.inl k), none] rfl fun Γ hG hR => ?_
  refine hG.cS lk_W_293 mi_W_isSlot rfl rfl (c_W_isSlot (nI 4)) rfl rfl rfl rfl rfl rfl ?_
  rintro x σ' ⟨rfl, rfl⟩
  refine hG.br rfl rfl rfl rfl (fun h1 => ?_) (fun h1 => ?_)
  · exact absurd (bi_eq0.mp h1) (by decide)
  · refine hG.cS lk_W_64 mi_K_isKind rfl rfl (c_K_isKind k) rfl rfl rfl rfl rfl rfl ?_
    rintro x σ' ⟨rfl, rfl⟩
    refine hG.br rfl rfl rfl rfl (fun h2 => ?_) (fun h2 => ?_)
    · have h2 := bi_ne0.mp h2
      rw [if_pos h2] at hR
      obtain ⟨o, ho, rfl⟩ := (inB_nI (m := 5) (by omega)).mp h2
      refine hG.lda rfl 4 rfl rfl rfl (Or.inr (Or.inr rfl)) rfl (by decide) rfl ?_
      refine hG.br rfl rfl rfl rfl (fun h3 => ?_) (fun h3 => ?_)
      · rw [s0] at h3
        rw [if_neg h3] at hR
        refine hG.br rfl rfl rfl rfl (fun h4 => ?_) (fun h4 => ?_)
        · rw [s0] at h4
          rw [if_neg (fun q => h4 q.1)] at hR
          refine hG.rt hR rfl rfl rfl rfl ?_
          exact ⟨rfl, rfl⟩
        · rw [s0] at h4
          obtain ⟨e1, e2, q, hq, e3⟩ := s1 h4
          have e1 : σ' 90 1 = nI q := e1.trans e3
          have c0 : Ci l θ 2 m_K_isOf [.inl (σ' 90 1), .inl (nI o)] σ' (fun r σ'' => σ'' = σ' ∧ r = bi (underK (nI q) (nI o))) := by rw [e1]; exact c_K_isOf q o hq
          refine hG.cS lk_W_116 mi_K_isOf rfl rfl c0 rfl rfl rfl rfl rfl rfl ?_
          rintro x σ' ⟨rfl, rfl⟩
          refine hG.br rfl rfl rfl rfl (fun h5 => ?_) (fun h5 => ?_)
          · rw [if_pos ⟨h4, by rw [e3]; exact bi_ne0.mp h5⟩] at hR
            refine hG.cS lk_W_112 mi_K_worth rfl rfl (c_K_worth _ _) rfl rfl rfl rfl rfl rfl ?_
            rintro x σ' ⟨rfl, rfl⟩
            refine hG.rt hR rfl rfl rfl rfl ?_
            exact ⟨by rw [e2, e3, e1], rfl⟩
          · rw [if_neg (fun q => by rw [e3, bi_eq0.mp h5] at q; cases q.2)] at hR
            refine hG.rt hR rfl rfl rfl rfl ?_
            exact ⟨rfl, rfl⟩
      · rw [s0] at h3
        rw [if_pos h3] at hR
        refine hG.rt hR rfl rfl rfl rfl ?_
        exact ⟨rfl, rfl⟩
    · rw [bi_eq0.mp h2, if_neg (by decide)] at hR
      refine hG.rt hR rfl rfl rfl rfl ?_
      exact ⟨rfl, rfl⟩
theorem o_W_item4 (p : Int32) (hL : SL σ sl ha hb hc) (hl : LOk sl ha) : Ci l θ 5 m_W_item [.inr 0, .inl (nI 4), .inl p] σ (fun r σ' => r = itmR sl ha hc (nI 4) p ∧ σ' = σ) := by
  obtain ⟨s0, s1, s2, s3⟩ := hL 4 (by omega)
  have s0 : σ 90 0 = sl 4 := s0
  have hg : itmR sl ha hc (nI 4) p = if sl 4 = 0 then -1000000011 else if ¬ sl 4 = 2 then -1000000012 else if inB p 0 (ha 4 - 1) then (if hc (24 * 4 + p.toNatClampNeg) = -1000000005 then -1000000012 else hc (24 * 4 + p.toNatClampNeg)) else -1000000013 := by
    rw [itmR, show inB (nI 4) 0 4 = true by decide, if_pos rfl, nI_clamp (by omega)]
  rw [hg]
  refine Ci.of (Or.inl mi_W_item) pk_W_item (nb rfl) (Or.inl rfl) [some (.inr 0), some (.inl (nI 4)), some (.inl p), none] rfl fun Γ hG hR => ?_
  refine hG.cS lk_W_293 mi_W_isSlot rfl rfl (c_W_isSlot (nI 4)) rfl rfl rfl rfl rfl rfl ?_
  rintro x σ' ⟨rfl, rfl⟩
  refine hG.br rfl rfl rfl rfl (fun h1 => ?_) (fun h1 => ?_)
  · refine hG.lda rfl 4 rfl rfl rfl (Or.inr (Or.inr rfl)) rfl (by decide) rfl ?_
    refine hG.br rfl rfl rfl rfl (fun h3 => ?_) (fun h3 => ?_)
    · rw [s0] at h3
      rw [if_neg h3] at hR
      refine hG.br rfl rfl rfl rfl (fun h4 => ?_) (fun h4 => ?_)
      · rw [s0] at h4
        rw [if_neg (fun q => q h4)] at hR
        obtain ⟨Z, hZ, eZ⟩ := (hl 4 (by omega)).2 h4
        obtain ⟨e1, e2⟩ := s2 h4
        have e1 : σ' 91 1 = nI Z := e1.trans eZ
        have e2 : ∀ j, j < 24 → σ' 92 j = hc (24 * 4 + j) := e2
        rw [eZ] at hR
        refine hG.cV lk_W_275 mi_R_hasPlace rfl rfl (c_R_hasPlace91 p) rfl rfl rfl rfl rfl rfl rfl rfl ?_
        rintro x σ' ⟨rfl, rfl⟩
        rw [e1, ← inB_m1 p Z (by omega)]
        refine hG.br rfl rfl rfl rfl (fun h5 => ?_) (fun h5 => ?_)
        · have h5 := bi_ne0.mp h5
          rw [if_pos h5] at hR
          obtain ⟨P, hP, rfl⟩ := (inB_lt (by omega)).mp h5
          rw [nI_clamp (by omega)] at hR
          refine hG.ld rfl P rfl rfl rfl rfl rfl (by omega) ?_
          rw [e2 P (by omega)]
          refine hG.br rfl rfl rfl rfl (fun h6 => ?_) (fun h6 => ?_)
          · rw [if_neg h6] at hR
            refine hG.ld rfl P rfl rfl rfl rfl rfl (by omega) ?_
            rw [e2 P (by omega)]
            refine hG.rt hR rfl rfl rfl rfl ?_
            exact ⟨rfl, rfl⟩
          · rw [if_pos h6] at hR
            refine hG.rt hR rfl rfl rfl rfl ?_
            exact ⟨rfl, rfl⟩
        · rw [bi_eq0.mp h5, if_neg (by decide)] at hR
          refine hG.rt hR rfl rfl rfl rfl ?_
          exact ⟨rfl, rfl⟩
      · rw [s0] at h4
        rw [if_pos h4] at hR
        refine hG.rt hR rfl rfl rfl rfl ?_
        exact ⟨rfl, rfl⟩
    · rw [s0] at h3
      rw [if_pos h3] at hR
      refine hG.rt hR rfl rfl rfl rfl ?_
      exact ⟨rfl, rfl⟩
  · exact absurd (bi_eq0.mp h1) (by decide)
theorem o_W_rest4 (k : Int32) (hL : SL σ sl ha hb hc) : Ci l θ 5 m_W_rest [.inr 0, .inl (nI 4), .inl k] σ (fun r σ' => r = rstR sl ha (nI 4) k ∧ σ' = σ) := by
  obtain ⟨s0, s1, s2, s3⟩ := hL 4 (by omega)
  have s0 : σ 90 0 = sl 4 := s0
  have hg : rstR sl ha (nI 4) k = if sl 4 = 0 then -1000000011 else if ¬ sl 4 = 3 then -1000000012 else if k = 0 then -1000000002 else if k = -1 then 0 else rmI (ha 4) k := by
    rw [rstR, show inB (nI 4) 0 4 = true by decide, if_pos rfl, nI_clamp (by omega)]
  rw [hg]
  refine Ci.of (Or.inl mi_W_rest) pk_W_rest (nb rfl) (Or.inl rfl) [some (.inr 0), some (.inl (nI 4)), some (.inl k), none] rfl fun Γ hG hR => ?_
  refine hG.cS lk_W_293 mi_W_isSlot rfl rfl (c_W_isSlot (nI 4)) rfl rfl rfl rfl rfl rfl ?_
  rintro x σ' ⟨rfl, rfl⟩
  refine hG.br rfl rfl rfl rfl (fun h1 => ?_) (fun h1 => ?_)
  · refine hG.lda rfl 4 rfl rfl rfl (Or.inr (Or.inr rfl)) rfl (by decide) rfl ?_
    refine hG.br rfl rfl rfl rfl (fun h3 => ?_) (fun h3 => ?_)
    · rw [s0] at h3
      rw [if_neg h3] at hR
      refine hG.br rfl rfl rfl rfl (fun h4 => ?_) (fun h4 => ?_)
      · rw [s0] at h4
        rw [if_neg (fun q => q h4)] at hR
        have e1 : σ' 90 3 = ha 4 := s3 h4
        refine hG.br rfl rfl rfl rfl (fun h5 => ?_) (fun h5 => ?_)
        · rw [if_neg h5] at hR
          refine hG.rm rfl rfl rfl h5 ?_
          rw [e1]
          refine hG.rt hR rfl rfl rfl rfl ?_
          refine ⟨?_, rfl⟩
          by_cases h6 : k = -1
          · rw [if_pos h6, h6, rm_m1]
          · rw [if_neg h6]; rfl
        · rw [if_pos h5] at hR
          refine hG.rt hR rfl rfl rfl rfl ?_
          exact ⟨rfl, rfl⟩
      · rw [s0] at h4
        rw [if_pos h4] at hR
        refine hG.rt hR rfl rfl rfl rfl ?_
        exact ⟨rfl, rfl⟩
    · rw [s0] at h3
      rw [if_pos h3] at hR
      refine hG.rt hR rfl rfl rfl rfl ?_
      exact ⟨rfl, rfl⟩
  · exact absurd (bi_eq0.mp h1) (by decide)
theorem o_W_lay (s th k : Int32) (hS : SV σ f n c t y) (hH : SH σ so sz ce) (hs : SOk so sz) (hL : SL σ sl ha hb hc) : Ci l θ 5 m_W_lay [.inr 0, .inl s, .inl th, .inl k] σ (fun r σ' => (layG s th k n = false → r = -1000000001 ∧ σ' = σ) ∧ (layG s th k n = true → (th = 2 ∧ so k.toNatClampNeg < 0) → r = -1000000011 ∧ σ' = σ) ∧ (layG s th k n = true → ¬ (th = 2 ∧ so k.toNatClampNeg < 0) → r = sl s.toNatClampNeg ∧ Sm [78, 79, 80, 81, 82, 83, 84, 85, 86, 87, 88, 89, 90, 91, 92] σ σ' ∧ SL σ' (upd sl s.toNatClampNeg th) (upd ha s.toNatClampNeg (layA f sz th k)) (upd hb s.toNatClampNeg (layB f th k)) (layC hc ce s.toNatClampNeg th k))) := by
  cases hbb : inB s 0 4 with
  | false =>
    have eg : layG s th k n = false := by rw [layG, hbb]; rfl
    refine Ci.of (Or.inl mi_W_lay) pk_W_lay (nb rfl) (Or.inl rfl) [some (.inr 0), some (.inl s), some (.inl th), some (.inl k), none, none] rfl fun Γ hG hR => ?_
    refine hG.cS lk_W_293 mi_W_isSlot rfl rfl (c_W_isSlot s) rfl rfl rfl rfl rfl rfl ?_
    rintro x σ' ⟨rfl, rfl⟩
    refine hG.br rfl rfl rfl rfl (fun h1 => ?_) (fun h1 => ?_)
    · refine hG.rt hR rfl rfl rfl rfl ?_
      exact ⟨fun _ => ⟨rfl, rfl⟩, fun h => absurd h (by rw [eg]; decide), fun h => absurd h (by rw [eg]; decide)⟩
    · exact absurd (bi_ne0.mp h1) (by rw [hbb]; decide)
  | true =>
    obtain ⟨S, hS', rfl⟩ := (inB_nI (m := 4) (by omega)).mp hbb
    rw [show (nI S).toNatClampNeg = S from nI_clamp (by omega)]
    rcases (by omega : S = 0 ∨ S = 1 ∨ S = 2 ∨ S = 3 ∨ S = 4) with rfl | rfl | rfl | rfl | rfl
    · refine Ci.imp (o_W_lay0 th k hS hH hs hL) ?_
      rintro r σ' ⟨q1, q2, q3⟩
      refine ⟨q1, q2, fun a b => ?_⟩
      obtain ⟨c1, c2, c3⟩ := q3 a b
      exact ⟨c1, c2.mono (by simp), c3⟩
    · refine Ci.imp (o_W_lay1 th k hS hH hs hL) ?_
      rintro r σ' ⟨q1, q2, q3⟩
      refine ⟨q1, q2, fun a b => ?_⟩
      obtain ⟨c1, c2, c3⟩ := q3 a b
      exact ⟨c1, c2.mono (by simp), c3⟩
    · refine Ci.imp (o_W_lay2 th k hS hH hs hL) ?_
      rintro r σ' ⟨q1, q2, q3⟩
      refine ⟨q1, q2, fun a b => ?_⟩
      obtain ⟨c1, c2, c3⟩ := q3 a b
      exact ⟨c1, c2.mono (by simp), c3⟩
    · refine Ci.imp (o_W_lay3 th k hS hH hs hL) ?_
      rintro r σ' ⟨q1, q2, q3⟩
      refine ⟨q1, q2, fun a b => ?_⟩
      obtain ⟨c1, c2, c3⟩ := q3 a b
      exact ⟨c1, c2.mono (by simp), c3⟩
    · refine Ci.imp (o_W_lay4 th k hS hH hs hL) ?_
      rintro r σ' ⟨q1, q2, q3⟩
      refine ⟨q1, q2, fun a b => ?_⟩
      obtain ⟨c1, c2, c3⟩ := q3 a b
      exact ⟨c1, c2.mono (by simp), c3⟩
theorem o_W_ask (s k : Int32) (hL : SL σ sl ha hb hc) : Ci l θ 5 m_W_ask [.inr 0, .inl s, .inl k] σ (fun r σ' => r = askR sl ha hb s k ∧ σ' = σ) := by
  cases hbb : inB s 0 4 with
  | false =>
    have eg : askR sl ha hb s k = -1000000001 := by rw [askR, hbb]; rfl
    rw [eg]
    refine Ci.of (Or.inl mi_W_ask) pk_W_ask (nb rfl) (Or.inl rfl) [some (.inr 0), some (.inl s), some (.inl k), none] rfl fun Γ hG hR => ?_
    refine hG.cS lk_W_293 mi_W_isSlot rfl rfl (c_W_isSlot s) rfl rfl rfl rfl rfl rfl ?_
    rintro x σ' ⟨rfl, rfl⟩
    refine hG.br rfl rfl rfl rfl (fun h1 => ?_) (fun h1 => ?_)
    · first | exact absurd (bi_ne0.mp h1) (by rw [hbb]; decide) | (refine hG.rt hR rfl rfl rfl rfl ?_; exact ⟨rfl, rfl⟩)
    · first | exact absurd (bi_ne0.mp h1) (by rw [hbb]; decide) | (refine hG.rt hR rfl rfl rfl rfl ?_; exact ⟨rfl, rfl⟩)
  | true =>
    obtain ⟨S, hS', rfl⟩ := (inB_nI (m := 4) (by omega)).mp hbb
    rcases (by omega : S = 0 ∨ S = 1 ∨ S = 2 ∨ S = 3 ∨ S = 4) with rfl | rfl | rfl | rfl | rfl
    · exact o_W_ask0 k hL
    · exact o_W_ask1 k hL
    · exact o_W_ask2 k hL
    · exact o_W_ask3 k hL
    · exact o_W_ask4 k hL
theorem o_W_item (s k : Int32) (hL : SL σ sl ha hb hc) (hl : LOk sl ha) : Ci l θ 5 m_W_item [.inr 0, .inl s, .inl k] σ (fun r σ' => r = itmR sl ha hc s k ∧ σ' = σ) := by
  cases hbb : inB s 0 4 with
  | false =>
    have eg : itmR sl ha hc s k = -1000000001 := by rw [itmR, hbb]; rfl
    rw [eg]
    refine Ci.of (Or.inl mi_W_item) pk_W_item (nb rfl) (Or.inl rfl) [some (.inr 0), some (.inl s), some (.inl k), none] rfl fun Γ hG hR => ?_
    refine hG.cS lk_W_293 mi_W_isSlot rfl rfl (c_W_isSlot s) rfl rfl rfl rfl rfl rfl ?_
    rintro x σ' ⟨rfl, rfl⟩
    refine hG.br rfl rfl rfl rfl (fun h1 => ?_) (fun h1 => ?_)
    · first | exact absurd (bi_ne0.mp h1) (by rw [hbb]; decide) | (refine hG.rt hR rfl rfl rfl rfl ?_; exact ⟨rfl, rfl⟩)
    · first | exact absurd (bi_ne0.mp h1) (by rw [hbb]; decide) | (refine hG.rt hR rfl rfl rfl rfl ?_; exact ⟨rfl, rfl⟩)
  | true =>
    obtain ⟨S, hS', rfl⟩ := (inB_nI (m := 4) (by omega)).mp hbb
    rcases (by omega : S = 0 ∨ S = 1 ∨ S = 2 ∨ S = 3 ∨ S = 4) with rfl | rfl | rfl | rfl | rfl
    · exact o_W_item0 k hL hl
    · exact o_W_item1 k hL hl
    · exact o_W_item2 k hL hl
    · exact o_W_item3 k hL hl
    · exact o_W_item4 k hL hl
theorem o_W_rest (s k : Int32) (hL : SL σ sl ha hb hc) : Ci l θ 5 m_W_rest [.inr 0, .inl s, .inl k] σ (fun r σ' => r = rstR sl ha s k ∧ σ' = σ) := by
  cases hbb : inB s 0 4 with
  | false =>
    have eg : rstR sl ha s k = -1000000001 := by rw [rstR, hbb]; rfl
    rw [eg]
    refine Ci.of (Or.inl mi_W_rest) pk_W_rest (nb rfl) (Or.inl rfl) [some (.inr 0), some (.inl s), some (.inl k), none] rfl fun Γ hG hR => ?_
    refine hG.cS lk_W_293 mi_W_isSlot rfl rfl (c_W_isSlot s) rfl rfl rfl rfl rfl rfl ?_
    rintro x σ' ⟨rfl, rfl⟩
    refine hG.br rfl rfl rfl rfl (fun h1 => ?_) (fun h1 => ?_)
    · first | exact absurd (bi_ne0.mp h1) (by rw [hbb]; decide) | (refine hG.rt hR rfl rfl rfl rfl ?_; exact ⟨rfl, rfl⟩)
    · first | exact absurd (bi_ne0.mp h1) (by rw [hbb]; decide) | (refine hG.rt hR rfl rfl rfl rfl ?_; exact ⟨rfl, rfl⟩)
  | true =>
    obtain ⟨S, hS', rfl⟩ := (inB_nI (m := 4) (by omega)).mp hbb
    rcases (by omega : S = 0 ∨ S = 1 ∨ S = 2 ∨ S = 3 ∨ S = 4) with rfl | rfl | rfl | rfl | rfl
    · exact o_W_rest0 k hL
    · exact o_W_rest1 k hL
    · exact o_W_rest2 k hL
    · exact o_W_rest3 k hL
    · exact o_W_rest4 k hL
end
