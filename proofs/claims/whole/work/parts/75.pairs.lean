/-! each call of the class beside the reference's: calls that change nothing, or what is now alone (gen_pairs.py) -/
def PairOk (l : Launch) (θ : Th) (Mw Mm : MI) (av : List AV) : Prop := ∀ σ, Cor σ → ∃ (d1 : Nat) (post1 : Int32 → Sg → Prop), d1 ≤ 99 ∧ Ci l θ d1 Mw (.inr 0 :: av) σ post1 ∧ ∀ r1 σ1, post1 r1 σ1 → ∃ (d2 : Nat) (post2 : Int32 → Sg → Prop), d2 ≤ 99 ∧ Ci l θ d2 Mm (.inr 95 :: av) σ1 post2 ∧ ∀ r2 σ2, post2 r2 σ2 → r1 = r2 ∧ Cor σ2
section
variable {l : Launch} {θ : Th}
theorem pr_person (k nm b : Int32) : PairOk l θ m_W_person m_M_person [.inl k, .inl nm, .inl b] := by
  intro σ hC
  obtain ⟨n, c, t, y, hS, hI, ⟨T, t1, t2, t3, t4⟩, ⟨hso, hsh⟩, ⟨hlo, hsl⟩, ⟨W, w1, w2, w3, w4⟩, hK⟩ := id hC
  refine ⟨5, _, by omega, o_W_person k nm b hS, ?_⟩
  rintro r1 σ1 ⟨e1, q1, hx⟩
  have hs1 : Sm K1 σ σ1 := q1.mono (by decide)
  have e96 : σ1 96 = σ 96 := hs1 96 (by decide)
  have e95 : σ1 95 = σ 95 := hs1 95 (by decide)
  have e111 : σ1 111 = σ 111 := hs1 111 (by decide)
  have e112 : σ1 112 = σ 112 := hs1 112 (by decide)
  have e113 : σ1 113 = σ 113 := hs1 113 (by decide)
  have e114 : σ1 114 = σ 114 := hs1 114 (by decide)
  have e115 : σ1 115 = σ 115 := hs1 115 (by decide)
  have e116 : σ1 116 = σ 116 := hs1 116 (by decide)
  have e117 : σ1 117 = σ 117 := hs1 117 (by decide)
  have hf : FOk (σ1 96) n c t y := by rw [e96]; exact hS.fo
  have hso1 : SOk (σ1 111) (σ1 112) := by rw [e111, e112]; exact hso
  have hlo1 : LOk (σ1 114) (σ1 115) := by rw [e114, e115]; exact hlo
  refine ⟨5, _, by omega, o_M_person k nm b hf, ?_⟩
  rintro r2 σ2 ⟨e3, e4⟩
  have h96 : σ2 96 = (persF (σ 96) n k nm b).2 := by rw [e4, upc_same, e96]
  have hs2 : Sm K2 σ1 σ2 := by rw [e4]; exact Sm.rf.upc (by decide)
  have h95 : ∀ j, j ≠ 7 → j ≠ 8 → σ2 95 j = σ1 95 j := fun j _ _ => by rw [e4, upc_c _ _ _ (by decide)]
  exact ⟨by rw [e1, e3, e96], hC.op hs1 _ hx hs2 h95 h96 (f5_pers _ _ _ _ _)⟩
theorem pr_told (p w : Int32) : PairOk l θ m_W_told m_M_told [.inl p, .inl w] := by
  intro σ hC
  obtain ⟨n, c, t, y, hS, hI, ⟨T, t1, t2, t3, t4⟩, ⟨hso, hsh⟩, ⟨hlo, hsl⟩, ⟨W, w1, w2, w3, w4⟩, hK⟩ := id hC
  refine ⟨5, _, by omega, o_W_told p w hS, ?_⟩
  rintro r1 σ1 ⟨e1, e2⟩
  have hs1 : Sm K1 σ σ1 := by rw [e2]; exact Sm.rf
  have hx : SVx σ1 (σ 96) := by rw [e2]; exact hS.x
  have e96 : σ1 96 = σ 96 := hs1 96 (by decide)
  have e95 : σ1 95 = σ 95 := hs1 95 (by decide)
  have e111 : σ1 111 = σ 111 := hs1 111 (by decide)
  have e112 : σ1 112 = σ 112 := hs1 112 (by decide)
  have e113 : σ1 113 = σ 113 := hs1 113 (by decide)
  have e114 : σ1 114 = σ 114 := hs1 114 (by decide)
  have e115 : σ1 115 = σ 115 := hs1 115 (by decide)
  have e116 : σ1 116 = σ 116 := hs1 116 (by decide)
  have e117 : σ1 117 = σ 117 := hs1 117 (by decide)
  have hf : FOk (σ1 96) n c t y := by rw [e96]; exact hS.fo
  have hso1 : SOk (σ1 111) (σ1 112) := by rw [e111, e112]; exact hso
  have hlo1 : LOk (σ1 114) (σ1 115) := by rw [e114, e115]; exact hlo
  refine ⟨5, _, by omega, o_M_told p w hf, ?_⟩
  rintro r2 σ2 ⟨e3, e4⟩
  have h96 : σ2 96 = σ 96 := by rw [e4, e96]
  have hs2 : Sm K2 σ1 σ2 := by rw [e4]; exact Sm.rf
  have h95 : ∀ j, j ≠ 7 → j ≠ 8 → σ2 95 j = σ1 95 j := fun j _ _ => by rw [e4]
  exact ⟨by rw [e1, e3, e96], hC.op hs1 _ hx hs2 h95 h96 rfl⟩
theorem pr_as (p k : Int32) : PairOk l θ m_W_as m_M_as [.inl p, .inl k] := by
  intro σ hC
  obtain ⟨n, c, t, y, hS, hI, ⟨T, t1, t2, t3, t4⟩, ⟨hso, hsh⟩, ⟨hlo, hsl⟩, ⟨W, w1, w2, w3, w4⟩, hK⟩ := id hC
  refine ⟨5, _, by omega, o_W_as p k hS, ?_⟩
  rintro r1 σ1 ⟨e1, e2⟩
  have hs1 : Sm K1 σ σ1 := by rw [e2]; exact Sm.rf
  have hx : SVx σ1 (σ 96) := by rw [e2]; exact hS.x
  have e96 : σ1 96 = σ 96 := hs1 96 (by decide)
  have e95 : σ1 95 = σ 95 := hs1 95 (by decide)
  have e111 : σ1 111 = σ 111 := hs1 111 (by decide)
  have e112 : σ1 112 = σ 112 := hs1 112 (by decide)
  have e113 : σ1 113 = σ 113 := hs1 113 (by decide)
  have e114 : σ1 114 = σ 114 := hs1 114 (by decide)
  have e115 : σ1 115 = σ 115 := hs1 115 (by decide)
  have e116 : σ1 116 = σ 116 := hs1 116 (by decide)
  have e117 : σ1 117 = σ 117 := hs1 117 (by decide)
  have hf : FOk (σ1 96) n c t y := by rw [e96]; exact hS.fo
  have hso1 : SOk (σ1 111) (σ1 112) := by rw [e111, e112]; exact hso
  have hlo1 : LOk (σ1 114) (σ1 115) := by rw [e114, e115]; exact hlo
  refine ⟨5, _, by omega, o_M_as p k hf, ?_⟩
  rintro r2 σ2 ⟨e3, e4⟩
  have h96 : σ2 96 = σ 96 := by rw [e4, e96]
  have hs2 : Sm K2 σ1 σ2 := by rw [e4]; exact Sm.rf
  have h95 : ∀ j, j ≠ 7 → j ≠ 8 → σ2 95 j = σ1 95 j := fun j _ _ => by rw [e4]
  exact ⟨by rw [e1, e3, e96], hC.op hs1 _ hx hs2 h95 h96 rfl⟩
theorem pr_turns (p k : Int32) : PairOk l θ m_W_turns m_M_turns [.inl p, .inl k] := by
  intro σ hC
  obtain ⟨n, c, t, y, hS, hI, ⟨T, t1, t2, t3, t4⟩, ⟨hso, hsh⟩, ⟨hlo, hsl⟩, ⟨W, w1, w2, w3, w4⟩, hK⟩ := id hC
  refine ⟨5, _, by omega, o_W_turns p k hS, ?_⟩
  rintro r1 σ1 ⟨e1, q1, hx⟩
  have hs1 : Sm K1 σ σ1 := q1.mono (by decide)
  have e96 : σ1 96 = σ 96 := hs1 96 (by decide)
  have e95 : σ1 95 = σ 95 := hs1 95 (by decide)
  have e111 : σ1 111 = σ 111 := hs1 111 (by decide)
  have e112 : σ1 112 = σ 112 := hs1 112 (by decide)
  have e113 : σ1 113 = σ 113 := hs1 113 (by decide)
  have e114 : σ1 114 = σ 114 := hs1 114 (by decide)
  have e115 : σ1 115 = σ 115 := hs1 115 (by decide)
  have e116 : σ1 116 = σ 116 := hs1 116 (by decide)
  have e117 : σ1 117 = σ 117 := hs1 117 (by decide)
  have hf : FOk (σ1 96) n c t y := by rw [e96]; exact hS.fo
  have hso1 : SOk (σ1 111) (σ1 112) := by rw [e111, e112]; exact hso
  have hlo1 : LOk (σ1 114) (σ1 115) := by rw [e114, e115]; exact hlo
  refine ⟨5, _, by omega, o_M_turns p k hf, ?_⟩
  rintro r2 σ2 ⟨e3, e4⟩
  have h96 : σ2 96 = (turnF (σ 96) n p k).2 := by rw [e4, upc_same, e96]
  have hs2 : Sm K2 σ1 σ2 := by rw [e4]; exact Sm.rf.upc (by decide)
  have h95 : ∀ j, j ≠ 7 → j ≠ 8 → σ2 95 j = σ1 95 j := fun j _ _ => by rw [e4, upc_c _ _ _ (by decide)]
  exact ⟨by rw [e1, e3, e96], hC.op hs1 _ hx hs2 h95 h96 (f5_turn _ _ _ _)⟩
theorem pr_set (p w v : Int32) : PairOk l θ m_W_set m_M_set [.inl p, .inl w, .inl v] := by
  intro σ hC
  obtain ⟨n, c, t, y, hS, hI, ⟨T, t1, t2, t3, t4⟩, ⟨hso, hsh⟩, ⟨hlo, hsl⟩, ⟨W, w1, w2, w3, w4⟩, hK⟩ := id hC
  refine ⟨5, _, by omega, o_W_set p w v hS, ?_⟩
  rintro r1 σ1 ⟨e1, q1, hx⟩
  have hs1 : Sm K1 σ σ1 := q1.mono (by decide)
  have e96 : σ1 96 = σ 96 := hs1 96 (by decide)
  have e95 : σ1 95 = σ 95 := hs1 95 (by decide)
  have e111 : σ1 111 = σ 111 := hs1 111 (by decide)
  have e112 : σ1 112 = σ 112 := hs1 112 (by decide)
  have e113 : σ1 113 = σ 113 := hs1 113 (by decide)
  have e114 : σ1 114 = σ 114 := hs1 114 (by decide)
  have e115 : σ1 115 = σ 115 := hs1 115 (by decide)
  have e116 : σ1 116 = σ 116 := hs1 116 (by decide)
  have e117 : σ1 117 = σ 117 := hs1 117 (by decide)
  have hf : FOk (σ1 96) n c t y := by rw [e96]; exact hS.fo
  have hso1 : SOk (σ1 111) (σ1 112) := by rw [e111, e112]; exact hso
  have hlo1 : LOk (σ1 114) (σ1 115) := by rw [e114, e115]; exact hlo
  refine ⟨5, _, by omega, o_M_set p w v hf, ?_⟩
  rintro r2 σ2 ⟨e3, e4⟩
  have h96 : σ2 96 = (setF (σ 96) n p w v).2 := by rw [e4, upc_same, e96]
  have hs2 : Sm K2 σ1 σ2 := by rw [e4]; exact Sm.rf.upc (by decide)
  have h95 : ∀ j, j ≠ 7 → j ≠ 8 → σ2 95 j = σ1 95 j := fun j _ _ => by rw [e4, upc_c _ _ _ (by decide)]
  exact ⟨by rw [e1, e3, e96], hC.op hs1 _ hx hs2 h95 h96 (f5_set _ _ _ _ _)⟩
theorem pr_holds (p v : Int32) : PairOk l θ m_W_holds m_M_holds [.inl p, .inl v] := by
  intro σ hC
  obtain ⟨n, c, t, y, hS, hI, ⟨T, t1, t2, t3, t4⟩, ⟨hso, hsh⟩, ⟨hlo, hsl⟩, ⟨W, w1, w2, w3, w4⟩, hK⟩ := id hC
  refine ⟨5, _, by omega, o_W_holds p v hS, ?_⟩
  rintro r1 σ1 ⟨e1, e2⟩
  have hs1 : Sm K1 σ σ1 := by rw [e2]; exact Sm.rf
  have hx : SVx σ1 (σ 96) := by rw [e2]; exact hS.x
  have e96 : σ1 96 = σ 96 := hs1 96 (by decide)
  have e95 : σ1 95 = σ 95 := hs1 95 (by decide)
  have e111 : σ1 111 = σ 111 := hs1 111 (by decide)
  have e112 : σ1 112 = σ 112 := hs1 112 (by decide)
  have e113 : σ1 113 = σ 113 := hs1 113 (by decide)
  have e114 : σ1 114 = σ 114 := hs1 114 (by decide)
  have e115 : σ1 115 = σ 115 := hs1 115 (by decide)
  have e116 : σ1 116 = σ 116 := hs1 116 (by decide)
  have e117 : σ1 117 = σ 117 := hs1 117 (by decide)
  have hf : FOk (σ1 96) n c t y := by rw [e96]; exact hS.fo
  have hso1 : SOk (σ1 111) (σ1 112) := by rw [e111, e112]; exact hso
  have hlo1 : LOk (σ1 114) (σ1 115) := by rw [e114, e115]; exact hlo
  refine ⟨5, _, by omega, o_M_holds p v hf, ?_⟩
  rintro r2 σ2 ⟨e3, e4⟩
  have h96 : σ2 96 = σ 96 := by rw [e4, e96]
  have hs2 : Sm K2 σ1 σ2 := by rw [e4]; exact Sm.rf
  have h95 : ∀ j, j ≠ 7 → j ≠ 8 → σ2 95 j = σ1 95 j := fun j _ _ => by rw [e4]
  exact ⟨by rw [e1, e3, e96], hC.op hs1 _ hx hs2 h95 h96 rfl⟩
theorem pr_apart (a b : Int32) : PairOk l θ m_W_apart m_M_apart [.inl a, .inl b] := by
  intro σ hC
  obtain ⟨n, c, t, y, hS, hI, ⟨T, t1, t2, t3, t4⟩, ⟨hso, hsh⟩, ⟨hlo, hsl⟩, ⟨W, w1, w2, w3, w4⟩, hK⟩ := id hC
  refine ⟨5, _, by omega, o_W_apart a b , ?_⟩
  rintro r1 σ1 ⟨e1, e2⟩
  have hs1 : Sm K1 σ σ1 := by rw [e2]; exact Sm.rf
  have hx : SVx σ1 (σ 96) := by rw [e2]; exact hS.x
  have e96 : σ1 96 = σ 96 := hs1 96 (by decide)
  have e95 : σ1 95 = σ 95 := hs1 95 (by decide)
  have e111 : σ1 111 = σ 111 := hs1 111 (by decide)
  have e112 : σ1 112 = σ 112 := hs1 112 (by decide)
  have e113 : σ1 113 = σ 113 := hs1 113 (by decide)
  have e114 : σ1 114 = σ 114 := hs1 114 (by decide)
  have e115 : σ1 115 = σ 115 := hs1 115 (by decide)
  have e116 : σ1 116 = σ 116 := hs1 116 (by decide)
  have e117 : σ1 117 = σ 117 := hs1 117 (by decide)
  have hf : FOk (σ1 96) n c t y := by rw [e96]; exact hS.fo
  have hso1 : SOk (σ1 111) (σ1 112) := by rw [e111, e112]; exact hso
  have hlo1 : LOk (σ1 114) (σ1 115) := by rw [e114, e115]; exact hlo
  refine ⟨5, _, by omega, o_M_apart a b , ?_⟩
  rintro r2 σ2 ⟨e3, e4⟩
  have h96 : σ2 96 = σ 96 := by rw [e4, e96]
  have hs2 : Sm K2 σ1 σ2 := by rw [e4]; exact Sm.rf
  have h95 : ∀ j, j ≠ 7 → j ≠ 8 → σ2 95 j = σ1 95 j := fun j _ _ => by rw [e4]
  exact ⟨by rw [e1, e3], hC.op hs1 _ hx hs2 h95 h96 rfl⟩
theorem pr_near (a b : Int32) : PairOk l θ m_W_near m_M_near [.inl a, .inl b] := by
  intro σ hC
  obtain ⟨n, c, t, y, hS, hI, ⟨T, t1, t2, t3, t4⟩, ⟨hso, hsh⟩, ⟨hlo, hsl⟩, ⟨W, w1, w2, w3, w4⟩, hK⟩ := id hC
  refine ⟨5, _, by omega, o_W_near a b hS, ?_⟩
  rintro r1 σ1 ⟨e1, e2⟩
  have hs1 : Sm K1 σ σ1 := by rw [e2]; exact Sm.rf
  have hx : SVx σ1 (σ 96) := by rw [e2]; exact hS.x
  have e96 : σ1 96 = σ 96 := hs1 96 (by decide)
  have e95 : σ1 95 = σ 95 := hs1 95 (by decide)
  have e111 : σ1 111 = σ 111 := hs1 111 (by decide)
  have e112 : σ1 112 = σ 112 := hs1 112 (by decide)
  have e113 : σ1 113 = σ 113 := hs1 113 (by decide)
  have e114 : σ1 114 = σ 114 := hs1 114 (by decide)
  have e115 : σ1 115 = σ 115 := hs1 115 (by decide)
  have e116 : σ1 116 = σ 116 := hs1 116 (by decide)
  have e117 : σ1 117 = σ 117 := hs1 117 (by decide)
  have hf : FOk (σ1 96) n c t y := by rw [e96]; exact hS.fo
  have hso1 : SOk (σ1 111) (σ1 112) := by rw [e111, e112]; exact hso
  have hlo1 : LOk (σ1 114) (σ1 115) := by rw [e114, e115]; exact hlo
  refine ⟨5, _, by omega, o_M_near a b hf, ?_⟩
  rintro r2 σ2 ⟨e3, q⟩
  have h96 : σ2 96 = σ 96 := (q 96 (by decide)).trans e96
  have hs2 : Sm K2 σ1 σ2 := q.mono (by decide)
  have h95 : ∀ j, j ≠ 7 → j ≠ 8 → σ2 95 j = σ1 95 j := fun j _ _ => by rw [q 95 (by decide)]
  exact ⟨by rw [e1, e3, e96], hC.op hs1 _ hx hs2 h95 h96 rfl⟩
theorem pr_lifetime (v : Int32) : PairOk l θ m_W_lifetime m_M_lifetime [.inl v] := by
  intro σ hC
  obtain ⟨n, c, t, y, hS, hI, ⟨T, t1, t2, t3, t4⟩, ⟨hso, hsh⟩, ⟨hlo, hsl⟩, ⟨W, w1, w2, w3, w4⟩, hK⟩ := id hC
  refine ⟨5, _, by omega, o_W_lifetime v hS, ?_⟩
  rintro r1 σ1 ⟨e1, q1, hx⟩
  have hs1 : Sm K1 σ σ1 := q1.mono (by decide)
  have e96 : σ1 96 = σ 96 := hs1 96 (by decide)
  have e95 : σ1 95 = σ 95 := hs1 95 (by decide)
  have e111 : σ1 111 = σ 111 := hs1 111 (by decide)
  have e112 : σ1 112 = σ 112 := hs1 112 (by decide)
  have e113 : σ1 113 = σ 113 := hs1 113 (by decide)
  have e114 : σ1 114 = σ 114 := hs1 114 (by decide)
  have e115 : σ1 115 = σ 115 := hs1 115 (by decide)
  have e116 : σ1 116 = σ 116 := hs1 116 (by decide)
  have e117 : σ1 117 = σ 117 := hs1 117 (by decide)
  have hf : FOk (σ1 96) n c t y := by rw [e96]; exact hS.fo
  have hso1 : SOk (σ1 111) (σ1 112) := by rw [e111, e112]; exact hso
  have hlo1 : LOk (σ1 114) (σ1 115) := by rw [e114, e115]; exact hlo
  refine ⟨5, _, by omega, o_M_lifetime v , ?_⟩
  rintro r2 σ2 ⟨e3, e4⟩
  have h96 : σ2 96 = (lifeF (σ 96) v).2 := by rw [e4, upc_same, e96]
  have hs2 : Sm K2 σ1 σ2 := by rw [e4]; exact Sm.rf.upc (by decide)
  have h95 : ∀ j, j ≠ 7 → j ≠ 8 → σ2 95 j = σ1 95 j := fun j _ _ => by rw [e4, upc_c _ _ _ (by decide)]
  exact ⟨by rw [e1, e3, e96], hC.op hs1 _ hx hs2 h95 h96 (f5_life _ _)⟩
theorem pr_deal (k : Int32) : PairOk l θ m_W_deal m_M_deal [.inl k] := by
  intro σ hC
  obtain ⟨n, c, t, y, hS, hI, ⟨T, t1, t2, t3, t4⟩, ⟨hso, hsh⟩, ⟨hlo, hsl⟩, ⟨W, w1, w2, w3, w4⟩, hK⟩ := id hC
  refine ⟨6, _, by omega, o_W_deal k hS, ?_⟩
  rintro r1 σ1 ⟨e1, q1, hx⟩
  have hs1 : Sm K1 σ σ1 := q1.mono (by decide)
  have e96 : σ1 96 = σ 96 := hs1 96 (by decide)
  have e95 : σ1 95 = σ 95 := hs1 95 (by decide)
  have e111 : σ1 111 = σ 111 := hs1 111 (by decide)
  have e112 : σ1 112 = σ 112 := hs1 112 (by decide)
  have e113 : σ1 113 = σ 113 := hs1 113 (by decide)
  have e114 : σ1 114 = σ 114 := hs1 114 (by decide)
  have e115 : σ1 115 = σ 115 := hs1 115 (by decide)
  have e116 : σ1 116 = σ 116 := hs1 116 (by decide)
  have e117 : σ1 117 = σ 117 := hs1 117 (by decide)
  have hf : FOk (σ1 96) n c t y := by rw [e96]; exact hS.fo
  have hso1 : SOk (σ1 111) (σ1 112) := by rw [e111, e112]; exact hso
  have hlo1 : LOk (σ1 114) (σ1 115) := by rw [e114, e115]; exact hlo
  refine ⟨6, _, by omega, o_M_deal k hf, ?_⟩
  rintro r2 σ2 ⟨e3, e4⟩
  have h96 : σ2 96 = (dealF (σ 96) n k).2 := by rw [e4, upc_same, e96]
  have hs2 : Sm K2 σ1 σ2 := by rw [e4]; exact Sm.rf.upc (by decide)
  have h95 : ∀ j, j ≠ 7 → j ≠ 8 → σ2 95 j = σ1 95 j := fun j _ _ => by rw [e4, upc_c _ _ _ (by decide)]
  exact ⟨by rw [e1, e3, e96], hC.op hs1 _ hx hs2 h95 h96 (f5_deal _ _ _)⟩
theorem pr_seed (v : Int32) : PairOk l θ m_W_seed m_M_seed [.inl v] := by
  intro σ hC
  obtain ⟨n, c, t, y, hS, hI, ⟨T, t1, t2, t3, t4⟩, ⟨hso, hsh⟩, ⟨hlo, hsl⟩, ⟨W, w1, w2, w3, w4⟩, hK⟩ := id hC
  refine ⟨5, _, by omega, o_W_seed v hS, ?_⟩
  rintro r1 σ1 ⟨e1, q1, hx⟩
  have hs1 : Sm K1 σ σ1 := q1.mono (by decide)
  have e96 : σ1 96 = σ 96 := hs1 96 (by decide)
  have e95 : σ1 95 = σ 95 := hs1 95 (by decide)
  have e111 : σ1 111 = σ 111 := hs1 111 (by decide)
  have e112 : σ1 112 = σ 112 := hs1 112 (by decide)
  have e113 : σ1 113 = σ 113 := hs1 113 (by decide)
  have e114 : σ1 114 = σ 114 := hs1 114 (by decide)
  have e115 : σ1 115 = σ 115 := hs1 115 (by decide)
  have e116 : σ1 116 = σ 116 := hs1 116 (by decide)
  have e117 : σ1 117 = σ 117 := hs1 117 (by decide)
  have hf : FOk (σ1 96) n c t y := by rw [e96]; exact hS.fo
  have hso1 : SOk (σ1 111) (σ1 112) := by rw [e111, e112]; exact hso
  have hlo1 : LOk (σ1 114) (σ1 115) := by rw [e114, e115]; exact hlo
  refine ⟨5, _, by omega, o_M_seed v , ?_⟩
  rintro r2 σ2 ⟨e3, e4⟩
  have h96 : σ2 96 = (seedF (σ 96) v).2 := by rw [e4, upc_same, e96]
  have hs2 : Sm K2 σ1 σ2 := by rw [e4]; exact Sm.rf.upc (by decide)
  have h95 : ∀ j, j ≠ 7 → j ≠ 8 → σ2 95 j = σ1 95 j := fun j _ _ => by rw [e4, upc_c _ _ _ (by decide)]
  exact ⟨by rw [e1, e3, e96], hC.op hs1 _ hx hs2 h95 h96 (f5_seed _ _)⟩
theorem pr_free (nm v : Int32) : PairOk l θ m_W_free m_M_free [.inl nm, .inl v] := by
  intro σ hC
  obtain ⟨n, c, t, y, hS, hI, ⟨T, t1, t2, t3, t4⟩, ⟨hso, hsh⟩, ⟨hlo, hsl⟩, ⟨W, w1, w2, w3, w4⟩, hK⟩ := id hC
  refine ⟨6, _, by omega, o_W_free nm v hS, ?_⟩
  rintro r1 σ1 ⟨e1, q1⟩
  have hs1 : Sm K1 σ σ1 := q1.1.mono (by decide)
  have hx : SVx σ1 (σ 96) := (hS.hm q1).x
  have e96 : σ1 96 = σ 96 := hs1 96 (by decide)
  have e95 : σ1 95 = σ 95 := hs1 95 (by decide)
  have e111 : σ1 111 = σ 111 := hs1 111 (by decide)
  have e112 : σ1 112 = σ 112 := hs1 112 (by decide)
  have e113 : σ1 113 = σ 113 := hs1 113 (by decide)
  have e114 : σ1 114 = σ 114 := hs1 114 (by decide)
  have e115 : σ1 115 = σ 115 := hs1 115 (by decide)
  have e116 : σ1 116 = σ 116 := hs1 116 (by decide)
  have e117 : σ1 117 = σ 117 := hs1 117 (by decide)
  have hf : FOk (σ1 96) n c t y := by rw [e96]; exact hS.fo
  have hso1 : SOk (σ1 111) (σ1 112) := by rw [e111, e112]; exact hso
  have hlo1 : LOk (σ1 114) (σ1 115) := by rw [e114, e115]; exact hlo
  refine ⟨6, _, by omega, o_M_free nm v hf, ?_⟩
  rintro r2 σ2 ⟨e3, q⟩
  have h96 : σ2 96 = σ 96 := (q 96 (by decide)).trans e96
  have hs2 : Sm K2 σ1 σ2 := q.mono (by decide)
  have h95 : ∀ j, j ≠ 7 → j ≠ 8 → σ2 95 j = σ1 95 j := fun j _ _ => by rw [q 95 (by decide)]
  exact ⟨by rw [e1, e3, e96], hC.op hs1 _ hx hs2 h95 h96 rfl⟩
theorem pr_frees (w : Int32) : PairOk l θ m_W_frees m_M_frees [.inl w] := by
  intro σ hC
  obtain ⟨n, c, t, y, hS, hI, ⟨T, t1, t2, t3, t4⟩, ⟨hso, hsh⟩, ⟨hlo, hsl⟩, ⟨W, w1, w2, w3, w4⟩, hK⟩ := id hC
  refine ⟨6, _, by omega, o_W_frees w hS, ?_⟩
  rintro r1 σ1 ⟨e1, q1⟩
  have hs1 : Sm K1 σ σ1 := q1.1.mono (by decide)
  have hx : SVx σ1 (σ 96) := (hS.hm q1).x
  have e96 : σ1 96 = σ 96 := hs1 96 (by decide)
  have e95 : σ1 95 = σ 95 := hs1 95 (by decide)
  have e111 : σ1 111 = σ 111 := hs1 111 (by decide)
  have e112 : σ1 112 = σ 112 := hs1 112 (by decide)
  have e113 : σ1 113 = σ 113 := hs1 113 (by decide)
  have e114 : σ1 114 = σ 114 := hs1 114 (by decide)
  have e115 : σ1 115 = σ 115 := hs1 115 (by decide)
  have e116 : σ1 116 = σ 116 := hs1 116 (by decide)
  have e117 : σ1 117 = σ 117 := hs1 117 (by decide)
  have hf : FOk (σ1 96) n c t y := by rw [e96]; exact hS.fo
  have hso1 : SOk (σ1 111) (σ1 112) := by rw [e111, e112]; exact hso
  have hlo1 : LOk (σ1 114) (σ1 115) := by rw [e114, e115]; exact hlo
  refine ⟨6, _, by omega, o_M_frees w hf, ?_⟩
  rintro r2 σ2 ⟨e3, q⟩
  have h96 : σ2 96 = σ 96 := (q 96 (by decide)).trans e96
  have hs2 : Sm K2 σ1 σ2 := q.mono (by decide)
  have h95 : ∀ j, j ≠ 7 → j ≠ 8 → σ2 95 j = σ1 95 j := fun j _ _ => by rw [q 95 (by decide)]
  exact ⟨by rw [e1, e3, e96], hC.op hs1 _ hx hs2 h95 h96 rfl⟩
theorem pr_soonest (nm : Int32) : PairOk l θ m_W_soonest m_M_soonest [.inl nm] := by
  intro σ hC
  obtain ⟨n, c, t, y, hS, hI, ⟨T, t1, t2, t3, t4⟩, ⟨hso, hsh⟩, ⟨hlo, hsl⟩, ⟨W, w1, w2, w3, w4⟩, hK⟩ := id hC
  refine ⟨6, _, by omega, o_W_soonest nm hS, ?_⟩
  rintro r1 σ1 ⟨e1, q1⟩
  have hs1 : Sm K1 σ σ1 := q1.1.mono (by decide)
  have hx : SVx σ1 (σ 96) := (hS.hm q1).x
  have e96 : σ1 96 = σ 96 := hs1 96 (by decide)
  have e95 : σ1 95 = σ 95 := hs1 95 (by decide)
  have e111 : σ1 111 = σ 111 := hs1 111 (by decide)
  have e112 : σ1 112 = σ 112 := hs1 112 (by decide)
  have e113 : σ1 113 = σ 113 := hs1 113 (by decide)
  have e114 : σ1 114 = σ 114 := hs1 114 (by decide)
  have e115 : σ1 115 = σ 115 := hs1 115 (by decide)
  have e116 : σ1 116 = σ 116 := hs1 116 (by decide)
  have e117 : σ1 117 = σ 117 := hs1 117 (by decide)
  have hf : FOk (σ1 96) n c t y := by rw [e96]; exact hS.fo
  have hso1 : SOk (σ1 111) (σ1 112) := by rw [e111, e112]; exact hso
  have hlo1 : LOk (σ1 114) (σ1 115) := by rw [e114, e115]; exact hlo
  refine ⟨6, _, by omega, o_M_soonest nm hf, ?_⟩
  rintro r2 σ2 ⟨e3, q⟩
  have h96 : σ2 96 = σ 96 := (q 96 (by decide)).trans e96
  have hs2 : Sm K2 σ1 σ2 := q.mono (by decide)
  have h95 : ∀ j, j ≠ 7 → j ≠ 8 → σ2 95 j = σ1 95 j := fun j _ _ => by rw [q 95 (by decide)]
  exact ⟨by rw [e1, e3, e96], hC.op hs1 _ hx hs2 h95 h96 rfl⟩
theorem pr_child (a b : Int32) : PairOk l θ m_W_child m_M_child [.inl a, .inl b] := by
  intro σ hC
  obtain ⟨n, c, t, y, hS, hI, ⟨T, t1, t2, t3, t4⟩, ⟨hso, hsh⟩, ⟨hlo, hsl⟩, ⟨W, w1, w2, w3, w4⟩, hK⟩ := id hC
  refine ⟨5, _, by omega, o_W_child a b hS, ?_⟩
  rintro r1 σ1 ⟨e1, q1, hx⟩
  have hs1 : Sm K1 σ σ1 := q1.mono (by decide)
  have e96 : σ1 96 = σ 96 := hs1 96 (by decide)
  have e95 : σ1 95 = σ 95 := hs1 95 (by decide)
  have e111 : σ1 111 = σ 111 := hs1 111 (by decide)
  have e112 : σ1 112 = σ 112 := hs1 112 (by decide)
  have e113 : σ1 113 = σ 113 := hs1 113 (by decide)
  have e114 : σ1 114 = σ 114 := hs1 114 (by decide)
  have e115 : σ1 115 = σ 115 := hs1 115 (by decide)
  have e116 : σ1 116 = σ 116 := hs1 116 (by decide)
  have e117 : σ1 117 = σ 117 := hs1 117 (by decide)
  have hf : FOk (σ1 96) n c t y := by rw [e96]; exact hS.fo
  have hso1 : SOk (σ1 111) (σ1 112) := by rw [e111, e112]; exact hso
  have hlo1 : LOk (σ1 114) (σ1 115) := by rw [e114, e115]; exact hlo
  refine ⟨5, _, by omega, o_M_child a b hf, ?_⟩
  rintro r2 σ2 ⟨e3, e4⟩
  have h96 : σ2 96 = (chldF (σ 96) c a b).2 := by rw [e4, upc_same, e96]
  have hs2 : Sm K2 σ1 σ2 := by rw [e4]; exact Sm.rf.upc (by decide)
  have h95 : ∀ j, j ≠ 7 → j ≠ 8 → σ2 95 j = σ1 95 j := fun j _ _ => by rw [e4, upc_c _ _ _ (by decide)]
  exact ⟨by rw [e1, e3, e96], hC.op hs1 _ hx hs2 h95 h96 (f5_chld _ _ _ _)⟩
theorem pr_forget : PairOk l θ m_W_forget m_M_forget [] := by
  intro σ hC
  obtain ⟨n, c, t, y, hS, hI, ⟨T, t1, t2, t3, t4⟩, ⟨hso, hsh⟩, ⟨hlo, hsl⟩, ⟨W, w1, w2, w3, w4⟩, hK⟩ := id hC
  refine ⟨5, _, by omega, o_W_forget  hS, ?_⟩
  rintro r1 σ1 ⟨e1, q1, hx⟩
  have hs1 : Sm K1 σ σ1 := q1.mono (by decide)
  have e96 : σ1 96 = σ 96 := hs1 96 (by decide)
  have e95 : σ1 95 = σ 95 := hs1 95 (by decide)
  have e111 : σ1 111 = σ 111 := hs1 111 (by decide)
  have e112 : σ1 112 = σ 112 := hs1 112 (by decide)
  have e113 : σ1 113 = σ 113 := hs1 113 (by decide)
  have e114 : σ1 114 = σ 114 := hs1 114 (by decide)
  have e115 : σ1 115 = σ 115 := hs1 115 (by decide)
  have e116 : σ1 116 = σ 116 := hs1 116 (by decide)
  have e117 : σ1 117 = σ 117 := hs1 117 (by decide)
  have hf : FOk (σ1 96) n c t y := by rw [e96]; exact hS.fo
  have hso1 : SOk (σ1 111) (σ1 112) := by rw [e111, e112]; exact hso
  have hlo1 : LOk (σ1 114) (σ1 115) := by rw [e114, e115]; exact hlo
  refine ⟨5, _, by omega, o_M_forget  , ?_⟩
  rintro r2 σ2 ⟨e3, e4⟩
  have h96 : σ2 96 = (forgF (σ 96)).2 := by rw [e4, upc_same, e96]
  have hs2 : Sm K2 σ1 σ2 := by rw [e4]; exact Sm.rf.upc (by decide)
  have h95 : ∀ j, j ≠ 7 → j ≠ 8 → σ2 95 j = σ1 95 j := fun j _ _ => by rw [e4, upc_c _ _ _ (by decide)]
  exact ⟨by rw [e1, e3, e96], hC.op hs1 _ hx hs2 h95 h96 (f5_forg _)⟩
theorem pr_dealing (w : Int32) : PairOk l θ m_W_dealing m_M_dealing [.inl w] := by
  intro σ hC
  obtain ⟨n, c, t, y, hS, hI, ⟨T, t1, t2, t3, t4⟩, ⟨hso, hsh⟩, ⟨hlo, hsl⟩, ⟨W, w1, w2, w3, w4⟩, hK⟩ := id hC
  refine ⟨14, _, by omega, o_W_dealing w hS, ?_⟩
  rintro r1 σ1 ⟨e1, q1, q2⟩
  have hs1 : Sm K1 σ σ1 := q1.mono (by decide)
  have hx : SVx σ1 (σ 96) := q2.x
  have e96 : σ1 96 = σ 96 := hs1 96 (by decide)
  have e95 : σ1 95 = σ 95 := hs1 95 (by decide)
  have e111 : σ1 111 = σ 111 := hs1 111 (by decide)
  have e112 : σ1 112 = σ 112 := hs1 112 (by decide)
  have e113 : σ1 113 = σ 113 := hs1 113 (by decide)
  have e114 : σ1 114 = σ 114 := hs1 114 (by decide)
  have e115 : σ1 115 = σ 115 := hs1 115 (by decide)
  have e116 : σ1 116 = σ 116 := hs1 116 (by decide)
  have e117 : σ1 117 = σ 117 := hs1 117 (by decide)
  have hf : FOk (σ1 96) n c t y := by rw [e96]; exact hS.fo
  have hso1 : SOk (σ1 111) (σ1 112) := by rw [e111, e112]; exact hso
  have hlo1 : LOk (σ1 114) (σ1 115) := by rw [e114, e115]; exact hlo
  refine ⟨14, _, by omega, o_M_dealing w hf, ?_⟩
  rintro r2 σ2 ⟨e3, q, h95⟩
  have h96 : σ2 96 = σ 96 := (q 96 (by decide)).trans e96
  have hs2 : Sm K2 σ1 σ2 := q.mono (by decide)
  exact ⟨by rw [e1, e3, e96], hC.op hs1 _ hx hs2 h95 h96 rfl⟩
theorem pr_christen : PairOk l θ m_W_christen m_M_christen [] := by
  intro σ hC
  obtain ⟨n, c, t, y, hS, hI, ⟨T, t1, t2, t3, t4⟩, ⟨hso, hsh⟩, ⟨hlo, hsl⟩, ⟨W, w1, w2, w3, w4⟩, hK⟩ := id hC
  refine ⟨14, _, by omega, o_W_christen  hS, ?_⟩
  rintro r1 σ1 ⟨e1, q1, hx⟩
  have hs1 : Sm K1 σ σ1 := q1.mono (by decide)
  have e96 : σ1 96 = σ 96 := hs1 96 (by decide)
  have e95 : σ1 95 = σ 95 := hs1 95 (by decide)
  have e111 : σ1 111 = σ 111 := hs1 111 (by decide)
  have e112 : σ1 112 = σ 112 := hs1 112 (by decide)
  have e113 : σ1 113 = σ 113 := hs1 113 (by decide)
  have e114 : σ1 114 = σ 114 := hs1 114 (by decide)
  have e115 : σ1 115 = σ 115 := hs1 115 (by decide)
  have e116 : σ1 116 = σ 116 := hs1 116 (by decide)
  have e117 : σ1 117 = σ 117 := hs1 117 (by decide)
  have hf : FOk (σ1 96) n c t y := by rw [e96]; exact hS.fo
  have hso1 : SOk (σ1 111) (σ1 112) := by rw [e111, e112]; exact hso
  have hlo1 : LOk (σ1 114) (σ1 115) := by rw [e114, e115]; exact hlo
  refine ⟨14, _, by omega, o_M_christen  hf, ?_⟩
  rintro r2 σ2 ⟨e3, e4, q, h95⟩
  have h96 : σ2 96 = (chrF (σ 96) n c t).2 := by rw [e4, e96]
  have hs2 : Sm K2 σ1 σ2 := q.mono (by decide)
  exact ⟨by rw [e1, e3, e96], hC.op hs1 _ hx hs2 h95 h96 (f5_chr _ _ _ _)⟩
theorem pr_yields (p : Int32) : PairOk l θ m_W_yields m_M_yields [.inl p] := by
  intro σ hC
  obtain ⟨n, c, t, y, hS, hI, ⟨T, t1, t2, t3, t4⟩, ⟨hso, hsh⟩, ⟨hlo, hsl⟩, ⟨W, w1, w2, w3, w4⟩, hK⟩ := id hC
  refine ⟨6, _, by omega, o_W_yields p hS, ?_⟩
  rintro r1 σ1 ⟨e1, e2⟩
  have hs1 : Sm K1 σ σ1 := by rw [e2]; exact Sm.rf
  have hx : SVx σ1 (σ 96) := by rw [e2]; exact hS.x
  have e96 : σ1 96 = σ 96 := hs1 96 (by decide)
  have e95 : σ1 95 = σ 95 := hs1 95 (by decide)
  have e111 : σ1 111 = σ 111 := hs1 111 (by decide)
  have e112 : σ1 112 = σ 112 := hs1 112 (by decide)
  have e113 : σ1 113 = σ 113 := hs1 113 (by decide)
  have e114 : σ1 114 = σ 114 := hs1 114 (by decide)
  have e115 : σ1 115 = σ 115 := hs1 115 (by decide)
  have e116 : σ1 116 = σ 116 := hs1 116 (by decide)
  have e117 : σ1 117 = σ 117 := hs1 117 (by decide)
  have hf : FOk (σ1 96) n c t y := by rw [e96]; exact hS.fo
  have hso1 : SOk (σ1 111) (σ1 112) := by rw [e111, e112]; exact hso
  have hlo1 : LOk (σ1 114) (σ1 115) := by rw [e114, e115]; exact hlo
  refine ⟨6, _, by omega, o_M_yields p hf, ?_⟩
  rintro r2 σ2 ⟨e3, q⟩
  have h96 : σ2 96 = σ 96 := (q 96 (by decide)).trans e96
  have hs2 : Sm K2 σ1 σ2 := q.mono (by decide)
  have h95 : ∀ j, j ≠ 7 → j ≠ 8 → σ2 95 j = σ1 95 j := fun j _ _ => by rw [q 95 (by decide)]
  exact ⟨by rw [e1, e3, e96], hC.op hs1 _ hx hs2 h95 h96 rfl⟩
theorem pr_years (k : Int32) : PairOk l θ m_W_years m_M_years [.inl k] := by
  intro σ hC
  obtain ⟨n, c, t, y, hS, hI, ⟨T, t1, t2, t3, t4⟩, ⟨hso, hsh⟩, ⟨hlo, hsl⟩, ⟨W, w1, w2, w3, w4⟩, hK⟩ := id hC
  refine ⟨6, _, by omega, o_W_years k hS, ?_⟩
  rintro r1 σ1 ⟨e1, q1, hx⟩
  have hs1 : Sm K1 σ σ1 := q1.mono (by decide)
  have e96 : σ1 96 = σ 96 := hs1 96 (by decide)
  have e95 : σ1 95 = σ 95 := hs1 95 (by decide)
  have e111 : σ1 111 = σ 111 := hs1 111 (by decide)
  have e112 : σ1 112 = σ 112 := hs1 112 (by decide)
  have e113 : σ1 113 = σ 113 := hs1 113 (by decide)
  have e114 : σ1 114 = σ 114 := hs1 114 (by decide)
  have e115 : σ1 115 = σ 115 := hs1 115 (by decide)
  have e116 : σ1 116 = σ 116 := hs1 116 (by decide)
  have e117 : σ1 117 = σ 117 := hs1 117 (by decide)
  have hf : FOk (σ1 96) n c t y := by rw [e96]; exact hS.fo
  have hso1 : SOk (σ1 111) (σ1 112) := by rw [e111, e112]; exact hso
  have hlo1 : LOk (σ1 114) (σ1 115) := by rw [e114, e115]; exact hlo
  refine ⟨6, _, by omega, o_M_years k hf hS.y9, ?_⟩
  rintro r2 σ2 ⟨e3, e4, q⟩
  have h96 : σ2 96 = (yrsF (σ 96) n t y k).2 := by rw [e4, e96]
  have hs2 : Sm K2 σ1 σ2 := q.mono (by decide)
  have h95 : ∀ j, j ≠ 7 → j ≠ 8 → σ2 95 j = σ1 95 j := fun j _ _ => by rw [q 95 (by decide)]
  exact ⟨by rw [e1, e3, e96], hC.op hs1 _ hx hs2 h95 h96 (f5_yrs _ _ _ _ _)⟩
theorem pr_behind (k w : Int32) : PairOk l θ m_W_behind m_M_behind [.inl k, .inl w] := by
  intro σ hC
  obtain ⟨n, c, t, y, hS, hI, ⟨T, t1, t2, t3, t4⟩, ⟨hso, hsh⟩, ⟨hlo, hsl⟩, ⟨W, w1, w2, w3, w4⟩, hK⟩ := id hC
  refine ⟨6, _, by omega, o_W_behind k w hS, ?_⟩
  rintro r1 σ1 ⟨e1, q1⟩
  have hs1 : Sm K1 σ σ1 := q1.mono (by decide)
  have hx : SVx σ1 (σ 96) := (hS.sm q1 (fun k h1 h2 => by simp; omega)).x
  have e96 : σ1 96 = σ 96 := hs1 96 (by decide)
  have e95 : σ1 95 = σ 95 := hs1 95 (by decide)
  have e111 : σ1 111 = σ 111 := hs1 111 (by decide)
  have e112 : σ1 112 = σ 112 := hs1 112 (by decide)
  have e113 : σ1 113 = σ 113 := hs1 113 (by decide)
  have e114 : σ1 114 = σ 114 := hs1 114 (by decide)
  have e115 : σ1 115 = σ 115 := hs1 115 (by decide)
  have e116 : σ1 116 = σ 116 := hs1 116 (by decide)
  have e117 : σ1 117 = σ 117 := hs1 117 (by decide)
  have hf : FOk (σ1 96) n c t y := by rw [e96]; exact hS.fo
  have hso1 : SOk (σ1 111) (σ1 112) := by rw [e111, e112]; exact hso
  have hlo1 : LOk (σ1 114) (σ1 115) := by rw [e114, e115]; exact hlo
  refine ⟨7, _, by omega, o_M_behind k w hf hS.y9, ?_⟩
  rintro r2 σ2 ⟨e3, q⟩
  have h96 : σ2 96 = σ 96 := (q 96 (by decide)).trans e96
  have hs2 : Sm K2 σ1 σ2 := q.mono (by decide)
  have h95 : ∀ j, j ≠ 7 → j ≠ 8 → σ2 95 j = σ1 95 j := fun j _ _ => by rw [q 95 (by decide)]
  exact ⟨by rw [e1, e3, e96], hC.op hs1 _ hx hs2 h95 h96 rfl⟩
theorem pr_ends : PairOk l θ m_W_ends m_M_ends [] := by
  intro σ hC
  obtain ⟨n, c, t, y, hS, hI, ⟨T, t1, t2, t3, t4⟩, ⟨hso, hsh⟩, ⟨hlo, hsl⟩, ⟨W, w1, w2, w3, w4⟩, hK⟩ := id hC
  refine ⟨6, _, by omega, o_W_ends  hS, ?_⟩
  rintro r1 σ1 ⟨e1, q1⟩
  have hs1 : Sm K1 σ σ1 := q1.mono (by decide)
  have hx : SVx σ1 (σ 96) := (hS.sm q1 (fun k h1 h2 => by simp; omega)).x
  have e96 : σ1 96 = σ 96 := hs1 96 (by decide)
  have e95 : σ1 95 = σ 95 := hs1 95 (by decide)
  have e111 : σ1 111 = σ 111 := hs1 111 (by decide)
  have e112 : σ1 112 = σ 112 := hs1 112 (by decide)
  have e113 : σ1 113 = σ 113 := hs1 113 (by decide)
  have e114 : σ1 114 = σ 114 := hs1 114 (by decide)
  have e115 : σ1 115 = σ 115 := hs1 115 (by decide)
  have e116 : σ1 116 = σ 116 := hs1 116 (by decide)
  have e117 : σ1 117 = σ 117 := hs1 117 (by decide)
  have hf : FOk (σ1 96) n c t y := by rw [e96]; exact hS.fo
  have hso1 : SOk (σ1 111) (σ1 112) := by rw [e111, e112]; exact hso
  have hlo1 : LOk (σ1 114) (σ1 115) := by rw [e114, e115]; exact hlo
  refine ⟨7, _, by omega, o_M_ends  hf hS.y9, ?_⟩
  rintro r2 σ2 ⟨e3, q⟩
  have h96 : σ2 96 = σ 96 := (q 96 (by decide)).trans e96
  have hs2 : Sm K2 σ1 σ2 := q.mono (by decide)
  have h95 : ∀ j, j ≠ 7 → j ≠ 8 → σ2 95 j = σ1 95 j := fun j _ _ => by rw [q 95 (by decide)]
  exact ⟨by rw [e1, e3, e96], hC.op hs1 _ hx hs2 h95 h96 rfl⟩
theorem pr_stays (nm k : Int32) : PairOk l θ m_W_stays m_M_stays [.inl nm, .inl k] := by
  intro σ hC
  obtain ⟨n, c, t, y, hS, hI, ⟨T, t1, t2, t3, t4⟩, ⟨hso, hsh⟩, ⟨hlo, hsl⟩, ⟨W, w1, w2, w3, w4⟩, hK⟩ := id hC
  refine ⟨6, _, by omega, o_W_stays nm k hS, ?_⟩
  rintro r1 σ1 ⟨e1, q1⟩
  have hs1 : Sm K1 σ σ1 := q1.mono (by decide)
  have hx : SVx σ1 (σ 96) := (hS.sm q1 (fun k h1 h2 => by simp; omega)).x
  have e96 : σ1 96 = σ 96 := hs1 96 (by decide)
  have e95 : σ1 95 = σ 95 := hs1 95 (by decide)
  have e111 : σ1 111 = σ 111 := hs1 111 (by decide)
  have e112 : σ1 112 = σ 112 := hs1 112 (by decide)
  have e113 : σ1 113 = σ 113 := hs1 113 (by decide)
  have e114 : σ1 114 = σ 114 := hs1 114 (by decide)
  have e115 : σ1 115 = σ 115 := hs1 115 (by decide)
  have e116 : σ1 116 = σ 116 := hs1 116 (by decide)
  have e117 : σ1 117 = σ 117 := hs1 117 (by decide)
  have hf : FOk (σ1 96) n c t y := by rw [e96]; exact hS.fo
  have hso1 : SOk (σ1 111) (σ1 112) := by rw [e111, e112]; exact hso
  have hlo1 : LOk (σ1 114) (σ1 115) := by rw [e114, e115]; exact hlo
  refine ⟨7, _, by omega, o_M_stays nm k hf hS.y9, ?_⟩
  rintro r2 σ2 ⟨e3, q⟩
  have h96 : σ2 96 = σ 96 := (q 96 (by decide)).trans e96
  have hs2 : Sm K2 σ1 σ2 := q.mono (by decide)
  have h95 : ∀ j, j ≠ 7 → j ≠ 8 → σ2 95 j = σ1 95 j := fun j _ _ => by rw [q 95 (by decide)]
  exact ⟨by rw [e1, e3, e96], hC.op hs1 _ hx hs2 h95 h96 rfl⟩
theorem pr_line (s : Int32) : PairOk l θ m_W_line m_M_line [.inl s] := by
  intro σ hC
  obtain ⟨n, c, t, y, hS, hI, ⟨T, t1, t2, t3, t4⟩, ⟨hso, hsh⟩, ⟨hlo, hsl⟩, ⟨W, w1, w2, w3, w4⟩, hK⟩ := id hC
  refine ⟨5, _, by omega, o_W_line s hS hsh hso, ?_⟩
  rintro r1 σ1 ⟨e1, q1, q2⟩
  have hs1 : Sm K1 σ σ1 := q1.mono (by decide)
  have hx : SVx σ1 (σ 96) := q2.x
  have e96 : σ1 96 = σ 96 := hs1 96 (by decide)
  have e95 : σ1 95 = σ 95 := hs1 95 (by decide)
  have e111 : σ1 111 = σ 111 := hs1 111 (by decide)
  have e112 : σ1 112 = σ 112 := hs1 112 (by decide)
  have e113 : σ1 113 = σ 113 := hs1 113 (by decide)
  have e114 : σ1 114 = σ 114 := hs1 114 (by decide)
  have e115 : σ1 115 = σ 115 := hs1 115 (by decide)
  have e116 : σ1 116 = σ 116 := hs1 116 (by decide)
  have e117 : σ1 117 = σ 117 := hs1 117 (by decide)
  have hf : FOk (σ1 96) n c t y := by rw [e96]; exact hS.fo
  have hso1 : SOk (σ1 111) (σ1 112) := by rw [e111, e112]; exact hso
  have hlo1 : LOk (σ1 114) (σ1 115) := by rw [e114, e115]; exact hlo
  refine ⟨6, _, by omega, o_M_line s hf hso1, ?_⟩
  rintro r2 σ2 ⟨e3, q⟩
  have h96 : σ2 96 = σ 96 := (q 96 (by decide)).trans e96
  have hs2 : Sm K2 σ1 σ2 := q.mono (by decide)
  have h95 : ∀ j, j ≠ 7 → j ≠ 8 → σ2 95 j = σ1 95 j := fun j _ _ => by rw [q 95 (by decide)]
  exact ⟨by rw [e1, e3, e96, e111, e112, e113], hC.op hs1 _ hx hs2 h95 h96 rfl⟩
theorem pr_fine : PairOk l θ m_W_fine m_M_fine [] := by
  intro σ hC
  obtain ⟨n, c, t, y, hS, hI, ⟨T, t1, t2, t3, t4⟩, ⟨hso, hsh⟩, ⟨hlo, hsl⟩, ⟨W, w1, w2, w3, w4⟩, hK⟩ := id hC
  refine ⟨5, _, by omega, o_W_fine  hS, ?_⟩
  rintro r1 σ1 ⟨e1, q1⟩
  have hs1 : Sm K1 σ σ1 := q1.mono (by decide)
  have hx : SVx σ1 (σ 96) := (hS.sm q1 (fun k h1 h2 => by simp; omega)).x
  have e96 : σ1 96 = σ 96 := hs1 96 (by decide)
  have e95 : σ1 95 = σ 95 := hs1 95 (by decide)
  have e111 : σ1 111 = σ 111 := hs1 111 (by decide)
  have e112 : σ1 112 = σ 112 := hs1 112 (by decide)
  have e113 : σ1 113 = σ 113 := hs1 113 (by decide)
  have e114 : σ1 114 = σ 114 := hs1 114 (by decide)
  have e115 : σ1 115 = σ 115 := hs1 115 (by decide)
  have e116 : σ1 116 = σ 116 := hs1 116 (by decide)
  have e117 : σ1 117 = σ 117 := hs1 117 (by decide)
  have hf : FOk (σ1 96) n c t y := by rw [e96]; exact hS.fo
  have hso1 : SOk (σ1 111) (σ1 112) := by rw [e111, e112]; exact hso
  have hlo1 : LOk (σ1 114) (σ1 115) := by rw [e114, e115]; exact hlo
  refine ⟨5, _, by omega, o_M_fine  hf, ?_⟩
  rintro r2 σ2 ⟨e3, q⟩
  have h96 : σ2 96 = σ 96 := (q 96 (by decide)).trans e96
  have hs2 : Sm K2 σ1 σ2 := q.mono (by decide)
  have h95 : ∀ j, j ≠ 7 → j ≠ 8 → σ2 95 j = σ1 95 j := fun j _ _ => by rw [q 95 (by decide)]
  exact ⟨by rw [e1, e3, e96], hC.op hs1 _ hx hs2 h95 h96 rfl⟩
theorem pr_textTold (x w : Int32) : PairOk l θ m_W_textTold m_M_textTold [.inl x, .inl w] := by
  intro σ hC
  obtain ⟨n, c, t, y, hS, hI, ⟨T, t1, t2, t3, t4⟩, ⟨hso, hsh⟩, ⟨hlo, hsl⟩, ⟨W, w1, w2, w3, w4⟩, hK⟩ := id hC
  refine ⟨5, _, by omega, o_W_textTold x w hS, ?_⟩
  rintro r1 σ1 ⟨e1, e2⟩
  have hs1 : Sm K1 σ σ1 := by rw [e2]; exact Sm.rf
  have hx : SVx σ1 (σ 96) := by rw [e2]; exact hS.x
  have e96 : σ1 96 = σ 96 := hs1 96 (by decide)
  have e95 : σ1 95 = σ 95 := hs1 95 (by decide)
  have e111 : σ1 111 = σ 111 := hs1 111 (by decide)
  have e112 : σ1 112 = σ 112 := hs1 112 (by decide)
  have e113 : σ1 113 = σ 113 := hs1 113 (by decide)
  have e114 : σ1 114 = σ 114 := hs1 114 (by decide)
  have e115 : σ1 115 = σ 115 := hs1 115 (by decide)
  have e116 : σ1 116 = σ 116 := hs1 116 (by decide)
  have e117 : σ1 117 = σ 117 := hs1 117 (by decide)
  have hf : FOk (σ1 96) n c t y := by rw [e96]; exact hS.fo
  have hso1 : SOk (σ1 111) (σ1 112) := by rw [e111, e112]; exact hso
  have hlo1 : LOk (σ1 114) (σ1 115) := by rw [e114, e115]; exact hlo
  refine ⟨5, _, by omega, o_M_textTold x w hf, ?_⟩
  rintro r2 σ2 ⟨e3, e4⟩
  have h96 : σ2 96 = σ 96 := by rw [e4, e96]
  have hs2 : Sm K2 σ1 σ2 := by rw [e4]; exact Sm.rf
  have h95 : ∀ j, j ≠ 7 → j ≠ 8 → σ2 95 j = σ1 95 j := fun j _ _ => by rw [e4]
  exact ⟨by rw [e1, e3, e96], hC.op hs1 _ hx hs2 h95 h96 rfl⟩
theorem pr_why (k : Int32) : PairOk l θ m_W_why m_M_why [.inl k] := by
  intro σ hC
  obtain ⟨n, c, t, y, hS, hI, ⟨T, t1, t2, t3, t4⟩, ⟨hso, hsh⟩, ⟨hlo, hsl⟩, ⟨W, w1, w2, w3, w4⟩, hK⟩ := id hC
  refine ⟨5, _, by omega, o_W_why k hS, ?_⟩
  rintro r1 σ1 ⟨e1, e2⟩
  have hs1 : Sm K1 σ σ1 := by rw [e2]; exact Sm.rf
  have hx : SVx σ1 (σ 96) := by rw [e2]; exact hS.x
  have e96 : σ1 96 = σ 96 := hs1 96 (by decide)
  have e95 : σ1 95 = σ 95 := hs1 95 (by decide)
  have e111 : σ1 111 = σ 111 := hs1 111 (by decide)
  have e112 : σ1 112 = σ 112 := hs1 112 (by decide)
  have e113 : σ1 113 = σ 113 := hs1 113 (by decide)
  have e114 : σ1 114 = σ 114 := hs1 114 (by decide)
  have e115 : σ1 115 = σ 115 := hs1 115 (by decide)
  have e116 : σ1 116 = σ 116 := hs1 116 (by decide)
  have e117 : σ1 117 = σ 117 := hs1 117 (by decide)
  have hf : FOk (σ1 96) n c t y := by rw [e96]; exact hS.fo
  have hso1 : SOk (σ1 111) (σ1 112) := by rw [e111, e112]; exact hso
  have hlo1 : LOk (σ1 114) (σ1 115) := by rw [e114, e115]; exact hlo
  refine ⟨5, _, by omega, o_M_why k hf, ?_⟩
  rintro r2 σ2 ⟨e3, e4⟩
  have h96 : σ2 96 = σ 96 := by rw [e4, e96]
  have hs2 : Sm K2 σ1 σ2 := by rw [e4]; exact Sm.rf
  have h95 : ∀ j, j ≠ 7 → j ≠ 8 → σ2 95 j = σ1 95 j := fun j _ _ => by rw [e4]
  exact ⟨by rw [e1, e3, e96], hC.op hs1 _ hx hs2 h95 h96 rfl⟩
theorem pr_pour (s : Int32) : PairOk l θ m_W_pour m_M_pour [.inl s] := by
  intro σ hC
  obtain ⟨n, c, t, y, hS, hI, ⟨T, t1, t2, t3, t4⟩, ⟨hso, hsh⟩, ⟨hlo, hsl⟩, ⟨W, w1, w2, w3, w4⟩, hK⟩ := id hC
  refine ⟨5, _, by omega, o_W_pour s hS hsh hso, ?_⟩
  rintro r1 σ1 ⟨e1, q1, hx⟩
  have hs1 : Sm K1 σ σ1 := q1.mono (by decide)
  have e96 : σ1 96 = σ 96 := hs1 96 (by decide)
  have e95 : σ1 95 = σ 95 := hs1 95 (by decide)
  have e111 : σ1 111 = σ 111 := hs1 111 (by decide)
  have e112 : σ1 112 = σ 112 := hs1 112 (by decide)
  have e113 : σ1 113 = σ 113 := hs1 113 (by decide)
  have e114 : σ1 114 = σ 114 := hs1 114 (by decide)
  have e115 : σ1 115 = σ 115 := hs1 115 (by decide)
  have e116 : σ1 116 = σ 116 := hs1 116 (by decide)
  have e117 : σ1 117 = σ 117 := hs1 117 (by decide)
  have hf : FOk (σ1 96) n c t y := by rw [e96]; exact hS.fo
  have hso1 : SOk (σ1 111) (σ1 112) := by rw [e111, e112]; exact hso
  have hlo1 : LOk (σ1 114) (σ1 115) := by rw [e114, e115]; exact hlo
  refine ⟨5, _, by omega, o_M_pour s hf hso1, ?_⟩
  rintro r2 σ2 ⟨e3, e4⟩
  have h96 : σ2 96 = (porF (σ 96) (σ 111) (σ 112) (σ 113) n s).2 := by rw [e4, upc_same, e96, e111, e112, e113]
  have hs2 : Sm K2 σ1 σ2 := by rw [e4]; exact Sm.rf.upc (by decide)
  have h95 : ∀ j, j ≠ 7 → j ≠ 8 → σ2 95 j = σ1 95 j := fun j _ _ => by rw [e4, upc_c _ _ _ (by decide)]
  exact ⟨by rw [e1, e3, e96, e111, e112, e113], hC.op hs1 _ hx hs2 h95 h96 (f5_por _ _ _ _ _ _)⟩
theorem pr_reads (s : Int32) : PairOk l θ m_W_reads m_M_reads [.inl s] := by
  intro σ hC
  obtain ⟨n, c, t, y, hS, hI, ⟨T, t1, t2, t3, t4⟩, ⟨hso, hsh⟩, ⟨hlo, hsl⟩, ⟨W, w1, w2, w3, w4⟩, hK⟩ := id hC
  refine ⟨5, _, by omega, o_W_reads s hS hsh hso, ?_⟩
  rintro r1 σ1 ⟨e1, e2⟩
  have hs1 : Sm K1 σ σ1 := by rw [e2]; exact Sm.rf
  have hx : SVx σ1 (σ 96) := by rw [e2]; exact hS.x
  have e96 : σ1 96 = σ 96 := hs1 96 (by decide)
  have e95 : σ1 95 = σ 95 := hs1 95 (by decide)
  have e111 : σ1 111 = σ 111 := hs1 111 (by decide)
  have e112 : σ1 112 = σ 112 := hs1 112 (by decide)
  have e113 : σ1 113 = σ 113 := hs1 113 (by decide)
  have e114 : σ1 114 = σ 114 := hs1 114 (by decide)
  have e115 : σ1 115 = σ 115 := hs1 115 (by decide)
  have e116 : σ1 116 = σ 116 := hs1 116 (by decide)
  have e117 : σ1 117 = σ 117 := hs1 117 (by decide)
  have hf : FOk (σ1 96) n c t y := by rw [e96]; exact hS.fo
  have hso1 : SOk (σ1 111) (σ1 112) := by rw [e111, e112]; exact hso
  have hlo1 : LOk (σ1 114) (σ1 115) := by rw [e114, e115]; exact hlo
  refine ⟨5, _, by omega, o_M_reads s hf hso1, ?_⟩
  rintro r2 σ2 ⟨e3, e4⟩
  have h96 : σ2 96 = σ 96 := by rw [e4, e96]
  have hs2 : Sm K2 σ1 σ2 := by rw [e4]; exact Sm.rf
  have h95 : ∀ j, j ≠ 7 → j ≠ 8 → σ2 95 j = σ1 95 j := fun j _ _ => by rw [e4]
  exact ⟨by rw [e1, e3, e96, e111, e112, e113], hC.op hs1 _ hx hs2 h95 h96 rfl⟩
theorem pr_ask (s k : Int32) : PairOk l θ m_W_ask m_M_ask [.inl s, .inl k] := by
  intro σ hC
  obtain ⟨n, c, t, y, hS, hI, ⟨T, t1, t2, t3, t4⟩, ⟨hso, hsh⟩, ⟨hlo, hsl⟩, ⟨W, w1, w2, w3, w4⟩, hK⟩ := id hC
  refine ⟨5, _, by omega, o_W_ask s k hsl, ?_⟩
  rintro r1 σ1 ⟨e1, e2⟩
  have hs1 : Sm K1 σ σ1 := by rw [e2]; exact Sm.rf
  have hx : SVx σ1 (σ 96) := by rw [e2]; exact hS.x
  have e96 : σ1 96 = σ 96 := hs1 96 (by decide)
  have e95 : σ1 95 = σ 95 := hs1 95 (by decide)
  have e111 : σ1 111 = σ 111 := hs1 111 (by decide)
  have e112 : σ1 112 = σ 112 := hs1 112 (by decide)
  have e113 : σ1 113 = σ 113 := hs1 113 (by decide)
  have e114 : σ1 114 = σ 114 := hs1 114 (by decide)
  have e115 : σ1 115 = σ 115 := hs1 115 (by decide)
  have e116 : σ1 116 = σ 116 := hs1 116 (by decide)
  have e117 : σ1 117 = σ 117 := hs1 117 (by decide)
  have hf : FOk (σ1 96) n c t y := by rw [e96]; exact hS.fo
  have hso1 : SOk (σ1 111) (σ1 112) := by rw [e111, e112]; exact hso
  have hlo1 : LOk (σ1 114) (σ1 115) := by rw [e114, e115]; exact hlo
  refine ⟨5, _, by omega, o_M_ask s k , ?_⟩
  rintro r2 σ2 ⟨e3, e4⟩
  have h96 : σ2 96 = σ 96 := by rw [e4, e96]
  have hs2 : Sm K2 σ1 σ2 := by rw [e4]; exact Sm.rf
  have h95 : ∀ j, j ≠ 7 → j ≠ 8 → σ2 95 j = σ1 95 j := fun j _ _ => by rw [e4]
  exact ⟨by rw [e1, e3, e114, e115, e116], hC.op hs1 _ hx hs2 h95 h96 rfl⟩
theorem pr_item (s k : Int32) : PairOk l θ m_W_item m_M_item [.inl s, .inl k] := by
  intro σ hC
  obtain ⟨n, c, t, y, hS, hI, ⟨T, t1, t2, t3, t4⟩, ⟨hso, hsh⟩, ⟨hlo, hsl⟩, ⟨W, w1, w2, w3, w4⟩, hK⟩ := id hC
  refine ⟨5, _, by omega, o_W_item s k hsl hlo, ?_⟩
  rintro r1 σ1 ⟨e1, e2⟩
  have hs1 : Sm K1 σ σ1 := by rw [e2]; exact Sm.rf
  have hx : SVx σ1 (σ 96) := by rw [e2]; exact hS.x
  have e96 : σ1 96 = σ 96 := hs1 96 (by decide)
  have e95 : σ1 95 = σ 95 := hs1 95 (by decide)
  have e111 : σ1 111 = σ 111 := hs1 111 (by decide)
  have e112 : σ1 112 = σ 112 := hs1 112 (by decide)
  have e113 : σ1 113 = σ 113 := hs1 113 (by decide)
  have e114 : σ1 114 = σ 114 := hs1 114 (by decide)
  have e115 : σ1 115 = σ 115 := hs1 115 (by decide)
  have e116 : σ1 116 = σ 116 := hs1 116 (by decide)
  have e117 : σ1 117 = σ 117 := hs1 117 (by decide)
  have hf : FOk (σ1 96) n c t y := by rw [e96]; exact hS.fo
  have hso1 : SOk (σ1 111) (σ1 112) := by rw [e111, e112]; exact hso
  have hlo1 : LOk (σ1 114) (σ1 115) := by rw [e114, e115]; exact hlo
  refine ⟨5, _, by omega, o_M_item s k hlo1, ?_⟩
  rintro r2 σ2 ⟨e3, e4⟩
  have h96 : σ2 96 = σ 96 := by rw [e4, e96]
  have hs2 : Sm K2 σ1 σ2 := by rw [e4]; exact Sm.rf
  have h95 : ∀ j, j ≠ 7 → j ≠ 8 → σ2 95 j = σ1 95 j := fun j _ _ => by rw [e4]
  exact ⟨by rw [e1, e3, e114, e115, e117], hC.op hs1 _ hx hs2 h95 h96 rfl⟩
theorem pr_rest (s k : Int32) : PairOk l θ m_W_rest m_M_rest [.inl s, .inl k] := by
  intro σ hC
  obtain ⟨n, c, t, y, hS, hI, ⟨T, t1, t2, t3, t4⟩, ⟨hso, hsh⟩, ⟨hlo, hsl⟩, ⟨W, w1, w2, w3, w4⟩, hK⟩ := id hC
  refine ⟨5, _, by omega, o_W_rest s k hsl, ?_⟩
  rintro r1 σ1 ⟨e1, e2⟩
  have hs1 : Sm K1 σ σ1 := by rw [e2]; exact Sm.rf
  have hx : SVx σ1 (σ 96) := by rw [e2]; exact hS.x
  have e96 : σ1 96 = σ 96 := hs1 96 (by decide)
  have e95 : σ1 95 = σ 95 := hs1 95 (by decide)
  have e111 : σ1 111 = σ 111 := hs1 111 (by decide)
  have e112 : σ1 112 = σ 112 := hs1 112 (by decide)
  have e113 : σ1 113 = σ 113 := hs1 113 (by decide)
  have e114 : σ1 114 = σ 114 := hs1 114 (by decide)
  have e115 : σ1 115 = σ 115 := hs1 115 (by decide)
  have e116 : σ1 116 = σ 116 := hs1 116 (by decide)
  have e117 : σ1 117 = σ 117 := hs1 117 (by decide)
  have hf : FOk (σ1 96) n c t y := by rw [e96]; exact hS.fo
  have hso1 : SOk (σ1 111) (σ1 112) := by rw [e111, e112]; exact hso
  have hlo1 : LOk (σ1 114) (σ1 115) := by rw [e114, e115]; exact hlo
  refine ⟨5, _, by omega, o_M_rest s k , ?_⟩
  rintro r2 σ2 ⟨e3, e4⟩
  have h96 : σ2 96 = σ 96 := by rw [e4, e96]
  have hs2 : Sm K2 σ1 σ2 := by rw [e4]; exact Sm.rf
  have h95 : ∀ j, j ≠ 7 → j ≠ 8 → σ2 95 j = σ1 95 j := fun j _ _ => by rw [e4]
  exact ⟨by rw [e1, e3, e114, e115], hC.op hs1 _ hx hs2 h95 h96 rfl⟩
theorem pr_count (w : Int32) : PairOk l θ m_W_count m_M_count [.inl w] := by
  intro σ hC
  obtain ⟨n, c, t, y, hS, hI, ⟨T, t1, t2, t3, t4⟩, ⟨hso, hsh⟩, ⟨hlo, hsl⟩, ⟨W, w1, w2, w3, w4⟩, hK⟩ := id hC
  refine ⟨5, _, by omega, o_W_count w hS, ?_⟩
  rintro r1 σ1 ⟨e1, e2⟩
  have hs1 : Sm K1 σ σ1 := by rw [e2]; exact Sm.rf
  have hx : SVx σ1 (σ 96) := by rw [e2]; exact hS.x
  have e96 : σ1 96 = σ 96 := hs1 96 (by decide)
  have e95 : σ1 95 = σ 95 := hs1 95 (by decide)
  have e111 : σ1 111 = σ 111 := hs1 111 (by decide)
  have e112 : σ1 112 = σ 112 := hs1 112 (by decide)
  have e113 : σ1 113 = σ 113 := hs1 113 (by decide)
  have e114 : σ1 114 = σ 114 := hs1 114 (by decide)
  have e115 : σ1 115 = σ 115 := hs1 115 (by decide)
  have e116 : σ1 116 = σ 116 := hs1 116 (by decide)
  have e117 : σ1 117 = σ 117 := hs1 117 (by decide)
  have hf : FOk (σ1 96) n c t y := by rw [e96]; exact hS.fo
  have hso1 : SOk (σ1 111) (σ1 112) := by rw [e111, e112]; exact hso
  have hlo1 : LOk (σ1 114) (σ1 115) := by rw [e114, e115]; exact hlo
  refine ⟨5, _, by omega, o_M_count w hf, ?_⟩
  rintro r2 σ2 ⟨e3, e4⟩
  have h96 : σ2 96 = σ 96 := by rw [e4, e96]
  have hs2 : Sm K2 σ1 σ2 := by rw [e4]; exact Sm.rf
  have h95 : ∀ j, j ≠ 7 → j ≠ 8 → σ2 95 j = σ1 95 j := fun j _ _ => by rw [e4]
  exact ⟨by rw [e1, e3, e96, e95, t2, t3, w2, w3], hC.op hs1 _ hx hs2 h95 h96 rfl⟩
end
