/-! the class's calls, third part -/
section
variable {σ σ' : Sg} {b n c t y : Nat} {f g : Nat → Int32}
theorem SV.setz (h : SV σ f n c t y) (z : Int32) : SV (up σ 32 10 z) (upd f 0 z) n c t y := by
  have hg : ∀ j, j ≠ 0 → upd f 0 z j = f j := fun j hj => upd_ne hj
  refine ⟨FOk_lo h.fo (fun j _ h2 _ => hg j h2) (fun j h1 => hg j (by omega)), h.y9, fun p hp => ?_, h.rv.setz h.to z, (h.tx.cg (fun j h1 => hg j (by omega))).sm (cs := [32]) (Sm.rf.up (by simp)) h.t14 (fun k h1 h2 => by simp; omega)⟩
  rw [hg _ (by omega), hg _ (by omega), hg _ (by omega)]; exact h.ko p hp
theorem RV.sett (h : RV σ b f n c t) (ht : TxsOk f t) (v : Int32) : RV (up σ b 8 v) b (upd f 3 v) n c t := by
  have hg : ∀ j, j ≠ 3 → upd f 3 v j = f j := fun j hj => upd_ne hj
  have e : ∀ k, 1 ≤ k → up σ b 8 v (b + k) = σ (b + k) := fun k hk => up_c _ _ _ _ (by omega)
  refine ⟨⟨?_, ?_, ?_, ?_, ?_, ?_⟩, ?_, fun p hp => ⟨?_, ?_, ?_, ?_⟩, fun i hi => ⟨?_, ?_⟩, ?_⟩
  · rw [up_j _ _ _ _ (by omega)]; exact h.pn
  · rw [up_j _ _ _ _ (by omega)]; exact h.cn
  · rw [up_self, upd_same]
  · rw [up_j _ _ _ _ (by omega), hg _ (by omega)]; exact h.y
  · rw [up_j _ _ _ _ (by omega), hg _ (by omega)]; exact h.z
  · rw [up_j _ _ _ _ (by omega)]; exact h.tn
  · rw [up_j _ _ _ _ (by omega)]; exact h.nea ht (fun j hj => hg j (by omega))
  · rw [e _ (by omega), hg _ (by omega)]; exact h.kd hp
  · rw [e _ (by omega), hg _ (by omega)]; exact h.nm hp
  · rw [e _ (by omega), hg _ (by omega)]; exact h.bn hp
  · rw [e _ (by omega), hg _ (by omega)]; exact h.dd hp
  · rw [e _ (by omega), hg _ (by omega)]; exact h.c1 hi
  · rw [e _ (by omega), hg _ (by omega)]; exact h.c2 hi
  · rw [e _ (by omega)]; exact h.cnt (fun j hj => hg j (by omega))
theorem SV.sett (h : SV σ f n c t y) (v : Int32) : SV (up σ 32 8 v) (upd f 3 v) n c t y := by
  have hg : ∀ j, j ≠ 3 → upd f 3 v j = f j := fun j hj => upd_ne hj
  refine ⟨FOk_lo h.fo (fun j _ _ h3 => hg j h3) (fun j h1 => hg j (by omega)), h.y9, fun p hp => ?_, h.rv.sett h.to v, (h.tx.cg (fun j h1 => hg j (by omega))).sm (cs := [32]) (Sm.rf.up (by simp)) h.t14 (fun k h1 h2 => by simp; omega)⟩
  rw [hg _ (by omega), hg _ (by omega), hg _ (by omega)]; exact h.ko p hp
theorem RV.set0 (h : RV σ b f n c t) (ht : TxsOk f t) : RV (up σ b 7 0) b (upd f 4 0) n 0 t := by
  have hg : ∀ j, j ≠ 4 → upd f 4 0 j = f j := fun j hj => upd_ne hj
  have e : ∀ k, 1 ≤ k → up σ b 7 0 (b + k) = σ (b + k) := fun k hk => up_c _ _ _ _ (by omega)
  refine ⟨⟨?_, ?_, ?_, ?_, ?_, ?_⟩, ?_, fun p hp => ⟨?_, ?_, ?_, ?_⟩, fun i hi => absurd hi (Nat.not_lt_zero i), ?_⟩
  · rw [up_j _ _ _ _ (by omega)]; exact h.pn
  · rw [up_self]; rfl
  · rw [up_j _ _ _ _ (by omega), hg _ (by omega)]; exact h.tm
  · rw [up_j _ _ _ _ (by omega), hg _ (by omega)]; exact h.y
  · rw [up_j _ _ _ _ (by omega), hg _ (by omega)]; exact h.z
  · rw [up_j _ _ _ _ (by omega)]; exact h.tn
  · rw [up_j _ _ _ _ (by omega)]; exact h.nea ht (fun j hj => hg j (by omega))
  · rw [e _ (by omega), hg _ (by omega)]; exact h.kd hp
  · rw [e _ (by omega), hg _ (by omega)]; exact h.nm hp
  · rw [e _ (by omega), hg _ (by omega)]; exact h.bn hp
  · rw [e _ (by omega), hg _ (by omega)]; exact h.dd hp
  · rw [e _ (by omega)]; exact h.cnt (fun j hj => hg j (by omega))
theorem SV.set0 (h : SV σ f n c t y) : SV (up σ 32 7 0) (upd f 4 0) n 0 t y := by
  have hg : ∀ j, j ≠ 4 → upd f 4 0 j = f j := fun j hj => upd_ne hj
  obtain ⟨a1, a2, a3, a4, a5, a6, a7, a8, a9, a10⟩ := h.fo
  refine ⟨⟨by rw [hg _ (by omega)]; exact a1, a2, by rw [upd_same]; rfl, by omega, by rw [hg _ (by omega)]; exact a5, a6, by rw [hg _ (by omega)]; exact a7, a8, TxsOk_congr a9 (fun j hj => hg j (by omega)), fun i hi => by omega⟩, h.y9, fun p hp => ?_, h.rv.set0 h.to, (h.tx.cg (fun j h1 => hg j (by omega))).sm (cs := [32]) (Sm.rf.up (by simp)) h.t14 (fun k h1 h2 => by simp; omega)⟩
  rw [hg _ (by omega), hg _ (by omega), hg _ (by omega)]; exact h.ko p hp
end
section
variable {l : Launch} {θ : Th} {σ : Sg} {n c t y : Nat} {f : Nat → Int32}
theorem o_W_holds (p v : Int32) (hS : SV σ f n c t y) : Ci l θ 5 m_W_holds [.inr 0, .inl p, .inl v] σ (fun r σ' => r = holdsR f n p v ∧ σ' = σ) := by
  have hn := hS.n10
  refine Ci.of (Or.inl mi_W_holds) pk_W_holds (nb rfl) (Or.inl rfl) [some (.inr 0), some (.inl p), some (.inl v)] rfl fun Γ hG hR => ?_
  have bad : (inB p 0 (nI n - 1) && inB v (-999) 99999) = false → X Γ 15 [some (.inr 0), some (.inl p), some (.inl v)] [] σ := by
    intro hb
    refine hG.rt hR rfl rfl rfl rfl ?_
    exact ⟨by rw [holdsR, hb]; rfl, rfl⟩
  refine hG.cV lk_W_86 mi_W_isPerson rfl rfl (c_W_isPerson p hS) rfl rfl rfl rfl rfl rfl rfl rfl ?_
  rintro x σ' ⟨rfl, rfl⟩
  refine hG.br rfl rfl rfl rfl (fun h1 => ?_) (fun h1 => ?_)
  · exact bad (by rw [bi_eq0.mp h1]; rfl)
  · have h1 := bi_ne0.mp h1
    obtain ⟨P, hP, rfl⟩ := (inB_lt (by omega)).mp h1
    refine hG.cS lk_W_130 mi_W_isAskedYear rfl rfl (c_W_isAskedYear v) rfl rfl rfl rfl rfl rfl ?_
    rintro x σ' ⟨rfl, rfl⟩
    refine hG.br rfl rfl rfl rfl (fun h2 => ?_) (fun h2 => ?_)
    · have h2 := bi_ne0.mp h2
      refine hG.cV lk_W_104 mi_V_holdsIn rfl rfl (c_V_holdsIn32 P v hP hn hS.rv) rfl rfl rfl rfl rfl rfl rfl rfl ?_
      rintro x σ' ⟨rfl, rfl⟩
      refine hG.cS lk_W_108 mi_W_bit rfl rfl (c_W_bit _) rfl rfl rfl rfl rfl rfl ?_
      rintro x σ' ⟨rfl, rfl⟩
      refine hG.rt hR rfl rfl rfl rfl ?_
      exact ⟨by rw [holdsR, h1, h2, Bool.and_self, if_pos rfl, nI_clamp (by omega)], rfl⟩
    · exact bad (by rw [bi_eq0.mp h2, Bool.and_false])
theorem o_W_apart (a b : Int32) : Ci l θ 5 m_W_apart [.inr 0, .inl a, .inl b] σ (fun r σ' => r = apartR a b ∧ σ' = σ) := by
  refine Ci.of (Or.inl mi_W_apart) pk_W_apart (nb rfl) (Or.inl rfl) [some (.inr 0), some (.inl a), some (.inl b)] rfl fun Γ hG hR => ?_
  have bad : (inB a 0 124 && inB b 0 124) = false → X Γ 14 [some (.inr 0), some (.inl a), some (.inl b)] [] σ := by
    intro hb
    refine hG.rt hR rfl rfl rfl rfl ?_
    exact ⟨by rw [apartR, hb]; rfl, rfl⟩
  refine hG.cS lk_W_70 mi_W_isName rfl rfl (c_W_isName a) rfl rfl rfl rfl rfl rfl ?_
  rintro x σ' ⟨rfl, rfl⟩
  refine hG.br rfl rfl rfl rfl (fun h1 => ?_) (fun h1 => ?_)
  · exact bad (by rw [bi_eq0.mp h1]; rfl)
  · have h1 := bi_ne0.mp h1
    refine hG.cS lk_W_70 mi_W_isName rfl rfl (c_W_isName b) rfl rfl rfl rfl rfl rfl ?_
    rintro x σ' ⟨rfl, rfl⟩
    refine hG.br rfl rfl rfl rfl (fun h2 => ?_) (fun h2 => ?_)
    · have h2 := bi_ne0.mp h2
      refine hG.cS lk_W_133 mi_E_alike rfl rfl (c_E_alike a b) rfl rfl rfl rfl rfl rfl ?_
      rintro x σ' ⟨rfl, rfl⟩
      refine hG.cS lk_W_138 mi_E_unlike rfl rfl (c_E_unlike (alN a b) (alN_lt a b)) rfl rfl rfl rfl rfl rfl ?_
      rintro x σ' ⟨rfl, rfl⟩
      refine hG.rt hR rfl rfl rfl rfl ?_
      exact ⟨by rw [apartR, h1, h2, Bool.and_self, if_pos rfl, alN_ap], rfl⟩
    · exact bad (by rw [bi_eq0.mp h2, Bool.and_false])
theorem o_W_near (a b : Int32) (hS : SV σ f n c t y) : Ci l θ 5 m_W_near [.inr 0, .inl a, .inl b] σ (fun r σ' => r = nearR f t a b ∧ σ' = σ) := by
  refine Ci.of (Or.inl mi_W_near) pk_W_near (nb rfl) (Or.inl rfl) [some (.inr 0), some (.inl a), some (.inl b)] rfl fun Γ hG hR => ?_
  have bad : (inB a 0 124 && inB b 0 124) = false → X Γ 14 [some (.inr 0), some (.inl a), some (.inl b)] [] σ := by
    intro hb
    refine hG.rt hR rfl rfl rfl rfl ?_
    exact ⟨by rw [nearR, hb]; rfl, rfl⟩
  refine hG.cS lk_W_70 mi_W_isName rfl rfl (c_W_isName a) rfl rfl rfl rfl rfl rfl ?_
  rintro x σ' ⟨rfl, rfl⟩
  refine hG.br rfl rfl rfl rfl (fun h1 => ?_) (fun h1 => ?_)
  · exact bad (by rw [bi_eq0.mp h1]; rfl)
  · have h1 := bi_ne0.mp h1
    refine hG.cS lk_W_70 mi_W_isName rfl rfl (c_W_isName b) rfl rfl rfl rfl rfl rfl ?_
    rintro x σ' ⟨rfl, rfl⟩
    refine hG.br rfl rfl rfl rfl (fun h2 => ?_) (fun h2 => ?_)
    · have h2 := bi_ne0.mp h2
      refine hG.cV lk_W_142 mi_V_areNear rfl rfl (c_V_areNear32 a b hS.rv) rfl rfl rfl rfl rfl rfl rfl rfl ?_
      rintro x σ' ⟨rfl, rfl⟩
      refine hG.cS lk_W_108 mi_W_bit rfl rfl (c_W_bit _) rfl rfl rfl rfl rfl rfl ?_
      rintro x σ' ⟨rfl, rfl⟩
      refine hG.rt hR rfl rfl rfl rfl ?_
      exact ⟨by rw [nearR, h1, h2, Bool.and_self, if_pos rfl], rfl⟩
    · exact bad (by rw [bi_eq0.mp h2, Bool.and_false])
theorem o_W_lifetime (v : Int32) (hS : SV σ f n c t y) : Ci l θ 5 m_W_lifetime [.inr 0, .inl v] σ (fun r σ' => r = (lifeF f v).1 ∧ Sm [32] σ σ' ∧ SVx σ' (lifeF f v).2) := by
  refine Ci.of (Or.inl mi_W_lifetime) pk_W_lifetime (nb rfl) (Or.inl rfl) [some (.inr 0), some (.inl v), none] rfl fun Γ hG hR => ?_
  have bad : inB v 0 200 = false → X Γ 11 [some (.inr 0), some (.inl v), none] [] σ := by
    intro hb
    refine hG.rt hR rfl rfl rfl rfl ?_
    rw [lifeF, hb]
    exact ⟨rfl, Sm.rf, hS.x⟩
  refine hG.br rfl rfl rfl rfl (fun h1 => ?_) (fun h1 => ?_)
  · exact bad (by rw [inB, decide_eq_false (i32_nle.mpr h1)]; rfl)
  · refine hG.br rfl rfl rfl rfl (fun h2 => ?_) (fun h2 => ?_)
    · refine hG.rt hR rfl rfl rfl rfl ?_
      have e : lifeF f v = (f 3, upd f 3 v) := by rw [lifeF, inB, decide_eq_true (i32_nlt.mp h1), decide_eq_true h2]; rfl
      rw [e]
      exact ⟨hS.rv.tm, Sm.rf.up (by decide), (hS.sett v).x⟩
    · exact bad (by rw [inB, decide_eq_false h2, Bool.and_false])
theorem o_W_seed (v : Int32) (hS : SV σ f n c t y) : Ci l θ 5 m_W_seed [.inr 0, .inl v] σ (fun r σ' => r = (seedF f v).1 ∧ Sm [32] σ σ' ∧ SVx σ' (seedF f v).2) := by
  refine Ci.of (Or.inl mi_W_seed) pk_W_seed (nb rfl) (Or.inl rfl) [some (.inr 0), some (.inl v), none] rfl fun Γ hG hR => ?_
  refine hG.rt hR rfl rfl rfl rfl ?_
  exact ⟨hS.rv.z, Sm.rf.up (by decide), (hS.setz v).x⟩
theorem o_W_forget (hS : SV σ f n c t y) : Ci l θ 5 m_W_forget [.inr 0] σ (fun r σ' => r = (forgF f).1 ∧ Sm [32] σ σ' ∧ SVx σ' (forgF f).2) := by
  refine Ci.of (Or.inl mi_W_forget) pk_W_forget (nb rfl) (Or.inl rfl) [some (.inr 0), none] rfl fun Γ hG hR => ?_
  refine hG.rt hR rfl rfl rfl rfl ?_
  refine ⟨hS.rv.cn.trans hS.fo.2.2.1.symm, Sm.rf.up (by decide), hS.set0.x⟩
theorem o_W_free (nm v : Int32) (hS : SV σ f n c t y) : Ci l θ 6 m_W_free [.inr 0, .inl nm, .inl v] σ (fun r σ' => r = freeR f n t nm v ∧ Hm 32 σ σ') := by
  have hn := hS.n10
  refine Ci.of (Or.inl mi_W_free) pk_W_free (nb rfl) (Or.inl rfl) [some (.inr 0), some (.inl nm), some (.inl v)] rfl fun Γ hG hR => ?_
  have bad : (inB nm 0 124 && inB v (-999) 99999) = false → X Γ 14 [some (.inr 0), some (.inl nm), some (.inl v)] [] σ := by
    intro hb
    refine hG.rt hR rfl rfl rfl rfl ?_
    exact ⟨by rw [freeR, hb]; rfl, Hm.rf⟩
  refine hG.cS lk_W_70 mi_W_isName rfl rfl (c_W_isName nm) rfl rfl rfl rfl rfl rfl ?_
  rintro x σ' ⟨rfl, rfl⟩
  refine hG.br rfl rfl rfl rfl (fun h1 => ?_) (fun h1 => ?_)
  · exact bad (by rw [bi_eq0.mp h1]; rfl)
  · have h1 := bi_ne0.mp h1
    refine hG.cS lk_W_130 mi_W_isAskedYear rfl rfl (c_W_isAskedYear v) rfl rfl rfl rfl rfl rfl ?_
    rintro x σ' ⟨rfl, rfl⟩
    refine hG.br rfl rfl rfl rfl (fun h2 => ?_) (fun h2 => ?_)
    · have h2 := bi_ne0.mp h2
      refine hG.cVv lk_W_159 mi_V_gatherHeld rfl rfl (c_V_gatherHeld32 v hn hS.rv) rfl rfl rfl rfl rfl rfl rfl rfl ?_
      rintro τ ⟨hH, hg⟩
      refine hG.cV lk_W_163 mi_V_isClear rfl rfl (c_V_isClear32 nm v (hS.rv.hm hH) hg) rfl rfl rfl rfl rfl rfl rfl rfl ?_
      rintro x τ' ⟨rfl, rfl⟩
      refine hG.cS lk_W_108 mi_W_bit rfl rfl (c_W_bit _) rfl rfl rfl rfl rfl rfl ?_
      rintro x τ' ⟨rfl, rfl⟩
      refine hG.rt hR rfl rfl rfl rfl ?_
      exact ⟨by rw [freeR, h1, h2, Bool.and_self, if_pos rfl], hH⟩
    · exact bad (by rw [bi_eq0.mp h2, Bool.and_false])
theorem o_W_frees (w : Int32) (hS : SV σ f n c t y) : Ci l θ 6 m_W_frees [.inr 0, .inl w] σ (fun r σ' => r = freesR f n t w ∧ Hm 32 σ σ') := by
  have hn := hS.n10
  refine Ci.of (Or.inl mi_W_frees) pk_W_frees (nb rfl) (Or.inl rfl) [some (.inr 0), some (.inl w)] rfl fun Γ hG hR => ?_
  have yes : inB w 0 1 = true → X Γ 12 [some (.inr 0), some (.inl w)] [] σ := by
    intro hb
    refine hG.br rfl rfl rfl rfl (fun h1 => ?_) (fun h1 => ?_)
    · refine hG.cV lk_W_170 mi_V_leastFree rfl rfl (c_V_leastFree32 hn hS.rv) rfl rfl rfl rfl rfl rfl rfl rfl ?_
      rintro x τ ⟨hH, rfl⟩
      refine hG.rt hR rfl rfl rfl rfl ?_
      exact ⟨by rw [freesR, hb, if_pos rfl, if_neg h1], hH⟩
    · refine hG.cV lk_W_166 mi_V_countFree rfl rfl (c_V_countFree32 hn hS.rv) rfl rfl rfl rfl rfl rfl rfl rfl ?_
      rintro x τ ⟨hH, rfl⟩
      refine hG.rt hR rfl rfl rfl rfl ?_
      exact ⟨by rw [freesR, hb, if_pos rfl, if_pos h1], hH⟩
  refine hG.br rfl rfl rfl rfl (fun h1 => ?_) (fun h1 => ?_)
  · exact yes (by rw [h1]; decide)
  · refine hG.br rfl rfl rfl rfl (fun h2 => ?_) (fun h2 => ?_)
    · exact yes (by rw [h2]; decide)
    · refine hG.rt hR rfl rfl rfl rfl ?_
      refine ⟨?_, Hm.rf⟩
      have : inB w 0 1 = false := by
        cases h : inB w 0 1 with
        | false => rfl
        | true =>
          obtain ⟨k, hk, rfl⟩ := (inB_nI (m := 1) (by omega)).mp h
          rcases (by omega : k = 0 ∨ k = 1) with rfl | rfl
          · exact absurd rfl h1
          · exact absurd rfl h2
      rw [freesR, this]; rfl
theorem o_W_soonest (nm : Int32) (hS : SV σ f n c t y) : Ci l θ 6 m_W_soonest [.inr 0, .inl nm] σ (fun r σ' => r = soonR f n t y nm ∧ Hm 32 σ σ') := by
  have hn := hS.n10
  refine Ci.of (Or.inl mi_W_soonest) pk_W_soonest (nb rfl) (Or.inl rfl) [some (.inr 0), some (.inl nm), none] rfl fun Γ hG hR => ?_
  refine hG.cS lk_W_70 mi_W_isName rfl rfl (c_W_isName nm) rfl rfl rfl rfl rfl rfl ?_
  rintro x σ' ⟨rfl, rfl⟩
  refine hG.br rfl rfl rfl rfl (fun h1 => ?_) (fun h1 => ?_)
  · have h1 := bi_ne0.mp h1
    have e : soonR f n t y nm = match fndB (fun a => freeG (nearT f t) f n nm (nI (y + a))) 0 301 with
      | none => -1000000005
      | some a => nI (y + a) := by rw [soonR, h1, if_pos rfl]; rfl
    rw [e] at hR
    have loop : ∀ k i, i + k = 301 → fndB (fun a => freeG (nearT f t) f n nm (nI (y + a))) 0 301 = fndB (fun a => freeG (nearT f t) f n nm (nI (y + a))) i k → ∀ (τ : Sg), Hm 32 σ' τ → X Γ 12 [some (.inr 0), some (.inl nm), some (.inl (nI i))] [] τ := by
      intro k
      induction k with
      | zero =>
        intro i hi ha τ hH
        have hi : i = 301 := by omega
        subst hi
        refine hG.br rfl rfl rfl rfl (fun h2 => ?_) (fun h2 => ?_)
        · refine hG.rt hR rfl rfl rfl rfl ?_
          exact ⟨by rw [ha]; rfl, hH⟩
        · exact absurd (show nI 300 < nI 301 from nI_lt (by omega) (by omega)) h2
      | succ k ih =>
        intro i hi ha τ hH
        have hV := hS.rv.hm hH
        refine hG.br rfl rfl rfl rfl (fun h2 => ?_) (fun h2 => ?_)
        · exact absurd (show nI 300 < nI i from h2) (nI_nlt (by omega) (by omega))
        · refine hG.go 7 rfl rfl ?_
          rw [hV.y, hS.fy, nI_add]
          refine hG.cVv lk_W_159 mi_V_gatherHeld rfl rfl (c_V_gatherHeld32 (nI (y + i)) hn hV) rfl rfl rfl rfl rfl rfl rfl rfl ?_
          rintro τ1 ⟨hH1, hg⟩
          have hV1 := hV.hm hH1
          refine hG.cV lk_W_163 mi_V_isClear rfl rfl (c_V_isClear32 nm (nI (y + i)) hV1 hg) rfl rfl rfl rfl rfl rfl rfl rfl ?_
          rintro x τ2 ⟨rfl, rfl⟩
          have ha : fndB (fun a => freeG (nearT f t) f n nm (nI (y + a))) 0 301 = if freeG (nearT f t) f n nm (nI (y + i)) then some i else fndB (fun a => freeG (nearT f t) f n nm (nI (y + a))) (i + 1) k := ha
          refine hG.br rfl rfl rfl rfl (fun h3 => ?_) (fun h3 => ?_)
          · refine hG.jp rfl rfl rfl ?_
            rw [nI_1]
            rw [bi_eq0.mp h3] at ha
            exact ih (i + 1) (by omega) ha τ2 (hH.tr hH1)
          · rw [bi_ne0.mp h3, if_pos rfl] at ha
            rw [ha] at hR
            refine hG.rt hR rfl rfl rfl rfl ?_
            refine ⟨?_, hH.tr hH1⟩
            rw [hV1.y, hS.fy, nI_add]
    exact hG.go 2 rfl rfl (loop 301 0 (by omega) rfl σ' Hm.rf)
  · refine hG.rt hR rfl rfl rfl rfl ?_
    exact ⟨by rw [soonR, bi_eq0.mp h1]; rfl, Hm.rf⟩
theorem o_W_child (a b : Int32) (hS : SV σ f n c t y) : Ci l θ 5 m_W_child [.inr 0, .inl a, .inl b] σ (fun r σ' => r = (chldF f c a b).1 ∧ Sm [32, 37, 38] σ σ' ∧ SVx σ' (chldF f c a b).2) := by
  have hn := hS.n10
  have hc := hS.c6
  refine Ci.of (Or.inl mi_W_child) pk_W_child (nb rfl) (Or.inl rfl) [some (.inr 0), some (.inl a), some (.inl b)] rfl fun Γ hG hR => ?_
  have bad : (inB a 0 124 && inB b 0 124) = false → X Γ 14 [some (.inr 0), some (.inl a), some (.inl b)] [] σ := by
    intro hb
    refine hG.rt hR rfl rfl rfl rfl ?_
    rw [chldF, hb]
    exact ⟨rfl, Sm.rf, hS.x⟩
  refine hG.cS lk_W_70 mi_W_isName rfl rfl (c_W_isName a) rfl rfl rfl rfl rfl rfl ?_
  rintro x σ' ⟨rfl, rfl⟩
  refine hG.br rfl rfl rfl rfl (fun h1 => ?_) (fun h1 => ?_)
  · exact bad (by rw [bi_eq0.mp h1]; rfl)
  · have h1 := bi_ne0.mp h1
    refine hG.cS lk_W_70 mi_W_isName rfl rfl (c_W_isName b) rfl rfl rfl rfl rfl rfl ?_
    rintro x σ' ⟨rfl, rfl⟩
    refine hG.br rfl rfl rfl rfl (fun h2 => ?_) (fun h2 => ?_)
    · have h2 := bi_ne0.mp h2
      have e : chldF f c a b = if c = 6 then (-1000000003, f) else (nI c, upd (upd (upd f (6 + 2 * c) a) (6 + 2 * c + 1) b) 4 (nI (c + 1))) := by rw [chldF, h1, h2, Bool.and_self, if_pos rfl]
      rw [e] at hR
      refine hG.br rfl rfl rfl rfl (fun h3 => ?_) (fun h3 => ?_)
      · rw [hS.rv.cn] at h3
        have h3 : c < 6 := (nI_ltI (b := 6) (by omega) (by omega)).mp h3
        refine hG.cV lk_W_177 mi_V_wish rfl rfl (c_V_wish a b hn h3 hS.to hS.rv) rfl rfl rfl rfl rfl rfl rfl rfl ?_
        rintro x τ ⟨hs, hv, rfl⟩
        refine hG.rt hR rfl rfl rfl rfl ?_
        rw [if_neg (by omega)]
        refine ⟨rfl, hs, ?_⟩
        dsimp only
        generalize hgg : upd (upd (upd f (6 + 2 * c) a) (6 + 2 * c + 1) b) 4 (nI (c + 1)) = g at *
        have hg : ∀ j, j ≠ 6 + 2 * c → j ≠ 6 + 2 * c + 1 → j ≠ 4 → g j = f j := fun j h1 h2 h3 => by
          rw [← hgg, upd_ne h3, upd_ne h2, upd_ne h1]
        obtain ⟨a1, a2, a3, a4, a5, a6, a7, a8, a9, a10⟩ := hS.fo
        refine ⟨n, c + 1, t, y, ⟨by rw [hg _ (by omega) (by omega) (by omega)]; exact a1, a2, by rw [← hgg, upd_same], by omega, by rw [hg _ (by omega) (by omega) (by omega)]; exact a5, a6, by rw [hg _ (by omega) (by omega) (by omega)]; exact a7, a8, TxsOk_congr a9 (fun j hj => hg j (by omega) (by omega) (by omega)), fun i hi => ?_⟩, hS.y9, fun p hp => ?_, hv, (hS.tx.cg (fun j hj => hg j (by omega) (by omega) (by omega))).sm hs hS.t14 (fun k h1 h2 => by simp; omega)⟩
        · by_cases i0 : i = 2 * c
          · subst i0
            obtain ⟨k, hk, rfl⟩ := (inB_nI (m := 124) (by omega)).mp h1
            exact ⟨k, by omega, by rw [← hgg, upd_ne (by omega), upd_ne (by omega), upd_same]⟩
          · by_cases i1 : i = 2 * c + 1
            · subst i1
              obtain ⟨k, hk, rfl⟩ := (inB_nI (m := 124) (by omega)).mp h2
              exact ⟨k, by omega, by rw [← hgg, upd_ne (by omega), show 6 + (2 * c + 1) = 6 + 2 * c + 1 by omega, upd_same]⟩
            · obtain ⟨k, hk, ee⟩ := a10 i (by omega)
              exact ⟨k, hk, by rw [hg _ (by omega) (by omega) (by omega)]; exact ee⟩
        · rw [hg _ (by omega) (by omega) (by omega), hg _ (by omega) (by omega) (by omega), hg _ (by omega) (by omega) (by omega)]; exact hS.ko p hp
      · rw [hS.rv.cn] at h3
        have h3 : ¬ c < 6 := fun h => h3 ((nI_ltI (b := 6) (by omega) (by omega)).mpr h)
        refine hG.rt hR rfl rfl rfl rfl ?_
        rw [if_pos (by omega)]
        exact ⟨rfl, Sm.rf, hS.x⟩
    · exact bad (by rw [bi_eq0.mp h2, Bool.and_false])
end
