/-! the class's calls, second part: people -/
section
variable {σ σ' : Sg} {b n c t y : Nat} {f g : Nat → Int32}
theorem FOk_lo (h : FOk f n c t y) (h1 : ∀ j, j < 18 → j ≠ 0 → j ≠ 3 → g j = f j) (h2 : ∀ j, 58 ≤ j → g j = f j) : FOk g n c t y := by
  obtain ⟨a1, a2, a3, a4, a5, a6, a7, a8, a9, a10⟩ := h
  refine ⟨by rw [h1 1 (by omega) (by omega) (by omega)]; exact a1, a2, by rw [h1 4 (by omega) (by omega) (by omega)]; exact a3, a4, by rw [h1 5 (by omega) (by omega) (by omega)]; exact a5, a6, by rw [h1 2 (by omega) (by omega) (by omega)]; exact a7, a8, TxsOk_congr a9 h2, fun i hi => ?_⟩
  obtain ⟨k, hk, e⟩ := a10 i hi
  exact ⟨k, hk, by rw [h1 _ (by omega) (by omega) (by omega)]; exact e⟩
theorem RV.per (h : RV σ b f n c t) {p w : Nat} (hp : p < n) (hw : w < 4) : σ (b + 1 + w) p = f (18 + 4 * p + w) := by
  rcases (by omega : w = 0 ∨ w = 1 ∨ w = 2 ∨ w = 3) with rfl | rfl | rfl | rfl
  · exact h.kd hp
  · exact h.nm hp
  · exact h.bn hp
  · exact h.dd hp
theorem RV.setp (h : RV σ b f n c t) (ht : TxsOk f t) (hn : n ≤ 10) (hc : c ≤ 6) (q w : Nat) (hq : q < n) (hw : w < 4) (v : Int32) : RV (up σ (b + 1 + w) q v) b (upd f (18 + 4 * q + w) v) n c t := by
  have hg : ∀ j, j ≠ 18 + 4 * q + w → upd f (18 + 4 * q + w) v j = f j := fun j hj => upd_ne hj
  have e : ∀ k, k ≠ 1 + w → up σ (b + 1 + w) q v (b + k) = σ (b + k) := fun k hk => up_c _ _ _ _ (by omega)
  have e0 : up σ (b + 1 + w) q v b = σ b := e 0 (by omega)
  have pe : ∀ p u, p < n → u < 4 → up σ (b + 1 + w) q v (b + 1 + u) p = upd f (18 + 4 * q + w) v (18 + 4 * p + u) := by
    intro p u hp hu
    by_cases hwu : u = w
    · subst hwu
      by_cases hpq : p = q
      · subst hpq; rw [up_self, upd_same]
      · rw [up_j _ _ _ _ hpq, hg _ (by omega)]; exact h.per hp hu
    · rw [up_c _ _ _ _ (by omega), hg _ (by omega)]; exact h.per hp hu
  refine ⟨⟨?_, ?_, ?_, ?_, ?_, ?_⟩, ?_, fun p hp => ⟨pe p 0 hp (by omega), pe p 1 hp (by omega), pe p 2 hp (by omega), pe p 3 hp (by omega)⟩, fun i hi => ⟨?_, ?_⟩, ?_⟩
  · rw [e0]; exact h.pn
  · rw [e0]; exact h.cn
  · rw [e0, hg _ (by omega)]; exact h.tm
  · rw [e0, hg _ (by omega)]; exact h.y
  · rw [e0, hg _ (by omega)]; exact h.z
  · rw [e0]; exact h.tn
  · rw [e0]; exact h.nea ht (fun j hj => hg j (by omega))
  · rw [e _ (by omega), hg _ (by omega)]; exact h.c1 hi
  · rw [e _ (by omega), hg _ (by omega)]; exact h.c2 hi
  · rw [e _ (by omega)]; exact h.cnt (fun j hj => hg j (by omega))
theorem SV.setp (h : SV σ f n c t y) (q w : Nat) (hq : q < n) (hw : w < 4) (v : Int32) (hk : w = 0 → ∃ k, k < 6 ∧ v = nI k) (hd : w = 3 → v ≤ f 2) : SV (up σ (33 + w) q v) (upd f (18 + 4 * q + w) v) n c t y := by
  have hn := h.n10
  have hg : ∀ j, j ≠ 18 + 4 * q + w → upd f (18 + 4 * q + w) v j = f j := fun j hj => upd_ne hj
  refine ⟨FOk_lo h.fo (fun j h1 _ _ => hg j (by omega)) (fun j h1 => hg j (by omega)), h.y9, fun p hp => ⟨?_, ?_⟩, h.rv.setp h.to hn h.c6 q w hq hw v, ?_⟩
  · by_cases e : 18 + 4 * p = 18 + 4 * q + w
    · rw [e, upd_same]; exact hk (by omega)
    · rw [hg _ e]; exact (h.ko p hp).1
  · rw [hg 2 (by omega)]
    by_cases e : 18 + 4 * p + 3 = 18 + 4 * q + w
    · rw [e, upd_same]; exact hd (by omega)
    · rw [hg _ e]; exact (h.ko p hp).2
  · exact (h.tx.cg (fun j h1 => hg j (by omega))).sm (cs := [33 + w]) (Sm.rf.up (by simp)) h.t14 (fun k h1 h2 => by simp; omega)
theorem FOk_comes (h : FOk f n c t y) (hn : n < 10) (k nm b : Int32) : FOk (comesF f n k nm b) (n + 1) c t y := by
  obtain ⟨a1, a2, a3, a4, a5, a6, a7, a8, a9, a10⟩ := h
  have hg : ∀ j, 58 ≤ j → comesF f n k nm b j = f j := fun j hj => by
    rw [comesF, upd_ne (by omega), upd_ne (by omega), upd_ne (by omega), upd_ne (by omega), upd_ne (by omega)]
  have hl : ∀ j, j < 18 → j ≠ 1 → comesF f n k nm b j = f j := fun j hj h1 => by
    rw [comesF, upd_ne (by omega), upd_ne (by omega), upd_ne (by omega), upd_ne (by omega), upd_ne (by omega)]
  refine ⟨by rw [comesF, upd_same], by omega, by rw [hl 4 (by omega) (by omega)]; exact a3, a4, by rw [hl 5 (by omega) (by omega)]; exact a5, a6, by rw [hl 2 (by omega) (by omega)]; exact a7, a8, TxsOk_congr a9 hg, fun i hi => ?_⟩
  obtain ⟨k, hk, e⟩ := a10 i hi
  exact ⟨k, hk, by rw [hl _ (by omega) (by omega)]; exact e⟩
theorem KOk_comes (h : KOk f n) (hn : n < 10) (h2 : f 2 = nI y) (hy : y ≤ 20000) (k : Nat) (hk : k < 6) (nm b : Int32) : KOk (comesF f n (nI k) nm b) (n + 1) := by
  have hl : comesF f n (nI k) nm b 2 = f 2 := by
    rw [comesF, upd_ne (by omega), upd_ne (by omega), upd_ne (by omega), upd_ne (by omega), upd_ne (by omega)]
  have ho : ∀ p w, p < n → w < 4 → comesF f n (nI k) nm b (18 + 4 * p + w) = f (18 + 4 * p + w) := fun p w hp hw => by
    rw [comesF, upd_ne (by omega), upd_ne (by omega), upd_ne (by omega), upd_ne (by omega), upd_ne (by omega)]
  intro p hp
  by_cases e : p = n
  · subst e
    refine ⟨⟨k, hk, ?_⟩, ?_⟩
    · rw [comesF, upd_ne (by omega), upd_ne (by omega), upd_ne (by omega), upd_ne (by omega), upd_same]
    · rw [hl, h2, comesF, upd_ne (by omega), show 18 + 4 * p + 3 = 21 + 4 * p by omega, upd_same]
      exact Int32.le_trans (show (-1000000005 : Int32) ≤ 0 by decide) (nI_pos' (by omega))
  · have := h p (by omega)
    rw [hl, ho p 3 (by omega) (by omega), show comesF f n (nI k) nm b (18 + 4 * p) = f (18 + 4 * p) from ho p 0 (by omega) (by omega)]
    exact this
end
section
variable {l : Launch} {θ : Th} {σ : Sg} {n c t y : Nat} {f : Nat → Int32}
theorem o_W_person (k nm b : Int32) (hS : SV σ f n c t y) : Ci l θ 5 m_W_person [.inr 0, .inl k, .inl nm, .inl b] σ (fun r σ' => r = (persF f n k nm b).1 ∧ Sm [32, 33, 34, 35, 36] σ σ' ∧ SVx σ' (persF f n k nm b).2) := by
  have hn := hS.n10
  refine Ci.of (Or.inl mi_W_person) pk_W_person (nb rfl) (Or.inl rfl) [some (.inr 0), some (.inl k), some (.inl nm), some (.inl b)] rfl fun Γ hG hR => ?_
  have bad : (inB k 0 5 && inB nm 0 124 && inB b (-999) (f 2)) = false → X Γ 22 [some (.inr 0), some (.inl k), some (.inl nm), some (.inl b)] [] σ := by
    intro hb
    refine hG.rt hR rfl rfl rfl rfl ?_
    refine ⟨by rw [persF, hb]; rfl, Sm.rf, ?_⟩
    rw [persF, hb]; exact hS.x
  refine hG.cS lk_W_64 mi_K_isKind rfl rfl (c_K_isKind k) rfl rfl rfl rfl rfl rfl ?_
  rintro x σ' ⟨rfl, rfl⟩
  refine hG.br rfl rfl rfl rfl (fun h1 => ?_) (fun h1 => ?_)
  · exact bad (by rw [bi_eq0.mp h1]; rfl)
  · have h1 := bi_ne0.mp h1
    refine hG.cS lk_W_70 mi_W_isName rfl rfl (c_W_isName nm) rfl rfl rfl rfl rfl rfl ?_
    rintro x σ' ⟨rfl, rfl⟩
    refine hG.br rfl rfl rfl rfl (fun h2 => ?_) (fun h2 => ?_)
    · exact bad (by rw [bi_eq0.mp h2, Bool.and_false]; rfl)
    · have h2 := bi_ne0.mp h2
      refine hG.cV lk_W_73 mi_W_isBirth rfl rfl (c_W_isBirth b hS) rfl rfl rfl rfl rfl rfl rfl rfl ?_
      rintro x σ' ⟨rfl, rfl⟩
      refine hG.br rfl rfl rfl rfl (fun h3 => ?_) (fun h3 => ?_)
      · have h3 := bi_ne0.mp h3
        have e : persF f n k nm b = if n = 10 then (-1000000003, f) else (nI n, comesF f n k nm b) := by rw [persF, h1, h2, h3, Bool.and_self, Bool.and_self, if_pos rfl]
        rw [e] at hR
        refine hG.br rfl rfl rfl rfl (fun h4 => ?_) (fun h4 => ?_)
        · rw [hS.rv.pn] at h4
          have h4 : n < 10 := (nI_ltI (b := 10) (by omega) (by omega)).mp h4
          refine hG.cV lk_W_82 mi_V_enter rfl rfl (c_V_enter k nm b h4 hS.c6 hS.to hS.rv) rfl rfl rfl rfl rfl rfl rfl rfl ?_
          rintro x σ' ⟨hs, hv, rfl⟩
          refine hG.rt hR rfl rfl rfl rfl ?_
          rw [if_neg (by omega)]
          obtain ⟨K, hK, rfl⟩ := (inB_nI (m := 5) (by omega)).mp h1
          refine ⟨rfl, hs, n + 1, c, t, y, FOk_comes hS.fo h4 _ _ _, hS.y9, KOk_comes hS.ko h4 hS.fy (by have := hS.y9; omega) K (by omega) _ _, hv, ?_⟩
          refine (hS.tx.cg (fun j hj => ?_)).sm hs hS.t14 (fun k h1 h2 => by simp; omega)
          dsimp only
          rw [comesF, upd_ne (by omega), upd_ne (by omega), upd_ne (by omega), upd_ne (by omega), upd_ne (by omega)]
        · rw [hS.rv.pn] at h4
          have h4 : ¬ n < 10 := fun h => h4 ((nI_ltI (b := 10) (by omega) (by omega)).mpr h)
          refine hG.rt hR rfl rfl rfl rfl ?_
          rw [if_pos (by omega)]
          exact ⟨rfl, Sm.rf, hS.x⟩
      · exact bad (by rw [bi_eq0.mp h3, Bool.and_false])
theorem o_W_as (p k : Int32) (hS : SV σ f n c t y) : Ci l θ 5 m_W_as [.inr 0, .inl p, .inl k] σ (fun r σ' => r = asR f n p k ∧ σ' = σ) := by
  have hn := hS.n10
  refine Ci.of (Or.inl mi_W_as) pk_W_as (nb rfl) (Or.inl rfl) [some (.inr 0), some (.inl p), some (.inl k)] rfl fun Γ hG hR => ?_
  have bad : (inB p 0 (nI n - 1) && inB k 0 5) = false → X Γ 15 [some (.inr 0), some (.inl p), some (.inl k)] [] σ := by
    intro hb
    refine hG.rt hR rfl rfl rfl rfl ?_
    exact ⟨by rw [asR, hb]; rfl, rfl⟩
  refine hG.cV lk_W_86 mi_W_isPerson rfl rfl (c_W_isPerson p hS) rfl rfl rfl rfl rfl rfl rfl rfl ?_
  rintro x σ' ⟨rfl, rfl⟩
  refine hG.br rfl rfl rfl rfl (fun h1 => ?_) (fun h1 => ?_)
  · exact bad (by rw [bi_eq0.mp h1]; rfl)
  · have h1 := bi_ne0.mp h1
    obtain ⟨P, hP, rfl⟩ := (inB_lt (by omega)).mp h1
    refine hG.cS lk_W_64 mi_K_isKind rfl rfl (c_K_isKind k) rfl rfl rfl rfl rfl rfl ?_
    rintro x σ' ⟨rfl, rfl⟩
    refine hG.br rfl rfl rfl rfl (fun h2 => ?_) (fun h2 => ?_)
    · have h2 := bi_ne0.mp h2
      obtain ⟨K, hK, rfl⟩ := (inB_nI (m := 5) (by omega)).mp h2
      obtain ⟨O, hO, eO⟩ := (hS.ko P hP).1
      have e : asR f n (nI P) (nI K) = if underK (f (18 + 4 * P)) (nI K) then f (18 + 4 * P + 1) else -1000000012 := by rw [asR, h1, h2, Bool.and_self, if_pos rfl, nI_clamp (by omega)]
      rw [e, eO] at hR
      refine hG.ld rfl P rfl rfl rfl rfl rfl (by omega) ?_
      have ek : σ' 33 P = nI O := (hS.rv.kd hP).trans eO
      rw [ek]
      refine hG.cS lk_W_116 mi_K_isOf rfl rfl (c_K_isOf O K hO) rfl rfl rfl rfl rfl rfl ?_
      rintro x σ' ⟨rfl, rfl⟩
      refine hG.br rfl rfl rfl rfl (fun h3 => ?_) (fun h3 => ?_)
      · refine hG.rt hR rfl rfl rfl rfl ?_
        exact ⟨by rw [bi_eq0.mp h3]; rfl, rfl⟩
      · refine hG.ld rfl P rfl rfl rfl rfl rfl (by omega) ?_
        refine hG.rt hR rfl rfl rfl rfl ?_
        exact ⟨by rw [bi_ne0.mp h3, if_pos rfl]; exact hS.rv.nm hP, rfl⟩
    · exact bad (by rw [bi_eq0.mp h2, Bool.and_false])
theorem o_W_turns (p k : Int32) (hS : SV σ f n c t y) : Ci l θ 5 m_W_turns [.inr 0, .inl p, .inl k] σ (fun r σ' => r = (turnF f n p k).1 ∧ Sm [33] σ σ' ∧ SVx σ' (turnF f n p k).2) := by
  have hn := hS.n10
  refine Ci.of (Or.inl mi_W_turns) pk_W_turns (nb rfl) (Or.inl rfl) [some (.inr 0), some (.inl p), some (.inl k), none] rfl fun Γ hG hR => ?_
  have bad : (inB p 0 (nI n - 1) && inB k 0 5) = false → X Γ 15 [some (.inr 0), some (.inl p), some (.inl k), none] [] σ := by
    intro hb
    refine hG.rt hR rfl rfl rfl rfl ?_
    exact ⟨by rw [turnF, hb]; rfl, Sm.rf, by rw [turnF, hb]; exact hS.x⟩
  refine hG.cV lk_W_86 mi_W_isPerson rfl rfl (c_W_isPerson p hS) rfl rfl rfl rfl rfl rfl rfl rfl ?_
  rintro x σ' ⟨rfl, rfl⟩
  refine hG.br rfl rfl rfl rfl (fun h1 => ?_) (fun h1 => ?_)
  · exact bad (by rw [bi_eq0.mp h1]; rfl)
  · have h1 := bi_ne0.mp h1
    obtain ⟨P, hP, rfl⟩ := (inB_lt (by omega)).mp h1
    refine hG.cS lk_W_64 mi_K_isKind rfl rfl (c_K_isKind k) rfl rfl rfl rfl rfl rfl ?_
    rintro x σ' ⟨rfl, rfl⟩
    refine hG.br rfl rfl rfl rfl (fun h2 => ?_) (fun h2 => ?_)
    · have h2 := bi_ne0.mp h2
      obtain ⟨K, hK, rfl⟩ := (inB_nI (m := 5) (by omega)).mp h2
      have e : turnF f n (nI P) (nI K) = (f (18 + 4 * P), upd f (18 + 4 * P) (nI K)) := by rw [turnF, h1, h2, Bool.and_self, if_pos rfl, nI_clamp (by omega)]
      rw [e] at hR
      refine hG.ld rfl P rfl rfl rfl rfl rfl (by omega) ?_
      refine hG.sti rfl P rfl rfl rfl rfl (by omega) ?_
      refine hG.rt hR rfl rfl rfl rfl ?_
      exact ⟨hS.rv.kd hP, Sm.rf.up (by decide), (hS.setp P 0 hP (by omega) (nI K) (fun _ => ⟨K, by omega, rfl⟩) (fun h => absurd h (by decide))).x⟩
    · exact bad (by rw [bi_eq0.mp h2, Bool.and_false])
theorem o_W_set (p w v : Int32) (hS : SV σ f n c t y) : Ci l θ 5 m_W_set [.inr 0, .inl p, .inl w, .inl v] σ (fun r σ' => r = (setF f n p w v).1 ∧ Sm [34, 35, 36] σ σ' ∧ SVx σ' (setF f n p w v).2) := by
  have hn := hS.n10
  refine Ci.of (Or.inl mi_W_set) pk_W_set (nb rfl) (Or.inl rfl) [some (.inr 0), some (.inl p), some (.inl w), some (.inl v)] rfl fun Γ hG hR => ?_
  refine hG.cV lk_W_86 mi_W_isPerson rfl rfl (c_W_isPerson p hS) rfl rfl rfl rfl rfl rfl rfl rfl ?_
  rintro x σ' ⟨rfl, rfl⟩
  refine hG.br rfl rfl rfl rfl (fun h1 => ?_) (fun h1 => ?_)
  · have h1 := bi_ne0.mp h1
    obtain ⟨P, hP, rfl⟩ := (inB_lt (by omega)).mp h1
    have hc : (nI P).toNatClampNeg = P := nI_clamp (by omega)
    have e0 : inB w 1 3 = true → setF f n (nI P) w v = (if setK2 f P w v then (f (18 + 4 * P + w.toNatClampNeg), upd f (18 + 4 * P + w.toNatClampNeg) v) else (-1000000001, f)) := by
      intro h; rw [setF, h1, h, Bool.and_self, Bool.true_and, hc]
    refine hG.tsw [40, 65, 92] 119 rfl rfl rfl (by decide +kernel) ?_ ?_
    · intro j u hk hx
      match j, hk, hx with
      | 0, hk, hx =>
        cases hk
        have e : w = 1 := tsw_x hx rfl
        subst e
        rw [e0 (by decide), show setK2 f P 1 v = inB v 0 124 from by rw [setK2, if_pos rfl]] at hR
        refine hG.cS lk_W_70 mi_W_isName rfl rfl (c_W_isName v) rfl rfl rfl rfl rfl rfl ?_
        rintro x σ' ⟨rfl, rfl⟩
        refine hG.br rfl rfl rfl rfl (fun h2 => ?_) (fun h2 => ?_)
        · refine hG.rt hR rfl rfl rfl rfl ?_
          rw [bi_eq0.mp h2]
          exact ⟨rfl, Sm.rf, hS.x⟩
        · refine hG.cS lk_W_120 mi_W_replace rfl rfl (c_W_replace34 P v (by omega)) rfl rfl rfl rfl rfl rfl ?_
          rintro x σ' ⟨rfl, rfl⟩
          refine hG.rt hR rfl rfl rfl rfl ?_
          rw [bi_ne0.mp h2]
          exact ⟨hS.rv.nm hP, Sm.rf.up (by decide), (hS.setp P 1 hP (by omega) v (fun h => absurd h (by decide)) (fun h => absurd h (by decide))).x⟩
      | 1, hk, hx =>
        cases hk
        have e : w = 2 := tsw_x hx rfl
        subst e
        rw [e0 (by decide)] at hR
        refine hG.cV lk_W_124 mi_W_canBeBorn rfl rfl (c_W_canBeBorn P v hP hS) rfl rfl rfl rfl rfl rfl rfl rfl ?_
        rintro x σ' ⟨rfl, rfl⟩
        refine hG.br rfl rfl rfl rfl (fun h2 => ?_) (fun h2 => ?_)
        · refine hG.rt hR rfl rfl rfl rfl ?_
          rw [bi_eq0.mp h2]
          exact ⟨rfl, Sm.rf, hS.x⟩
        · refine hG.cS lk_W_120 mi_W_replace rfl rfl (c_W_replace35 P v (by omega)) rfl rfl rfl rfl rfl rfl ?_
          rintro x σ' ⟨rfl, rfl⟩
          refine hG.rt hR rfl rfl rfl rfl ?_
          rw [bi_ne0.mp h2]
          exact ⟨hS.rv.bn hP, Sm.rf.up (by decide), (hS.setp P 2 hP (by omega) v (fun h => absurd h (by decide)) (fun h => absurd h (by decide))).x⟩
      | 2, hk, hx =>
        cases hk
        have e : w = 3 := tsw_x hx rfl
        subst e
        rw [e0 (by decide)] at hR
        refine hG.cV lk_W_127 mi_W_canHaveDied rfl rfl (c_W_canHaveDied P v hP hS) rfl rfl rfl rfl rfl rfl rfl rfl ?_
        rintro x σ' ⟨rfl, rfl⟩
        refine hG.br rfl rfl rfl rfl (fun h2 => ?_) (fun h2 => ?_)
        · refine hG.rt hR rfl rfl rfl rfl ?_
          rw [bi_eq0.mp h2]
          exact ⟨rfl, Sm.rf, hS.x⟩
        · refine hG.cS lk_W_120 mi_W_replace rfl rfl (c_W_replace36 P v (by omega)) rfl rfl rfl rfl rfl rfl ?_
          rintro x σ' ⟨rfl, rfl⟩
          refine hG.rt hR rfl rfl rfl rfl ?_
          have h2 := bi_ne0.mp h2
          rw [h2]
          refine ⟨hS.rv.dd hP, Sm.rf.up (by decide), (hS.setp P 3 hP (by omega) v (fun h => absurd h (by decide)) (fun _ => ?_)).x⟩
          rw [setK2, if_neg (by decide), if_neg (by decide)] at h2
          simp only [Bool.or_eq_true, decide_eq_true_eq, inB, Bool.and_eq_true] at h2
          rcases h2 with h2 | h2
          · rw [h2, hS.fy]
            exact Int32.le_trans (show (-1000000005 : Int32) ≤ 0 by decide) (nI_pos' (by have := hS.y9; omega))
          · exact h2.2
      | j + 3, hk, hx => simp at hk
    · intro hx
      refine hG.rt hR rfl rfl rfl rfl ?_
      have : inB w 1 3 = false := by
        cases h : inB w 1 3 with
        | false => rfl
        | true =>
          obtain ⟨k, hk1, hk2, rfl⟩ := inB_ab 1 3 (by omega) (by omega) h
          exact absurd (by rw [nI_toInt (by omega)]; omega) (hx (k - 1) (by simp; omega))
      have e : setF f n (nI P) w v = (-1000000001, f) := by rw [setF, this, Bool.and_false]; rfl
      rw [e]
      exact ⟨rfl, Sm.rf, hS.x⟩
  · refine hG.rt hR rfl rfl rfl rfl ?_
    have e : setF f n p w v = (-1000000001, f) := by rw [setF, bi_eq0.mp h1]; rfl
    rw [e]
    exact ⟨rfl, Sm.rf, hS.x⟩
end
