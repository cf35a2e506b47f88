/-! the class's calls, first part -/
def KOk (f : Nat → Int32) (n : Nat) : Prop := ∀ p, p < n → (∃ k, k < 6 ∧ f (18 + 4 * p) = nI k) ∧ f (18 + 4 * p + 3) ≤ f 2
/-- what is now, class against f -/
def SV (σ : Sg) (f : Nat → Int32) (n c t y : Nat) : Prop := FOk f n c t y ∧ y ≤ 9999 ∧ KOk f n ∧ RV σ 32 f n c t ∧ TXS σ f t
def SVx (σ : Sg) (f : Nat → Int32) : Prop := ∃ n c t y, SV σ f n c t y
theorem inB_m1 (x : Int32) (n : Nat) (hn : n ≤ 1000) : inB x 0 (nI n - 1) = (decide (0 ≤ x) && decide (x < nI n)) := by
  refine inB_hi ?_
  cases n with
  | zero => decide
  | succ n => rw [nI_pred, nI_toInt (by omega), nI_toInt (by omega)]; omega
section
variable {σ σ' : Sg} {n c t y : Nat} {f g : Nat → Int32}
theorem SV.fo (h : SV σ f n c t y) : FOk f n c t y := h.1
theorem SV.y9 (h : SV σ f n c t y) : y ≤ 9999 := h.2.1
theorem SV.ko (h : SV σ f n c t y) : KOk f n := h.2.2.1
theorem SV.rv (h : SV σ f n c t y) : RV σ 32 f n c t := h.2.2.2.1
theorem SV.tx (h : SV σ f n c t y) : TXS σ f t := h.2.2.2.2
theorem SV.n10 (h : SV σ f n c t y) : n ≤ 10 := h.1.2.1
theorem SV.c6 (h : SV σ f n c t y) : c ≤ 6 := h.1.2.2.2.1
theorem SV.t14 (h : SV σ f n c t y) : t ≤ 14 := h.1.2.2.2.2.2.1
theorem SV.fy (h : SV σ f n c t y) : f 2 = nI y := h.1.2.2.2.2.2.2.1
theorem SV.to (h : SV σ f n c t y) : TxsOk f t := h.1.2.2.2.2.2.2.2.2.1
theorem SV.wo (h : SV σ f n c t y) : WOk f c := h.1.2.2.2.2.2.2.2.2.2
theorem SV.x (h : SV σ f n c t y) : SVx σ f := ⟨n, c, t, y, h⟩
theorem SV.hm (h : SV σ f n c t y) (hh : Hm 32 σ σ') : SV σ' f n c t y := ⟨h.fo, h.y9, h.ko, h.rv.hm hh, h.tx.sm hh.1 h.t14 (fun k h1 h2 => by simp; omega)⟩
end
section
variable {l : Launch} {θ : Th} {σ : Sg} {n c t y : Nat} {f : Nat → Int32}
theorem c_W_isPerson (p : Int32) (hS : SV σ f n c t y) : Ci l θ 1 m_W_isPerson [.inr 0, .inl p] σ (fun r σ' => σ' = σ ∧ r = bi (inB p 0 (nI n - 1))) := by
  have hn := hS.n10
  rw [inB_m1 p n (by omega), ← hS.rv.pn]
  refine Ci.of (Or.inl mi_W_isPerson) pk_W_isPerson (nb rfl) (Or.inr rfl) [some (.inr 0), some (.inl p)] rfl fun Γ hG hR => ?_
  refine hG.br rfl rfl rfl rfl (fun h1 => ?_) (fun h1 => ?_)
  · refine hG.rz hR rfl rfl rfl rfl (Or.inl rfl) ?_
    exact ⟨rfl, by rw [decide_eq_false (i32_nle.mpr h1)]; rfl⟩
  · refine hG.br rfl rfl rfl rfl (fun h2 => ?_) (fun h2 => ?_)
    · refine hG.rz hR rfl rfl rfl rfl (Or.inl rfl) ?_
      exact ⟨rfl, by rw [decide_eq_false (i32_nlt.mpr h2), Bool.and_false]; rfl⟩
    · refine hG.rz hR rfl rfl rfl rfl (Or.inr rfl) ?_
      exact ⟨rfl, by rw [decide_eq_true (i32_nlt.mp h1), decide_eq_true (i32_nle.mp h2)]; rfl⟩
theorem c_W_isBirth (v : Int32) (hS : SV σ f n c t y) : Ci l θ 1 m_W_isBirth [.inr 0, .inl v] σ (fun r σ' => σ' = σ ∧ r = bi (inB v (-999) (f 2))) := by
  rw [← hS.rv.y]
  refine Ci.of (Or.inl mi_W_isBirth) pk_W_isBirth (nb rfl) (Or.inr rfl) [some (.inr 0), some (.inl v)] rfl fun Γ hG hR => ?_
  refine hG.br rfl rfl rfl rfl (fun h1 => ?_) (fun h1 => ?_)
  · refine hG.rz hR rfl rfl rfl rfl (Or.inl rfl) ?_
    exact ⟨rfl, by rw [inB, decide_eq_false (i32_nle.mpr h1)]; rfl⟩
  · refine hG.br rfl rfl rfl rfl (fun h2 => ?_) (fun h2 => ?_)
    · refine hG.rz hR rfl rfl rfl rfl (Or.inl rfl) ?_
      exact ⟨rfl, by rw [inB, decide_eq_false (i32_nle.mpr h2), Bool.and_false]; rfl⟩
    · refine hG.rz hR rfl rfl rfl rfl (Or.inr rfl) ?_
      exact ⟨rfl, by rw [inB, decide_eq_true (i32_nlt.mp h1), decide_eq_true (i32_nlt.mp h2)]; rfl⟩
theorem c_W_canBeBorn (p : Nat) (v : Int32) (hp : p < n) (hS : SV σ f n c t y) : Ci l θ 2 m_W_canBeBorn [.inr 0, .inl (nI p), .inl v] σ (fun r σ' => σ' = σ ∧ r = bi (setK2 f p 2 v)) := by
  have hn := hS.n10
  have hko := (hS.ko p hp).2
  have e : setK2 f p 2 v = inB v (-999) (if aliveF f p then f 2 else f (18 + 4 * p + 3)) := by rw [setK2, if_neg (by decide), if_pos rfl]
  rw [e]
  refine Ci.of (Or.inl mi_W_canBeBorn) pk_W_canBeBorn (nb rfl) (Or.inr rfl) [some (.inr 0), some (.inl (nI p)), some (.inl v)] rfl fun Γ hG hR => ?_
  refine hG.cV lk_W_73 mi_W_isBirth rfl rfl (c_W_isBirth v hS) rfl rfl rfl rfl rfl rfl rfl rfl ?_
  rintro x σ' ⟨rfl, rfl⟩
  refine hG.br rfl rfl rfl rfl (fun h1 => ?_) (fun h1 => ?_)
  · refine hG.rz hR rfl rfl rfl rfl (Or.inl rfl) ?_
    refine ⟨rfl, ?_⟩
    have h1 := bi_eq0.mp h1
    symm
    rw [show (0 : Int32) = bi false from rfl, bi_inj]
    cases ha : aliveF f p with
    | true => exact h1
    | false =>
      simp only [inB, Bool.and_eq_false_iff, decide_eq_false_iff_not] at h1 ⊢
      rcases h1 with h1 | h1
      · exact Or.inl h1
      · exact Or.inr (fun h => h1 (Int32.le_trans h hko))
  · have h1 := bi_ne0.mp h1
    refine hG.cV lk_W_193 mi_V_isAlive rfl rfl (c_V_isAlive32 p hp hn hS.rv) rfl rfl rfl rfl rfl rfl rfl rfl ?_
    rintro x σ' ⟨rfl, rfl⟩
    refine hG.br rfl rfl rfl rfl (fun h2 => ?_) (fun h2 => ?_)
    · refine hG.rz hR rfl rfl rfl rfl (Or.inr rfl) ?_
      refine ⟨rfl, ?_⟩
      rw [bi_ne0.mp h2, if_pos rfl, h1]; rfl
    · refine hG.ld rfl p rfl rfl rfl rfl rfl (by omega) ?_
      have ha := bi_eq0.mp h2
      have hd : σ' 36 p = f (18 + 4 * p + 3) := hS.rv.dd hp
      simp only [inB, Bool.and_eq_true, decide_eq_true_eq] at h1
      refine hG.br rfl rfl rfl rfl (fun h3 => ?_) (fun h3 => ?_)
      · refine hG.rz hR rfl rfl rfl rfl (Or.inl rfl) ?_
        refine ⟨rfl, ?_⟩
        rw [hd] at h3
        rw [ha, if_neg (by decide), inB, decide_eq_false (i32_nle.mpr h3), Bool.and_false]; rfl
      · refine hG.rz hR rfl rfl rfl rfl (Or.inr rfl) ?_
        refine ⟨rfl, ?_⟩
        rw [hd] at h3
        rw [ha, if_neg (by decide), inB, decide_eq_true h1.1, decide_eq_true (i32_nlt.mp h3)]; rfl
theorem c_W_canHaveDied (p : Nat) (v : Int32) (hp : p < n) (hS : SV σ f n c t y) : Ci l θ 1 m_W_canHaveDied [.inr 0, .inl (nI p), .inl v] σ (fun r σ' => σ' = σ ∧ r = bi (setK2 f p 3 v)) := by
  have hn := hS.n10
  have e : setK2 f p 3 v = (decide (v = -1000000005) || inB v (f (18 + 4 * p + 2)) (f 2)) := by rw [setK2, if_neg (by decide), if_neg (by decide)]
  rw [e, ← hS.rv.y, ← hS.rv.bn hp]
  refine Ci.of (Or.inl mi_W_canHaveDied) pk_W_canHaveDied (nb rfl) (Or.inr rfl) [some (.inr 0), some (.inl (nI p)), some (.inl v)] rfl fun Γ hG hR => ?_
  refine hG.br rfl rfl rfl rfl (fun h1 => ?_) (fun h1 => ?_)
  · refine hG.rz hR rfl rfl rfl rfl (Or.inr rfl) ?_
    exact ⟨rfl, by rw [decide_eq_true h1]; rfl⟩
  · refine hG.ld rfl p rfl rfl rfl rfl rfl (by omega) ?_
    refine hG.br rfl rfl rfl rfl (fun h2 => ?_) (fun h2 => ?_)
    · refine hG.rz hR rfl rfl rfl rfl (Or.inl rfl) ?_
      exact ⟨rfl, by rw [decide_eq_false h1, inB, decide_eq_false (i32_nle.mpr h2)]; rfl⟩
    · refine hG.br rfl rfl rfl rfl (fun h3 => ?_) (fun h3 => ?_)
      · refine hG.rz hR rfl rfl rfl rfl (Or.inl rfl) ?_
        exact ⟨rfl, by rw [decide_eq_false h1, inB, decide_eq_false (i32_nle.mpr h3), Bool.and_false]; rfl⟩
      · refine hG.rz hR rfl rfl rfl rfl (Or.inr rfl) ?_
        exact ⟨rfl, by rw [decide_eq_false h1, inB, decide_eq_true (i32_nlt.mp h2), decide_eq_true (i32_nlt.mp h3)]; rfl⟩
theorem c_W_replace34 (p : Nat) (v : Int32) (hp : p < 10) : Ci l θ 1 m_W_replace [.inr 34, .inl (nI p), .inl v] σ (fun r σ' => σ' = up σ 34 p v ∧ r = σ 34 p) := by
  refine Ci.of (Or.inr mi_W_replace) pk_W_replace (nb rfl) (Or.inl rfl) [some (.inr 34), some (.inl (nI p)), some (.inl v), none] rfl fun Γ hG hR => ?_
  refine hG.ld rfl p rfl rfl rfl rfl rfl hp ?_
  refine hG.sti rfl p rfl rfl rfl rfl hp ?_
  refine hG.rt hR rfl rfl rfl rfl ?_
  exact ⟨rfl, rfl⟩
theorem c_W_replace35 (p : Nat) (v : Int32) (hp : p < 10) : Ci l θ 1 m_W_replace [.inr 35, .inl (nI p), .inl v] σ (fun r σ' => σ' = up σ 35 p v ∧ r = σ 35 p) := by
  refine Ci.of (Or.inr mi_W_replace) pk_W_replace (nb rfl) (Or.inl rfl) [some (.inr 35), some (.inl (nI p)), some (.inl v), none] rfl fun Γ hG hR => ?_
  refine hG.ld rfl p rfl rfl rfl rfl rfl hp ?_
  refine hG.sti rfl p rfl rfl rfl rfl hp ?_
  refine hG.rt hR rfl rfl rfl rfl ?_
  exact ⟨rfl, rfl⟩
theorem c_W_replace36 (p : Nat) (v : Int32) (hp : p < 10) : Ci l θ 1 m_W_replace [.inr 36, .inl (nI p), .inl v] σ (fun r σ' => σ' = up σ 36 p v ∧ r = σ 36 p) := by
  refine Ci.of (Or.inr mi_W_replace) pk_W_replace (nb rfl) (Or.inl rfl) [some (.inr 36), some (.inl (nI p)), some (.inl v), none] rfl fun Γ hG hR => ?_
  refine hG.ld rfl p rfl rfl rfl rfl rfl hp ?_
  refine hG.sti rfl p rfl rfl rfl rfl hp ?_
  refine hG.rt hR rfl rfl rfl rfl ?_
  exact ⟨rfl, rfl⟩
theorem o_W_told (p w : Int32) (hS : SV σ f n c t y) : Ci l θ 5 m_W_told [.inr 0, .inl p, .inl w] σ (fun r σ' => r = toldR f n p w ∧ σ' = σ) := by
  have hn := hS.n10
  refine Ci.of (Or.inl mi_W_told) pk_W_told (nb rfl) (Or.inl rfl) [some (.inr 0), some (.inl p), some (.inl w)] rfl fun Γ hG hR => ?_
  refine hG.cV lk_W_86 mi_W_isPerson rfl rfl (c_W_isPerson p hS) rfl rfl rfl rfl rfl rfl rfl rfl ?_
  rintro x σ' ⟨rfl, rfl⟩
  refine hG.br rfl rfl rfl rfl (fun h1 => ?_) (fun h1 => ?_)
  · have h1 := bi_ne0.mp h1
    obtain ⟨P, hP, rfl⟩ := (inB_lt (by omega)).mp h1
    have hc : (nI P).toNatClampNeg = P := nI_clamp (by omega)
    have e0 : inB w 0 5 = true → toldR f n (nI P) w = (if w < 4 then f (18 + 4 * P + w.toNatClampNeg) else if w = 4 then bi (holdF f P (f 2)) else worthK (f (18 + 4 * P)) (f (18 + 4 * P + 1))) := by
      intro h; rw [toldR, h1, h, Bool.and_self, if_pos rfl, hc]
    refine hG.tsw [52, 62, 72, 82, 92, 111] 133 rfl rfl rfl (by decide +kernel) ?_ ?_
    · intro j u hk hx
      match j, hk, hx with
      | 0, hk, hx =>
        cases hk
        have e : w = 0 := tsw_x hx rfl
        subst e
        refine hG.ld rfl P rfl rfl rfl rfl rfl (by omega) ?_
        refine hG.rt hR rfl rfl rfl rfl ?_
        exact ⟨by rw [e0 (by decide), if_pos (by decide)]; exact hS.rv.kd hP, rfl⟩
      | 1, hk, hx =>
        cases hk
        have e : w = 1 := tsw_x hx rfl
        subst e
        refine hG.ld rfl P rfl rfl rfl rfl rfl (by omega) ?_
        refine hG.rt hR rfl rfl rfl rfl ?_
        exact ⟨by rw [e0 (by decide), if_pos (by decide)]; exact hS.rv.nm hP, rfl⟩
      | 2, hk, hx =>
        cases hk
        have e : w = 2 := tsw_x hx rfl
        subst e
        refine hG.ld rfl P rfl rfl rfl rfl rfl (by omega) ?_
        refine hG.rt hR rfl rfl rfl rfl ?_
        exact ⟨by rw [e0 (by decide), if_pos (by decide)]; exact hS.rv.bn hP, rfl⟩
      | 3, hk, hx =>
        cases hk
        have e : w = 3 := tsw_x hx rfl
        subst e
        refine hG.ld rfl P rfl rfl rfl rfl rfl (by omega) ?_
        refine hG.rt hR rfl rfl rfl rfl ?_
        exact ⟨by rw [e0 (by decide), if_pos (by decide)]; exact hS.rv.dd hP, rfl⟩
      | 4, hk, hx =>
        cases hk
        have e : w = 4 := tsw_x hx rfl
        subst e
        refine hG.cV lk_W_104 mi_V_holdsIn rfl rfl (c_V_holdsIn32 P (σ' 32 9) hP hn hS.rv) rfl rfl rfl rfl rfl rfl rfl rfl ?_
        rintro x σ' ⟨rfl, rfl⟩
        refine hG.cS lk_W_108 mi_W_bit rfl rfl (c_W_bit _) rfl rfl rfl rfl rfl rfl ?_
        rintro x σ' ⟨rfl, rfl⟩
        refine hG.rt hR rfl rfl rfl rfl ?_
        exact ⟨by rw [e0 (by decide), if_neg (by decide), if_pos rfl, hS.rv.y], rfl⟩
      | 5, hk, hx =>
        cases hk
        have e : w = 5 := tsw_x hx rfl
        subst e
        refine hG.ld rfl P rfl rfl rfl rfl rfl (by omega) ?_
        refine hG.ld rfl P rfl rfl rfl rfl rfl (by omega) ?_
        refine hG.cS lk_W_112 mi_K_worth rfl rfl (c_K_worth (σ' 33 P) (σ' 34 P)) rfl rfl rfl rfl rfl rfl ?_
        rintro x σ' ⟨rfl, rfl⟩
        refine hG.rt hR rfl rfl rfl rfl ?_
        refine ⟨?_, rfl⟩
        rw [e0 (by decide), if_neg (by decide), if_neg (by decide), ← hS.rv.kd hP, ← hS.rv.nm hP]
      | j + 6, hk, hx => simp at hk
    · intro hx
      refine hG.rt hR rfl rfl rfl rfl ?_
      refine ⟨?_, rfl⟩
      have : inB w 0 5 = false := by
        cases h : inB w 0 5 with
        | false => rfl
        | true =>
          obtain ⟨k, hk, rfl⟩ := (inB_nI (m := 5) (by omega)).mp h
          exact absurd (by rw [nI_toInt (by omega)]; omega) (hx k (by simp; omega))
      rw [toldR, this, Bool.and_false]; rfl
  · refine hG.rt hR rfl rfl rfl rfl ?_
    exact ⟨by rw [toldR, bi_eq0.mp h1]; rfl, rfl⟩
end
