/-! a Valley of the class: people come, years pass -/
theorem drawV_nI (z : Int32) : ∃ k, k < 2 ^ 24 ∧ drawV z = nI k := by
  refine ⟨(z.toUInt32 >>> ((8 : Int32).toUInt32 &&& Int32.toUInt32 31)).toNat, ?_, ?_⟩
  · have e : ((8 : Int32).toUInt32 &&& Int32.toUInt32 31) = 8 := by decide
    rw [e, UInt32.toNat_shiftRight]
    have := z.toUInt32.toNat_lt
    have e2 : (8 : UInt32).toNat % 32 = 8 := by decide
    rw [e2, Nat.shiftRight_eq_div_pow]
    omega
  · rw [drawV, nI]
    generalize z.toUInt32 >>> ((8 : Int32).toUInt32 &&& Int32.toUInt32 31) = u
    apply Int32.toBitVec_inj.mp
    simp
theorem rmI_draw (z : Int32) (d : Nat) (h0 : 0 < d) (hd : d < 1000) : ∃ k, k < d ∧ rmI (drawV z) (nI d) = nI k := by
  obtain ⟨k, hk, e⟩ := drawV_nI z
  refine ⟨k % d, Nat.mod_lt _ h0, ?_⟩
  rw [e, rmI]
  exact pk_rem (a := k) (d := d) (by omega) (by omega) (by omega)
def cl100 (v : Int32) : Int32 := if 0 < (if v < 100 then v else 100) then (if v < 100 then v else 100) else 0
theorem cl100_lt {x v : Int32} (h0 : 0 ≤ x) (h1 : x < 100) : x < cl100 v ↔ x < v := by
  rw [cl100]
  by_cases h : v < 100
  · rw [if_pos h]
    by_cases h2 : 0 < v
    · rw [if_pos h2]
    · rw [if_neg h2]
      exact ⟨fun h3 => absurd h3 (i32_nlt.mpr h0), fun h3 => absurd (Int32.lt_of_le_of_lt h0 h3) h2⟩
  · rw [if_neg h, if_pos (by decide)]
    exact ⟨fun _ => Int32.lt_of_lt_of_le h1 (i32_nlt.mp h), fun _ => h1⟩
theorem within_lt {x v : Int32} (h0 : 0 ≤ x) (h1 : x < 100) : x < withinF v 0 100 ↔ x < v := by
  rw [withinF]
  by_cases h : v < 0
  · rw [if_pos h]
    exact ⟨fun h3 => absurd h3 (i32_nlt.mpr h0), fun h3 => absurd (Int32.lt_of_le_of_lt h0 h3) (i32_nlt.mpr (Int32.le_of_lt h))⟩
  · rw [if_neg h]
    by_cases h2 : 100 < v
    · rw [if_pos h2]
      exact ⟨fun _ => Int32.lt_trans h1 h2, fun _ => h1⟩
    · rw [if_neg h2]
section
variable {σ σ' : Sg} {b n c t : Nat} {f g : Nat → Int32}
theorem RV.cnt (h : RV σ b f n c t) (hg : ∀ j, 58 ≤ j → g j = f j) : ∀ k, k < 3 → σ (b + 7) k = optN (-1000000005) (cntO g (nI k) t) := fun k hk => by
  rw [h.ct hk, cntO_congr (f := f) (g := g) t (fun i _ => hg _ (by omega))]
theorem RV.nea (h : RV σ b f n c t) (ht : TxsOk f t) (hg : ∀ j, 58 ≤ j → g j = f j) : ∀ w, w < 8 → nwB (σ b 13) w = nearT g t (wyIx w) := fun w hw => by
  rw [h.w hw, nearT_congr ht hg]
def TXS (σ : Sg) (f : Nat → Int32) (t : Nat) : Prop := ∀ i ky ln, i < t → TxOk f i ky ln → TxR σ f i ln ∧ σ (4 + 2 * i) 0 = nI ky ∧ σ (4 + 2 * i) 1 = f (58 + 2 * i + 1)
theorem TXS.cg (h : TXS σ f t) (hg : ∀ j, 58 ≤ j → g j = f j) : TXS σ g t := fun i ky ln hi hx => by
  have hx' : TxOk f i ky ln := TxOk_congr hx (fun j hj => (hg j hj).symm)
  obtain ⟨⟨a1, a2⟩, a3, a4⟩ := h i ky ln hi hx'
  exact ⟨⟨a1, fun j hj => by rw [a2 j hj, hg _ (by omega)]⟩, a3, by rw [a4, hg _ (by omega)]⟩
theorem TXS.sm {cs : List Nat} (h : TXS σ f t) (hs : Sm cs σ σ') (ht : t ≤ 14) (hc : ∀ k, 4 ≤ k → k < 32 → k ∉ cs) : TXS σ' f t := fun i ky ln hi hx => by
  obtain ⟨⟨a1, a2⟩, a3, a4⟩ := h i ky ln hi hx
  rw [TxR, hs (4 + 2 * i) (hc _ (by omega) (by omega)), hs (5 + 2 * i) (hc _ (by omega) (by omega))]
  exact ⟨⟨a1, a2⟩, a3, a4⟩
theorem RV.setz (h : RV σ b f n c t) (ht : TxsOk f t) (z : Int32) : RV (up σ b 10 z) b (upd f 0 z) n c t := by
  have hg : ∀ j, j ≠ 0 → upd f 0 z j = f j := fun j hj => upd_ne hj
  have e : ∀ k, 1 ≤ k → up σ b 10 z (b + k) = σ (b + k) := fun k hk => up_c _ _ _ _ (by omega)
  refine ⟨⟨?_, ?_, ?_, ?_, ?_, ?_⟩, ?_, fun p hp => ⟨?_, ?_, ?_, ?_⟩, fun i hi => ⟨?_, ?_⟩, ?_⟩
  · rw [up_j _ _ _ _ (by omega)]; exact h.pn
  · rw [up_j _ _ _ _ (by omega)]; exact h.cn
  · rw [up_j _ _ _ _ (by omega), hg _ (by omega)]; exact h.tm
  · rw [up_j _ _ _ _ (by omega), hg _ (by omega)]; exact h.y
  · rw [up_self, upd_same]
  · rw [up_j _ _ _ _ (by omega)]; exact h.tn
  · rw [up_j _ _ _ _ (by omega)]; exact h.nea ht (fun j hj => hg j (by omega))
  · rw [e _ (by omega), hg _ (by omega)]; exact h.kd hp
  · rw [e _ (by omega), hg _ (by omega)]; exact h.nm hp
  · rw [e _ (by omega), hg _ (by omega)]; exact h.bn hp
  · rw [e _ (by omega), hg _ (by omega)]; exact h.dd hp
  · rw [e _ (by omega), hg _ (by omega)]; exact h.c1 hi
  · rw [e _ (by omega), hg _ (by omega)]; exact h.c2 hi
  · rw [e _ (by omega)]; exact h.cnt (fun j hj => hg j (by omega))
end
section
variable {l : Launch} {θ : Th} {σ : Sg} {n c t : Nat} {f : Nat → Int32}
theorem c_V_draw32 : Ci l θ 1 m_V_draw [.inr 32] σ (fun r σ' => σ' = up σ 32 10 (drawZ (σ 32 10)) ∧ r = drawV (drawZ (σ 32 10))) := by
  refine Ci.of (Or.inl mi_V_draw) pk_V_draw (nb rfl) (Or.inl rfl) [some (.inr 32)] rfl fun Γ hG hR => ?_
  refine hG.rt hR rfl rfl rfl rfl ?_
  refine ⟨rfl, ?_⟩
  rw [up_self]
  rfl
theorem c_V_chanceToDie32 (p : Nat) (hp : p < n) (hn : n ≤ 10) (htl : t ≤ 14) (ht : TxsOk f t) (hV : RV σ 32 f n c t) (hT : TXS σ f t) : Ci l θ 4 m_V_chanceToDie [.inr 32, .inl (nI p), .inr 1] σ (fun r σ' => Sm [3] σ σ' ∧ ∀ x, 0 ≤ x → x < 100 → (x < r ↔ x < diesF f t p)) := by
  refine Ci.of (Or.inl mi_V_chanceToDie) pk_V_chanceToDie (nb rfl) (Or.inl rfl) [some (.inr 32), some (.inl (nI p)), some (.inr 1), none, none, none] rfl fun Γ hG hR => ?_
  refine hG.ld rfl p rfl rfl rfl rfl rfl (by omega) ?_
  refine hG.ld rfl 1 rfl rfl rfl rfl rfl (by decide) ?_
  have ec : σ 39 1 = optN (-1000000005) (cntO f 1 t) := hV.ct (k := 1) (by omega)
  rw [ec]
  have fin : ∀ (τ : Sg) (v w : Int32), Sm [3] σ τ → (∀ x, 0 ≤ x → x < 100 → (x < v ↔ x < diesF f t p)) → X Γ 47 [some (.inr 32), some (.inl (nI p)), some (.inr 1), some (.inl (σ 32 9 - σ 35 p)), some (.inl w), none] [.inl v] τ := by
    intro τ v w hS hv
    refine hG.mn rfl lk_V_116 rfl rfl rfl rfl rfl ?_
    refine hG.mx rfl lk_V_121 rfl rfl rfl rfl rfl ?_
    refine hG.rt hR rfl rfl rfl rfl ?_
    refine ⟨hS, fun x h0 h1 => ?_⟩
    rw [← hv x h0 h1]
    exact cl100_lt h0 h1
  cases hc : cntO f 1 t with
  | none =>
    rw [optN]
    refine hG.br rfl rfl rfl rfl (fun h1 => ?_) (fun h1 => ?_)
    · exact absurd rfl h1
    · refine hG.dv rfl rfl rfl (by decide) ?_
      refine hG.go 1 rfl rfl ?_
      refine fin σ _ _ Sm.rf (fun x _ _ => ?_)
      rw [diesF, hc, hV.y, hV.bn hp]
  | some i =>
    obtain ⟨hi, ln, htx⟩ := cntO_ok (k := 1) ht (by omega) hc
    rw [optN]
    refine hG.br rfl rfl rfl rfl (fun h1 => ?_) (fun h1 => ?_)
    · refine hG.ld rfl p rfl rfl rfl rfl rfl (by omega) ?_
      refine hG.cV lk_V_110 mi_L_work rfl rfl (c_L_work f i 1 ln (σ 32 9 - σ 35 p) (σ 33 p) 0 (by omega) htx (hT i 1 ln hi htx).1) rfl rfl rfl rfl rfl rfl rfl rfl ?_
      rintro v τ ⟨hS, rfl⟩
      refine fin τ _ _ hS (fun x h0 h1 => ?_)
      rw [diesF, hc, hV.y, hV.bn hp, hV.kd hp]
      exact (within_lt h0 h1).symm
    · have h1 : nI i = (-1000000005 : Int32) := h1
      exact absurd (show (0 : Int32) ≤ nI i from nI_pos' (by omega)) (by rw [h1]; decide)
theorem c_V_draw50 : Ci l θ 1 m_V_draw [.inr 50] σ (fun r σ' => σ' = up σ 50 10 (drawZ (σ 50 10)) ∧ r = drawV (drawZ (σ 50 10))) := by
  refine Ci.of (Or.inl mi_V_draw) pk_V_draw (nb rfl) (Or.inl rfl) [some (.inr 50)] rfl fun Γ hG hR => ?_
  refine hG.rt hR rfl rfl rfl rfl ?_
  refine ⟨rfl, ?_⟩
  rw [up_self]
  rfl
theorem c_V_chanceToDie50 (p : Nat) (hp : p < n) (hn : n ≤ 10) (htl : t ≤ 14) (ht : TxsOk f t) (hV : RV σ 50 f n c t) (hT : TXS σ f t) : Ci l θ 4 m_V_chanceToDie [.inr 50, .inl (nI p), .inr 1] σ (fun r σ' => Sm [3] σ σ' ∧ ∀ x, 0 ≤ x → x < 100 → (x < r ↔ x < diesF f t p)) := by
  refine Ci.of (Or.inl mi_V_chanceToDie) pk_V_chanceToDie (nb rfl) (Or.inl rfl) [some (.inr 50), some (.inl (nI p)), some (.inr 1), none, none, none] rfl fun Γ hG hR => ?_
  refine hG.ld rfl p rfl rfl rfl rfl rfl (by omega) ?_
  refine hG.ld rfl 1 rfl rfl rfl rfl rfl (by decide) ?_
  have ec : σ 57 1 = optN (-1000000005) (cntO f 1 t) := hV.ct (k := 1) (by omega)
  rw [ec]
  have fin : ∀ (τ : Sg) (v w : Int32), Sm [3] σ τ → (∀ x, 0 ≤ x → x < 100 → (x < v ↔ x < diesF f t p)) → X Γ 47 [some (.inr 50), some (.inl (nI p)), some (.inr 1), some (.inl (σ 50 9 - σ 53 p)), some (.inl w), none] [.inl v] τ := by
    intro τ v w hS hv
    refine hG.mn rfl lk_V_116 rfl rfl rfl rfl rfl ?_
    refine hG.mx rfl lk_V_121 rfl rfl rfl rfl rfl ?_
    refine hG.rt hR rfl rfl rfl rfl ?_
    refine ⟨hS, fun x h0 h1 => ?_⟩
    rw [← hv x h0 h1]
    exact cl100_lt h0 h1
  cases hc : cntO f 1 t with
  | none =>
    rw [optN]
    refine hG.br rfl rfl rfl rfl (fun h1 => ?_) (fun h1 => ?_)
    · exact absurd rfl h1
    · refine hG.dv rfl rfl rfl (by decide) ?_
      refine hG.go 1 rfl rfl ?_
      refine fin σ _ _ Sm.rf (fun x _ _ => ?_)
      rw [diesF, hc, hV.y, hV.bn hp]
  | some i =>
    obtain ⟨hi, ln, htx⟩ := cntO_ok (k := 1) ht (by omega) hc
    rw [optN]
    refine hG.br rfl rfl rfl rfl (fun h1 => ?_) (fun h1 => ?_)
    · refine hG.ld rfl p rfl rfl rfl rfl rfl (by omega) ?_
      refine hG.cV lk_V_110 mi_L_work rfl rfl (c_L_work f i 1 ln (σ 50 9 - σ 53 p) (σ 51 p) 0 (by omega) htx (hT i 1 ln hi htx).1) rfl rfl rfl rfl rfl rfl rfl rfl ?_
      rintro v τ ⟨hS, rfl⟩
      refine fin τ _ _ hS (fun x h0 h1 => ?_)
      rw [diesF, hc, hV.y, hV.bn hp, hV.kd hp]
      exact (within_lt h0 h1).symm
    · have h1 : nI i = (-1000000005 : Int32) := h1
      exact absurd (show (0 : Int32) ≤ nI i from nI_pos' (by omega)) (by rw [h1]; decide)
end
