/-! the reference, first part. The row 'now' (cell 96) is the abstract state, f. -/
theorem upc_upc (σ : Sg) (c : Nat) (f g : Nat → Int32) : upc (upc σ c f) c g = upc σ c g := by funext x; simp only [upc]; split <;> rfl
theorem upc_self (σ : Sg) (c : Nat) : upc σ c (σ c) = σ := by funext x; simp only [upc]; split <;> simp_all
theorem up_upc (σ : Sg) (c : Nat) (f : Nat → Int32) (j : Nat) (v : Int32) : up (upc σ c f) c j v = upc σ c (upd f j v) := by rw [up, upc_upc, upc_same]
theorem upd_same (f : Nat → Int32) (j : Nat) (v : Int32) : upd f j v j = v := by simp [upd]
theorem upd_ne {f : Nat → Int32} {j k : Nat} {v : Int32} (h : k ≠ j) : upd f j v k = f k := by simp [upd, h]
theorem upd_upd (f : Nat → Int32) (j : Nat) (v w : Int32) : upd (upd f j v) j w = upd f j w := by funext x; simp only [upd]; split <;> rfl
theorem i32_nlt {a b : Int32} : ¬ a < b ↔ b ≤ a := Int32.not_lt
theorem i32_nle {a b : Int32} : ¬ a ≤ b ↔ b < a := Int32.not_le
def inB (a b c : Int32) : Bool := decide (b ≤ a) && decide (a ≤ c)
section
variable {l : Launch} {θ : Th} {σ : Sg}
theorem c_M_in (a b c : Int32) : Ci l θ 1 m_M_in [.inl a, .inl b, .inl c] σ (fun r σ' => σ' = σ ∧ r = bi (inB a b c)) := by
  refine Ci.of (Or.inr mi_M_in) pk_M_in (nb rfl) (Or.inr rfl) [some (.inl a), some (.inl b), some (.inl c)] rfl fun Γ hG hR => ?_
  refine hG.br rfl rfl rfl rfl (fun h1 => ?_) (fun h1 => ?_)
  · refine hG.rz hR rfl rfl rfl rfl (Or.inl rfl) ?_
    exact ⟨rfl, by simp [bi, inB, i32_nle.mpr h1]⟩
  · refine hG.br rfl rfl rfl rfl (fun h2 => ?_) (fun h2 => ?_)
    · refine hG.rz hR rfl rfl rfl rfl (Or.inl rfl) ?_
      exact ⟨rfl, by simp [bi, inB, i32_nle.mpr h2]⟩
    · refine hG.rz hR rfl rfl rfl rfl (Or.inr rfl) ?_
      exact ⟨rfl, by simp [bi, inB, i32_nlt.mp h1, i32_nlt.mp h2]⟩
def withinF (v a b : Int32) : Int32 := if v < a then a else if b < v then b else v
theorem c_M_within (v a b : Int32) : Ci l θ 1 m_M_within [.inl v, .inl a, .inl b] σ (fun r σ' => σ' = σ ∧ r = withinF v a b) := by
  refine Ci.of (Or.inr mi_M_within) pk_M_within (nb rfl) (Or.inl rfl) [some (.inl v), some (.inl a), some (.inl b)] rfl fun Γ hG hR => ?_
  refine hG.br rfl rfl rfl rfl (fun h1 => ?_) (fun h1 => ?_)
  · refine hG.br rfl rfl rfl rfl (fun h2 => ?_) (fun h2 => ?_)
    · refine hG.rt hR rfl rfl rfl rfl ?_
      exact ⟨rfl, by simp [withinF, i32_nlt.mpr h1, i32_nlt.mpr h2]⟩
    · refine hG.rt hR rfl rfl rfl rfl ?_
      exact ⟨rfl, by simp [withinF, i32_nlt.mpr h1, i32_nle.mp h2]⟩
  · refine hG.rt hR rfl rfl rfl rfl ?_
    exact ⟨rfl, by simp [withinF, i32_nle.mp h1]⟩
theorem c_M_copyAll (c0 c1 : Nat) (h0 : lay[c0]? = some (sh_ints 1430)) (h1 : lay[c1]? = some (sh_ints 1430)) (hne : c0 ≠ c1) : Cv l θ 1 m_M_copyAll [.inr c0, .inr c1] σ (fun σ' => σ' = upc σ c1 (fun k => if k < 1430 then σ c0 k else σ c1 k)) := by
  refine Cv.of (Or.inr mi_M_copyAll) pk_M_copyAll (nb rfl) rfl [some (.inr c0), some (.inr c1), none] rfl fun Γ hG hR => ?_
  have loop : ∀ n i, i + n = 1430 → X Γ 2 [some (.inr c0), some (.inr c1), some (.inl (nI i))] [] (upc σ c1 (fun k => if k < i then σ c0 k else σ c1 k)) := by
    intro n
    induction n with
    | zero =>
      intro i hi
      have hi : i = 1430 := by omega
      subst hi
      refine hG.br rfl rfl rfl rfl (fun h => ?_) (fun h => ?_)
      · refine hG.rv hR rfl rfl rfl ?_
        rfl
      · exact absurd (show nI 1430 ≤ nI 1430 from nI_le (Nat.le_refl 1430) (by omega)) h
    | succ n ih =>
      intro i hi
      refine hG.br rfl rfl rfl rfl (fun h => ?_) (fun h => ?_)
      · exact absurd (show nI 1430 ≤ nI i from h) (nI_ge (by omega) (by omega))
      · refine hG.ld rfl i rfl rfl rfl h0 rfl (by omega) ?_
        refine hG.sti rfl i rfl rfl h1 rfl (by omega) ?_
        refine hG.jp rfl rfl rfl ?_
        have e : up (upc σ c1 (fun k => if k < i then σ c0 k else σ c1 k)) c1 i (upc σ c1 (fun k => if k < i then σ c0 k else σ c1 k) c0 i) = upc σ c1 (fun k => if k < i + 1 then σ c0 k else σ c1 k) := by
          rw [up_upc, upc_c _ _ _ hne]
          congr 1
          funext k
          simp only [upd]
          by_cases hk : k = i
          · subst hk; simp
          · have : k < i + 1 ↔ k < i := by omega
            simp [hk, this]
        rw [e, show nI i + 1 = nI (i + 1) from nI_1 i]
        exact ih (i + 1) (by omega)
  refine hG.go 2 rfl rfl ?_
  have := loop 1430 0 rfl
  simp only [Nat.not_lt_zero, if_false, upc_self] at this
  exact this
theorem c_M_isCalled (a : Int32) : Ci l θ 2 m_M_isCalled [.inl a] σ (fun r σ' => σ' = σ ∧ r = bi (inB a 0 124)) := by
  refine Ci.of (Or.inr mi_M_isCalled) pk_M_isCalled (nb rfl) (Or.inr rfl) [some (.inl a)] rfl fun Γ hG hR => ?_
  refine hG.cS lk_M_84 mi_M_in rfl rfl (c_M_in a 0 124) rfl rfl rfl rfl rfl rfl ?_
  rintro x σ' ⟨rfl, rfl⟩
  refine hG.rz hR rfl rfl rfl rfl (bi_01 _) ?_
  exact ⟨rfl, rfl⟩
theorem c_M_isYear (a : Int32) : Ci l θ 2 m_M_isYear [.inl a] σ (fun r σ' => σ' = σ ∧ r = bi (inB a (-999) 99999)) := by
  refine Ci.of (Or.inr mi_M_isYear) pk_M_isYear (nb rfl) (Or.inr rfl) [some (.inl a)] rfl fun Γ hG hR => ?_
  refine hG.cS lk_M_84 mi_M_in rfl rfl (c_M_in a (-999) 99999) rfl rfl rfl rfl rfl rfl ?_
  rintro x σ' ⟨rfl, rfl⟩
  refine hG.rz hR rfl rfl rfl rfl (bi_01 _) ?_
  exact ⟨rfl, rfl⟩
theorem c_M_isSheet (a : Int32) : Ci l θ 2 m_M_isSheet [.inl a] σ (fun r σ' => σ' = σ ∧ r = bi (inB a 0 3)) := by
  refine Ci.of (Or.inr mi_M_isSheet) pk_M_isSheet (nb rfl) (Or.inr rfl) [some (.inl a)] rfl fun Γ hG hR => ?_
  refine hG.cS lk_M_84 mi_M_in rfl rfl (c_M_in a 0 3) rfl rfl rfl rfl rfl rfl ?_
  rintro x σ' ⟨rfl, rfl⟩
  refine hG.rz hR rfl rfl rfl rfl (bi_01 _) ?_
  exact ⟨rfl, rfl⟩
theorem c_M_isSlot (a : Int32) : Ci l θ 2 m_M_isSlot [.inl a] σ (fun r σ' => σ' = σ ∧ r = bi (inB a 0 4)) := by
  refine Ci.of (Or.inr mi_M_isSlot) pk_M_isSlot (nb rfl) (Or.inr rfl) [some (.inl a)] rfl fun Γ hG hR => ?_
  refine hG.cS lk_M_84 mi_M_in rfl rfl (c_M_in a 0 4) rfl rfl rfl rfl rfl rfl ?_
  rintro x σ' ⟨rfl, rfl⟩
  refine hG.rz hR rfl rfl rfl rfl (bi_01 _) ?_
  exact ⟨rfl, rfl⟩
theorem c_M_isOne (p : Int32) : Ci l θ 2 m_M_isOne [.inr 95, .inl p] σ (fun r σ' => σ' = σ ∧ r = bi (inB p 0 (σ 96 1 - 1))) := by
  refine Ci.of (Or.inl mi_M_isOne) pk_M_isOne (nb rfl) (Or.inr rfl) [some (.inr 95), some (.inl p)] rfl fun Γ hG hR => ?_
  refine hG.ld rfl 1 rfl rfl rfl rfl rfl (by decide) ?_
  refine hG.cS lk_M_84 mi_M_in rfl rfl (c_M_in p 0 (σ 96 1 - 1)) rfl rfl rfl rfl rfl rfl ?_
  rintro x σ' ⟨rfl, rfl⟩
  refine hG.rz hR rfl rfl rfl rfl (bi_01 _) ?_
  exact ⟨rfl, rfl⟩
theorem c_M_of (p w : Nat) (h : 18 + 4 * p + w < 1430) : Ci l θ 1 m_M_of [.inr 95, .inl (nI p), .inl (nI w)] σ (fun r σ' => σ' = σ ∧ r = σ 96 (18 + 4 * p + w)) := by
  refine Ci.of (Or.inl mi_M_of) pk_M_of (nb rfl) (Or.inl rfl) [some (.inr 95), some (.inl (nI p)), some (.inl (nI w))] rfl fun Γ hG hR => ?_
  refine hG.ld rfl (18 + 4 * p + w) rfl rfl rfl rfl (by simp only [lit_nI, pk_mul, nI_add, nI_1]; first | done | rfl | (congr 1; omega)) h ?_
  refine hG.rt hR rfl rfl rfl rfl ?_
  exact ⟨rfl, rfl⟩
def aliveF (f : Nat → Int32) (p : Nat) : Bool := decide (f (18 + 4 * p + 3) = -1000000005)
theorem c_M_isAlive (p : Nat) (h : p < 10) : Ci l θ 2 m_M_isAlive [.inr 95, .inl (nI p)] σ (fun r σ' => σ' = σ ∧ r = bi (aliveF (σ 96) p)) := by
  refine Ci.of (Or.inl mi_M_isAlive) pk_M_isAlive (nb rfl) (Or.inr rfl) [some (.inr 95), some (.inl (nI p))] rfl fun Γ hG hR => ?_
  refine hG.cV lk_M_88 mi_M_of rfl rfl (c_M_of p 3 (by omega)) rfl rfl rfl rfl rfl rfl rfl rfl ?_
  rintro x σ' ⟨rfl, rfl⟩
  refine hG.br rfl rfl rfl rfl (fun h1 => ?_) (fun h1 => ?_)
  · refine hG.rz hR rfl rfl rfl rfl (Or.inl rfl) ?_
    exact ⟨rfl, by simp [aliveF, h1, bi]⟩
  · refine hG.rz hR rfl rfl rfl rfl (Or.inr rfl) ?_
    exact ⟨rfl, by simp [aliveF, h1, bi]⟩
theorem c_M_becomes (k : Nat) (v : Int32) (h : k < 1430) : Ci l θ 1 m_M_becomes [.inr 95, .inl (nI k), .inl v] σ (fun r σ' => σ' = up σ 96 k v ∧ r = σ 96 k) := by
  refine Ci.of (Or.inl mi_M_becomes) pk_M_becomes (nb rfl) (Or.inl rfl) [some (.inr 95), some (.inl (nI k)), some (.inl v), none] rfl fun Γ hG hR => ?_
  refine hG.ld rfl k rfl rfl rfl rfl rfl h ?_
  refine hG.sti rfl k rfl rfl rfl rfl h ?_
  refine hG.rt hR rfl rfl rfl rfl ?_
  exact ⟨rfl, rfl⟩
def comesF (f : Nat → Int32) (n : Nat) (k nm b : Int32) : Nat → Int32 := upd (upd (upd (upd (upd f (18 + 4 * n) k) (19 + 4 * n) nm) (20 + 4 * n) b) (21 + 4 * n) (-1000000005)) 1 (nI (n + 1))
theorem c_M_comes (n : Nat) (k nm b : Int32) (hn : n < 10) (hf : σ 96 1 = nI n) : Ci l θ 1 m_M_comes [.inr 95, .inl k, .inl nm, .inl b] σ (fun r σ' => σ' = upc σ 96 (comesF (σ 96) n k nm b) ∧ r = nI n) := by
  refine Ci.of (Or.inl mi_M_comes) pk_M_comes (nb rfl) (Or.inl rfl) [some (.inr 95), some (.inl k), some (.inl nm), some (.inl b), none] rfl fun Γ hG hR => ?_
  refine hG.ld rfl 1 rfl rfl rfl rfl rfl (by decide) ?_
  rw [hf]
  refine hG.sti rfl (18 + 4 * n) rfl rfl rfl (by simp only [lit_nI, pk_mul, nI_add, nI_1]; first | done | rfl | (congr 1; omega)) (by omega) ?_
  refine hG.sti rfl (19 + 4 * n) rfl rfl rfl (by simp only [lit_nI, pk_mul, nI_add, nI_1]; first | done | rfl | (congr 1; omega)) (by omega) ?_
  refine hG.sti rfl (20 + 4 * n) rfl rfl rfl (by simp only [lit_nI, pk_mul, nI_add, nI_1]; first | done | rfl | (congr 1; omega)) (by omega) ?_
  refine hG.sti rfl (21 + 4 * n) rfl rfl rfl (by simp only [lit_nI, pk_mul, nI_add, nI_1]; first | done | rfl | (congr 1; omega)) (by omega) ?_
  refine hG.ld rfl 1 rfl rfl rfl rfl rfl (by decide) ?_
  refine hG.sti rfl 1 rfl rfl rfl rfl (by decide) ?_
  refine hG.ld rfl 1 rfl rfl rfl rfl rfl (by decide) ?_
  refine hG.rt hR rfl rfl rfl rfl ?_
  have e : up (up (up (up σ 96 (18 + 4 * n) k) 96 (19 + 4 * n) nm) 96 (20 + 4 * n) b) 96 (21 + 4 * n) (-1000000005) = upc σ 96 (upd (upd (upd (upd (σ 96) (18 + 4 * n) k) (19 + 4 * n) nm) (20 + 4 * n) b) (21 + 4 * n) (-1000000005)) := by
    rw [show up σ 96 (18 + 4 * n) k = upc σ 96 (upd (σ 96) (18 + 4 * n) k) from rfl]
    rw [up_upc, up_upc, up_upc]
  rw [e, up_upc, upc_same, upc_same, upd_same]
  have e1 : upd (upd (upd (upd (σ 96) (18 + 4 * n) k) (19 + 4 * n) nm) (20 + 4 * n) b) (21 + 4 * n) (-1000000005) 1 = nI n := by
    rw [upd_ne (by omega), upd_ne (by omega), upd_ne (by omega), upd_ne (by omega), hf]
  rw [e1]
  refine ⟨?_, ?_⟩
  · rw [show nI n + 1 = nI (n + 1) from nI_1 n]; rfl
  · rw [nI_1, nI_pred]
theorem c_M_draw : Ci l θ 1 m_M_draw [.inr 95] σ (fun r σ' => σ' = up σ 96 0 (σ 96 0 * 1103515245 + 12345) ∧ r = ((σ 96 0 * 1103515245 + 12345).toUInt32 >>> ((8 : Int32).toUInt32 &&& Int32.toUInt32 31)).toInt32) := by
  refine Ci.of (Or.inl mi_M_draw) pk_M_draw (nb rfl) (Or.inl rfl) [some (.inr 95)] rfl fun Γ hG hR => ?_
  refine hG.ld rfl 0 rfl rfl rfl rfl rfl (by decide) ?_
  refine hG.sti rfl 0 rfl rfl rfl rfl (by decide) ?_
  refine hG.ld rfl 0 rfl rfl rfl rfl rfl (by decide) ?_
  refine hG.rt hR rfl rfl rfl rfl ?_
  rw [up_self]
  exact ⟨rfl, rfl⟩
end
