/-! the calls' own answers, as plain functions of the row f; and the reference's calls -/
def WOk (f : Nat → Int32) (c : Nat) : Prop := ∀ i, i < 2 * c → ∃ k, k < 125 ∧ f (6 + i) = nI k
def FOk (f : Nat → Int32) (n c t y : Nat) : Prop := f 1 = nI n ∧ n ≤ 10 ∧ f 4 = nI c ∧ c ≤ 6 ∧ f 5 = nI t ∧ t ≤ 14 ∧ f 2 = nI y ∧ y ≤ 20000 ∧ TxsOk f t ∧ WOk f c
theorem inB_nI {x : Int32} {m : Nat} (hm : m < 2 ^ 31) : inB x 0 (nI m) = true ↔ ∃ k, k ≤ m ∧ x = nI k := by
  simp only [inB, Bool.and_eq_true, decide_eq_true_eq]
  constructor
  · rintro ⟨h1, h2⟩
    obtain ⟨j, hj, rfl⟩ := nI_of (i32_nlt.mpr h1)
    exact ⟨j, (nI_leI hj hm).mp h2, rfl⟩
  · rintro ⟨k, hk, rfl⟩
    exact ⟨nI_pos' (by omega), nI_le hk hm⟩
theorem inB_one {x : Int32} {n : Nat} (hn : n ≤ 10) : inB x 0 (nI n - 1) = true ↔ ∃ k, k < n ∧ x = nI k := by
  cases n with
  | zero =>
    constructor
    · intro h
      simp only [inB, Bool.and_eq_true, decide_eq_true_eq] at h
      have h2 : x ≤ (0 : Int32) - 1 := h.2
      exact absurd (Int32.le_trans h.1 h2) (by decide)
    · rintro ⟨k, hk, -⟩; omega
  | succ n =>
    rw [nI_pred, inB_nI (by omega)]
    constructor
    · rintro ⟨k, hk, rfl⟩; exact ⟨k, by omega, rfl⟩
    · rintro ⟨k, hk, rfl⟩; exact ⟨k, by omega, rfl⟩
theorem inB_f {a b c : Int32} (h : ¬ inB a b c = true) : inB a b c = false := by simpa using h
def persF (f : Nat → Int32) (n : Nat) (k nm b : Int32) : Int32 × (Nat → Int32) := if inB k 0 5 && inB nm 0 124 && inB b (-999) (f 2) then (if n = 10 then (-1000000003, f) else (nI n, comesF f n k nm b)) else (-1000000001, f)
def toldR (f : Nat → Int32) (n : Nat) (p w : Int32) : Int32 := if inB p 0 (nI n - 1) && inB w 0 5 then (if w < 4 then f (18 + 4 * p.toNatClampNeg + w.toNatClampNeg) else if w = 4 then bi (holdF f p.toNatClampNeg (f 2)) else worthK (f (18 + 4 * p.toNatClampNeg)) (f (18 + 4 * p.toNatClampNeg + 1))) else -1000000001
def asR (f : Nat → Int32) (n : Nat) (p k : Int32) : Int32 := if inB p 0 (nI n - 1) && inB k 0 5 then (if underK (f (18 + 4 * p.toNatClampNeg)) k then f (18 + 4 * p.toNatClampNeg + 1) else -1000000012) else -1000000001
def turnF (f : Nat → Int32) (n : Nat) (p k : Int32) : Int32 × (Nat → Int32) := if inB p 0 (nI n - 1) && inB k 0 5 then (f (18 + 4 * p.toNatClampNeg), upd f (18 + 4 * p.toNatClampNeg) k) else (-1000000001, f)
def setK2 (f : Nat → Int32) (P : Nat) (w v : Int32) : Bool := if w = 1 then inB v 0 124 else if w = 2 then inB v (-999) (if aliveF f P then f 2 else f (18 + 4 * P + 3)) else decide (v = -1000000005) || inB v (f (18 + 4 * P + 2)) (f 2)
def setF (f : Nat → Int32) (n : Nat) (p w v : Int32) : Int32 × (Nat → Int32) := if inB p 0 (nI n - 1) && inB w 1 3 && setK2 f p.toNatClampNeg w v then (f (18 + 4 * p.toNatClampNeg + w.toNatClampNeg), upd f (18 + 4 * p.toNatClampNeg + w.toNatClampNeg) v) else (-1000000001, f)
def holdsR (f : Nat → Int32) (n : Nat) (p y : Int32) : Int32 := if inB p 0 (nI n - 1) && inB y (-999) 99999 then bi (holdF f p.toNatClampNeg y) else -1000000001
def apartR (a b : Int32) : Int32 := if inB a 0 124 && inB b 0 124 then nI (apN a b) else -1000000001
def nearR (f : Nat → Int32) (t : Nat) (a b : Int32) : Int32 := if inB a 0 124 && inB b 0 124 then bi (nearT f t (nrIx a b)) else -1000000001
def lifeF (f : Nat → Int32) (v : Int32) : Int32 × (Nat → Int32) := if inB v 0 200 then (f 3, upd f 3 v) else (-1000000001, f)
def seedF (f : Nat → Int32) (v : Int32) : Int32 × (Nat → Int32) := (f 0, upd f 0 v)
def freeR (f : Nat → Int32) (n t : Nat) (nm y : Int32) : Int32 := if inB nm 0 124 && inB y (-999) 99999 then bi (freeG (nearT f t) f n nm y) else -1000000001
def manyF (f : Nat → Int32) (n t : Nat) : Int32 := nI (sumB (fun k => freeG (nearT f t) f n (nI k) (f 2)) 0 125)
def leastF (f : Nat → Int32) (n t : Nat) : Int32 := optN (-1000000005) (fndB (fun k => freeG (nearT f t) f n (nI k) (f 2)) 0 125)
def freesR (f : Nat → Int32) (n t : Nat) (w : Int32) : Int32 := if inB w 0 1 then (if w = 0 then manyF f n t else leastF f n t) else -1000000001
def soonR (f : Nat → Int32) (n t y : Nat) (nm : Int32) : Int32 := if inB nm 0 124 then (match fndB (fun a => freeG (nearT f t) f n nm (nI (y + a))) 0 301 with
  | none => -1000000005
  | some a => nI (y + a)) else -1000000001
def chldF (f : Nat → Int32) (c : Nat) (a b : Int32) : Int32 × (Nat → Int32) := if inB a 0 124 && inB b 0 124 then (if c = 6 then (-1000000003, f) else (nI c, upd (upd (upd f (6 + 2 * c) a) (6 + 2 * c + 1) b) 4 (nI (c + 1)))) else (-1000000001, f)
def forgF (f : Nat → Int32) : Int32 × (Nat → Int32) := (f 4, upd f 4 0)
section
variable {l : Launch} {θ : Th} {σ : Sg} {n c t y : Nat}
theorem o_M_person (k nm b : Int32) (hf : FOk (σ 96) n c t y) : Ci l θ 5 m_M_person [.inr 95, .inl k, .inl nm, .inl b] σ (fun r σ' => r = (persF (σ 96) n k nm b).1 ∧ σ' = upc σ 96 (persF (σ 96) n k nm b).2) := by
  obtain ⟨h1, hn, -⟩ := hf
  refine Ci.of (Or.inl mi_M_person) pk_M_person (nb rfl) (Or.inl rfl) [some (.inr 95), some (.inl k), some (.inl nm), some (.inl b)] rfl fun Γ hG hR => ?_
  have bad : (inB k 0 5 && inB nm 0 124 && inB b (-999) (σ 96 2)) = false → X Γ 32 [some (.inr 95), some (.inl k), some (.inl nm), some (.inl b)] [] σ := by
    intro hb
    refine hG.rt hR rfl rfl rfl rfl ?_
    exact ⟨by rw [persF, hb]; rfl, by rw [persF, hb]; exact (upc_self σ 96).symm⟩
  refine hG.cS lk_M_84 mi_M_in rfl rfl (c_M_in k 0 5) rfl rfl rfl rfl rfl rfl ?_
  rintro x σ' ⟨rfl, rfl⟩
  refine hG.br rfl rfl rfl rfl (fun h2 => ?_) (fun h2 => ?_)
  · exact bad (by rw [bi_eq0.mp h2]; rfl)
  · refine hG.cS lk_M_93 mi_M_isCalled rfl rfl (c_M_isCalled nm) rfl rfl rfl rfl rfl rfl ?_
    rintro x σ' ⟨rfl, rfl⟩
    refine hG.br rfl rfl rfl rfl (fun h3 => ?_) (fun h3 => ?_)
    · exact bad (by rw [bi_eq0.mp h3]; simp)
    · refine hG.ld rfl 2 rfl rfl rfl rfl rfl (by decide) ?_
      refine hG.cS lk_M_84 mi_M_in rfl rfl (c_M_in b (-999) (σ' 96 2)) rfl rfl rfl rfl rfl rfl ?_
      rintro x σ' ⟨rfl, rfl⟩
      refine hG.br rfl rfl rfl rfl (fun h4 => ?_) (fun h4 => ?_)
      · have hg : (inB k 0 5 && inB nm 0 124 && inB b (-999) (σ' 96 2)) = true := by rw [bi_ne0.mp h2, bi_ne0.mp h3, bi_ne0.mp h4]; rfl
        refine hG.ld rfl 1 rfl rfl rfl rfl rfl (by decide) ?_
        rw [h1]
        refine hG.br rfl rfl rfl rfl (fun h5 => ?_) (fun h5 => ?_)
        · have hn10 : n ≠ 10 := fun e => h5 (by rw [e]; rfl)
          refine hG.cV lk_M_99 mi_M_comes rfl rfl (c_M_comes n k nm b (by omega) h1) rfl rfl rfl rfl rfl rfl rfl rfl ?_
          rintro x σ'' ⟨rfl, rfl⟩
          refine hG.rt hR rfl rfl rfl rfl ?_
          rw [persF, hg, if_pos rfl, if_neg hn10]
          exact ⟨rfl, rfl⟩
        · have hn10 : n = 10 := (nI_eq (by omega) (by omega)).mp (show nI n = nI 10 from h5)
          refine hG.rt hR rfl rfl rfl rfl ?_
          rw [persF, hg, if_pos rfl, if_pos hn10]
          exact ⟨rfl, (upc_self σ' 96).symm⟩
      · exact bad (by rw [bi_eq0.mp h4]; simp)
theorem o_M_told (p w : Int32) (hf : FOk (σ 96) n c t y) : Ci l θ 5 m_M_told [.inr 95, .inl p, .inl w] σ (fun r σ' => r = toldR (σ 96) n p w ∧ σ' = σ) := by
  obtain ⟨h1, hn, -⟩ := hf
  refine Ci.of (Or.inl mi_M_told) pk_M_told (nb rfl) (Or.inl rfl) [some (.inr 95), some (.inl p), some (.inl w)] rfl fun Γ hG hR => ?_
  have bad : (inB p 0 (nI n - 1) && inB w 0 5) = false → X Γ 17 [some (.inr 95), some (.inl p), some (.inl w)] [] σ := by
    intro hb
    refine hG.rt hR rfl rfl rfl rfl ?_
    exact ⟨by rw [toldR, hb]; rfl, rfl⟩
  refine hG.cV lk_M_106 mi_M_isOne rfl rfl (c_M_isOne p) rfl rfl rfl rfl rfl rfl rfl rfl ?_
  rintro x σ' ⟨rfl, rfl⟩
  rw [h1]
  refine hG.br rfl rfl rfl rfl (fun h2 => ?_) (fun h2 => ?_)
  · exact bad (by rw [bi_eq0.mp h2]; rfl)
  · refine hG.cS lk_M_84 mi_M_in rfl rfl (c_M_in w 0 5) rfl rfl rfl rfl rfl rfl ?_
    rintro x σ' ⟨rfl, rfl⟩
    refine hG.br rfl rfl rfl rfl (fun h3 => ?_) (fun h3 => ?_)
    · obtain ⟨P, hP, rfl⟩ := (inB_one hn).mp (bi_ne0.mp h2)
      obtain ⟨W, hW, rfl⟩ := (inB_nI (m := 5) (by omega)).mp (bi_ne0.mp h3)
      have hg : toldR (σ' 96) n (nI P) (nI W) = if nI W < 4 then σ' 96 (18 + 4 * P + W) else if nI W = 4 then bi (holdF (σ' 96) P (σ' 96 2)) else worthK (σ' 96 (18 + 4 * P)) (σ' 96 (18 + 4 * P + 1)) := by
        rw [toldR, bi_ne0.mp h2, bi_ne0.mp h3, nI_clamp (by omega), nI_clamp (by omega)]; rfl
      refine hG.br rfl rfl rfl rfl (fun h4 => ?_) (fun h4 => ?_)
      · refine hG.br rfl rfl rfl rfl (fun h5 => ?_) (fun h5 => ?_)
        · refine hG.cV lk_M_113 mi_M_worthOf rfl rfl (c_M_worthOf P (by omega)) rfl rfl rfl rfl rfl rfl rfl rfl ?_
          rintro x σ' ⟨rfl, rfl⟩
          refine hG.rt hR rfl rfl rfl rfl ?_
          exact ⟨by rw [hg, if_neg (i32_nlt.mpr h4), if_neg h5], rfl⟩
        · refine hG.ld rfl 2 rfl rfl rfl rfl rfl (by decide) ?_
          refine hG.cV lk_M_109 mi_M_doesHold rfl rfl (c_M_doesHold P (σ' 96 2) (by omega)) rfl rfl rfl rfl rfl rfl rfl rfl ?_
          rintro x σ' ⟨rfl, rfl⟩
          refine hG.br rfl rfl rfl rfl (fun h6 => ?_) (fun h6 => ?_)
          · refine hG.rt hR rfl rfl rfl rfl ?_
            exact ⟨by rw [hg, if_neg (i32_nlt.mpr h4), if_pos h5, bi_eq0.mp h6]; rfl, rfl⟩
          · refine hG.rt hR rfl rfl rfl rfl ?_
            exact ⟨by rw [hg, if_neg (i32_nlt.mpr h4), if_pos h5, bi_ne0.mp h6]; rfl, rfl⟩
      · refine hG.cV lk_M_88 mi_M_of rfl rfl (c_M_of P W (by omega)) rfl rfl rfl rfl rfl rfl rfl rfl ?_
        rintro x σ' ⟨rfl, rfl⟩
        refine hG.rt hR rfl rfl rfl rfl ?_
        exact ⟨by rw [hg, if_pos (i32_nle.mp h4)], rfl⟩
    · exact bad (by rw [bi_eq0.mp h3]; simp)
theorem o_M_as (p k : Int32) (hf : FOk (σ 96) n c t y) : Ci l θ 5 m_M_as [.inr 95, .inl p, .inl k] σ (fun r σ' => r = asR (σ 96) n p k ∧ σ' = σ) := by
  obtain ⟨h1, hn, -⟩ := hf
  refine Ci.of (Or.inl mi_M_as) pk_M_as (nb rfl) (Or.inl rfl) [some (.inr 95), some (.inl p), some (.inl k)] rfl fun Γ hG hR => ?_
  have bad : (inB p 0 (nI n - 1) && inB k 0 5) = false → X Γ 17 [some (.inr 95), some (.inl p), some (.inl k)] [] σ := by
    intro hb
    refine hG.rt hR rfl rfl rfl rfl ?_
    exact ⟨by rw [asR, hb]; rfl, rfl⟩
  refine hG.cV lk_M_106 mi_M_isOne rfl rfl (c_M_isOne p) rfl rfl rfl rfl rfl rfl rfl rfl ?_
  rintro x σ' ⟨rfl, rfl⟩
  rw [h1]
  refine hG.br rfl rfl rfl rfl (fun h2 => ?_) (fun h2 => ?_)
  · exact bad (by rw [bi_eq0.mp h2]; rfl)
  · refine hG.cS lk_M_84 mi_M_in rfl rfl (c_M_in k 0 5) rfl rfl rfl rfl rfl rfl ?_
    rintro x σ' ⟨rfl, rfl⟩
    refine hG.br rfl rfl rfl rfl (fun h3 => ?_) (fun h3 => ?_)
    · obtain ⟨P, hP, rfl⟩ := (inB_one hn).mp (bi_ne0.mp h2)
      have hg : asR (σ' 96) n (nI P) k = if underK (σ' 96 (18 + 4 * P)) k then σ' 96 (18 + 4 * P + 1) else -1000000012 := by
        rw [asR, bi_ne0.mp h2, bi_ne0.mp h3, nI_clamp (by omega)]; rfl
      refine hG.cV lk_M_88 mi_M_of rfl rfl (c_M_of P 0 (by omega)) rfl rfl rfl rfl rfl rfl rfl rfl ?_
      rintro x σ' ⟨rfl, rfl⟩
      rw [show 18 + 4 * P + 0 = 18 + 4 * P from rfl]
      refine hG.cS lk_M_117 mi_M_isUnder rfl rfl (c_M_isUnder (σ' 96 (18 + 4 * P)) k) rfl rfl rfl rfl rfl rfl ?_
      rintro x σ' ⟨rfl, rfl⟩
      refine hG.br rfl rfl rfl rfl (fun h4 => ?_) (fun h4 => ?_)
      · refine hG.rt hR rfl rfl rfl rfl ?_
        exact ⟨by rw [hg, bi_eq0.mp h4]; rfl, rfl⟩
      · refine hG.cV lk_M_88 mi_M_of rfl rfl (c_M_of P 1 (by omega)) rfl rfl rfl rfl rfl rfl rfl rfl ?_
        rintro x σ' ⟨rfl, rfl⟩
        refine hG.rt hR rfl rfl rfl rfl ?_
        exact ⟨by rw [hg, bi_ne0.mp h4]; rfl, rfl⟩
    · exact bad (by rw [bi_eq0.mp h3]; simp)
theorem o_M_turns (p k : Int32) (hf : FOk (σ 96) n c t y) : Ci l θ 5 m_M_turns [.inr 95, .inl p, .inl k] σ (fun r σ' => r = (turnF (σ 96) n p k).1 ∧ σ' = upc σ 96 (turnF (σ 96) n p k).2) := by
  obtain ⟨h1, hn, -⟩ := hf
  refine Ci.of (Or.inl mi_M_turns) pk_M_turns (nb rfl) (Or.inl rfl) [some (.inr 95), some (.inl p), some (.inl k)] rfl fun Γ hG hR => ?_
  have bad : (inB p 0 (nI n - 1) && inB k 0 5) = false → X Γ 31 [some (.inr 95), some (.inl p), some (.inl k)] [] σ := by
    intro hb
    refine hG.rt hR rfl rfl rfl rfl ?_
    exact ⟨by rw [turnF, hb]; rfl, by rw [turnF, hb]; exact (upc_self σ 96).symm⟩
  refine hG.cV lk_M_106 mi_M_isOne rfl rfl (c_M_isOne p) rfl rfl rfl rfl rfl rfl rfl rfl ?_
  rintro x σ' ⟨rfl, rfl⟩
  rw [h1]
  refine hG.br rfl rfl rfl rfl (fun h2 => ?_) (fun h2 => ?_)
  · exact bad (by rw [bi_eq0.mp h2]; rfl)
  · refine hG.cS lk_M_84 mi_M_in rfl rfl (c_M_in k 0 5) rfl rfl rfl rfl rfl rfl ?_
    rintro x σ' ⟨rfl, rfl⟩
    refine hG.br rfl rfl rfl rfl (fun h3 => ?_) (fun h3 => ?_)
    · exact bad (by rw [bi_eq0.mp h3]; simp)
    · obtain ⟨P, hP, rfl⟩ := (inB_one hn).mp (bi_ne0.mp h2)
      have hg : turnF (σ' 96) n (nI P) k = (σ' 96 (18 + 4 * P), upd (σ' 96) (18 + 4 * P) k) := by
        rw [turnF, bi_ne0.mp h2, bi_ne0.mp h3, nI_clamp (by omega)]; rfl
      have e : 18 + 4 * nI P = nI (18 + 4 * P) := (by simp only [lit_nI, pk_mul, nI_add, nI_1]; first | done | rfl | (congr 1; omega))
      refine hG.go 8 rfl rfl ?_
      rw [e]
      refine hG.cV lk_M_121 mi_M_becomes rfl rfl (c_M_becomes (18 + 4 * P) k (by omega)) rfl rfl rfl rfl rfl rfl rfl rfl ?_
      rintro x σ'' ⟨rfl, rfl⟩
      refine hG.rt hR rfl rfl rfl rfl ?_
      rw [hg]
      exact ⟨rfl, rfl⟩
theorem o_M_set (p w v : Int32) (hf : FOk (σ 96) n c t y) : Ci l θ 5 m_M_set [.inr 95, .inl p, .inl w, .inl v] σ (fun r σ' => r = (setF (σ 96) n p w v).1 ∧ σ' = upc σ 96 (setF (σ 96) n p w v).2) := by
  obtain ⟨h1, hn, -⟩ := hf
  refine Ci.of (Or.inl mi_M_set) pk_M_set (nb rfl) (Or.inl rfl) [some (.inr 95), some (.inl p), some (.inl w), some (.inl v), none] rfl fun Γ hG hR => ?_
  have bad : (inB p 0 (nI n - 1) && inB w 1 3) = false → X Γ 17 [some (.inr 95), some (.inl p), some (.inl w), some (.inl v), none] [] σ := by
    intro hb
    refine hG.rt hR rfl rfl rfl rfl ?_
    exact ⟨by rw [setF, hb]; rfl, by rw [setF, hb]; exact (upc_self σ 96).symm⟩
  refine hG.cV lk_M_106 mi_M_isOne rfl rfl (c_M_isOne p) rfl rfl rfl rfl rfl rfl rfl rfl ?_
  rintro x σ' ⟨rfl, rfl⟩
  rw [h1]
  refine hG.br rfl rfl rfl rfl (fun h2 => ?_) (fun h2 => ?_)
  · exact bad (by rw [bi_eq0.mp h2]; rfl)
  · refine hG.cS lk_M_84 mi_M_in rfl rfl (c_M_in w 1 3) rfl rfl rfl rfl rfl rfl ?_
    rintro x σ' ⟨rfl, rfl⟩
    refine hG.br rfl rfl rfl rfl (fun h3 => ?_) (fun h3 => ?_)
    · obtain ⟨P, hP, rfl⟩ := (inB_one hn).mp (bi_ne0.mp h2)
      have h3' := bi_ne0.mp h3
      obtain ⟨W, hW1, hW2, rfl⟩ : ∃ W, 1 ≤ W ∧ W < 4 ∧ w = nI W := by
        simp only [inB, Bool.and_eq_true, decide_eq_true_eq] at h3'
        exact nI_of_range (a := 1) (b := 4) (by omega) (by omega) h3'.1 (Int32.lt_of_le_of_lt h3'.2 (by decide))
      have hg : setF (σ' 96) n (nI P) (nI W) v = if setK2 (σ' 96) P (nI W) v then (σ' 96 (18 + 4 * P + W), upd (σ' 96) (18 + 4 * P + W) v) else (-1000000001, σ' 96) := by
        rw [setF, bi_ne0.mp h2, h3', nI_clamp (by omega), nI_clamp (by omega)]; rfl
      have j100 : ∀ b : Bool, b = setK2 (σ' 96) P (nI W) v → X Γ 100 [some (.inr 95), some (.inl (nI P)), some (.inl (nI W)), some (.inl v), none] [.inl (bi b)] σ' := by
        rintro b rfl
        refine hG.br rfl rfl rfl rfl (fun h4 => ?_) (fun h4 => ?_)
        · refine hG.rt hR rfl rfl rfl rfl ?_
          rw [hg, bi_eq0.mp h4]
          exact ⟨rfl, (upc_self σ' 96).symm⟩
        · have e : 18 + 4 * nI P + nI W = nI (18 + 4 * P + W) := (by simp only [lit_nI, pk_mul, nI_add, nI_1]; first | done | rfl | (congr 1; omega))
          refine hG.go 9 rfl rfl ?_
          rw [e]
          refine hG.cV lk_M_121 mi_M_becomes rfl rfl (c_M_becomes (18 + 4 * P + W) v (by omega)) rfl rfl rfl rfl rfl rfl rfl rfl ?_
          rintro x σ'' ⟨rfl, rfl⟩
          refine hG.rt hR rfl rfl rfl rfl ?_
          rw [hg, bi_ne0.mp h4]
          exact ⟨rfl, rfl⟩
      refine hG.br rfl rfl rfl rfl (fun h4 => ?_) (fun h4 => ?_)
      · refine hG.br rfl rfl rfl rfl (fun h5 => ?_) (fun h5 => ?_)
        · have hs : setK2 (σ' 96) P (nI W) v = (decide (v = -1000000005) || inB v (σ' 96 (18 + 4 * P + 2)) (σ' 96 2)) := by rw [setK2, if_neg h4, if_neg h5]
          refine hG.br rfl rfl rfl rfl (fun h6 => ?_) (fun h6 => ?_)
          · exact hG.go 2 rfl rfl (j100 true (by rw [hs, h6]; rfl))
          · refine hG.cV lk_M_88 mi_M_of rfl rfl (c_M_of P 2 (by omega)) rfl rfl rfl rfl rfl rfl rfl rfl ?_
            rintro x σ' ⟨rfl, rfl⟩
            refine hG.ld rfl 2 rfl rfl rfl rfl rfl (by decide) ?_
            refine hG.cS lk_M_84 mi_M_in rfl rfl (c_M_in v (σ' 96 (18 + 4 * P + 2)) (σ' 96 2)) rfl rfl rfl rfl rfl rfl ?_
            rintro x σ' ⟨rfl, rfl⟩
            refine hG.br rfl rfl rfl rfl (fun h7 => ?_) (fun h7 => ?_)
            · exact hG.go 1 rfl rfl (j100 false (by rw [hs, bi_eq0.mp h7]; simp [h6]))
            · exact hG.go 2 rfl rfl (j100 true (by rw [hs, bi_ne0.mp h7]; simp))
        · have hs : setK2 (σ' 96) P (nI W) v = inB v (-999) (if aliveF (σ' 96) P then σ' 96 2 else σ' 96 (18 + 4 * P + 3)) := by rw [setK2, if_neg h4, if_pos h5]
          refine hG.cV lk_M_103 mi_M_isAlive rfl rfl (c_M_isAlive P (by omega)) rfl rfl rfl rfl rfl rfl rfl rfl ?_
          rintro x σ' ⟨rfl, rfl⟩
          refine hG.br rfl rfl rfl rfl (fun h6 => ?_) (fun h6 => ?_)
          · refine hG.cV lk_M_88 mi_M_of rfl rfl (c_M_of P 3 (by omega)) rfl rfl rfl rfl rfl rfl rfl rfl ?_
            rintro x σ' ⟨rfl, rfl⟩
            refine hG.cS lk_M_84 mi_M_in rfl rfl (c_M_in v (-999) (σ' 96 (18 + 4 * P + 3))) rfl rfl rfl rfl rfl rfl ?_
            rintro x σ' ⟨rfl, rfl⟩
            exact hG.go 1 rfl rfl (j100 _ (by rw [hs, bi_eq0.mp h6]; rfl))
          · refine hG.ld rfl 2 rfl rfl rfl rfl rfl (by decide) ?_
            refine hG.cS lk_M_84 mi_M_in rfl rfl (c_M_in v (-999) (σ' 96 2)) rfl rfl rfl rfl rfl rfl ?_
            rintro x σ' ⟨rfl, rfl⟩
            exact hG.go 1 rfl rfl (j100 _ (by rw [hs, bi_ne0.mp h6]; rfl))
      · have hs : setK2 (σ' 96) P (nI W) v = inB v 0 124 := by rw [setK2, if_pos h4]
        refine hG.cS lk_M_93 mi_M_isCalled rfl rfl (c_M_isCalled v) rfl rfl rfl rfl rfl rfl ?_
        rintro x σ' ⟨rfl, rfl⟩
        exact hG.go 1 rfl rfl (j100 _ hs.symm)
    · exact bad (by rw [bi_eq0.mp h3]; simp)
theorem o_M_holds (p yr : Int32) (hf : FOk (σ 96) n c t y) : Ci l θ 5 m_M_holds [.inr 95, .inl p, .inl yr] σ (fun r σ' => r = holdsR (σ 96) n p yr ∧ σ' = σ) := by
  obtain ⟨h1, hn, -⟩ := hf
  refine Ci.of (Or.inl mi_M_holds) pk_M_holds (nb rfl) (Or.inl rfl) [some (.inr 95), some (.inl p), some (.inl yr)] rfl fun Γ hG hR => ?_
  have bad : (inB p 0 (nI n - 1) && inB yr (-999) 99999) = false → X Γ 15 [some (.inr 95), some (.inl p), some (.inl yr)] [] σ := by
    intro hb
    refine hG.rt hR rfl rfl rfl rfl ?_
    exact ⟨by rw [holdsR, hb]; rfl, rfl⟩
  refine hG.cV lk_M_106 mi_M_isOne rfl rfl (c_M_isOne p) rfl rfl rfl rfl rfl rfl rfl rfl ?_
  rintro x σ' ⟨rfl, rfl⟩
  rw [h1]
  refine hG.br rfl rfl rfl rfl (fun h2 => ?_) (fun h2 => ?_)
  · exact bad (by rw [bi_eq0.mp h2]; rfl)
  · refine hG.cS lk_M_125 mi_M_isYear rfl rfl (c_M_isYear yr) rfl rfl rfl rfl rfl rfl ?_
    rintro x σ' ⟨rfl, rfl⟩
    refine hG.br rfl rfl rfl rfl (fun h3 => ?_) (fun h3 => ?_)
    · obtain ⟨P, hP, rfl⟩ := (inB_one hn).mp (bi_ne0.mp h2)
      have hg : holdsR (σ' 96) n (nI P) yr = bi (holdF (σ' 96) P yr) := by
        rw [holdsR, bi_ne0.mp h2, bi_ne0.mp h3, nI_clamp (by omega)]; rfl
      refine hG.cV lk_M_109 mi_M_doesHold rfl rfl (c_M_doesHold P yr (by omega)) rfl rfl rfl rfl rfl rfl rfl rfl ?_
      rintro x σ' ⟨rfl, rfl⟩
      refine hG.br rfl rfl rfl rfl (fun h4 => ?_) (fun h4 => ?_)
      · refine hG.rt hR rfl rfl rfl rfl ?_
        exact ⟨by rw [hg, bi_eq0.mp h4]; rfl, rfl⟩
      · refine hG.rt hR rfl rfl rfl rfl ?_
        exact ⟨by rw [hg, bi_ne0.mp h4]; rfl, rfl⟩
    · exact bad (by rw [bi_eq0.mp h3]; simp)
theorem o_M_apart (a b : Int32) : Ci l θ 5 m_M_apart [.inr 95, .inl a, .inl b] σ (fun r σ' => r = apartR a b ∧ σ' = σ) := by
  refine Ci.of (Or.inl mi_M_apart) pk_M_apart (nb rfl) (Or.inl rfl) [some (.inr 95), some (.inl a), some (.inl b)] rfl fun Γ hG hR => ?_
  have bad : (inB a 0 124 && inB b 0 124) = false → X Γ 22 [some (.inr 95), some (.inl a), some (.inl b)] [] σ := by
    intro hb
    refine hG.rt hR rfl rfl rfl rfl ?_
    exact ⟨by rw [apartR, hb]; rfl, rfl⟩
  refine hG.cS lk_M_93 mi_M_isCalled rfl rfl (c_M_isCalled a) rfl rfl rfl rfl rfl rfl ?_
  rintro x σ' ⟨rfl, rfl⟩
  refine hG.br rfl rfl rfl rfl (fun h2 => ?_) (fun h2 => ?_)
  · exact bad (by rw [bi_eq0.mp h2]; rfl)
  · refine hG.cS lk_M_93 mi_M_isCalled rfl rfl (c_M_isCalled b) rfl rfl rfl rfl rfl rfl ?_
    rintro x σ' ⟨rfl, rfl⟩
    refine hG.br rfl rfl rfl rfl (fun h3 => ?_) (fun h3 => ?_)
    · exact bad (by rw [bi_eq0.mp h3]; simp)
    · refine hG.cS lk_M_128 mi_M_apartOf rfl rfl (c_M_apartOf a b) rfl rfl rfl rfl rfl rfl ?_
      rintro x σ' ⟨rfl, rfl⟩
      refine hG.rt hR rfl rfl rfl rfl ?_
      exact ⟨by rw [apartR, bi_ne0.mp h2, bi_ne0.mp h3, apF_eq]; rfl, rfl⟩
theorem o_M_lifetime (v : Int32) : Ci l θ 5 m_M_lifetime [.inr 95, .inl v] σ (fun r σ' => r = (lifeF (σ 96) v).1 ∧ σ' = upc σ 96 (lifeF (σ 96) v).2) := by
  refine Ci.of (Or.inl mi_M_lifetime) pk_M_lifetime (nb rfl) (Or.inl rfl) [some (.inr 95), some (.inl v)] rfl fun Γ hG hR => ?_
  refine hG.cS lk_M_84 mi_M_in rfl rfl (c_M_in v 0 200) rfl rfl rfl rfl rfl rfl ?_
  rintro x σ' ⟨rfl, rfl⟩
  refine hG.br rfl rfl rfl rfl (fun h2 => ?_) (fun h2 => ?_)
  · refine hG.rt hR rfl rfl rfl rfl ?_
    rw [lifeF, bi_eq0.mp h2]
    exact ⟨rfl, (upc_self σ' 96).symm⟩
  · refine hG.cV lk_M_121 mi_M_becomes rfl rfl (c_M_becomes 3 v (by omega)) rfl rfl rfl rfl rfl rfl rfl rfl ?_
    rintro x σ'' ⟨rfl, rfl⟩
    refine hG.rt hR rfl rfl rfl rfl ?_
    rw [lifeF, bi_ne0.mp h2]
    exact ⟨rfl, rfl⟩
theorem o_M_seed (v : Int32) : Ci l θ 5 m_M_seed [.inr 95, .inl v] σ (fun r σ' => r = (seedF (σ 96) v).1 ∧ σ' = upc σ 96 (seedF (σ 96) v).2) := by
  refine Ci.of (Or.inl mi_M_seed) pk_M_seed (nb rfl) (Or.inl rfl) [some (.inr 95), some (.inl v)] rfl fun Γ hG hR => ?_
  refine hG.cV lk_M_121 mi_M_becomes rfl rfl (c_M_becomes 0 v (by omega)) rfl rfl rfl rfl rfl rfl rfl rfl ?_
  rintro x σ'' ⟨rfl, rfl⟩
  refine hG.rt hR rfl rfl rfl rfl ?_
  exact ⟨rfl, rfl⟩
theorem o_M_forget : Ci l θ 5 m_M_forget [.inr 95] σ (fun r σ' => r = (forgF (σ 96)).1 ∧ σ' = upc σ 96 (forgF (σ 96)).2) := by
  refine Ci.of (Or.inl mi_M_forget) pk_M_forget (nb rfl) (Or.inl rfl) [some (.inr 95)] rfl fun Γ hG hR => ?_
  refine hG.cV lk_M_121 mi_M_becomes rfl rfl (c_M_becomes 4 0 (by omega)) rfl rfl rfl rfl rfl rfl rfl rfl ?_
  rintro x σ'' ⟨rfl, rfl⟩
  refine hG.rt hR rfl rfl rfl rfl ?_
  exact ⟨rfl, rfl⟩
end
