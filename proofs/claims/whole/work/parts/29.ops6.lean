def porT (f cs : Nat → Int32) (p : Nat) : Int32 := if cs p = -1000000005 then f (18 + 4 * p + 1) else withinF (cs p) 0 124
def porL (cs : Nat → Int32) (f : Nat → Int32) (p : Nat) : Nat → Nat → (Nat → Int32) × Nat
  | 0, a => (f, a)
  | m + 1, a => porL cs (upd f (18 + 4 * p + 1) (porT f cs p)) (p + 1) m (a + if f (18 + 4 * p + 1) = porT f cs p then 0 else 1)
def porF (f so sz ce : Nat → Int32) (n : Nat) (s : Int32) : Int32 × (Nat → Int32) := if inB s 0 3 then (if so s.toNatClampNeg < 0 then (-1000000011, f) else (nI (porL (fun k => ce (24 * s.toNatClampNeg + k)) f 0 (min (sz s.toNatClampNeg).toNatClampNeg n) 0).2, (porL (fun k => ce (24 * s.toNatClampNeg + k)) f 0 (min (sz s.toNatClampNeg).toNatClampNeg n) 0).1)) else (-1000000001, f)
def rdsF (f cs : Nat → Int32) (n Z : Nat) : Int32 := optN (-1000000005) (fndB (fun k => decide (¬ cs k = -1000000005) && (!decide (k < n) || decide (¬ cs k = f (18 + 4 * k + 1)))) 0 Z)
def rdsR (f so sz ce : Nat → Int32) (n : Nat) (s : Int32) : Int32 := if inB s 0 3 then (if so s.toNatClampNeg < 0 then -1000000011 else rdsF f (fun k => ce (24 * s.toNatClampNeg + k)) n (sz s.toNatClampNeg).toNatClampNeg) else -1000000001
def cpyG (pl at_ many zf zt : Int32) : Bool := decide (0 ≤ pl) && decide (0 ≤ at_) && decide (0 ≤ many) && decide (pl ≤ zf - many) && decide (at_ ≤ zt - many)
def cpyF (so sz ce : Nat → Int32) (fr pl to at_ many : Int32) : Int32 × (Nat → Int32) := if inB fr 0 3 && inB to 0 3 then (if so fr.toNatClampNeg < 0 ∨ so to.toNatClampNeg < 0 then (-1000000011, ce) else if so fr.toNatClampNeg = so to.toNatClampNeg then (if cpyG pl at_ many (sz fr.toNatClampNeg) (sz to.toNatClampNeg) then (many, va_cpy ce ce (24 * fr.toNatClampNeg + pl.toNatClampNeg) (24 * to.toNatClampNeg + at_.toNatClampNeg) many.toNatClampNeg) else (-1000000013, ce)) else (-1000000012, ce)) else (-1000000001, ce)
def layG (s th k : Int32) (n : Nat) : Bool := inB s 0 4 && inB th 0 3 && !(decide (th = 1) && !inB k 0 (nI n - 1)) && !(decide (th = 2) && !inB k 0 3)
def layA (f sz : Nat → Int32) (th k : Int32) : Int32 := if th = 1 then f (18 + 4 * k.toNatClampNeg) else if th = 2 then sz k.toNatClampNeg else k
def layB (f : Nat → Int32) (th k : Int32) : Int32 := if th = 1 then worthK (f (18 + 4 * k.toNatClampNeg)) (f (18 + 4 * k.toNatClampNeg + 1)) else 0
def layC (hc ce : Nat → Int32) (S : Nat) (th k : Int32) : Nat → Int32 := if th = 2 then va_cpy ce hc (24 * k.toNatClampNeg) (24 * S) 24 else hc
def LOk (sl ha : Nat → Int32) : Prop := ∀ s, s < 5 → (sl s = 0 ∨ sl s = 1 ∨ sl s = 2 ∨ sl s = 3) ∧ (sl s = 2 → ∃ k, k ≤ 24 ∧ ha s = nI k)
def askR (sl ha hb : Nat → Int32) (s k : Int32) : Int32 := if inB s 0 4 && inB k 0 5 then (if sl s.toNatClampNeg = 0 then -1000000011 else if sl s.toNatClampNeg = 1 ∧ underK (ha s.toNatClampNeg) k = true then hb s.toNatClampNeg else -1000000012) else -1000000001
def itmR (sl ha hc : Nat → Int32) (s p : Int32) : Int32 := if inB s 0 4 then (if sl s.toNatClampNeg = 0 then -1000000011 else if ¬ sl s.toNatClampNeg = 2 then -1000000012 else if inB p 0 (ha s.toNatClampNeg - 1) then (if hc (24 * s.toNatClampNeg + p.toNatClampNeg) = -1000000005 then -1000000012 else hc (24 * s.toNatClampNeg + p.toNatClampNeg)) else -1000000013) else -1000000001
def rstR (sl ha : Nat → Int32) (s k : Int32) : Int32 := if inB s 0 4 then (if sl s.toNatClampNeg = 0 then -1000000011 else if ¬ sl s.toNatClampNeg = 3 then -1000000012 else if k = 0 then -1000000002 else if k = -1 then 0 else rmI (ha s.toNatClampNeg) k) else -1000000001
theorem cpyG_ok {pl at_ many : Int32} {zf zt : Nat} (h1 : zf ≤ 24) (h2 : zt ≤ 24) (h : cpyG pl at_ many (nI zf) (nI zt) = true) : ∃ P A m : Nat, pl = nI P ∧ at_ = nI A ∧ many = nI m ∧ P + m ≤ zf ∧ A + m ≤ zt := by
  simp only [cpyG, Bool.and_eq_true, decide_eq_true_eq] at h
  obtain ⟨⟨⟨⟨a1, a2⟩, a3⟩, a4⟩, a5⟩ := h
  obtain ⟨P, hP, rfl⟩ := nI_of (i32_nlt.mpr a1)
  obtain ⟨A, hA, rfl⟩ := nI_of (i32_nlt.mpr a2)
  obtain ⟨m, hm, rfl⟩ := nI_of (i32_nlt.mpr a3)
  have key : ∀ z q : Nat, z ≤ 24 → q < 2 ^ 31 → nI q ≤ nI z - nI m → q + m ≤ z := by
    intro z q hz hq hle
    by_cases hmz : m ≤ z
    · rw [pk_sub hmz] at hle
      have := (nI_leI hq (by omega)).mp hle
      omega
    · exfalso
      have h3 := Int32.le_iff_toInt_le.mp hle
      have h4 : (nI z - nI m).toInt = (z : Int) - m := by
        rw [Int32.toInt_sub, nI_toInt (show z < 2 ^ 31 by omega), nI_toInt hm]
        apply Int.bmod_eq_of_le <;> omega
      rw [h4, nI_toInt hq] at h3
      omega
  exact ⟨P, A, m, rfl, rfl, rfl, key zf P h1 hP a4, key zt A h2 hA a5⟩
section
variable {l : Launch} {θ : Th} {σ : Sg} {n c t y : Nat}
theorem o_M_pour (s : Int32) (hf : FOk (σ 96) n c t y) (hs : SOk (σ 111) (σ 112)) : Ci l θ 5 m_M_pour [.inr 95, .inl s] σ (fun r σ' => r = (porF (σ 96) (σ 111) (σ 112) (σ 113) n s).1 ∧ σ' = upc σ 96 (porF (σ 96) (σ 111) (σ 112) (σ 113) n s).2) := by
  obtain ⟨h1, hn, h4, hc, h5, ht, h2, h2y, hT, hW⟩ := hf
  refine Ci.of (Or.inl mi_M_pour) pk_M_pour (nb rfl) (Or.inl rfl) [some (.inr 95), some (.inl s), none, none, none, none] rfl fun Γ hG hR => ?_
  refine hG.cS lk_M_192 mi_M_isSheet rfl rfl (c_M_isSheet s) rfl rfl rfl rfl rfl rfl ?_
  rintro x σ' ⟨rfl, rfl⟩
  refine hG.br rfl rfl rfl rfl (fun k1 => ?_) (fun k1 => ?_)
  · obtain ⟨S, hS1, hS2, rfl⟩ := inB_ab 0 3 (by omega) (by omega) (bi_ne0.mp k1)
    obtain ⟨hso, Z, hZ, hsz⟩ := hs S (by omega)
    refine hG.ld rfl S rfl rfl rfl rfl rfl (by omega) ?_
    refine hG.br rfl rfl rfl rfl (fun k2 => ?_) (fun k2 => ?_)
    · have hg : porF (σ' 96) (σ' 111) (σ' 112) (σ' 113) n (nI S) = (nI (porL (fun k => σ' 113 (24 * S + k)) (σ' 96) 0 (min Z n) 0).2, (porL (fun k => σ' 113 (24 * S + k)) (σ' 96) 0 (min Z n) 0).1) := by
        rw [porF, bi_ne0.mp k1, if_pos rfl, nI_clamp (by omega), if_neg (i32_nlt.mpr k2), hsz, nI_clamp (by omega)]
      have loop : ∀ m p a, p + m = min Z n → ∀ (g : Nat → Int32) (w4 w5 : Option AV), g 1 = nI n → porL (fun k => σ' 113 (24 * S + k)) (σ' 96) 0 (min Z n) 0 = porL (fun k => σ' 113 (24 * S + k)) g p m a → X Γ 26 [some (.inr 95), some (.inl (nI S)), some (.inl (nI a)), some (.inl (nI p)), w4, w5] [] (upc σ' 96 g) := by
        intro m
        induction m with
        | zero =>
          intro p a hp g w4 w5 g1 he
          have fin : X Γ 118 [some (.inr 95), some (.inl (nI S)), some (.inl (nI a)), some (.inl (nI p)), w4, w5] [] (upc σ' 96 g) := by
            refine hG.rt hR rfl rfl rfl rfl ?_
            rw [hg, he]
            exact ⟨rfl, rfl⟩
          refine hG.ld rfl S rfl rfl rfl rfl rfl (by omega) ?_
          rw [upc_c _ _ _ (show 112 ≠ 96 by decide), hsz]
          refine hG.br rfl rfl rfl rfl (fun k3 => ?_) (fun k3 => ?_)
          · exact fin
          · refine hG.ld rfl 1 rfl rfl rfl rfl rfl (by decide) ?_
            rw [upc_same, g1]
            refine hG.br rfl rfl rfl rfl (fun k4 => ?_) (fun k4 => ?_)
            · exact fin
            · exfalso
              have q1 : ¬ Z ≤ p := fun q => k3 (nI_le q (by omega))
              have q2 : ¬ n ≤ p := fun q => k4 (nI_le q (by omega))
              omega
        | succ m ih =>
          intro p a hp g w4 w5 g1 he
          have he : porL (fun k => σ' 113 (24 * S + k)) (σ' 96) 0 (min Z n) 0 = porL (fun k => σ' 113 (24 * S + k)) (upd g (18 + 4 * p + 1) (porT g (fun k => σ' 113 (24 * S + k)) p)) (p + 1) m (a + if g (18 + 4 * p + 1) = porT g (fun k => σ' 113 (24 * S + k)) p then 0 else 1) := he
          have j83 : X Γ 83 [some (.inr 95), some (.inl (nI S)), some (.inl (nI a)), some (.inl (nI p)), some (.inl (σ' 113 (24 * S + p))), w5] [.inl (porT g (fun k => σ' 113 (24 * S + k)) p)] (upc σ' 96 g) := by
            generalize porT g (fun k => σ' 113 (24 * S + k)) p = z at he
            have e : 18 + 4 * nI p + 1 = nI (18 + 4 * p + 1) := (by simp only [lit_nI, pk_mul, nI_add, nI_1]; first | done | rfl | (congr 1; omega))
            refine hG.go 11 rfl rfl ?_
            rw [e]
            refine hG.cV lk_M_121 mi_M_becomes rfl rfl (c_M_becomes (18 + 4 * p + 1) z (by omega)) rfl rfl rfl rfl rfl rfl rfl rfl ?_
            rintro x τ ⟨rfl, rfl⟩
            rw [up_upc, upc_same]
            refine hG.br rfl rfl rfl rfl (fun k5 => ?_) (fun k5 => ?_)
            · rw [if_neg k5] at he
              refine hG.jp rfl rfl rfl ?_
              rw [nI_1, nI_1]
              exact ih (p + 1) (a + 1) (by omega) _ _ _ (by rw [upd_ne (by omega)]; exact g1) he
            · rw [if_pos k5] at he
              refine hG.jp rfl rfl rfl ?_
              rw [nI_1, show nI a + 0 = nI (a + 0) from nI_add a 0]
              exact ih (p + 1) (a + 0) (by omega) _ _ _ (by rw [upd_ne (by omega)]; exact g1) he
          refine hG.ld rfl S rfl rfl rfl rfl rfl (by omega) ?_
          rw [upc_c _ _ _ (show 112 ≠ 96 by decide), hsz]
          refine hG.br rfl rfl rfl rfl (fun k3 => ?_) (fun k3 => ?_)
          · exact absurd k3 (nI_ge (by omega) (by omega))
          · refine hG.ld rfl 1 rfl rfl rfl rfl rfl (by decide) ?_
            rw [upc_same, g1]
            refine hG.br rfl rfl rfl rfl (fun k4 => ?_) (fun k4 => ?_)
            · exact absurd k4 (nI_ge (by omega) (by omega))
            · refine hG.ld rfl (24 * S + p) rfl rfl rfl rfl (by simp only [lit_nI, pk_mul, nI_add, nI_1]; first | done | rfl | (congr 1; omega)) (by omega) ?_
              rw [upc_c _ _ _ (show 113 ≠ 96 by decide)]
              refine hG.br rfl rfl rfl rfl (fun k5 => ?_) (fun k5 => ?_)
              · refine hG.cS lk_M_174 mi_M_within rfl rfl (c_M_within _ 0 124) rfl rfl rfl rfl rfl rfl ?_
                rintro x τ ⟨rfl, rfl⟩
                rw [porT, if_neg k5] at j83
                exact j83
              · refine hG.cV lk_M_88 mi_M_of rfl rfl (c_M_of p 1 (by omega)) rfl rfl rfl rfl rfl rfl rfl rfl ?_
                rintro x τ ⟨rfl, rfl⟩
                rw [upc_same]
                rw [porT, if_pos k5] at j83
                exact hG.go 1 rfl rfl j83
      have := loop (min Z n) 0 0 (by omega) (σ' 96) none none h1 rfl
      rw [upc_self] at this
      exact hG.go 4 rfl rfl this
    · refine hG.rt hR rfl rfl rfl rfl ?_
      rw [porF, bi_ne0.mp k1, if_pos rfl, nI_clamp (by omega), if_pos (i32_nle.mp k2)]
      exact ⟨rfl, (upc_self σ' 96).symm⟩
  · refine hG.rt hR rfl rfl rfl rfl ?_
    rw [porF, bi_eq0.mp k1]
    exact ⟨rfl, (upc_self σ' 96).symm⟩
theorem o_M_reads (s : Int32) (hf : FOk (σ 96) n c t y) (hs : SOk (σ 111) (σ 112)) : Ci l θ 5 m_M_reads [.inr 95, .inl s] σ (fun r σ' => r = rdsR (σ 96) (σ 111) (σ 112) (σ 113) n s ∧ σ' = σ) := by
  obtain ⟨h1, hn, h4, hc, h5, ht, h2, h2y, hT, hW⟩ := hf
  refine Ci.of (Or.inl mi_M_reads) pk_M_reads (nb rfl) (Or.inl rfl) [some (.inr 95), some (.inl s), none, none] rfl fun Γ hG hR => ?_
  refine hG.cS lk_M_192 mi_M_isSheet rfl rfl (c_M_isSheet s) rfl rfl rfl rfl rfl rfl ?_
  rintro x σ' ⟨rfl, rfl⟩
  refine hG.br rfl rfl rfl rfl (fun k1 => ?_) (fun k1 => ?_)
  · obtain ⟨S, hS1, hS2, rfl⟩ := inB_ab 0 3 (by omega) (by omega) (bi_ne0.mp k1)
    obtain ⟨hso, Z, hZ, hsz⟩ := hs S (by omega)
    refine hG.ld rfl S rfl rfl rfl rfl rfl (by omega) ?_
    refine hG.br rfl rfl rfl rfl (fun k2 => ?_) (fun k2 => ?_)
    · have hg : rdsR (σ' 96) (σ' 111) (σ' 112) (σ' 113) n (nI S) = rdsF (σ' 96) (fun k => σ' 113 (24 * S + k)) n Z := by
        rw [rdsR, bi_ne0.mp k1, if_pos rfl, nI_clamp (by omega), if_neg (i32_nlt.mpr k2), hsz, nI_clamp (by omega)]
      generalize hP : (fun k => decide (¬ σ' 113 (24 * S + k) = -1000000005) && (!decide (k < n) || decide (¬ σ' 113 (24 * S + k) = σ' 96 (18 + 4 * k + 1)))) = P
      have hg2 : rdsF (σ' 96) (fun k => σ' 113 (24 * S + k)) n Z = optN (-1000000005) (fndB P 0 Z) := by rw [rdsF, ← hP]
      have loop : ∀ m k, k + m = Z → ∀ w : Option AV, fndB P 0 Z = fndB P k m → X Γ 24 [some (.inr 95), some (.inl (nI S)), some (.inl (nI k)), w] [] σ' := by
        intro m
        induction m with
        | zero =>
          intro k hk w he
          refine hG.ld rfl S rfl rfl rfl rfl rfl (by omega) ?_
          rw [hsz]
          refine hG.br rfl rfl rfl rfl (fun k3 => ?_) (fun k3 => ?_)
          · refine hG.rt hR rfl rfl rfl rfl ?_
            exact ⟨by rw [hg, hg2, he]; rfl, rfl⟩
          · exact absurd (nI_le (show Z ≤ k by omega) (by omega)) k3
        | succ m ih =>
          intro k hk w he
          rw [fndB_s _ _ m] at he
          have hPk : P k = (decide (¬ σ' 113 (24 * S + k) = -1000000005) && (!decide (k < n) || decide (¬ σ' 113 (24 * S + k) = σ' 96 (18 + 4 * k + 1)))) := by rw [← hP]
          have found : P k = true → X Γ 70 [some (.inr 95), some (.inl (nI S)), some (.inl (nI k)), some (.inl (σ' 113 (24 * S + k)))] [] σ' := by
            intro hp
            refine hG.rt hR rfl rfl rfl rfl ?_
            exact ⟨by rw [hg, hg2, he, hp]; rfl, rfl⟩
          have next : P k = false → X Γ 72 [some (.inr 95), some (.inl (nI S)), some (.inl (nI k)), some (.inl (σ' 113 (24 * S + k)))] [] σ' := by
            intro hp
            refine hG.jp rfl rfl rfl ?_
            rw [nI_1]
            exact ih (k + 1) (by omega) _ (by rw [he, hp]; rfl)
          refine hG.ld rfl S rfl rfl rfl rfl rfl (by omega) ?_
          rw [hsz]
          refine hG.br rfl rfl rfl rfl (fun k3 => ?_) (fun k3 => ?_)
          · exact absurd k3 (nI_ge (by omega) (by omega))
          · refine hG.ld rfl (24 * S + k) rfl rfl rfl rfl (by simp only [lit_nI, pk_mul, nI_add, nI_1]; first | done | rfl | (congr 1; omega)) (by omega) ?_
            refine hG.br rfl rfl rfl rfl (fun k4 => ?_) (fun k4 => ?_)
            · exact next (by rw [hPk]; simp [k4])
            · refine hG.cV lk_M_106 mi_M_isOne rfl rfl (c_M_isOne (nI k)) rfl rfl rfl rfl rfl rfl rfl rfl ?_
              rintro x σ' ⟨rfl, rfl⟩
              rw [h1]
              refine hG.br rfl rfl rfl rfl (fun k5 => ?_) (fun k5 => ?_)
              · have hkn : ¬ k < n := fun q => by
                  have := (inB_one hn).mpr ⟨k, q, rfl⟩
                  rw [this] at k5; exact absurd k5 (by decide)
                exact found (by rw [hPk]; simp [k4, hkn])
              · obtain ⟨q, hq1, hq2⟩ := (inB_one hn).mp (bi_ne0.mp k5)
                have hkn : k < n := by rw [(nI_eq (by omega) (by omega)).mp hq2]; exact hq1
                refine hG.cV lk_M_88 mi_M_of rfl rfl (c_M_of k 1 (by omega)) rfl rfl rfl rfl rfl rfl rfl rfl ?_
                rintro x σ' ⟨rfl, rfl⟩
                refine hG.br rfl rfl rfl rfl (fun k6 => ?_) (fun k6 => ?_)
                · exact next (by rw [hPk]; simp [hkn, k6])
                · exact found (by rw [hPk]; simp [k4, k6])
      exact hG.go 2 rfl rfl (loop Z 0 (by omega) none rfl)
    · refine hG.rt hR rfl rfl rfl rfl ?_
      exact ⟨by rw [rdsR, bi_ne0.mp k1, if_pos rfl, nI_clamp (by omega), if_pos (i32_nle.mp k2)], rfl⟩
  · refine hG.rt hR rfl rfl rfl rfl ?_
    exact ⟨by rw [rdsR, bi_eq0.mp k1]; rfl, rfl⟩
theorem o_M_copy (fr pl to at_ many : Int32) (hs : SOk (σ 111) (σ 112)) : Ci l θ 5 m_M_copy [.inr 95, .inl fr, .inl pl, .inl to, .inl at_, .inl many] σ (fun r σ' => r = (cpyF (σ 111) (σ 112) (σ 113) fr pl to at_ many).1 ∧ σ' 113 = (cpyF (σ 111) (σ 112) (σ 113) fr pl to at_ many).2 ∧ Sm [113, 118] σ σ') := by
  refine Ci.of (Or.inl mi_M_copy) pk_M_copy (nb rfl) (Or.inl rfl) [some (.inr 95), some (.inl fr), some (.inl pl), some (.inl to), some (.inl at_), some (.inl many), none] rfl fun Γ hG hR => ?_
  have bad : (inB fr 0 3 && inB to 0 3) = false → X Γ 14 [some (.inr 95), some (.inl fr), some (.inl pl), some (.inl to), some (.inl at_), some (.inl many), none] [] σ := by
    intro hb
    refine hG.rt hR rfl rfl rfl rfl ?_
    rw [cpyF, hb]
    exact ⟨rfl, rfl, Sm.rf⟩
  refine hG.cS lk_M_192 mi_M_isSheet rfl rfl (c_M_isSheet fr) rfl rfl rfl rfl rfl rfl ?_
  rintro x σ' ⟨rfl, rfl⟩
  refine hG.br rfl rfl rfl rfl (fun k1 => ?_) (fun k1 => ?_)
  · exact bad (by rw [bi_eq0.mp k1]; rfl)
  · refine hG.cS lk_M_192 mi_M_isSheet rfl rfl (c_M_isSheet to) rfl rfl rfl rfl rfl rfl ?_
    rintro x σ' ⟨rfl, rfl⟩
    refine hG.br rfl rfl rfl rfl (fun k2 => ?_) (fun k2 => ?_)
    · obtain ⟨F, hF1, hF2, rfl⟩ := inB_ab 0 3 (by omega) (by omega) (bi_ne0.mp k1)
      obtain ⟨T, hT1, hT2, rfl⟩ := inB_ab 0 3 (by omega) (by omega) (bi_ne0.mp k2)
      obtain ⟨-, zf, hzf, hszf⟩ := hs F (by omega)
      obtain ⟨-, zt, hzt, hszt⟩ := hs T (by omega)
      have hg : cpyF (σ' 111) (σ' 112) (σ' 113) (nI F) pl (nI T) at_ many = if σ' 111 F < 0 ∨ σ' 111 T < 0 then (-1000000011, σ' 113) else if σ' 111 F = σ' 111 T then (if cpyG pl at_ many (nI zf) (nI zt) then (many, va_cpy (σ' 113) (σ' 113) (24 * F + pl.toNatClampNeg) (24 * T + at_.toNatClampNeg) many.toNatClampNeg) else (-1000000013, σ' 113)) else (-1000000012, σ' 113) := by
        rw [cpyF, bi_ne0.mp k1, bi_ne0.mp k2, Bool.and_self, if_pos rfl, nI_clamp (by omega), nI_clamp (by omega), hszf, hszt]
      have noth : σ' 111 F < 0 ∨ σ' 111 T < 0 → X Γ 35 [some (.inr 95), some (.inl (nI F)), some (.inl pl), some (.inl (nI T)), some (.inl at_), some (.inl many), none] [] σ' := by
        intro h
        refine hG.rt hR rfl rfl rfl rfl ?_
        rw [hg, if_pos h]
        exact ⟨rfl, rfl, Sm.rf⟩
      refine hG.ld rfl F rfl rfl rfl rfl rfl (by omega) ?_
      refine hG.br rfl rfl rfl rfl (fun k3 => ?_) (fun k3 => ?_)
      · exact noth (Or.inl k3)
      · refine hG.ld rfl T rfl rfl rfl rfl rfl (by omega) ?_
        refine hG.br rfl rfl rfl rfl (fun k4 => ?_) (fun k4 => ?_)
        · have hno : ¬ (σ' 111 F < 0 ∨ σ' 111 T < 0) := fun q => q.elim k3 (i32_nlt.mpr k4)
          rw [if_neg hno] at hg
          refine hG.ld rfl F rfl rfl rfl rfl rfl (by omega) ?_
          refine hG.ld rfl T rfl rfl rfl rfl rfl (by omega) ?_
          refine hG.br rfl rfl rfl rfl (fun k5 => ?_) (fun k5 => ?_)
          · rw [if_pos k5] at hg
            have idx : cpyG pl at_ many (nI zf) (nI zt) = false → X Γ 97 [some (.inr 95), some (.inl (nI F)), some (.inl pl), some (.inl (nI T)), some (.inl at_), some (.inl many), none] [] σ' := by
              intro h
              refine hG.rt hR rfl rfl rfl rfl ?_
              rw [hg, h]
              exact ⟨rfl, rfl, Sm.rf⟩
            refine hG.br rfl rfl rfl rfl (fun q1 => ?_) (fun q1 => ?_)
            · exact idx (by simp [cpyG, i32_nle.mpr q1])
            · refine hG.br rfl rfl rfl rfl (fun q2 => ?_) (fun q2 => ?_)
              · exact idx (by simp [cpyG, i32_nle.mpr q2])
              · refine hG.br rfl rfl rfl rfl (fun q3 => ?_) (fun q3 => ?_)
                · exact idx (by simp [cpyG, i32_nle.mpr q3])
                · refine hG.ld rfl F rfl rfl rfl rfl rfl (by omega) ?_
                  rw [hszf]
                  refine hG.br rfl rfl rfl rfl (fun q4 => ?_) (fun q4 => ?_)
                  · exact idx (by simp [cpyG, i32_nle.mpr q4])
                  · refine hG.ld rfl T rfl rfl rfl rfl rfl (by omega) ?_
                    rw [hszt]
                    refine hG.br rfl rfl rfl rfl (fun q5 => ?_) (fun q5 => ?_)
                    · have hok : cpyG pl at_ many (nI zf) (nI zt) = true := by simp [cpyG, i32_nlt.mp q1, i32_nlt.mp q2, i32_nlt.mp q3, i32_nlt.mp q4, q5]
                      obtain ⟨P, A, m0, rfl, rfl, rfl, hPm, hAm⟩ := cpyG_ok hzf hzt hok
                      rw [hok, if_pos rfl, nI_clamp (by omega), nI_clamp (by omega), nI_clamp (by omega)] at hg
                      have loop2 : ∀ m k, k + m = m0 → ∀ τ : Sg, Sm [113, 118] σ' τ → (∀ j, j < m0 → τ 118 j = σ' 113 (24 * F + P + j)) → τ 113 = va_cpy (σ' 113) (σ' 113) (24 * F + P) (24 * T + A) k → X Γ 141 [some (.inr 95), some (.inl (nI F)), some (.inl (nI P)), some (.inl (nI T)), some (.inl (nI A)), some (.inl (nI m0)), some (.inl (nI k))] [] τ := by
                        intro m
                        induction m with
                        | zero =>
                          intro k hk τ hS e118 e113
                          have hk : k = m0 := by omega
                          subst hk
                          refine hG.br rfl rfl rfl rfl (fun k6 => ?_) (fun k6 => ?_)
                          · refine hG.rt hR rfl rfl rfl rfl ?_
                            rw [hg]
                            exact ⟨rfl, e113, hS⟩
                          · exact absurd (nI_le (Nat.le_refl _) (by omega)) k6
                        | succ m ih =>
                          intro k hk τ hS e118 e113
                          refine hG.br rfl rfl rfl rfl (fun k6 => ?_) (fun k6 => ?_)
                          · exact absurd k6 (nI_ge (by omega) (by omega))
                          · refine hG.ld rfl k rfl rfl rfl rfl rfl (by omega) ?_
                            rw [e118 k (by omega)]
                            refine hG.sti rfl (24 * T + A + k) rfl rfl rfl (by simp only [lit_nI, pk_mul, nI_add, nI_1]; first | done | rfl | (congr 1; omega)) (by omega) ?_
                            refine hG.jp rfl rfl rfl ?_
                            rw [nI_1]
                            refine ih (k + 1) (by omega) _ (hS.up (by decide)) (fun j hj => by rw [up_c _ _ _ _ (show 118 ≠ 113 by decide)]; exact e118 j hj) ?_
                            rw [up_same, e113]
                            funext j
                            simp only [upd, va_cpy]
                            by_cases hj : j = 24 * T + A + k
                            · subst hj
                              rw [if_pos rfl, if_pos ⟨by omega, by omega⟩, show 24 * T + A + k - (24 * T + A) = k by omega]
                            · rw [if_neg hj]
                              by_cases hq : 24 * T + A ≤ j ∧ j < 24 * T + A + k
                              · rw [if_pos hq, if_pos ⟨hq.1, by omega⟩]
                              · rw [if_neg hq, if_neg (fun q => hq ⟨q.1, by omega⟩)]
                      have loop1 : ∀ m k, k + m = m0 → ∀ τ : Sg, Sm [118] σ' τ → (∀ j, j < k → τ 118 j = σ' 113 (24 * F + P + j)) → X Γ 104 [some (.inr 95), some (.inl (nI F)), some (.inl (nI P)), some (.inl (nI T)), some (.inl (nI A)), some (.inl (nI m0)), some (.inl (nI k))] [] τ := by
                        intro m
                        induction m with
                        | zero =>
                          intro k hk τ hS e118
                          have hk : k = m0 := by omega
                          subst hk
                          refine hG.br rfl rfl rfl rfl (fun k6 => ?_) (fun k6 => ?_)
                          · refine hG.go 2 rfl rfl (loop2 k 0 (by omega) τ (hS.mono (by decide)) e118 ?_)
                            rw [hS 113 (by decide)]
                            funext j
                            simp only [va_cpy]
                            rw [if_neg (by omega)]
                          · exact absurd (nI_le (Nat.le_refl _) (by omega)) k6
                        | succ m ih =>
                          intro k hk τ hS e118
                          refine hG.br rfl rfl rfl rfl (fun k6 => ?_) (fun k6 => ?_)
                          · exact absurd k6 (nI_ge (by omega) (by omega))
                          · refine hG.ld rfl (24 * F + P + k) rfl rfl rfl rfl (by simp only [lit_nI, pk_mul, nI_add, nI_1]; first | done | rfl | (congr 1; omega)) (by omega) ?_
                            rw [hS 113 (by decide)]
                            refine hG.sti rfl k rfl rfl rfl rfl (by omega) ?_
                            refine hG.jp rfl rfl rfl ?_
                            rw [nI_1]
                            refine ih (k + 1) (by omega) _ (hS.up (by decide)) (fun j hj => ?_)
                            rw [up_same]
                            by_cases hjk : j = k
                            · subst hjk; rw [upd_same]
                            · rw [upd_ne hjk]; exact e118 j (by omega)
                      exact hG.go 2 rfl rfl (loop1 m0 0 (by omega) σ' Sm.rf (fun j hj => by omega))
                    · exact idx (by simp [cpyG, q5])
          · refine hG.rt hR rfl rfl rfl rfl ?_
            rw [hg, if_neg k5]
            exact ⟨rfl, rfl, Sm.rf⟩
        · exact noth (Or.inr (i32_nle.mp k4))
    · exact bad (by rw [bi_eq0.mp k2]; simp)
end
