def chkL (te : Nat → Int32) (many : Nat) (n t : Nat) (f : Nat → Int32) (k : Nat) : Nat → Nat
  | 0 => 2 * k
  | m + 1 => if 2 * k < many ∧ te (2 * k) = nI (sumB (aliveF (yearF f n t).1) 0 n) then (if 2 * k + 1 < many ∧ te (2 * k + 1) = manyF (yearF f n t).1 n t then chkL te many n t (yearF f n t).1 (k + 1) m else 2 * k + 1) else 2 * k
def chkR (te : Nat → Int32) (many n t y : Nat) (f : Nat → Int32) (h : Bool) (k : Int32) : Int32 := if inB k 1 30 then (if h then (if chkL te many n t f 0 (min k.toNatClampNeg (9999 - y)) = many ∧ chkL te many n t f 0 (min k.toNatClampNeg (9999 - y)) = 2 * min k.toNatClampNeg (9999 - y) then 0 else nI (1 + chkL te many n t f 0 (min k.toNatClampNeg (9999 - y)))) else -1000000002) else -1000000001
theorem FOk_congr {f g : Nat → Int32} {n c t y : Nat} (h : FOk f n c t y) (he : ∀ k, k < 1430 → g k = f k) : FOk g n c t y := by
  obtain ⟨h1, hn, h4, hc, h5, ht, h2, h2y, hT, hW⟩ := h
  refine ⟨by rw [he _ (by omega)]; exact h1, hn, by rw [he _ (by omega)]; exact h4, hc, by rw [he _ (by omega)]; exact h5, ht, by rw [he _ (by omega)]; exact h2, h2y, fun i hi => ?_, fun i hi => ?_⟩
  · obtain ⟨ky, ln, a1, a2, a3⟩ := hT i hi
    refine ⟨ky, ln, by rw [he _ (by omega)]; exact a1, a2, CdOk_congr a3 (fun j hj => ?_)⟩
    have := a3.1
    exact he _ (by omega)
  · rw [he _ (by omega)]; exact hW i hi
section
variable {l : Launch} {θ : Th} {σ : Sg} {n c t y : Nat}
theorem o_M_lay (s th k : Int32) (hf : FOk (σ 96) n c t y) : Ci l θ 5 m_M_lay [.inr 95, .inl s, .inl th, .inl k] σ (fun r σ' => (layG s th k n = false → r = -1000000001 ∧ σ' = σ) ∧ (layG s th k n = true → (th = 2 ∧ σ 111 k.toNatClampNeg < 0) → r = -1000000011 ∧ σ' = σ) ∧ (layG s th k n = true → ¬ (th = 2 ∧ σ 111 k.toNatClampNeg < 0) → r = σ 114 s.toNatClampNeg ∧ σ' = upc (up (up (up σ 114 s.toNatClampNeg th) 115 s.toNatClampNeg (layA (σ 96) (σ 112) th k)) 116 s.toNatClampNeg (layB (σ 96) th k)) 117 (layC (σ 117) (σ 113) s.toNatClampNeg th k))) := by
  obtain ⟨h1, hn, -⟩ := hf
  refine Ci.of (Or.inl mi_M_lay) pk_M_lay (nb rfl) (Or.inl rfl) [some (.inr 95), some (.inl s), some (.inl th), some (.inl k), none, none] rfl fun Γ hG hR => ?_
  have bad : layG s th k n = false → X Γ 41 [some (.inr 95), some (.inl s), some (.inl th), some (.inl k), none, none] [] σ := by
    intro hb
    refine hG.rt hR rfl rfl rfl rfl ?_
    exact ⟨fun _ => ⟨rfl, rfl⟩, fun e => (by rw [hb] at e; cases e), fun e => (by rw [hb] at e; cases e)⟩
  refine hG.cS lk_M_270 mi_M_isSlot rfl rfl (c_M_isSlot s) rfl rfl rfl rfl rfl rfl ?_
  rintro x σ' ⟨rfl, rfl⟩
  refine hG.br rfl rfl rfl rfl (fun k1 => ?_) (fun k1 => ?_)
  · exact bad (by rw [layG, bi_eq0.mp k1]; rfl)
  · obtain ⟨S, hS1, hS2, rfl⟩ := inB_ab 0 4 (by omega) (by omega) (bi_ne0.mp k1)
    rw [nI_clamp (show S < 2 ^ 31 by omega)] at hR
    refine hG.cS lk_M_84 mi_M_in rfl rfl (c_M_in th 0 3) rfl rfl rfl rfl rfl rfl ?_
    rintro x σ' ⟨rfl, rfl⟩
    refine hG.br rfl rfl rfl rfl (fun k2 => ?_) (fun k2 => ?_)
    · exact bad (by rw [layG, bi_eq0.mp k2]; simp)
    · -- from 61 on
      have main : layG (nI S) th k n = true → ¬ (th = 2 ∧ σ' 111 k.toNatClampNeg < 0) → X Γ 61 [some (.inr 95), some (.inl (nI S)), some (.inl th), some (.inl k), none, none] [] σ' := by
        intro hg hno
        refine hG.ld rfl S rfl rfl rfl rfl rfl (by omega) ?_
        refine hG.sti rfl S rfl rfl rfl rfl (by omega) ?_
        have j110 : X Γ 110 [some (.inr 95), some (.inl (nI S)), some (.inl th), some (.inl k), some (.inl (σ' 114 S)), none] [.inl (layA (σ' 96) (σ' 112) th k), .inl (nI S), .inr 115] (up σ' 114 S th) := by
          refine hG.sti rfl S rfl rfl rfl rfl (by omega) ?_
          have j130 : X Γ 130 [some (.inr 95), some (.inl (nI S)), some (.inl th), some (.inl k), some (.inl (σ' 114 S)), none] [.inl (layB (σ' 96) th k), .inl (nI S), .inr 116] (up (up σ' 114 S th) 115 S (layA (σ' 96) (σ' 112) th k)) := by
            refine hG.sti rfl S rfl rfl rfl rfl (by omega) ?_
            generalize hτ : up (up (up σ' 114 S th) 115 S (layA (σ' 96) (σ' 112) th k)) 116 S (layB (σ' 96) th k) = τ
            have e117 : τ 117 = σ' 117 := by rw [← hτ, up_c _ _ _ _ (by decide), up_c _ _ _ _ (by decide), up_c _ _ _ _ (by decide)]
            have e113 : τ 113 = σ' 113 := by rw [← hτ, up_c _ _ _ _ (by decide), up_c _ _ _ _ (by decide), up_c _ _ _ _ (by decide)]
            have fin : ∀ (g : Nat → Int32) (w5 : Option AV), g = layC (σ' 117) (σ' 113) S th k → X Γ 176 [some (.inr 95), some (.inl (nI S)), some (.inl th), some (.inl k), some (.inl (σ' 114 S)), w5] [] (upc τ 117 g) := by
              rintro g w5 rfl
              refine hG.rt hR rfl rfl rfl rfl ?_
              exact ⟨fun e => (by rw [hg] at e; cases e), fun _ e => absurd e hno, fun _ _ => ⟨rfl, by rw [hτ]⟩⟩
            by_cases hth : th = 2
            · subst hth
              have hK : inB k 0 3 = true := by
                cases hk3 : inB k 0 3 with
                | true => rfl
                | false => rw [layG, hk3] at hg; simp at hg
              obtain ⟨K, hK1, hK2, rfl⟩ := inB_ab 0 3 (by omega) (by omega) hK
              have hlc : layC (σ' 117) (σ' 113) S 2 (nI K) = va_cpy (σ' 113) (σ' 117) (24 * K) (24 * S) 24 := by rw [layC, if_pos rfl, nI_clamp (by omega)]
              rw [hlc] at fin
              have loop : ∀ m j, j + m = 24 → X Γ 134 [some (.inr 95), some (.inl (nI S)), some (.inl 2), some (.inl (nI K)), some (.inl (σ' 114 S)), some (.inl (nI j))] [] (upc τ 117 (va_cpy (σ' 113) (σ' 117) (24 * K) (24 * S) j)) := by
                intro m
                induction m with
                | zero =>
                  intro j hj
                  have hj : j = 24 := by omega
                  subst hj
                  refine hG.br rfl rfl rfl rfl (fun k3 => ?_) (fun k3 => ?_)
                  · exact fin _ _ rfl
                  · exact absurd (show nI 24 ≤ nI 24 from nI_le (Nat.le_refl _) (by omega)) k3
                | succ m ih =>
                  intro j hj
                  refine hG.br rfl rfl rfl rfl (fun k3 => ?_) (fun k3 => ?_)
                  · exact absurd (show nI 24 ≤ nI j from k3) (nI_ge (by omega) (by omega))
                  · refine hG.br rfl rfl rfl rfl (fun k4 => ?_) (fun k4 => ?_)
                    · exact absurd rfl k4
                    · refine hG.ld rfl (24 * K + j) rfl rfl rfl rfl (by simp only [lit_nI, pk_mul, nI_add, nI_1]; first | done | rfl | (congr 1; omega)) (by omega) ?_
                      rw [upc_c _ _ _ (show 113 ≠ 117 by decide), e113]
                      refine hG.sti rfl (24 * S + j) rfl rfl rfl (by simp only [lit_nI, pk_mul, nI_add, nI_1]; first | done | rfl | (congr 1; omega)) (by omega) ?_
                      refine hG.jp rfl rfl rfl ?_
                      rw [nI_1, up_upc]
                      have e : upd (va_cpy (σ' 113) (σ' 117) (24 * K) (24 * S) j) (24 * S + j) (σ' 113 (24 * K + j)) = va_cpy (σ' 113) (σ' 117) (24 * K) (24 * S) (j + 1) := by
                        funext q
                        simp only [upd, va_cpy]
                        by_cases hq : q = 24 * S + j
                        · subst hq
                          rw [if_pos rfl, if_pos ⟨by omega, by omega⟩, show 24 * S + j - 24 * S = j by omega]
                        · rw [if_neg hq]
                          by_cases hr : 24 * S ≤ q ∧ q < 24 * S + j
                          · rw [if_pos hr, if_pos ⟨hr.1, by omega⟩]
                          · rw [if_neg hr, if_neg (fun z => hr ⟨z.1, by omega⟩)]
                      rw [e]
                      exact ih (j + 1) (by omega)
              have := loop 24 0 rfl
              rw [show va_cpy (σ' 113) (σ' 117) (24 * K) (24 * S) 0 = τ 117 by rw [e117]; funext q; simp only [va_cpy]; rw [if_neg (by omega)], upc_self] at this
              exact hG.go 2 rfl rfl this
            · have hlc : layC (σ' 117) (σ' 113) S th k = τ 117 := by rw [layC, if_neg hth, e117]
              have fin := fin (τ 117) (some (.inl 0)) hlc.symm
              rw [upc_self] at fin
              refine hG.br rfl rfl rfl rfl (fun k3 => ?_) (fun k3 => ?_)
              · exact absurd k3 (by decide)
              · refine hG.br rfl rfl rfl rfl (fun k4 => ?_) (fun k4 => ?_)
                · exact fin
                · exact absurd k4 hth
          refine hG.br rfl rfl rfl rfl (fun k3 => ?_) (fun k3 => ?_)
          · rw [layB, if_neg k3] at j130
            exact hG.go 1 rfl rfl j130
          · subst k3
            have hK : inB k 0 (nI n - 1) = true := by
              cases hk3 : inB k 0 (nI n - 1) with
              | true => rfl
              | false => rw [layG, hk3] at hg; simp at hg
            obtain ⟨K, hK1, rfl⟩ := (inB_one hn).mp hK
            refine hG.cV lk_M_113 mi_M_worthOf rfl rfl (c_M_worthOf K (by omega)) rfl rfl rfl rfl rfl rfl rfl rfl ?_
            rintro x τ ⟨rfl, rfl⟩
            rw [up_c _ _ _ _ (show 96 ≠ 115 by decide), up_c _ _ _ _ (show 96 ≠ 114 by decide)]
            rw [layB, if_pos rfl, nI_clamp (by omega)] at j130
            exact hG.go 1 rfl rfl j130
        refine hG.br rfl rfl rfl rfl (fun k3 => ?_) (fun k3 => ?_)
        · refine hG.br rfl rfl rfl rfl (fun k4 => ?_) (fun k4 => ?_)
          · rw [layA, if_neg k3, if_neg k4] at j110
            exact hG.go 1 rfl rfl j110
          · subst k4
            have hK : inB k 0 3 = true := by
              cases hk3 : inB k 0 3 with
              | true => rfl
              | false => rw [layG, hk3] at hg; simp at hg
            obtain ⟨K, hK1, hK2, rfl⟩ := inB_ab 0 3 (by omega) (by omega) hK
            refine hG.ld rfl K rfl rfl rfl rfl rfl (by omega) ?_
            rw [up_c _ _ _ _ (show 112 ≠ 114 by decide)]
            rw [layA, if_neg k3, if_pos rfl, nI_clamp (by omega)] at j110
            exact hG.go 1 rfl rfl j110
        · subst k3
          have hK : inB k 0 (nI n - 1) = true := by
            cases hk3 : inB k 0 (nI n - 1) with
            | true => rfl
            | false => rw [layG, hk3] at hg; simp at hg
          obtain ⟨K, hK1, rfl⟩ := (inB_one hn).mp hK
          refine hG.cV lk_M_88 mi_M_of rfl rfl (c_M_of K 0 (by omega)) rfl rfl rfl rfl rfl rfl rfl rfl ?_
          rintro x τ ⟨rfl, rfl⟩
          rw [up_c _ _ _ _ (show 96 ≠ 114 by decide)]
          rw [layA, if_pos rfl, nI_clamp (by omega)] at j110
          exact hG.go 1 rfl rfl j110
      have next2 : layG (nI S) th k n = true → X Γ 44 [some (.inr 95), some (.inl (nI S)), some (.inl th), some (.inl k), none, none] [] σ' := by
        intro hg
        refine hG.br rfl rfl rfl rfl (fun k3 => ?_) (fun k3 => ?_)
        · exact main hg (fun q => k3 q.1)
        · subst k3
          have hK : inB k 0 3 = true := by
            cases hk3 : inB k 0 3 with
            | true => rfl
            | false => rw [layG, hk3] at hg; simp at hg
          obtain ⟨K, hK1, hK2, rfl⟩ := inB_ab 0 3 (by omega) (by omega) hK
          refine hG.ld rfl K rfl rfl rfl rfl rfl (by omega) ?_
          refine hG.br rfl rfl rfl rfl (fun k4 => ?_) (fun k4 => ?_)
          · exact main hg (fun q => by rw [nI_clamp (by omega)] at q; exact i32_nlt.mpr k4 q.2)
          · refine hG.rt hR rfl rfl rfl rfl ?_
            have hy : (2 : Int32) = 2 ∧ σ' 111 (nI K).toNatClampNeg < 0 := ⟨rfl, by rw [nI_clamp (by omega)]; exact i32_nle.mp k4⟩
            exact ⟨fun e => (by rw [hg] at e; cases e), fun _ _ => ⟨rfl, rfl⟩, fun _ e => absurd hy e⟩
      have next1 : (decide (th = 1) && !inB k 0 (nI n - 1)) = false → X Γ 29 [some (.inr 95), some (.inl (nI S)), some (.inl th), some (.inl k), none, none] [] σ' := by
        intro ha
        refine hG.br rfl rfl rfl rfl (fun k3 => ?_) (fun k3 => ?_)
        · exact next2 (by rw [layG, bi_ne0.mp k1, bi_ne0.mp k2, ha]; simp [k3])
        · refine hG.cS lk_M_192 mi_M_isSheet rfl rfl (c_M_isSheet k) rfl rfl rfl rfl rfl rfl ?_
          rintro x σ' ⟨rfl, rfl⟩
          refine hG.br rfl rfl rfl rfl (fun k4 => ?_) (fun k4 => ?_)
          · exact next2 (by rw [layG, bi_ne0.mp k1, bi_ne0.mp k2, ha, bi_ne0.mp k4]; simp)
          · exact bad (by rw [layG, bi_eq0.mp k4]; simp [k3])
      refine hG.br rfl rfl rfl rfl (fun k3 => ?_) (fun k3 => ?_)
      · exact next1 (by simp [k3])
      · refine hG.cV lk_M_106 mi_M_isOne rfl rfl (c_M_isOne k) rfl rfl rfl rfl rfl rfl rfl rfl ?_
        rintro x σ' ⟨rfl, rfl⟩
        rw [h1]
        refine hG.br rfl rfl rfl rfl (fun k4 => ?_) (fun k4 => ?_)
        · exact bad (by rw [layG, bi_eq0.mp k4]; simp [k3])
        · exact next1 (by rw [bi_ne0.mp k4]; simp)
theorem o_M_ask (s k : Int32) : Ci l θ 5 m_M_ask [.inr 95, .inl s, .inl k] σ (fun r σ' => r = askR (σ 114) (σ 115) (σ 116) s k ∧ σ' = σ) := by
  refine Ci.of (Or.inl mi_M_ask) pk_M_ask (nb rfl) (Or.inl rfl) [some (.inr 95), some (.inl s), some (.inl k)] rfl fun Γ hG hR => ?_
  have bad : (inB s 0 4 && inB k 0 5) = false → X Γ 16 [some (.inr 95), some (.inl s), some (.inl k)] [] σ := by
    intro hb
    refine hG.rt hR rfl rfl rfl rfl ?_
    exact ⟨by rw [askR, hb]; rfl, rfl⟩
  refine hG.cS lk_M_270 mi_M_isSlot rfl rfl (c_M_isSlot s) rfl rfl rfl rfl rfl rfl ?_
  rintro x σ' ⟨rfl, rfl⟩
  refine hG.br rfl rfl rfl rfl (fun k1 => ?_) (fun k1 => ?_)
  · exact bad (by rw [bi_eq0.mp k1]; rfl)
  · refine hG.cS lk_M_84 mi_M_in rfl rfl (c_M_in k 0 5) rfl rfl rfl rfl rfl rfl ?_
    rintro x σ' ⟨rfl, rfl⟩
    refine hG.br rfl rfl rfl rfl (fun k2 => ?_) (fun k2 => ?_)
    · obtain ⟨S, hS1, hS2, rfl⟩ := inB_ab 0 4 (by omega) (by omega) (bi_ne0.mp k1)
      have hg : askR (σ' 114) (σ' 115) (σ' 116) (nI S) k = if σ' 114 S = 0 then -1000000011 else if σ' 114 S = 1 ∧ underK (σ' 115 S) k = true then σ' 116 S else -1000000012 := by
        rw [askR, bi_ne0.mp k1, bi_ne0.mp k2, Bool.and_self, if_pos rfl, nI_clamp (by omega)]
      refine hG.ld rfl S rfl rfl rfl rfl rfl (by omega) ?_
      refine hG.br rfl rfl rfl rfl (fun k3 => ?_) (fun k3 => ?_)
      · refine hG.ld rfl S rfl rfl rfl rfl rfl (by omega) ?_
        refine hG.br rfl rfl rfl rfl (fun k4 => ?_) (fun k4 => ?_)
        · refine hG.rt hR rfl rfl rfl rfl ?_
          exact ⟨by rw [hg, if_neg k3, if_neg (fun q => k4 q.1)], rfl⟩
        · refine hG.ld rfl S rfl rfl rfl rfl rfl (by omega) ?_
          refine hG.cS lk_M_117 mi_M_isUnder rfl rfl (c_M_isUnder _ k) rfl rfl rfl rfl rfl rfl ?_
          rintro x σ' ⟨rfl, rfl⟩
          refine hG.br rfl rfl rfl rfl (fun k5 => ?_) (fun k5 => ?_)
          · refine hG.rt hR rfl rfl rfl rfl ?_
            exact ⟨by rw [hg, if_neg k3, if_neg (fun q => by rw [bi_eq0.mp k5] at q; cases q.2)], rfl⟩
          · refine hG.ld rfl S rfl rfl rfl rfl rfl (by omega) ?_
            refine hG.rt hR rfl rfl rfl rfl ?_
            exact ⟨by rw [hg, if_neg k3, if_pos ⟨k4, bi_ne0.mp k5⟩], rfl⟩
      · refine hG.rt hR rfl rfl rfl rfl ?_
        exact ⟨by rw [hg, if_pos k3], rfl⟩
    · exact bad (by rw [bi_eq0.mp k2]; simp)
theorem o_M_item (s p : Int32) (hl : LOk (σ 114) (σ 115)) : Ci l θ 5 m_M_item [.inr 95, .inl s, .inl p] σ (fun r σ' => r = itmR (σ 114) (σ 115) (σ 117) s p ∧ σ' = σ) := by
  refine Ci.of (Or.inl mi_M_item) pk_M_item (nb rfl) (Or.inl rfl) [some (.inr 95), some (.inl s), some (.inl p), none] rfl fun Γ hG hR => ?_
  refine hG.cS lk_M_270 mi_M_isSlot rfl rfl (c_M_isSlot s) rfl rfl rfl rfl rfl rfl ?_
  rintro x σ' ⟨rfl, rfl⟩
  refine hG.br rfl rfl rfl rfl (fun k1 => ?_) (fun k1 => ?_)
  · obtain ⟨S, hS1, hS2, rfl⟩ := inB_ab 0 4 (by omega) (by omega) (bi_ne0.mp k1)
    have hg : itmR (σ' 114) (σ' 115) (σ' 117) (nI S) p = if σ' 114 S = 0 then -1000000011 else if ¬ σ' 114 S = 2 then -1000000012 else if inB p 0 (σ' 115 S - 1) then (if σ' 117 (24 * S + p.toNatClampNeg) = -1000000005 then -1000000012 else σ' 117 (24 * S + p.toNatClampNeg)) else -1000000013 := by
      rw [itmR, bi_ne0.mp k1, if_pos rfl, nI_clamp (by omega)]
    refine hG.ld rfl S rfl rfl rfl rfl rfl (by omega) ?_
    refine hG.br rfl rfl rfl rfl (fun k2 => ?_) (fun k2 => ?_)
    · refine hG.ld rfl S rfl rfl rfl rfl rfl (by omega) ?_
      refine hG.br rfl rfl rfl rfl (fun k3 => ?_) (fun k3 => ?_)
      · obtain ⟨Z, hZ, hsz⟩ := (hl S (by omega)).2 k3
        refine hG.ld rfl S rfl rfl rfl rfl rfl (by omega) ?_
        refine hG.cS lk_M_84 mi_M_in rfl rfl (c_M_in p 0 _) rfl rfl rfl rfl rfl rfl ?_
        rintro x σ' ⟨rfl, rfl⟩
        rw [if_neg k2, if_neg (fun q => q k3)] at hg
        refine hG.br rfl rfl rfl rfl (fun k4 => ?_) (fun k4 => ?_)
        · rw [bi_ne0.mp k4, if_pos rfl] at hg
          have k4' := bi_ne0.mp k4
          rw [hsz] at k4'
          obtain ⟨P, hP, rfl⟩ := (inB_lt (by omega)).mp k4'
          rw [nI_clamp (by omega)] at hg
          refine hG.ld rfl (24 * S + P) rfl rfl rfl rfl (by simp only [lit_nI, pk_mul, nI_add, nI_1]; first | done | rfl | (congr 1; omega)) (by omega) ?_
          refine hG.br rfl rfl rfl rfl (fun k5 => ?_) (fun k5 => ?_)
          · refine hG.rt hR rfl rfl rfl rfl ?_
            exact ⟨by rw [hg, if_neg k5], rfl⟩
          · refine hG.rt hR rfl rfl rfl rfl ?_
            exact ⟨by rw [hg, if_pos k5], rfl⟩
        · rw [bi_eq0.mp k4] at hg
          refine hG.rt hR rfl rfl rfl rfl ?_
          exact ⟨by rw [hg]; rfl, rfl⟩
      · refine hG.rt hR rfl rfl rfl rfl ?_
        exact ⟨by rw [hg, if_neg k2, if_pos k3], rfl⟩
    · refine hG.rt hR rfl rfl rfl rfl ?_
      exact ⟨by rw [hg, if_pos k2], rfl⟩
  · refine hG.rt hR rfl rfl rfl rfl ?_
    exact ⟨by rw [itmR, bi_eq0.mp k1]; rfl, rfl⟩
theorem o_M_rest (s k : Int32) : Ci l θ 5 m_M_rest [.inr 95, .inl s, .inl k] σ (fun r σ' => r = rstR (σ 114) (σ 115) s k ∧ σ' = σ) := by
  refine Ci.of (Or.inl mi_M_rest) pk_M_rest (nb rfl) (Or.inl rfl) [some (.inr 95), some (.inl s), some (.inl k)] rfl fun Γ hG hR => ?_
  refine hG.cS lk_M_270 mi_M_isSlot rfl rfl (c_M_isSlot s) rfl rfl rfl rfl rfl rfl ?_
  rintro x σ' ⟨rfl, rfl⟩
  refine hG.br rfl rfl rfl rfl (fun k1 => ?_) (fun k1 => ?_)
  · obtain ⟨S, hS1, hS2, rfl⟩ := inB_ab 0 4 (by omega) (by omega) (bi_ne0.mp k1)
    have hg : rstR (σ' 114) (σ' 115) (nI S) k = if σ' 114 S = 0 then -1000000011 else if ¬ σ' 114 S = 3 then -1000000012 else if k = 0 then -1000000002 else if k = -1 then 0 else rmI (σ' 115 S) k := by
      rw [rstR, bi_ne0.mp k1, if_pos rfl, nI_clamp (by omega)]
    refine hG.ld rfl S rfl rfl rfl rfl rfl (by omega) ?_
    refine hG.br rfl rfl rfl rfl (fun k2 => ?_) (fun k2 => ?_)
    · refine hG.ld rfl S rfl rfl rfl rfl rfl (by omega) ?_
      refine hG.br rfl rfl rfl rfl (fun k3 => ?_) (fun k3 => ?_)
      · refine hG.br rfl rfl rfl rfl (fun k4 => ?_) (fun k4 => ?_)
        · refine hG.br rfl rfl rfl rfl (fun k5 => ?_) (fun k5 => ?_)
          · refine hG.ld rfl S rfl rfl rfl rfl rfl (by omega) ?_
            refine hG.rm rfl rfl rfl k4 ?_
            refine hG.rt hR rfl rfl rfl rfl ?_
            exact ⟨by rw [hg, if_neg k2, if_neg (fun q => q k3), if_neg k4, if_neg k5]; rfl, rfl⟩
          · refine hG.rt hR rfl rfl rfl rfl ?_
            exact ⟨by rw [hg, if_neg k2, if_neg (fun q => q k3), if_neg k4, if_pos k5], rfl⟩
        · refine hG.rt hR rfl rfl rfl rfl ?_
          exact ⟨by rw [hg, if_neg k2, if_neg (fun q => q k3), if_pos k4], rfl⟩
      · refine hG.rt hR rfl rfl rfl rfl ?_
        exact ⟨by rw [hg, if_neg k2, if_pos k3], rfl⟩
    · refine hG.rt hR rfl rfl rfl rfl ?_
      exact ⟨by rw [hg, if_pos k2], rfl⟩
  · refine hG.rt hR rfl rfl rfl rfl ?_
    exact ⟨by rw [rstR, bi_eq0.mp k1]; rfl, rfl⟩
end
