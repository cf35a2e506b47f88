def freeG (g : Nat → Bool) (f : Nat → Int32) (n : Nat) (nm y : Int32) : Bool := allB (fun p => !(g (nrIx nm (f (18 + 4 * p + 1))) && holdF f p y)) 0 n
def NT (g : Nat → Bool) (σ : Sg) : Prop := ∀ k, k < 16 → σ 99 k = bi (g k)
theorem apF_eq (a b : Int32) : apF a b = nI (apN a b) := by
  unfold apF apN
  by_cases h1 : a / 25 = b / 25 <;> by_cases h2 : a / 5 - a / 5 / 5 * 5 = b / 5 - b / 5 / 5 * 5 <;> by_cases h3 : a - a / 5 * 5 = b - b / 5 * 5 <;> simp only [h1, h2, h3, not_true, not_false_eq_true, decide_true, decide_false, if_true, if_false, bi] <;> decide
section
variable {l : Launch} {θ : Th} {σ : Sg}
theorem c_M_findNears (t : Nat) (h5 : σ 96 5 = nI t) (ht : t ≤ 14) (hT : TxsOk (σ 96) t) : Cv l θ 3 m_M_findNears [.inr 95] σ (fun σ' => Sm [99, 109, 110] σ σ' ∧ NT (nearT (σ 96) t) σ') := by
  refine Cv.of (Or.inl mi_M_findNears) pk_M_findNears (nb rfl) rfl [some (.inr 95), none, none] rfl fun Γ hG hR => ?_
  refine hG.cV lk_M_131 mi_M_counts rfl rfl (c_M_counts 0 t h5 ht) rfl rfl rfl rfl rfl rfl rfl rfl ?_
  rintro x σ' ⟨rfl, rfl⟩
  have loop : ∀ n k, k + n = 16 → ∀ τ : Sg, Sm [99, 109, 110] σ' τ → (∀ j, j < k → τ 99 j = bi (nearT (σ' 96) t j)) → X Γ 8 [some (.inr 95), some (.inl (optN (-1) (cntO (σ' 96) 0 t))), some (.inl (nI k))] [] τ := by
    intro n
    induction n with
    | zero =>
      intro k hk τ hS hN
      have hk : k = 16 := by omega
      subst hk
      refine hG.br rfl rfl rfl rfl (fun h1 => ?_) (fun h1 => ?_)
      · refine hG.rv hR rfl rfl rfl ?_
        exact ⟨hS, hN⟩
      · exact absurd (show nI 16 ≤ nI 16 from nI_le (Nat.le_refl 16) (by omega)) h1
    | succ n ih =>
      intro k hk τ hS hN
      have e96 : τ 96 = σ' 96 := hS 96 (by decide)
      refine hG.br rfl rfl rfl rfl (fun h1 => ?_) (fun h1 => ?_)
      · exact absurd (show nI 16 ≤ nI k from h1) (nI_ge (by omega) (by omega))
      · refine hG.dv rfl rfl rfl (by decide) ?_
        rw [show nI k / 4 = nI (k / 4) from pk_div (d := 4) (by omega) (by omega) (by omega)]
        refine hG.sti rfl 0 rfl rfl rfl rfl (by decide) ?_
        refine hG.dv rfl rfl rfl (by decide) ?_
        rw [show nI k / 2 = nI (k / 2) from pk_div (d := 2) (by omega) (by omega) (by omega)]
        refine hG.rm rfl rfl rfl (by decide) ?_
        rw [show nI (k / 2) - nI (k / 2) / 2 * 2 = nI (k / 2 % 2) from pk_rem (d := 2) (by omega) (by omega) (by omega)]
        refine hG.sti rfl 1 rfl rfl rfl rfl (by decide) ?_
        refine hG.rm rfl rfl rfl (by decide) ?_
        rw [show nI k - nI k / 2 * 2 = nI (k % 2) from pk_rem (d := 2) (by omega) (by omega) (by omega)]
        refine hG.sti rfl 2 rfl rfl rfl rfl (by decide) ?_
        generalize hτ1 : up (up (up τ 110 0 (nI (k / 4))) 110 1 (nI (k / 2 % 2))) 110 2 (nI (k % 2)) = τ1
        have hS1 : Sm [99, 109, 110] σ' τ1 := by rw [← hτ1]; exact ((hS.up (by decide)).up (by decide)).up (by decide)
        have e99 : τ1 99 = τ 99 := by rw [← hτ1, up_c _ _ _ _ (by decide), up_c _ _ _ _ (by decide), up_c _ _ _ _ (by decide)]
        have e110 : ∀ j, j < 3 → τ1 110 j = fa3 (nI (k / 4)) (nI (k / 2 % 2)) (nI (k % 2)) j := by
          intro j hj
          rw [← hτ1]
          simp only [up_same, upd, fa3]
          rcases (show j = 0 ∨ j = 1 ∨ j = 2 by omega) with rfl | rfl | rfl <;> simp
        have e961 : τ1 96 = σ' 96 := hS1 96 (by decide)
        have fin : ∀ τ2 : Sg, Sm [99, 109, 110] σ' τ2 → τ2 99 = τ 99 → X Γ 79 [some (.inr 95), some (.inl (optN (-1) (cntO (σ' 96) 0 t))), some (.inl (nI k))] [.inl (bi (nearT (σ' 96) t k)), .inl (nI k), .inr 99] τ2 := by
          intro τ2 hS2 e2
          refine hG.stz rfl k rfl rfl rfl rfl (by omega) (bi_01 _) ?_
          refine hG.jp rfl rfl rfl ?_
          rw [nI_1]
          refine ih (k + 1) (by omega) _ (hS2.up (by decide)) (fun j hj => ?_)
          rw [up_same, e2]
          by_cases hjk : j = k
          · subst hjk; rw [upd_same]
          · rw [upd_ne hjk]; exact hN j (by omega)
        cases hc : cntO (σ' 96) 0 t with
        | none =>
          rw [hc] at fin
          have hn : nearT (σ' 96) t k = decide (k / 4 = 0) := by rw [nearT, hc]
          rw [hn] at fin
          have fin := fin τ1 hS1 e99
          refine hG.br rfl rfl rfl rfl (fun h2 => ?_) (fun h2 => ?_)
          · exact absurd h2 (by decide)
          · refine hG.dv rfl rfl rfl (by decide) ?_
            rw [show nI k / 4 = nI (k / 4) from pk_div (d := 4) (by omega) (by omega) (by omega)]
            refine hG.br rfl rfl rfl rfl (fun h3 => ?_) (fun h3 => ?_)
            · rw [show decide (k / 4 = 0) = false from decide_eq_false (fun e => h3 (by rw [e]; rfl))] at fin
              exact hG.go 2 rfl rfl fin
            · rw [show decide (k / 4 = 0) = true from decide_eq_true ((nI_eq (by omega) (by omega)).mp (show nI (k / 4) = nI 0 from h3))] at fin
              exact hG.go 2 rfl rfl fin
        | some i =>
          obtain ⟨hi, ln, htx⟩ := cntO_ok (k := 0) hT (by omega) hc
          rw [hc] at fin
          have hn : nearT (σ' 96) t k = decide (¬ evT (σ' 96) i (fa3 (nI (k / 4)) (nI (k / 2 % 2)) (nI (k % 2))) = 0) := by rw [nearT, hc]
          rw [hn, evT_eq htx] at fin
          refine hG.br rfl rfl rfl rfl (fun h2 => ?_) (fun h2 => ?_)
          · refine hG.cV lk_M_134 mi_M_worksOut rfl rfl (c_M_worksOut i 0 ln (by omega) (by rw [e961]; exact htx)) rfl rfl rfl rfl rfl rfl rfl rfl ?_
            rintro x τ2 ⟨hS2, rfl⟩
            have fin := fin τ2 (hS1.tr (hS2.mono (by decide))) (by rw [hS2 99 (by decide), e99])
            rw [e961, evl_congr htx.2.2 (by decide) e110 ln (Nat.le_refl _)]
            refine hG.br rfl rfl rfl rfl (fun h3 => ?_) (fun h3 => ?_)
            · rw [show decide (¬ (evl (fa3 (nI (k / 4)) (nI (k / 2 % 2)) (nI (k % 2))) (σ' 96) (86 + 96 * i) ln).headD 0 = 0) = false by simp only [h3]; decide] at fin
              exact hG.go 1 rfl rfl fin
            · rw [show decide (¬ (evl (fa3 (nI (k / 4)) (nI (k / 2 % 2)) (nI (k % 2))) (σ' 96) (86 + 96 * i) ln).headD 0 = 0) = true from decide_eq_true h3] at fin
              exact hG.go 2 rfl rfl fin
          · exact absurd (show 0 ≤ nI i from nI_pos' (by omega)) h2
  exact hG.go 3 rfl rfl (loop 16 0 rfl σ' Sm.rf (fun j hj => by omega))
theorem c_M_areNear (g : Nat → Bool) (a b : Int32) (hN : NT g σ) : Ci l θ 2 m_M_areNear [.inr 95, .inl a, .inl b] σ (fun r σ' => σ' = σ ∧ r = bi (g (nrIx a b))) := by
  refine Ci.of (Or.inl mi_M_areNear) pk_M_areNear (nb rfl) (Or.inr rfl) [some (.inr 95), some (.inl a), some (.inl b)] rfl fun Γ hG hR => ?_
  refine hG.cS lk_M_128 mi_M_apartOf rfl rfl (c_M_apartOf a b) rfl rfl rfl rfl rfl rfl ?_
  rintro x σ' ⟨rfl, rfl⟩
  rw [apF_eq]
  refine hG.dv rfl rfl rfl (by decide) ?_
  refine hG.dv rfl rfl rfl (by decide) ?_
  have j27 : X Γ 27 [some (.inr 95), some (.inl a), some (.inl b)] [.inl (nI (if a / 25 = b / 25 then 2 else 0)), .inl (4 * nI (apN a b)), .inr 99] σ' := by
    refine hG.rm rfl rfl rfl (by decide) ?_
    refine hG.rm rfl rfl rfl (by decide) ?_
    have j42 : X Γ 42 [some (.inr 95), some (.inl a), some (.inl b)] [.inl (nI (if a - a / 5 * 5 = b - b / 5 * 5 then 1 else 0)), .inl (4 * nI (apN a b) + nI (if a / 25 = b / 25 then 2 else 0)), .inr 99] σ' := by
      refine hG.ld rfl (nrIx a b) rfl rfl rfl rfl (by simp only [lit_nI, pk_mul, nI_add, nI_1]; first | done | rfl | (congr 1; omega)) (nrIx_lt a b) ?_
      rw [hN _ (nrIx_lt a b)]
      refine hG.rz hR rfl rfl rfl rfl (bi_01 _) ?_
      exact ⟨rfl, rfl⟩
    refine hG.br rfl rfl rfl rfl (fun h => ?_) (fun h => ?_)
    · rw [if_neg h] at j42
      exact hG.go 1 rfl rfl j42
    · rw [if_pos h] at j42
      exact hG.go 2 rfl rfl j42
  refine hG.br rfl rfl rfl rfl (fun h => ?_) (fun h => ?_)
  · rw [if_neg h] at j27
    exact hG.go 1 rfl rfl j27
  · rw [if_pos h] at j27
    exact hG.go 2 rfl rfl j27
theorem c_M_isFree (g : Nat → Bool) (n : Nat) (nm y : Int32) (hN : NT g σ) (hn : σ 96 1 = nI n) (hn10 : n ≤ 10) : Ci l θ 4 m_M_isFree [.inr 95, .inl nm, .inl y] σ (fun r σ' => σ' = σ ∧ r = bi (freeG g (σ 96) n nm y)) := by
  refine Ci.of (Or.inl mi_M_isFree) pk_M_isFree (nb rfl) (Or.inr rfl) [some (.inr 95), some (.inl nm), some (.inl y), none] rfl fun Γ hG hR => ?_
  have loop : ∀ m p, p + m = n → freeG g (σ 96) n nm y = allB (fun p => !(g (nrIx nm (σ 96 (18 + 4 * p + 1))) && holdF (σ 96) p y)) p m → X Γ 2 [some (.inr 95), some (.inl nm), some (.inl y), some (.inl (nI p))] [] σ := by
    intro m
    induction m with
    | zero =>
      intro p hp he
      have hp : p = n := by omega
      subst hp
      refine hG.ld rfl 1 rfl rfl rfl rfl rfl (by decide) ?_
      rw [hn]
      refine hG.br rfl rfl rfl rfl (fun h1 => ?_) (fun h1 => ?_)
      · refine hG.rz hR rfl rfl rfl rfl (Or.inr rfl) ?_
        exact ⟨rfl, by rw [he]; rfl⟩
      · exact absurd (nI_le (Nat.le_refl _) (by omega)) h1
    | succ m ih =>
      intro p hp he
      rw [allB_s _ _ m] at he
      refine hG.ld rfl 1 rfl rfl rfl rfl rfl (by decide) ?_
      rw [hn]
      refine hG.br rfl rfl rfl rfl (fun h1 => ?_) (fun h1 => ?_)
      · exact absurd h1 (nI_ge (by omega) (by omega))
      · refine hG.cV lk_M_88 mi_M_of rfl rfl (c_M_of p 1 (by omega)) rfl rfl rfl rfl rfl rfl rfl rfl ?_
        rintro x σ' ⟨rfl, rfl⟩
        refine hG.cV lk_M_140 mi_M_areNear rfl rfl (c_M_areNear g nm (σ' 96 (18 + 4 * p + 1)) hN) rfl rfl rfl rfl rfl rfl rfl rfl ?_
        rintro x σ' ⟨rfl, rfl⟩
        refine hG.br rfl rfl rfl rfl (fun h2 => ?_) (fun h2 => ?_)
        · refine hG.jp rfl rfl rfl ?_
          rw [nI_1]
          exact ih (p + 1) (by omega) (by rw [he, bi_eq0.mp h2]; rfl)
        · refine hG.cV lk_M_109 mi_M_doesHold rfl rfl (c_M_doesHold p y (by omega)) rfl rfl rfl rfl rfl rfl rfl rfl ?_
          rintro x σ' ⟨rfl, rfl⟩
          refine hG.br rfl rfl rfl rfl (fun h3 => ?_) (fun h3 => ?_)
          · refine hG.jp rfl rfl rfl ?_
            rw [nI_1]
            exact ih (p + 1) (by omega) (by rw [he, bi_eq0.mp h3]; simp)
          · refine hG.rz hR rfl rfl rfl rfl (Or.inl rfl) ?_
            exact ⟨rfl, by rw [he, bi_ne0.mp h2, bi_ne0.mp h3]; rfl⟩
  exact hG.go 2 rfl rfl (loop n 0 (by omega) rfl)
theorem c_M_freeMany (g : Nat → Bool) (n : Nat) (hN : NT g σ) (hn : σ 96 1 = nI n) (hn10 : n ≤ 10) : Ci l θ 5 m_M_freeMany [.inr 95] σ (fun r σ' => σ' = σ ∧ r = nI (sumB (fun k => freeG g (σ 96) n (nI k) (σ 96 2)) 0 125)) := by
  refine Ci.of (Or.inl mi_M_freeMany) pk_M_freeMany (nb rfl) (Or.inl rfl) [some (.inr 95), none, none] rfl fun Γ hG hR => ?_
  have loop : ∀ m k acc, k + m = 125 → sumB (fun k => freeG g (σ 96) n (nI k) (σ 96 2)) 0 125 = acc + sumB (fun k => freeG g (σ 96) n (nI k) (σ 96 2)) k m → X Γ 4 [some (.inr 95), some (.inl (nI acc)), some (.inl (nI k))] [] σ := by
    intro m
    induction m with
    | zero =>
      intro k acc hk he
      have hk : k = 125 := by omega
      subst hk
      refine hG.br rfl rfl rfl rfl (fun h1 => ?_) (fun h1 => ?_)
      · refine hG.rt hR rfl rfl rfl rfl ?_
        exact ⟨rfl, by rw [he]; rfl⟩
      · exact absurd (show nI 125 ≤ nI 125 from nI_le (Nat.le_refl _) (by omega)) h1
    | succ m ih =>
      intro k acc hk he
      rw [sumB_s _ _ m] at he
      refine hG.br rfl rfl rfl rfl (fun h1 => ?_) (fun h1 => ?_)
      · exact absurd (show nI 125 ≤ nI k from h1) (nI_ge (by omega) (by omega))
      · refine hG.ld rfl 2 rfl rfl rfl rfl rfl (by decide) ?_
        refine hG.cV lk_M_148 mi_M_isFree rfl rfl (c_M_isFree g n (nI k) (σ 96 2) hN hn hn10) rfl rfl rfl rfl rfl rfl rfl rfl ?_
        rintro x σ' ⟨rfl, rfl⟩
        refine hG.br rfl rfl rfl rfl (fun h2 => ?_) (fun h2 => ?_)
        · refine hG.jp rfl rfl rfl ?_
          rw [nI_1, show nI acc + 0 = nI (acc + 0) from nI_add acc 0]
          exact ih (k + 1) (acc + 0) (by omega) (by rw [he, bi_eq0.mp h2]; simp)
        · refine hG.jp rfl rfl rfl ?_
          rw [nI_1, nI_1]
          exact ih (k + 1) (acc + 1) (by omega) (by rw [he, bi_ne0.mp h2]; simp; omega)
  exact hG.go 4 rfl rfl (loop 125 0 0 rfl (by omega))
theorem c_M_leastFree (g : Nat → Bool) (n : Nat) (hN : NT g σ) (hn : σ 96 1 = nI n) (hn10 : n ≤ 10) : Ci l θ 5 m_M_leastFree [.inr 95] σ (fun r σ' => σ' = σ ∧ r = optN (-1000000005) (fndB (fun k => freeG g (σ 96) n (nI k) (σ 96 2)) 0 125)) := by
  refine Ci.of (Or.inl mi_M_leastFree) pk_M_leastFree (nb rfl) (Or.inl rfl) [some (.inr 95), none] rfl fun Γ hG hR => ?_
  have loop : ∀ m k, k + m = 125 → fndB (fun k => freeG g (σ 96) n (nI k) (σ 96 2)) 0 125 = fndB (fun k => freeG g (σ 96) n (nI k) (σ 96 2)) k m → X Γ 2 [some (.inr 95), some (.inl (nI k))] [] σ := by
    intro m
    induction m with
    | zero =>
      intro k hk he
      have hk : k = 125 := by omega
      subst hk
      refine hG.br rfl rfl rfl rfl (fun h1 => ?_) (fun h1 => ?_)
      · refine hG.rt hR rfl rfl rfl rfl ?_
        exact ⟨rfl, by rw [he]; rfl⟩
      · exact absurd (show nI 125 ≤ nI 125 from nI_le (Nat.le_refl _) (by omega)) h1
    | succ m ih =>
      intro k hk he
      rw [fndB_s _ _ m] at he
      refine hG.br rfl rfl rfl rfl (fun h1 => ?_) (fun h1 => ?_)
      · exact absurd (show nI 125 ≤ nI k from h1) (nI_ge (by omega) (by omega))
      · refine hG.ld rfl 2 rfl rfl rfl rfl rfl (by decide) ?_
        refine hG.cV lk_M_148 mi_M_isFree rfl rfl (c_M_isFree g n (nI k) (σ 96 2) hN hn hn10) rfl rfl rfl rfl rfl rfl rfl rfl ?_
        rintro x σ' ⟨rfl, rfl⟩
        refine hG.br rfl rfl rfl rfl (fun h2 => ?_) (fun h2 => ?_)
        · refine hG.jp rfl rfl rfl ?_
          rw [nI_1]
          exact ih (k + 1) (by omega) (by rw [he, bi_eq0.mp h2]; rfl)
        · refine hG.rt hR rfl rfl rfl rfl ?_
          exact ⟨rfl, by rw [he, bi_ne0.mp h2]; rfl⟩
  exact hG.go 2 rfl rfl (loop 125 0 rfl rfl)
theorem c_M_aliveMany (n : Nat) (hn : σ 96 1 = nI n) (hn10 : n ≤ 10) : Ci l θ 3 m_M_aliveMany [.inr 95] σ (fun r σ' => σ' = σ ∧ r = nI (sumB (aliveF (σ 96)) 0 n)) := by
  refine Ci.of (Or.inl mi_M_aliveMany) pk_M_aliveMany (nb rfl) (Or.inl rfl) [some (.inr 95), none, none] rfl fun Γ hG hR => ?_
  have loop : ∀ m p acc, p + m = n → sumB (aliveF (σ 96)) 0 n = acc + sumB (aliveF (σ 96)) p m → X Γ 4 [some (.inr 95), some (.inl (nI acc)), some (.inl (nI p))] [] σ := by
    intro m
    induction m with
    | zero =>
      intro p acc hp he
      have hp : p = n := by omega
      subst hp
      refine hG.ld rfl 1 rfl rfl rfl rfl rfl (by decide) ?_
      rw [hn]
      refine hG.br rfl rfl rfl rfl (fun h1 => ?_) (fun h1 => ?_)
      · refine hG.rt hR rfl rfl rfl rfl ?_
        exact ⟨rfl, by rw [he]; rfl⟩
      · exact absurd (nI_le (Nat.le_refl _) (by omega)) h1
    | succ m ih =>
      intro p acc hp he
      rw [sumB_s _ _ m] at he
      refine hG.ld rfl 1 rfl rfl rfl rfl rfl (by decide) ?_
      rw [hn]
      refine hG.br rfl rfl rfl rfl (fun h1 => ?_) (fun h1 => ?_)
      · exact absurd h1 (nI_ge (by omega) (by omega))
      · refine hG.cV lk_M_103 mi_M_isAlive rfl rfl (c_M_isAlive p (by omega)) rfl rfl rfl rfl rfl rfl rfl rfl ?_
        rintro x σ' ⟨rfl, rfl⟩
        refine hG.br rfl rfl rfl rfl (fun h2 => ?_) (fun h2 => ?_)
        · refine hG.jp rfl rfl rfl ?_
          rw [nI_1, show nI acc + 0 = nI (acc + 0) from nI_add acc 0]
          exact ih (p + 1) (acc + 0) (by omega) (by rw [he, bi_eq0.mp h2]; simp)
        · refine hG.jp rfl rfl rfl ?_
          rw [nI_1, nI_1]
          exact ih (p + 1) (acc + 1) (by omega) (by rw [he, bi_ne0.mp h2]; simp; omega)
  exact hG.go 4 rfl rfl (loop n 0 0 (by omega) (by omega))
end
