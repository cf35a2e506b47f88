section
variable {l : Launch} {θ : Th} {σ : Sg}
theorem i32_sub1 (x : Int32) : x + -1 = x - 1 := (Int32.sub_eq_add_neg x 1).symm
theorem c_M_counts (key : Int32) (t : Nat) (h : σ 96 5 = nI t) (ht : t ≤ 14) : Ci l θ 1 m_M_counts [.inr 95, .inl key] σ (fun r σ' => σ' = σ ∧ r = optN (-1) (cntO (σ 96) key t)) := by
  refine Ci.of (Or.inl mi_M_counts) pk_M_counts (nb rfl) (Or.inl rfl) [some (.inr 95), some (.inl key), none] rfl fun Γ hG hR => ?_
  have loop : ∀ k, k ≤ 14 → cntO (σ 96) key t = cntO (σ 96) key k → X Γ 9 [some (.inr 95), some (.inl key), some (.inl (nI k - 1))] [] σ := by
    intro k
    induction k with
    | zero =>
      intro _ he
      refine hG.br rfl rfl rfl rfl (fun h1 => ?_) (fun h1 => ?_)
      · refine hG.rt hR rfl rfl rfl rfl ?_
        exact ⟨rfl, by rw [he]; rfl⟩
      · exact absurd (by decide) h1
    | succ k ih =>
      intro hk he
      rw [nI_pred]
      refine hG.br rfl rfl rfl rfl (fun h1 => ?_) (fun h1 => ?_)
      · exact absurd h1 (nI_pos (by omega))
      · refine hG.ld rfl (58 + 2 * k) rfl rfl rfl rfl (by simp only [lit_nI, pk_mul, nI_add, nI_1]; first | done | rfl | (congr 1; omega)) (by omega) ?_
        refine hG.dv rfl rfl rfl (by decide) ?_
        refine hG.br rfl rfl rfl rfl (fun h2 => ?_) (fun h2 => ?_)
        · refine hG.jp rfl rfl rfl ?_
          rw [i32_sub1]
          exact ih (by omega) (by rw [he, cntO, if_neg h2])
        · refine hG.rt hR rfl rfl rfl rfl ?_
          exact ⟨rfl, by rw [he, cntO, if_pos h2]; rfl⟩
  refine hG.ld rfl 5 rfl rfl rfl rfl rfl (by decide) ?_
  rw [h]
  exact hG.go 3 rfl rfl (loop t ht rfl)
theorem c_M_two (s a b : Int32) : Ci l θ 1 m_M_two [.inl s, .inl a, .inl b] σ (fun r σ' => σ' = σ ∧ r = twoK s a b) := by
  refine Ci.of (Or.inr mi_M_two) pk_M_two (nb rfl) (Or.inl rfl) [some (.inl s), some (.inl a), some (.inl b)] rfl fun Γ hG hR => ?_
  refine hG.tsw [117, 113, 109, 98, 87, 76, 62, 48] 121 rfl rfl rfl (by decide +kernel) ?_ ?_
  · intro k t hk hx
    match k, hk, hx with
    | 0, hk, hx =>
      cases hk
      have e : s = -8 := tsw_x hx rfl
      refine hG.rt hR rfl rfl rfl rfl ?_
      exact ⟨rfl, by rw [e]; rfl⟩
    | 1, hk, hx =>
      cases hk
      have e : s = -7 := tsw_x hx rfl
      refine hG.rt hR rfl rfl rfl rfl ?_
      exact ⟨rfl, by rw [e]; rfl⟩
    | 2, hk, hx =>
      cases hk
      have e : s = -6 := tsw_x hx rfl
      refine hG.rt hR rfl rfl rfl rfl ?_
      exact ⟨rfl, by rw [e]; rfl⟩
    | 3, hk, hx =>
      cases hk
      have e : s = -5 := tsw_x hx rfl
      subst e
      have e : twoK (-5) a b = bi (decide (b < a)) := rfl
      refine hG.br rfl rfl rfl rfl (fun h => ?_) (fun h => ?_)
      · refine hG.rt hR rfl rfl rfl rfl ?_
        exact ⟨rfl, by rw [e]; simp [i32_nlt.mpr h, bi]⟩
      · refine hG.rt hR rfl rfl rfl rfl ?_
        exact ⟨rfl, by rw [e]; simp [i32_nle.mp h, bi]⟩
    | 4, hk, hx =>
      cases hk
      have e : s = -4 := tsw_x hx rfl
      subst e
      have e : twoK (-4) a b = bi (decide (a = b)) := rfl
      refine hG.br rfl rfl rfl rfl (fun h => ?_) (fun h => ?_)
      · refine hG.rt hR rfl rfl rfl rfl ?_
        exact ⟨rfl, by rw [e]; simp [h, bi]⟩
      · refine hG.rt hR rfl rfl rfl rfl ?_
        exact ⟨rfl, by rw [e]; simp [h, bi]⟩
    | 5, hk, hx =>
      cases hk
      have e : s = -3 := tsw_x hx rfl
      subst e
      have e : twoK (-3) a b = bi (decide (a < b)) := rfl
      refine hG.br rfl rfl rfl rfl (fun h => ?_) (fun h => ?_)
      · refine hG.rt hR rfl rfl rfl rfl ?_
        exact ⟨rfl, by rw [e]; simp [i32_nlt.mpr h, bi]⟩
      · refine hG.rt hR rfl rfl rfl rfl ?_
        exact ⟨rfl, by rw [e]; simp [i32_nle.mp h, bi]⟩
    | 6, hk, hx =>
      cases hk
      have e : s = -2 := tsw_x hx rfl
      subst e
      have e : twoK (-2) a b = bi (decide (¬ a = 0) && decide (¬ b = 0)) := rfl
      refine hG.br rfl rfl rfl rfl (fun h => ?_) (fun h => ?_)
      · refine hG.rt hR rfl rfl rfl rfl ?_
        exact ⟨rfl, by rw [e]; simp [h, bi]⟩
      · refine hG.br rfl rfl rfl rfl (fun h2 => ?_) (fun h2 => ?_)
        · refine hG.rt hR rfl rfl rfl rfl ?_
          exact ⟨rfl, by rw [e]; simp [h2, bi]⟩
        · refine hG.rt hR rfl rfl rfl rfl ?_
          exact ⟨rfl, by rw [e]; simp [h, h2, bi]⟩
    | 7, hk, hx =>
      cases hk
      have e : s = -1 := tsw_x hx rfl
      subst e
      have e : twoK (-1) a b = bi (decide (¬ a = 0) || decide (¬ b = 0)) := rfl
      refine hG.br rfl rfl rfl rfl (fun h => ?_) (fun h => ?_)
      · refine hG.rt hR rfl rfl rfl rfl ?_
        exact ⟨rfl, by rw [e]; simp [h, bi]⟩
      · refine hG.br rfl rfl rfl rfl (fun h2 => ?_) (fun h2 => ?_)
        · refine hG.rt hR rfl rfl rfl rfl ?_
          exact ⟨rfl, by rw [e]; simp [h, h2, bi]⟩
        · refine hG.rt hR rfl rfl rfl rfl ?_
          exact ⟨rfl, by rw [e]; simp [h, h2, bi]⟩
    | k + 8, hk, hx => simp at hk
  · intro hx
    have e : twoK s a b = if b = 0 then 0 else a / b := by
      have e1 : ¬ s = -8 := fun e => hx 0 (by decide) (by rw [e]; rfl)
      have e2 : ¬ s = -7 := fun e => hx 1 (by decide) (by rw [e]; rfl)
      have e3 : ¬ s = -6 := fun e => hx 2 (by decide) (by rw [e]; rfl)
      have e4 : ¬ s = -5 := fun e => hx 3 (by decide) (by rw [e]; rfl)
      have e5 : ¬ s = -4 := fun e => hx 4 (by decide) (by rw [e]; rfl)
      have e6 : ¬ s = -3 := fun e => hx 5 (by decide) (by rw [e]; rfl)
      have e7 : ¬ s = -2 := fun e => hx 6 (by decide) (by rw [e]; rfl)
      have e8 : ¬ s = -1 := fun e => hx 7 (by decide) (by rw [e]; rfl)
      simp only [twoK, e1, e2, e3, e4, e5, e6, e7, e8, if_false]
    refine hG.br rfl rfl rfl rfl (fun h => ?_) (fun h => ?_)
    · refine hG.dv rfl rfl rfl h ?_
      refine hG.rt hR rfl rfl rfl rfl ?_
      exact ⟨rfl, by rw [e, if_neg h]⟩
    · refine hG.rt hR rfl rfl rfl rfl ?_
      exact ⟨rfl, by rw [e, if_pos h]⟩
end
/-- a row of ints holds a stack, its top first in the list -/
def StkR (g : Nat → Int32) : List Int32 → Prop
  | [] => True
  | x :: s => g s.length = x ∧ StkR g s
theorem StkR_upd {g : Nat → Int32} {j : Nat} {v : Int32} : ∀ {s : List Int32}, StkR g s → s.length ≤ j → StkR (upd g j v) s
  | [], _, _ => trivial
  | x :: s, h, hj => by
    simp only [List.length_cons] at hj
    exact ⟨by rw [upd_ne (by omega)]; exact h.1, StkR_upd h.2 (by omega)⟩
section
variable {l : Launch} {θ : Th} {σ : Sg}
theorem c_M_worksOut (i ky ln : Nat) (hi : i < 14) (ht : TxOk (σ 96) i ky ln) : Ci l θ 2 m_M_worksOut [.inr 95, .inl (nI i)] σ (fun r σ' => Sm [109] σ σ' ∧ r = (evl (σ 110) (σ 96) (86 + 96 * i) ln).headD 0) := by
  refine Ci.of (Or.inl mi_M_worksOut) pk_M_worksOut (nb rfl) (Or.inl rfl) [some (.inr 95), some (.inl (nI i)), none, none, none, none] rfl fun Γ hG hR => ?_
  obtain ⟨ht1, ht2, hcd⟩ := ht
  have hm : nmK ky ≤ 3 := by unfold nmK; split <;> omega
  have hln := hcd.1
  have loop : ∀ n k, k + n = ln → ∀ (τ : Sg) (w : Option AV), Sm [109] σ τ → StkR (τ 109) (evl (σ 110) (σ 96) (86 + 96 * i) k) → X Γ 21 [some (.inr 95), some (.inl (nI i)), some (.inl (nI (dpth (σ 96) (86 + 96 * i) k))), some (.inl (nI ln)), some (.inl (nI k)), w] [] τ := by
    intro n
    induction n with
    | zero =>
      intro k hk τ w hS hR1
      have hk : k = ln := by omega
      subst hk
      refine hG.br rfl rfl rfl rfl (fun h1 => ?_) (fun h1 => ?_)
      · refine hG.ld rfl 0 rfl rfl rfl rfl rfl (by decide) ?_
        refine hG.rt hR rfl rfl rfl rfl ?_
        refine ⟨hS, ?_⟩
        have hlen := evl_len (fa := σ 110) hcd k (Nat.le_refl _)
        rw [hcd.2.1] at hlen
        cases he : evl (σ 110) (σ 96) (86 + 96 * i) k with
        | nil => rw [he] at hlen; simp at hlen
        | cons x r =>
          rw [he] at hlen hR1
          have hr : r = [] := by cases r with
            | nil => rfl
            | cons y r => simp at hlen
          subst hr
          exact hR1.1
      · exact absurd (show nI k ≤ nI k from nI_le (Nat.le_refl k) (by omega)) h1
    | succ n ih =>
      intro k hk τ w hS hR1
      have e96 : τ 96 = σ 96 := hS 96 (by decide)
      have e110 : τ 110 = σ 110 := hS 110 (by decide)
      have hlen := evl_len (fa := σ 110) hcd k (by omega)
      have hdl := dpth_le (σ 96) (86 + 96 * i) k
      obtain ⟨q1, q2, q3⟩ := hcd.2.2 k (by omega)
      have hev : evl (σ 110) (σ 96) (86 + 96 * i) (k + 1) = ev1 (σ 110) (σ 96 (86 + 96 * i + k)) (evl (σ 110) (σ 96) (86 + 96 * i) k) := rfl
      have hdp : dpth (σ 96) (86 + 96 * i) (k + 1) = if 0 ≤ σ 96 (86 + 96 * i + k) then dpth (σ 96) (86 + 96 * i) k + 1 else if σ 96 (86 + 96 * i + k) = -10 then dpth (σ 96) (86 + 96 * i) k else dpth (σ 96) (86 + 96 * i) k - 1 := rfl
      refine hG.br rfl rfl rfl rfl (fun h1 => ?_) (fun h1 => ?_)
      · exact absurd (show nI ln ≤ nI k from h1) (nI_ge (by omega) (by omega))
      · refine hG.ld rfl (86 + 96 * i + k) rfl rfl rfl rfl (by simp only [lit_nI, pk_mul, nI_add, nI_1]; first | done | rfl | (congr 1; omega)) (by omega) ?_
        rw [e96]
        generalize hc : σ 96 (86 + 96 * i + k) = c at *
        generalize hs : evl (σ 110) (σ 96) (86 + 96 * i) k = s at *
        generalize hd : dpth (σ 96) (86 + 96 * i) k = dp at *
        refine hG.br rfl rfl rfl rfl (fun h2 => ?_) (fun h2 => ?_)
        · have h0 : ¬ 0 ≤ c := i32_nle.mpr h2
          rw [if_neg h0] at hdp
          refine hG.br rfl rfl rfl rfl (fun h3 => ?_) (fun h3 => ?_)
          · rw [if_neg h3] at hdp
            obtain ⟨q4, q5⟩ := q3 h0 h3
            obtain ⟨d2, rfl⟩ : ∃ d2, dp = d2 + 2 := ⟨dp - 2, by omega⟩
            match s, hlen, hR1, hs, hev with
            | y :: x :: r, hlen, hR1, hs, hev =>
              have hrl : r.length = d2 := by simpa using hlen
              refine hG.ld rfl d2 rfl rfl rfl rfl (by rw [pk_m1, nI_pred]) (by omega) ?_
              refine hG.ld rfl (d2 + 1) rfl rfl rfl rfl (by rw [pk_m1]) (by omega) ?_
              have ex : τ 109 d2 = x := by rw [← hrl]; exact hR1.2.1
              have ey : τ 109 (d2 + 1) = y := by rw [← hrl]; exact hR1.1
              rw [ex, ey]
              refine hG.cS lk_M_264 mi_M_two rfl rfl (c_M_two c x y) rfl rfl rfl rfl rfl rfl ?_
              rintro z τ' ⟨rfl, rfl⟩
              refine hG.sti rfl d2 rfl rfl rfl (by rw [pk_m1, nI_pred]) (by omega) ?_
              refine hG.jp rfl rfl rfl ?_
              rw [nI_1, pk_m1]
              have := ih (k + 1) (by omega) (up τ' 109 d2 (twoK c x y)) (some (.inl c)) (hS.up (by decide)) (by
                rw [hev, up_same]; unfold ev1; rw [if_neg h0, if_neg h3]
                exact ⟨by rw [hrl, upd_same], StkR_upd hR1.2.2 (by omega)⟩)
              rw [hdp] at this
              exact this
            | [], hlen, _, _, _ => simp at hlen
            | [y], hlen, _, _, _ => simp at hlen
          · rw [if_pos h3] at hdp
            have q4 := q2 h0 h3
            obtain ⟨d1, rfl⟩ : ∃ d1, dp = d1 + 1 := ⟨dp - 1, by omega⟩
            match s, hlen, hR1, hs, hev with
            | x :: r, hlen, hR1, hs, hev =>
              have hrl : r.length = d1 := by simpa using hlen
              refine hG.ld rfl d1 rfl rfl rfl rfl (nI_pred d1) (by omega) ?_
              have ex : τ 109 d1 = x := by rw [← hrl]; exact hR1.1
              rw [ex]
              have j115 : X Γ 115 [some (.inr 95), some (.inl (nI i)), some (.inl (nI (d1 + 1))), some (.inl (nI ln)), some (.inl (nI k)), some (.inl c)] [.inl (bi (decide (x = 0))), .inl (nI (d1 + 1) - 1), .inr 109] τ := by
                refine hG.sti rfl d1 rfl rfl rfl (nI_pred d1) (by omega) ?_
                refine hG.jp rfl rfl rfl ?_
                rw [nI_1]
                have := ih (k + 1) (by omega) (up τ 109 d1 (bi (decide (x = 0)))) (some (.inl c)) (hS.up (by decide)) (by
                  rw [hev, up_same]; unfold ev1; rw [if_neg h0, if_pos h3]
                  exact ⟨by rw [hrl, upd_same], StkR_upd hR1.2 (by omega)⟩)
                rw [hdp] at this
                exact this
              refine hG.br rfl rfl rfl rfl (fun h4 => ?_) (fun h4 => ?_)
              · rw [show decide (x = 0) = false by simp [h4]] at j115
                exact hG.go 1 rfl rfl j115
              · rw [show decide (x = 0) = true by simp [h4]] at j115
                exact hG.go 2 rfl rfl j115
            | [], hlen, _, _, _ => simp at hlen
        · have h0 : 0 ≤ c := i32_nlt.mp h2
          rw [if_pos h0] at hdp
          have hst : ∀ (v : Int32), v = (if c < 10000 then c else σ 110 (c - 10000).toNatClampNeg) → X Γ 78 [some (.inr 95), some (.inl (nI i)), some (.inl (nI dp)), some (.inl (nI ln)), some (.inl (nI k)), some (.inl c)] [.inl v, .inl (nI dp), .inr 109] τ := by
            intro v hv
            refine hG.sti rfl dp rfl rfl rfl rfl (by omega) ?_
            refine hG.jp rfl rfl rfl ?_
            rw [nI_1, nI_1]
            have := ih (k + 1) (by omega) (up τ 109 dp v) (some (.inl c)) (hS.up (by decide)) (by
              rw [hev, up_same]; unfold ev1; rw [if_pos h0]
              exact ⟨by rw [hlen, upd_same, hv], StkR_upd hR1 (by omega)⟩)
            rw [hdp] at this
            exact this
          refine hG.br rfl rfl rfl rfl (fun h3 => ?_) (fun h3 => ?_)
          · obtain ⟨j, hj1, hj2, hj3⟩ := nI_of_range (a := 10000) (b := 10000 + nmK ky) (by omega) (by omega) h3 (q1 h0)
            have ej : c - 10000 = nI (j - 10000) := by rw [hj3]; exact pk_sub hj1
            refine hG.ld rfl (j - 10000) rfl rfl rfl rfl ej (by omega) ?_
            rw [e110]
            exact hst _ (by rw [if_neg (i32_nlt.mpr h3), ej, nI_clamp (by omega)])
          · exact hG.go 2 rfl rfl (hst c (by rw [if_pos (i32_nle.mp h3)]))
  refine hG.ld rfl (58 + 2 * i) rfl rfl rfl rfl (by simp only [lit_nI, pk_mul, nI_add, nI_1]; first | done | rfl | (congr 1; omega)) (by omega) ?_
  rw [ht1]
  refine hG.rm rfl rfl rfl (by decide) ?_
  have er : nI (1000 * ky + ln) - nI (1000 * ky + ln) / 1000 * 1000 = nI ln := by
    have := pk_rem (a := 1000 * ky + ln) (d := 1000) (by omega) (by omega) (by omega)
    rw [show (1000 * ky + ln) % 1000 = ln by omega] at this
    exact this
  rw [er]
  exact hG.go 3 rfl rfl (loop ln 0 (by omega) σ none Sm.rf trivial)
end
