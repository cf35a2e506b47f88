/-! the class works out a text -/
def TxR (σ : Sg) (f : Nat → Int32) (i ln : Nat) : Prop := σ (4 + 2 * i) 2 = nI ln ∧ ∀ j, j < ln → σ (5 + 2 * i) j = stC (f (86 + 96 * i + j))
theorem fa3_leaf {c : Int32} (a b d : Int32) (m : Nat) (hm : m ≤ 3) (h0 : 0 ≤ c) (h1 : c < nI (10000 + m)) : (if c < 10000 then c else if c = 10000 then a else if c = 10001 then b else d) = if c < 10000 then c else fa3 a b d (c - 10000).toNatClampNeg := by
  by_cases h : c < 10000
  · rw [if_pos h, if_pos h]
  · rw [if_neg h, if_neg h]
    obtain ⟨j, hj1, hj2, rfl⟩ := nI_of_range (a := 10000) (b := 10000 + m) (by omega) (by omega) (i32_nlt.mp h) h1
    rcases (by omega : j = 10000 ∨ j = 10001 ∨ j = 10002) with rfl | rfl | rfl
    · rw [if_pos (show nI 10000 = (10000 : Int32) from rfl), show (nI 10000 - 10000 : Int32).toNatClampNeg = 0 by decide, fa3, if_pos rfl]
    · rw [if_neg (by decide), if_pos (show nI 10001 = (10001 : Int32) from rfl), show (nI 10001 - 10000 : Int32).toNatClampNeg = 1 by decide, fa3, if_neg (by decide), if_pos rfl]
    · rw [if_neg (by decide), if_neg (by decide), show (nI 10002 - 10000 : Int32).toNatClampNeg = 2 by decide, fa3, if_neg (by decide), if_neg (by decide)]
section
variable {l : Launch} {θ : Th} {σ : Sg}
theorem c_L_work0 (f : Nat → Int32) (B m ln : Nat) (a b c : Int32) (hm : m ≤ 3) (hcd : CdOk f B m ln) (hx1 : σ 4 2 = nI ln) (hx2 : ∀ j, j < ln → σ 5 j = stC (f (B + j))) : Ci l θ 3 m_L_work [.inr 1, .inl (nI 0), .inl a, .inl b, .inl c] σ (fun r σ' => Sm [3] σ σ' ∧ r = (evl (fa3 a b c) f B ln).headD 0) := by
  have hln := hcd.1
  refine Ci.of (Or.inl mi_L_work) pk_L_work (nb rfl) (Or.inl rfl) [some (.inr 1), some (.inl (nI 0)), some (.inl a), some (.inl b), some (.inl c), none, none, none, none] rfl fun Γ hG hR => ?_
  refine hG.br rfl rfl rfl rfl (fun h1 => ?_) (fun h1 => ?_)
  · exact absurd h1 (by decide)
  refine hG.br rfl rfl rfl rfl (fun h2 => ?_) (fun h2 => ?_)
  rotate_left
  · exact absurd (show nI 0 < (14 : Int32) from by decide) h2
  refine hG.lda rfl 0 rfl rfl rfl (Or.inl rfl) rfl (by decide) rfl ?_
  have loop : ∀ n k, k + n = ln → ∀ (τ : Sg) (w : Option AV), Sm [3] σ τ → StkR (τ 3) (evl (fa3 a b c) f B k) → X Γ 29 [some (.inr 1), some (.inl (nI 0)), some (.inl a), some (.inl b), some (.inl c), some (.inr 4), some (.inl (nI (dpth f B k))), some (.inl (nI k)), w] [] τ := by
    intro n
    induction n with
    | zero =>
      intro k hk τ w hS hR1
      have hk : k = ln := by omega
      subst hk
      have eL : τ 4 2 = nI k := by rw [hS 4 (by decide)]; exact hx1
      refine hG.br rfl rfl rfl rfl (fun h1 => ?_) (fun h1 => ?_)
      · refine hG.ld rfl 0 rfl rfl rfl rfl rfl (by decide) ?_
        refine hG.rt hR rfl rfl rfl rfl ?_
        refine ⟨hS, ?_⟩
        have hlen := evl_len (fa := fa3 a b c) hcd k (Nat.le_refl _)
        rw [hcd.2.1] at hlen
        cases he : evl (fa3 a b c) f B k with
        | nil => rw [he] at hlen; simp at hlen
        | cons x r =>
          rw [he] at hlen hR1
          have hr : r = [] := by cases r with
            | nil => rfl
            | cons y r => simp at hlen
          subst hr
          exact hR1.1
      · rw [eL] at h1
        exact absurd (show nI k ≤ nI k from nI_le (Nat.le_refl k) (by omega)) h1
    | succ n ih =>
      intro k hk τ w hS hR1
      have eL : τ 4 2 = nI ln := by rw [hS 4 (by decide)]; exact hx1
      have eS : τ 5 k = stC (f (B + k)) := by rw [hS 5 (by decide)]; exact hx2 k (by omega)
      have hlen := evl_len (fa := fa3 a b c) hcd k (by omega)
      have hdl := dpth_le f B k
      obtain ⟨q1, q2, q3⟩ := hcd.2.2 k (by omega)
      have hev : evl (fa3 a b c) f B (k + 1) = ev1 (fa3 a b c) (f (B + k)) (evl (fa3 a b c) f B k) := rfl
      have hdp : dpth f B (k + 1) = if 0 ≤ f (B + k) then dpth f B k + 1 else if f (B + k) = -10 then dpth f B k else dpth f B k - 1 := rfl
      refine hG.br rfl rfl rfl rfl (fun h1 => ?_) (fun h1 => ?_)
      · rw [eL] at h1
        exact absurd (show nI ln ≤ nI k from h1) (nI_ge (by omega) (by omega))
      · refine hG.ld rfl k rfl rfl rfl rfl rfl (by omega) ?_
        rw [eS]
        generalize hc : f (B + k) = s at *
        generalize hs : evl (fa3 a b c) f B k = st at *
        generalize hd : dpth f B k = dp at *
        by_cases h0 : 0 ≤ s
        · rw [if_pos h0] at hdp
          rw [stC_pos h0]
          refine hG.br rfl rfl rfl rfl (fun h2 => ?_) (fun h2 => ?_)
          · exact absurd h2 (i32_nlt.mpr h0)
          refine hG.br rfl rfl rfl rfl (fun h3 => ?_) (fun h3 => ?_)
          · exact absurd (show nI 96 ≤ nI dp from h3) (nI_ge (by omega) (by omega))
          refine hG.cS lk_L_29 mi_L_leaf rfl rfl (c_L_leaf s a b c) rfl rfl rfl rfl rfl rfl ?_
          rintro x τ' ⟨rfl, rfl⟩
          refine hG.sti rfl dp rfl rfl rfl rfl (by omega) ?_
          refine hG.jp rfl rfl rfl ?_
          rw [nI_1, nI_1, fa3_leaf a b c m hm h0 (q1 h0)]
          have := ih (k + 1) (by omega) (up τ' 3 dp (if s < 10000 then s else fa3 a b c (s - 10000).toNatClampNeg)) (some (.inl s)) (hS.up (by decide)) (by
            rw [hev, up_same]; unfold ev1; rw [if_pos h0]
            exact ⟨by rw [hlen, upd_same], StkR_upd hR1 (by omega)⟩)
          rw [hdp] at this
          exact this
        · rw [if_neg h0] at hdp
          have h10 : -10 ≤ s := by
            by_cases h : s = -10
            · rw [h]; decide
            · exact (q3 h0 h).2
          obtain ⟨g1, g2⟩ := stC_neg h0 h10
          refine hG.br rfl rfl rfl rfl (fun h2 => ?_) (fun h2 => ?_)
          rotate_left
          · exact absurd g1 h2
          refine hG.br rfl rfl rfl rfl (fun h3 => ?_) (fun h3 => ?_)
          · have h4 : ¬ s = -10 := fun e => h3 (g2.mpr e)
            rw [if_neg h4] at hdp
            obtain ⟨q4, q5⟩ := q3 h0 h4
            obtain ⟨d2, rfl⟩ : ∃ d2, dp = d2 + 2 := ⟨dp - 2, by omega⟩
            match st, hlen, hR1, hs, hev with
            | y :: x :: r, hlen, hR1, hs, hev =>
              have hrl : r.length = d2 := by simpa using hlen
              refine hG.br rfl rfl rfl rfl (fun h5 => ?_) (fun h5 => ?_)
              · exact absurd (show nI (d2 + 2) < nI 2 from h5) (fun h => by have := (nI_ltI (by omega) (by omega)).mp h; omega)
              refine hG.ld rfl d2 rfl rfl rfl rfl (by rw [pk_m1, nI_pred]) (by omega) ?_
              refine hG.ld rfl (d2 + 1) rfl rfl rfl rfl (by rw [pk_m1]) (by omega) ?_
              have ex : τ 3 d2 = x := by rw [← hrl]; exact hR1.2.1
              have ey : τ 3 (d2 + 1) = y := by rw [← hrl]; exact hR1.1
              rw [ex, ey]
              refine hG.cS lk_L_37 mi_L_join rfl rfl (c_L_join (-(stC s)) x y) rfl rfl rfl rfl rfl rfl ?_
              rintro z τ' ⟨rfl, rfl⟩
              refine hG.sti rfl d2 rfl rfl rfl (by rw [pk_m1, nI_pred]) (by omega) ?_
              refine hG.jp rfl rfl rfl ?_
              rw [nI_1, pk_m1, jnK_two h0 h10 h4]
              have := ih (k + 1) (by omega) (up τ' 3 d2 (twoK s x y)) (some (.inl (stC s))) (hS.up (by decide)) (by
                rw [hev, up_same]; unfold ev1; rw [if_neg h0, if_neg h4]
                exact ⟨by rw [hrl, upd_same], StkR_upd hR1.2.2 (by omega)⟩)
              rw [hdp] at this
              exact this
            | [], hlen, _, _, _ => simp at hlen
            | [y], hlen, _, _, _ => simp at hlen
          · have h4 : s = -10 := g2.mp h3
            rw [if_pos h4] at hdp
            have q4 := q2 h0 h4
            obtain ⟨d1, rfl⟩ : ∃ d1, dp = d1 + 1 := ⟨dp - 1, by omega⟩
            match st, hlen, hR1, hs, hev with
            | x :: r, hlen, hR1, hs, hev =>
              have hrl : r.length = d1 := by simpa using hlen
              refine hG.br rfl rfl rfl rfl (fun h5 => ?_) (fun h5 => ?_)
              · exact absurd (show nI (d1 + 1) < nI 1 from h5) (fun h => by have := (nI_ltI (by omega) (by omega)).mp h; omega)
              refine hG.ld rfl d1 rfl rfl rfl rfl (nI_pred d1) (by omega) ?_
              have ex : τ 3 d1 = x := by rw [← hrl]; exact hR1.1
              rw [ex]
              have j127 : ∀ v, v = bi (decide (x = 0)) → X Γ 127 [some (.inr 1), some (.inl (nI 0)), some (.inl a), some (.inl b), some (.inl c), some (.inr 4), some (.inl (nI (d1 + 1))), some (.inl (nI k)), some (.inl (stC s))] [.inl v, .inl (nI (d1 + 1) - 1), .inr 3] τ := by
                rintro v rfl
                refine hG.sti rfl d1 rfl rfl rfl (nI_pred d1) (by omega) ?_
                refine hG.jp rfl rfl rfl ?_
                rw [nI_1]
                have := ih (k + 1) (by omega) (up τ 3 d1 (bi (decide (x = 0)))) (some (.inl (stC s))) (hS.up (by decide)) (by
                  rw [hev, up_same]; unfold ev1; rw [if_neg h0, if_pos h4]
                  exact ⟨by rw [hrl, upd_same], StkR_upd hR1.2 (by omega)⟩)
                rw [hdp] at this
                exact this
              refine hG.br rfl rfl rfl rfl (fun h6 => ?_) (fun h6 => ?_)
              · refine hG.bit (Or.inl ⟨rfl, rfl⟩) mi_W_bit rfl rfl (c_W_bit false) rfl rfl rfl rfl rfl rfl rfl ?_
                rintro v τ' ⟨rfl, rfl⟩
                exact j127 _ (by rw [decide_eq_false h6])
              · refine hG.bit (Or.inl ⟨rfl, rfl⟩) mi_W_bit rfl rfl (c_W_bit true) rfl rfl rfl rfl rfl rfl rfl ?_
                rintro v τ' ⟨rfl, rfl⟩
                exact j127 _ (by rw [decide_eq_true h6])
            | [], hlen, _, _, _ => simp at hlen
  exact hG.go 5 rfl rfl (loop ln 0 (by omega) σ none Sm.rf trivial)
theorem c_L_work1 (f : Nat → Int32) (B m ln : Nat) (a b c : Int32) (hm : m ≤ 3) (hcd : CdOk f B m ln) (hx1 : σ 6 2 = nI ln) (hx2 : ∀ j, j < ln → σ 7 j = stC (f (B + j))) : Ci l θ 3 m_L_work [.inr 1, .inl (nI 1), .inl a, .inl b, .inl c] σ (fun r σ' => Sm [3] σ σ' ∧ r = (evl (fa3 a b c) f B ln).headD 0) := by
  have hln := hcd.1
  refine Ci.of (Or.inl mi_L_work) pk_L_work (nb rfl) (Or.inl rfl) [some (.inr 1), some (.inl (nI 1)), some (.inl a), some (.inl b), some (.inl c), none, none, none, none] rfl fun Γ hG hR => ?_
  refine hG.br rfl rfl rfl rfl (fun h1 => ?_) (fun h1 => ?_)
  · exact absurd h1 (by decide)
  refine hG.br rfl rfl rfl rfl (fun h2 => ?_) (fun h2 => ?_)
  rotate_left
  · exact absurd (show nI 1 < (14 : Int32) from by decide) h2
  refine hG.lda rfl 1 rfl rfl rfl (Or.inl rfl) rfl (by decide) rfl ?_
  have loop : ∀ n k, k + n = ln → ∀ (τ : Sg) (w : Option AV), Sm [3] σ τ → StkR (τ 3) (evl (fa3 a b c) f B k) → X Γ 29 [some (.inr 1), some (.inl (nI 1)), some (.inl a), some (.inl b), some (.inl c), some (.inr 6), some (.inl (nI (dpth f B k))), some (.inl (nI k)), w] [] τ := by
    intro n
    induction n with
    | zero =>
      intro k hk τ w hS hR1
      have hk : k = ln := by omega
      subst hk
      have eL : τ 6 2 = nI k := by rw [hS 6 (by decide)]; exact hx1
      refine hG.br rfl rfl rfl rfl (fun h1 => ?_) (fun h1 => ?_)
      · refine hG.ld rfl 0 rfl rfl rfl rfl rfl (by decide) ?_
        refine hG.rt hR rfl rfl rfl rfl ?_
        refine ⟨hS, ?_⟩
        have hlen := evl_len (fa := fa3 a b c) hcd k (Nat.le_refl _)
        rw [hcd.2.1] at hlen
        cases he : evl (fa3 a b c) f B k with
        | nil => rw [he] at hlen; simp at hlen
        | cons x r =>
          rw [he] at hlen hR1
          have hr : r = [] := by cases r with
            | nil => rfl
            | cons y r => simp at hlen
          subst hr
          exact hR1.1
      · rw [eL] at h1
        exact absurd (show nI k ≤ nI k from nI_le (Nat.le_refl k) (by omega)) h1
    | succ n ih =>
      intro k hk τ w hS hR1
      have eL : τ 6 2 = nI ln := by rw [hS 6 (by decide)]; exact hx1
      have eS : τ 7 k = stC (f (B + k)) := by rw [hS 7 (by decide)]; exact hx2 k (by omega)
      have hlen := evl_len (fa := fa3 a b c) hcd k (by omega)
      have hdl := dpth_le f B k
      obtain ⟨q1, q2, q3⟩ := hcd.2.2 k (by omega)
      have hev : evl (fa3 a b c) f B (k + 1) = ev1 (fa3 a b c) (f (B + k)) (evl (fa3 a b c) f B k) := rfl
      have hdp : dpth f B (k + 1) = if 0 ≤ f (B + k) then dpth f B k + 1 else if f (B + k) = -10 then dpth f B k else dpth f B k - 1 := rfl
      refine hG.br rfl rfl rfl rfl (fun h1 => ?_) (fun h1 => ?_)
      · rw [eL] at h1
        exact absurd (show nI ln ≤ nI k from h1) (nI_ge (by omega) (by omega))
      · refine hG.ld rfl k rfl rfl rfl rfl rfl (by omega) ?_
        rw [eS]
        generalize hc : f (B + k) = s at *
        generalize hs : evl (fa3 a b c) f B k = st at *
        generalize hd : dpth f B k = dp at *
        by_cases h0 : 0 ≤ s
        · rw [if_pos h0] at hdp
          rw [stC_pos h0]
          refine hG.br rfl rfl rfl rfl (fun h2 => ?_) (fun h2 => ?_)
          · exact absurd h2 (i32_nlt.mpr h0)
          refine hG.br rfl rfl rfl rfl (fun h3 => ?_) (fun h3 => ?_)
          · exact absurd (show nI 96 ≤ nI dp from h3) (nI_ge (by omega) (by omega))
          refine hG.cS lk_L_29 mi_L_leaf rfl rfl (c_L_leaf s a b c) rfl rfl rfl rfl rfl rfl ?_
          rintro x τ' ⟨rfl, rfl⟩
          refine hG.sti rfl dp rfl rfl rfl rfl (by omega) ?_
          refine hG.jp rfl rfl rfl ?_
          rw [nI_1, nI_1, fa3_leaf a b c m hm h0 (q1 h0)]
          have := ih (k + 1) (by omega) (up τ' 3 dp (if s < 10000 then s else fa3 a b c (s - 10000).toNatClampNeg)) (some (.inl s)) (hS.up (by decide)) (by
            rw [hev, up_same]; unfold ev1; rw [if_pos h0]
            exact ⟨by rw [hlen, upd_same], StkR_upd hR1 (by omega)⟩)
          rw [hdp] at this
          exact this
        · rw [if_neg h0] at hdp
          have h10 : -10 ≤ s := by
            by_cases h : s = -10
            · rw [h]; decide
            · exact (q3 h0 h).2
          obtain ⟨g1, g2⟩ := stC_neg h0 h10
          refine hG.br rfl rfl rfl rfl (fun h2 => ?_) (fun h2 => ?_)
          rotate_left
          · exact absurd g1 h2
          refine hG.br rfl rfl rfl rfl (fun h3 => ?_) (fun h3 => ?_)
          · have h4 : ¬ s = -10 := fun e => h3 (g2.mpr e)
            rw [if_neg h4] at hdp
            obtain ⟨q4, q5⟩ := q3 h0 h4
            obtain ⟨d2, rfl⟩ : ∃ d2, dp = d2 + 2 := ⟨dp - 2, by omega⟩
            match st, hlen, hR1, hs, hev with
            | y :: x :: r, hlen, hR1, hs, hev =>
              have hrl : r.length = d2 := by simpa using hlen
              refine hG.br rfl rfl rfl rfl (fun h5 => ?_) (fun h5 => ?_)
              · exact absurd (show nI (d2 + 2) < nI 2 from h5) (fun h => by have := (nI_ltI (by omega) (by omega)).mp h; omega)
              refine hG.ld rfl d2 rfl rfl rfl rfl (by rw [pk_m1, nI_pred]) (by omega) ?_
              refine hG.ld rfl (d2 + 1) rfl rfl rfl rfl (by rw [pk_m1]) (by omega) ?_
              have ex : τ 3 d2 = x := by rw [← hrl]; exact hR1.2.1
              have ey : τ 3 (d2 + 1) = y := by rw [← hrl]; exact hR1.1
              rw [ex, ey]
              refine hG.cS lk_L_37 mi_L_join rfl rfl (c_L_join (-(stC s)) x y) rfl rfl rfl rfl rfl rfl ?_
              rintro z τ' ⟨rfl, rfl⟩
              refine hG.sti rfl d2 rfl rfl rfl (by rw [pk_m1, nI_pred]) (by omega) ?_
              refine hG.jp rfl rfl rfl ?_
              rw [nI_1, pk_m1, jnK_two h0 h10 h4]
              have := ih (k + 1) (by omega) (up τ' 3 d2 (twoK s x y)) (some (.inl (stC s))) (hS.up (by decide)) (by
                rw [hev, up_same]; unfold ev1; rw [if_neg h0, if_neg h4]
                exact ⟨by rw [hrl, upd_same], StkR_upd hR1.2.2 (by omega)⟩)
              rw [hdp] at this
              exact this
            | [], hlen, _, _, _ => simp at hlen
            | [y], hlen, _, _, _ => simp at hlen
          · have h4 : s = -10 := g2.mp h3
            rw [if_pos h4] at hdp
            have q4 := q2 h0 h4
            obtain ⟨d1, rfl⟩ : ∃ d1, dp = d1 + 1 := ⟨dp - 1, by omega⟩
            match st, hlen, hR1, hs, hev with
            | x :: r, hlen, hR1, hs, hev =>
              have hrl : r.length = d1 := by simpa using hlen
              refine hG.br rfl rfl rfl rfl (fun h5 => ?_) (fun h5 => ?_)
              · exact absurd (show nI (d1 + 1) < nI 1 from h5) (fun h => by have := (nI_ltI (by omega) (by omega)).mp h; omega)
              refine hG.ld rfl d1 rfl rfl rfl rfl (nI_pred d1) (by omega) ?_
              have ex : τ 3 d1 = x := by rw [← hrl]; exact hR1.1
              rw [ex]
              have j127 : ∀ v, v = bi (decide (x = 0)) → X Γ 127 [some (.inr 1), some (.inl (nI 1)), some (.inl a), some (.inl b), some (.inl c), some (.inr 6), some (.inl (nI (d1 + 1))), some (.inl (nI k)), some (.inl (stC s))] [.inl v, .inl (nI (d1 + 1) - 1), .inr 3] τ := by
                rintro v rfl
                refine hG.sti rfl d1 rfl rfl rfl (nI_pred d1) (by omega) ?_
                refine hG.jp rfl rfl rfl ?_
                rw [nI_1]
                have := ih (k + 1) (by omega) (up τ 3 d1 (bi (decide (x = 0)))) (some (.inl (stC s))) (hS.up (by decide)) (by
                  rw [hev, up_same]; unfold ev1; rw [if_neg h0, if_pos h4]
                  exact ⟨by rw [hrl, upd_same], StkR_upd hR1.2 (by omega)⟩)
                rw [hdp] at this
                exact this
              refine hG.br rfl rfl rfl rfl (fun h6 => ?_) (fun h6 => ?_)
              · refine hG.bit (Or.inl ⟨rfl, rfl⟩) mi_W_bit rfl rfl (c_W_bit false) rfl rfl rfl rfl rfl rfl rfl ?_
                rintro v τ' ⟨rfl, rfl⟩
                exact j127 _ (by rw [decide_eq_false h6])
              · refine hG.bit (Or.inl ⟨rfl, rfl⟩) mi_W_bit rfl rfl (c_W_bit true) rfl rfl rfl rfl rfl rfl rfl ?_
                rintro v τ' ⟨rfl, rfl⟩
                exact j127 _ (by rw [decide_eq_true h6])
            | [], hlen, _, _, _ => simp at hlen
  exact hG.go 5 rfl rfl (loop ln 0 (by omega) σ none Sm.rf trivial)
theorem c_L_work2 (f : Nat → Int32) (B m ln : Nat) (a b c : Int32) (hm : m ≤ 3) (hcd : CdOk f B m ln) (hx1 : σ 8 2 = nI ln) (hx2 : ∀ j, j < ln → σ 9 j = stC (f (B + j))) : Ci l θ 3 m_L_work [.inr 1, .inl (nI 2), .inl a, .inl b, .inl c] σ (fun r σ' => Sm [3] σ σ' ∧ r = (evl (fa3 a b c) f B ln).headD 0) := by
  have hln := hcd.1
  refine Ci.of (Or.inl mi_L_work) pk_L_work (nb rfl) (Or.inl rfl) [some (.inr 1), some (.inl (nI 2)), some (.inl a), some (.inl b), some (.inl c), none, none, none, none] rfl fun Γ hG hR => ?_
  refine hG.br rfl rfl rfl rfl (fun h1 => ?_) (fun h1 => ?_)
  · exact absurd h1 (by decide)
  refine hG.br rfl rfl rfl rfl (fun h2 => ?_) (fun h2 => ?_)
  rotate_left
  · exact absurd (show nI 2 < (14 : Int32) from by decide) h2
  refine hG.lda rfl 2 rfl rfl rfl (Or.inl rfl) rfl (by decide) rfl ?_
  have loop : ∀ n k, k + n = ln → ∀ (τ : Sg) (w : Option AV), Sm [3] σ τ → StkR (τ 3) (evl (fa3 a b c) f B k) → X Γ 29 [some (.inr 1), some (.inl (nI 2)), some (.inl a), some (.inl b), some (.inl c), some (.inr 8), some (.inl (nI (dpth f B k))), some (.inl (nI k)), w] [] τ := by
    intro n
    induction n with
    | zero =>
      intro k hk τ w hS hR1
      have hk : k = ln := by omega
      subst hk
      have eL : τ 8 2 = nI k := by rw [hS 8 (by decide)]; exact hx1
      refine hG.br rfl rfl rfl rfl (fun h1 => ?_) (fun h1 => ?_)
      · refine hG.ld rfl 0 rfl rfl rfl rfl rfl (by decide) ?_
        refine hG.rt hR rfl rfl rfl rfl ?_
        refine ⟨hS, ?_⟩
        have hlen := evl_len (fa := fa3 a b c) hcd k (Nat.le_refl _)
        rw [hcd.2.1] at hlen
        cases he : evl (fa3 a b c) f B k with
        | nil => rw [he] at hlen; simp at hlen
        | cons x r =>
          rw [he] at hlen hR1
          have hr : r = [] := by cases r with
            | nil => rfl
            | cons y r => simp at hlen
          subst hr
          exact hR1.1
      · rw [eL] at h1
        exact absurd (show nI k ≤ nI k from nI_le (Nat.le_refl k) (by omega)) h1
    | succ n ih =>
      intro k hk τ w hS hR1
      have eL : τ 8 2 = nI ln := by rw [hS 8 (by decide)]; exact hx1
      have eS : τ 9 k = stC (f (B + k)) := by rw [hS 9 (by decide)]; exact hx2 k (by omega)
      have hlen := evl_len (fa := fa3 a b c) hcd k (by omega)
      have hdl := dpth_le f B k
      obtain ⟨q1, q2, q3⟩ := hcd.2.2 k (by omega)
      have hev : evl (fa3 a b c) f B (k + 1) = ev1 (fa3 a b c) (f (B + k)) (evl (fa3 a b c) f B k) := rfl
      have hdp : dpth f B (k + 1) = if 0 ≤ f (B + k) then dpth f B k + 1 else if f (B + k) = -10 then dpth f B k else dpth f B k - 1 := rfl
      refine hG.br rfl rfl rfl rfl (fun h1 => ?_) (fun h1 => ?_)
      · rw [eL] at h1
        exact absurd (show nI ln ≤ nI k from h1) (nI_ge (by omega) (by omega))
      · refine hG.ld rfl k rfl rfl rfl rfl rfl (by omega) ?_
        rw [eS]
        generalize hc : f (B + k) = s at *
        generalize hs : evl (fa3 a b c) f B k = st at *
        generalize hd : dpth f B k = dp at *
        by_cases h0 : 0 ≤ s
        · rw [if_pos h0] at hdp
          rw [stC_pos h0]
          refine hG.br rfl rfl rfl rfl (fun h2 => ?_) (fun h2 => ?_)
          · exact absurd h2 (i32_nlt.mpr h0)
          refine hG.br rfl rfl rfl rfl (fun h3 => ?_) (fun h3 => ?_)
          · exact absurd (show nI 96 ≤ nI dp from h3) (nI_ge (by omega) (by omega))
          refine hG.cS lk_L_29 mi_L_leaf rfl rfl (c_L_leaf s a b c) rfl rfl rfl rfl rfl rfl ?_
          rintro x τ' ⟨rfl, rfl⟩
          refine hG.sti rfl dp rfl rfl rfl rfl (by omega) ?_
          refine hG.jp rfl rfl rfl ?_
          rw [nI_1, nI_1, fa3_leaf a b c m hm h0 (q1 h0)]
          have := ih (k + 1) (by omega) (up τ' 3 dp (if s < 10000 then s else fa3 a b c (s - 10000).toNatClampNeg)) (some (.inl s)) (hS.up (by decide)) (by
            rw [hev, up_same]; unfold ev1; rw [if_pos h0]
            exact ⟨by rw [hlen, upd_same], StkR_upd hR1 (by omega)⟩)
          rw [hdp] at this
          exact this
        · rw [if_neg h0] at hdp
          have h10 : -10 ≤ s := by
            by_cases h : s = -10
            · rw [h]; decide
            · exact (q3 h0 h).2
          obtain ⟨g1, g2⟩ := stC_neg h0 h10
          refine hG.br rfl rfl rfl rfl (fun h2 => ?_) (fun h2 => ?_)
          rotate_left
          · exact absurd g1 h2
          refine hG.br rfl rfl rfl rfl (fun h3 => ?_) (fun h3 => ?_)
          · have h4 : ¬ s = -10 := fun e => h3 (g2.mpr e)
            rw [if_neg h4] at hdp
            obtain ⟨q4, q5⟩ := q3 h0 h4
            obtain ⟨d2, rfl⟩ : ∃ d2, dp = d2 + 2 := ⟨dp - 2, by omega⟩
            match st, hlen, hR1, hs, hev with
            | y :: x :: r, hlen, hR1, hs, hev =>
              have hrl : r.length = d2 := by simpa using hlen
              refine hG.br rfl rfl rfl rfl (fun h5 => ?_) (fun h5 => ?_)
              · exact absurd (show nI (d2 + 2) < nI 2 from h5) (fun h => by have := (nI_ltI (by omega) (by omega)).mp h; omega)
              refine hG.ld rfl d2 rfl rfl rfl rfl (by rw [pk_m1, nI_pred]) (by omega) ?_
              refine hG.ld rfl (d2 + 1) rfl rfl rfl rfl (by rw [pk_m1]) (by omega) ?_
              have ex : τ 3 d2 = x := by rw [← hrl]; exact hR1.2.1
              have ey : τ 3 (d2 + 1) = y := by rw [← hrl]; exact hR1.1
              rw [ex, ey]
              refine hG.cS lk_L_37 mi_L_join rfl rfl (c_L_join (-(stC s)) x y) rfl rfl rfl rfl rfl rfl ?_
              rintro z τ' ⟨rfl, rfl⟩
              refine hG.sti rfl d2 rfl rfl rfl (by rw [pk_m1, nI_pred]) (by omega) ?_
              refine hG.jp rfl rfl rfl ?_
              rw [nI_1, pk_m1, jnK_two h0 h10 h4]
              have := ih (k + 1) (by omega) (up τ' 3 d2 (twoK s x y)) (some (.inl (stC s))) (hS.up (by decide)) (by
                rw [hev, up_same]; unfold ev1; rw [if_neg h0, if_neg h4]
                exact ⟨by rw [hrl, upd_same], StkR_upd hR1.2.2 (by omega)⟩)
              rw [hdp] at this
              exact this
            | [], hlen, _, _, _ => simp at hlen
            | [y], hlen, _, _, _ => simp at hlen
          · have h4 : s = -10 := g2.mp h3
            rw [if_pos h4] at hdp
            have q4 := q2 h0 h4
            obtain ⟨d1, rfl⟩ : ∃ d1, dp = d1 + 1 := ⟨dp - 1, by omega⟩
            match st, hlen, hR1, hs, hev with
            | x :: r, hlen, hR1, hs, hev =>
              have hrl : r.length = d1 := by simpa using hlen
              refine hG.br rfl rfl rfl rfl (fun h5 => ?_) (fun h5 => ?_)
              · exact absurd (show nI (d1 + 1) < nI 1 from h5) (fun h => by have := (nI_ltI (by omega) (by omega)).mp h; omega)
              refine hG.ld rfl d1 rfl rfl rfl rfl (nI_pred d1) (by omega) ?_
              have ex : τ 3 d1 = x := by rw [← hrl]; exact hR1.1
              rw [ex]
              have j127 : ∀ v, v = bi (decide (x = 0)) → X Γ 127 [some (.inr 1), some (.inl (nI 2)), some (.inl a), some (.inl b), some (.inl c), some (.inr 8), some (.inl (nI (d1 + 1))), some (.inl (nI k)), some (.inl (stC s))] [.inl v, .inl (nI (d1 + 1) - 1), .inr 3] τ := by
                rintro v rfl
                refine hG.sti rfl d1 rfl rfl rfl (nI_pred d1) (by omega) ?_
                refine hG.jp rfl rfl rfl ?_
                rw [nI_1]
                have := ih (k + 1) (by omega) (up τ 3 d1 (bi (decide (x = 0)))) (some (.inl (stC s))) (hS.up (by decide)) (by
                  rw [hev, up_same]; unfold ev1; rw [if_neg h0, if_pos h4]
                  exact ⟨by rw [hrl, upd_same], StkR_upd hR1.2 (by omega)⟩)
                rw [hdp] at this
                exact this
              refine hG.br rfl rfl rfl rfl (fun h6 => ?_) (fun h6 => ?_)
              · refine hG.bit (Or.inl ⟨rfl, rfl⟩) mi_W_bit rfl rfl (c_W_bit false) rfl rfl rfl rfl rfl rfl rfl ?_
                rintro v τ' ⟨rfl, rfl⟩
                exact j127 _ (by rw [decide_eq_false h6])
              · refine hG.bit (Or.inl ⟨rfl, rfl⟩) mi_W_bit rfl rfl (c_W_bit true) rfl rfl rfl rfl rfl rfl rfl ?_
                rintro v τ' ⟨rfl, rfl⟩
                exact j127 _ (by rw [decide_eq_true h6])
            | [], hlen, _, _, _ => simp at hlen
  exact hG.go 5 rfl rfl (loop ln 0 (by omega) σ none Sm.rf trivial)
theorem c_L_work3 (f : Nat → Int32) (B m ln : Nat) (a b c : Int32) (hm : m ≤ 3) (hcd : CdOk f B m ln) (hx1 : σ 10 2 = nI ln) (hx2 : ∀ j, j < ln → σ 11 j = stC (f (B + j))) : Ci l θ 3 m_L_work [.inr 1, .inl (nI 3), .inl a, .inl b, .inl c] σ (fun r σ' => Sm [3] σ σ' ∧ r = (evl (fa3 a b c) f B ln).headD 0) := by
  have hln := hcd.1
  refine Ci.of (Or.inl mi_L_work) pk_L_work (nb rfl) (Or.inl rfl) [some (.inr 1), some (.inl (nI 3)), some (.inl a), some (.inl b), some (.inl c), none, none, none, none] rfl fun Γ hG hR => ?_
  refine hG.br rfl rfl rfl rfl (fun h1 => ?_) (fun h1 => ?_)
  · exact absurd h1 (by decide)
  refine hG.br rfl rfl rfl rfl (fun h2 => ?_) (fun h2 => ?_)
  rotate_left
  · exact absurd (show nI 3 < (14 : Int32) from by decide) h2
  refine hG.lda rfl 3 rfl rfl rfl (Or.inl rfl) rfl (by decide) rfl ?_
  have loop : ∀ n k, k + n = ln → ∀ (τ : Sg) (w : Option AV), Sm [3] σ τ → StkR (τ 3) (evl (fa3 a b c) f B k) → X Γ 29 [some (.inr 1), some (.inl (nI 3)), some (.inl a), some (.inl b), some (.inl c), some (.inr 10), some (.inl (nI (dpth f B k))), some (.inl (nI k)), w] [] τ := by
    intro n
    induction n with
    | zero =>
      intro k hk τ w hS hR1
      have hk : k = ln := by omega
      subst hk
      have eL : τ 10 2 = nI k := by rw [hS 10 (by decide)]; exact hx1
      refine hG.br rfl rfl rfl rfl (fun h1 => ?_) (fun h1 => ?_)
      · refine hG.ld rfl 0 rfl rfl rfl rfl rfl (by decide) ?_
        refine hG.rt hR rfl rfl rfl rfl ?_
        refine ⟨hS, ?_⟩
        have hlen := evl_len (fa := fa3 a b c) hcd k (Nat.le_refl _)
        rw [hcd.2.1] at hlen
        cases he : evl (fa3 a b c) f B k with
        | nil => rw [he] at hlen; simp at hlen
        | cons x r =>
          rw [he] at hlen hR1
          have hr : r = [] := by cases r with
            | nil => rfl
            | cons y r => simp at hlen
          subst hr
          exact hR1.1
      · rw [eL] at h1
        exact absurd (show nI k ≤ nI k from nI_le (Nat.le_refl k) (by omega)) h1
    | succ n ih =>
      intro k hk τ w hS hR1
      have eL : τ 10 2 = nI ln := by rw [hS 10 (by decide)]; exact hx1
      have eS : τ 11 k = stC (f (B + k)) := by rw [hS 11 (by decide)]; exact hx2 k (by omega)
      have hlen := evl_len (fa := fa3 a b c) hcd k (by omega)
      have hdl := dpth_le f B k
      obtain ⟨q1, q2, q3⟩ := hcd.2.2 k (by omega)
      have hev : evl (fa3 a b c) f B (k + 1) = ev1 (fa3 a b c) (f (B + k)) (evl (fa3 a b c) f B k) := rfl
      have hdp : dpth f B (k + 1) = if 0 ≤ f (B + k) then dpth f B k + 1 else if f (B + k) = -10 then dpth f B k else dpth f B k - 1 := rfl
      refine hG.br rfl rfl rfl rfl (fun h1 => ?_) (fun h1 => ?_)
      · rw [eL] at h1
        exact absurd (show nI ln ≤ nI k from h1) (nI_ge (by omega) (by omega))
      · refine hG.ld rfl k rfl rfl rfl rfl rfl (by omega) ?_
        rw [eS]
        generalize hc : f (B + k) = s at *
        generalize hs : evl (fa3 a b c) f B k = st at *
        generalize hd : dpth f B k = dp at *
        by_cases h0 : 0 ≤ s
        · rw [if_pos h0] at hdp
          rw [stC_pos h0]
          refine hG.br rfl rfl rfl rfl (fun h2 => ?_) (fun h2 => ?_)
          · exact absurd h2 (i32_nlt.mpr h0)
          refine hG.br rfl rfl rfl rfl (fun h3 => ?_) (fun h3 => ?_)
          · exact absurd (show nI 96 ≤ nI dp from h3) (nI_ge (by omega) (by omega))
          refine hG.cS lk_L_29 mi_L_leaf rfl rfl (c_L_leaf s a b c) rfl rfl rfl rfl rfl rfl ?_
          rintro x τ' ⟨rfl, rfl⟩
          refine hG.sti rfl dp rfl rfl rfl rfl (by omega) ?_
          refine hG.jp rfl rfl rfl ?_
          rw [nI_1, nI_1, fa3_leaf a b c m hm h0 (q1 h0)]
          have := ih (k + 1) (by omega) (up τ' 3 dp (if s < 10000 then s else fa3 a b c (s - 10000).toNatClampNeg)) (some (.inl s)) (hS.up (by decide)) (by
            rw [hev, up_same]; unfold ev1; rw [if_pos h0]
            exact ⟨by rw [hlen, upd_same], StkR_upd hR1 (by omega)⟩)
          rw [hdp] at this
          exact this
        · rw [if_neg h0] at hdp
          have h10 : -10 ≤ s := by
            by_cases h : s = -10
            · rw [h]; decide
            · exact (q3 h0 h).2
          obtain ⟨g1, g2⟩ := stC_neg h0 h10
          refine hG.br rfl rfl rfl rfl (fun h2 => ?_) (fun h2 => ?_)
          rotate_left
          · exact absurd g1 h2
          refine hG.br rfl rfl rfl rfl (fun h3 => ?_) (fun h3 => ?_)
          · have h4 : ¬ s = -10 := fun e => h3 (g2.mpr e)
            rw [if_neg h4] at hdp
            obtain ⟨q4, q5⟩ := q3 h0 h4
            obtain ⟨d2, rfl⟩ : ∃ d2, dp = d2 + 2 := ⟨dp - 2, by omega⟩
            match st, hlen, hR1, hs, hev with
            | y :: x :: r, hlen, hR1, hs, hev =>
              have hrl : r.length = d2 := by simpa using hlen
              refine hG.br rfl rfl rfl rfl (fun h5 => ?_) (fun h5 => ?_)
              · exact absurd (show nI (d2 + 2) < nI 2 from h5) (fun h => by have := (nI_ltI (by omega) (by omega)).mp h; omega)
              refine hG.ld rfl d2 rfl rfl rfl rfl (by rw [pk_m1, nI_pred]) (by omega) ?_
              refine hG.ld rfl (d2 + 1) rfl rfl rfl rfl (by rw [pk_m1]) (by omega) ?_
              have ex : τ 3 d2 = x := by rw [← hrl]; exact hR1.2.1
              have ey : τ 3 (d2 + 1) = y := by rw [← hrl]; exact hR1.1
              rw [ex, ey]
              refine hG.cS lk_L_37 mi_L_join rfl rfl (c_L_join (-(stC s)) x y) rfl rfl rfl rfl rfl rfl ?_
              rintro z τ' ⟨rfl, rfl⟩
              refine hG.sti rfl d2 rfl rfl rfl (by rw [pk_m1, nI_pred]) (by omega) ?_
              refine hG.jp rfl rfl rfl ?_
              rw [nI_1, pk_m1, jnK_two h0 h10 h4]
              have := ih (k + 1) (by omega) (up τ' 3 d2 (twoK s x y)) (some (.inl (stC s))) (hS.up (by decide)) (by
                rw [hev, up_same]; unfold ev1; rw [if_neg h0, if_neg h4]
                exact ⟨by rw [hrl, upd_same], StkR_upd hR1.2.2 (by omega)⟩)
              rw [hdp] at this
              exact this
            | [], hlen, _, _, _ => simp at hlen
            | [y], hlen, _, _, _ => simp at hlen
          · have h4 : s = -10 := g2.mp h3
            rw [if_pos h4] at hdp
            have q4 := q2 h0 h4
            obtain ⟨d1, rfl⟩ : ∃ d1, dp = d1 + 1 := ⟨dp - 1, by omega⟩
            match st, hlen, hR1, hs, hev with
            | x :: r, hlen, hR1, hs, hev =>
              have hrl : r.length = d1 := by simpa using hlen
              refine hG.br rfl rfl rfl rfl (fun h5 => ?_) (fun h5 => ?_)
              · exact absurd (show nI (d1 + 1) < nI 1 from h5) (fun h => by have := (nI_ltI (by omega) (by omega)).mp h; omega)
              refine hG.ld rfl d1 rfl rfl rfl rfl (nI_pred d1) (by omega) ?_
              have ex : τ 3 d1 = x := by rw [← hrl]; exact hR1.1
              rw [ex]
              have j127 : ∀ v, v = bi (decide (x = 0)) → X Γ 127 [some (.inr 1), some (.inl (nI 3)), some (.inl a), some (.inl b), some (.inl c), some (.inr 10), some (.inl (nI (d1 + 1))), some (.inl (nI k)), some (.inl (stC s))] [.inl v, .inl (nI (d1 + 1) - 1), .inr 3] τ := by
                rintro v rfl
                refine hG.sti rfl d1 rfl rfl rfl (nI_pred d1) (by omega) ?_
                refine hG.jp rfl rfl rfl ?_
                rw [nI_1]
                have := ih (k + 1) (by omega) (up τ 3 d1 (bi (decide (x = 0)))) (some (.inl (stC s))) (hS.up (by decide)) (by
                  rw [hev, up_same]; unfold ev1; rw [if_neg h0, if_pos h4]
                  exact ⟨by rw [hrl, upd_same], StkR_upd hR1.2 (by omega)⟩)
                rw [hdp] at this
                exact this
              refine hG.br rfl rfl rfl rfl (fun h6 => ?_) (fun h6 => ?_)
              · refine hG.bit (Or.inl ⟨rfl, rfl⟩) mi_W_bit rfl rfl (c_W_bit false) rfl rfl rfl rfl rfl rfl rfl ?_
                rintro v τ' ⟨rfl, rfl⟩
                exact j127 _ (by rw [decide_eq_false h6])
              · refine hG.bit (Or.inl ⟨rfl, rfl⟩) mi_W_bit rfl rfl (c_W_bit true) rfl rfl rfl rfl rfl rfl rfl ?_
                rintro v τ' ⟨rfl, rfl⟩
                exact j127 _ (by rw [decide_eq_true h6])
            | [], hlen, _, _, _ => simp at hlen
  exact hG.go 5 rfl rfl (loop ln 0 (by omega) σ none Sm.rf trivial)
theorem c_L_work4 (f : Nat → Int32) (B m ln : Nat) (a b c : Int32) (hm : m ≤ 3) (hcd : CdOk f B m ln) (hx1 : σ 12 2 = nI ln) (hx2 : ∀ j, j < ln → σ 13 j = stC (f (B + j))) : Ci l θ 3 m_L_work [.inr 1, .inl (nI 4), .inl a, .inl b, .inl c] σ (fun r σ' => Sm [3] σ σ' ∧ r = (evl (fa3 a b c) f B ln).headD 0) := by
  have hln := hcd.1
  refine Ci.of (Or.inl mi_L_work) pk_L_work (nb rfl) (Or.inl rfl) [some (.inr 1), some (.inl (nI 4)), some (.inl a), some (.inl b), some (.inl c), none, none, none, none] rfl fun Γ hG hR => ?_
  refine hG.br rfl rfl rfl rfl (fun h1 => ?_) (fun h1 => ?_)
  · exact absurd h1 (by decide)
  refine hG.br rfl rfl rfl rfl (fun h2 => ?_) (fun h2 => ?_)
  rotate_left
  · exact absurd (show nI 4 < (14 : Int32) from by decide) h2
  refine hG.lda rfl 4 rfl rfl rfl (Or.inl rfl) rfl (by decide) rfl ?_
  have loop : ∀ n k, k + n = ln → ∀ (τ : Sg) (w : Option AV), Sm [3] σ τ → StkR (τ 3) (evl (fa3 a b c) f B k) → X Γ 29 [some (.inr 1), some (.inl (nI 4)), some (.inl a), some (.inl b), some (.inl c), some (.inr 12), some (.inl (nI (dpth f B k))), some (.inl (nI k)), w] [] τ := by
    intro n
    induction n with
    | zero =>
      intro k hk τ w hS hR1
      have hk : k = ln := by omega
      subst hk
      have eL : τ 12 2 = nI k := by rw [hS 12 (by decide)]; exact hx1
      refine hG.br rfl rfl rfl rfl (fun h1 => ?_) (fun h1 => ?_)
      · refine hG.ld rfl 0 rfl rfl rfl rfl rfl (by decide) ?_
        refine hG.rt hR rfl rfl rfl rfl ?_
        refine ⟨hS, ?_⟩
        have hlen := evl_len (fa := fa3 a b c) hcd k (Nat.le_refl _)
        rw [hcd.2.1] at hlen
        cases he : evl (fa3 a b c) f B k with
        | nil => rw [he] at hlen; simp at hlen
        | cons x r =>
          rw [he] at hlen hR1
          have hr : r = [] := by cases r with
            | nil => rfl
            | cons y r => simp at hlen
          subst hr
          exact hR1.1
      · rw [eL] at h1
        exact absurd (show nI k ≤ nI k from nI_le (Nat.le_refl k) (by omega)) h1
    | succ n ih =>
      intro k hk τ w hS hR1
      have eL : τ 12 2 = nI ln := by rw [hS 12 (by decide)]; exact hx1
      have eS : τ 13 k = stC (f (B + k)) := by rw [hS 13 (by decide)]; exact hx2 k (by omega)
      have hlen := evl_len (fa := fa3 a b c) hcd k (by omega)
      have hdl := dpth_le f B k
      obtain ⟨q1, q2, q3⟩ := hcd.2.2 k (by omega)
      have hev : evl (fa3 a b c) f B (k + 1) = ev1 (fa3 a b c) (f (B + k)) (evl (fa3 a b c) f B k) := rfl
      have hdp : dpth f B (k + 1) = if 0 ≤ f (B + k) then dpth f B k + 1 else if f (B + k) = -10 then dpth f B k else dpth f B k - 1 := rfl
      refine hG.br rfl rfl rfl rfl (fun h1 => ?_) (fun h1 => ?_)
      · rw [eL] at h1
        exact absurd (show nI ln ≤ nI k from h1) (nI_ge (by omega) (by omega))
      · refine hG.ld rfl k rfl rfl rfl rfl rfl (by omega) ?_
        rw [eS]
        generalize hc : f (B + k) = s at *
        generalize hs : evl (fa3 a b c) f B k = st at *
        generalize hd : dpth f B k = dp at *
        by_cases h0 : 0 ≤ s
        · rw [if_pos h0] at hdp
          rw [stC_pos h0]
          refine hG.br rfl rfl rfl rfl (fun h2 => ?_) (fun h2 => ?_)
          · exact absurd h2 (i32_nlt.mpr h0)
          refine hG.br rfl rfl rfl rfl (fun h3 => ?_) (fun h3 => ?_)
          · exact absurd (show nI 96 ≤ nI dp from h3) (nI_ge (by omega) (by omega))
          refine hG.cS lk_L_29 mi_L_leaf rfl rfl (c_L_leaf s a b c) rfl rfl rfl rfl rfl rfl ?_
          rintro x τ' ⟨rfl, rfl⟩
          refine hG.sti rfl dp rfl rfl rfl rfl (by omega) ?_
          refine hG.jp rfl rfl rfl ?_
          rw [nI_1, nI_1, fa3_leaf a b c m hm h0 (q1 h0)]
          have := ih (k + 1) (by omega) (up τ' 3 dp (if s < 10000 then s else fa3 a b c (s - 10000).toNatClampNeg)) (some (.inl s)) (hS.up (by decide)) (by
            rw [hev, up_same]; unfold ev1; rw [if_pos h0]
            exact ⟨by rw [hlen, upd_same], StkR_upd hR1 (by omega)⟩)
          rw [hdp] at this
          exact this
        · rw [if_neg h0] at hdp
          have h10 : -10 ≤ s := by
            by_cases h : s = -10
            · rw [h]; decide
            · exact (q3 h0 h).2
          obtain ⟨g1, g2⟩ := stC_neg h0 h10
          refine hG.br rfl rfl rfl rfl (fun h2 => ?_) (fun h2 => ?_)
          rotate_left
          · exact absurd g1 h2
          refine hG.br rfl rfl rfl rfl (fun h3 => ?_) (fun h3 => ?_)
          · have h4 : ¬ s = -10 := fun e => h3 (g2.mpr e)
            rw [if_neg h4] at hdp
            obtain ⟨q4, q5⟩ := q3 h0 h4
            obtain ⟨d2, rfl⟩ : ∃ d2, dp = d2 + 2 := ⟨dp - 2, by omega⟩
            match st, hlen, hR1, hs, hev with
            | y :: x :: r, hlen, hR1, hs, hev =>
              have hrl : r.length = d2 := by simpa using hlen
              refine hG.br rfl rfl rfl rfl (fun h5 => ?_) (fun h5 => ?_)
              · exact absurd (show nI (d2 + 2) < nI 2 from h5) (fun h => by have := (nI_ltI (by omega) (by omega)).mp h; omega)
              refine hG.ld rfl d2 rfl rfl rfl rfl (by rw [pk_m1, nI_pred]) (by omega) ?_
              refine hG.ld rfl (d2 + 1) rfl rfl rfl rfl (by rw [pk_m1]) (by omega) ?_
              have ex : τ 3 d2 = x := by rw [← hrl]; exact hR1.2.1
              have ey : τ 3 (d2 + 1) = y := by rw [← hrl]; exact hR1.1
              rw [ex, ey]
              refine hG.cS lk_L_37 mi_L_join rfl rfl (c_L_join (-(stC s)) x y) rfl rfl rfl rfl rfl rfl ?_
              rintro z τ' ⟨rfl, rfl⟩
              refine hG.sti rfl d2 rfl rfl rfl (by rw [pk_m1, nI_pred]) (by omega) ?_
              refine hG.jp rfl rfl rfl ?_
              rw [nI_1, pk_m1, jnK_two h0 h10 h4]
              have := ih (k + 1) (by omega) (up τ' 3 d2 (twoK s x y)) (some (.inl (stC s))) (hS.up (by decide)) (by
                rw [hev, up_same]; unfold ev1; rw [if_neg h0, if_neg h4]
                exact ⟨by rw [hrl, upd_same], StkR_upd hR1.2.2 (by omega)⟩)
              rw [hdp] at this
              exact this
            | [], hlen, _, _, _ => simp at hlen
            | [y], hlen, _, _, _ => simp at hlen
          · have h4 : s = -10 := g2.mp h3
            rw [if_pos h4] at hdp
            have q4 := q2 h0 h4
            obtain ⟨d1, rfl⟩ : ∃ d1, dp = d1 + 1 := ⟨dp - 1, by omega⟩
            match st, hlen, hR1, hs, hev with
            | x :: r, hlen, hR1, hs, hev =>
              have hrl : r.length = d1 := by simpa using hlen
              refine hG.br rfl rfl rfl rfl (fun h5 => ?_) (fun h5 => ?_)
              · exact absurd (show nI (d1 + 1) < nI 1 from h5) (fun h => by have := (nI_ltI (by omega) (by omega)).mp h; omega)
              refine hG.ld rfl d1 rfl rfl rfl rfl (nI_pred d1) (by omega) ?_
              have ex : τ 3 d1 = x := by rw [← hrl]; exact hR1.1
              rw [ex]
              have j127 : ∀ v, v = bi (decide (x = 0)) → X Γ 127 [some (.inr 1), some (.inl (nI 4)), some (.inl a), some (.inl b), some (.inl c), some (.inr 12), some (.inl (nI (d1 + 1))), some (.inl (nI k)), some (.inl (stC s))] [.inl v, .inl (nI (d1 + 1) - 1), .inr 3] τ := by
                rintro v rfl
                refine hG.sti rfl d1 rfl rfl rfl (nI_pred d1) (by omega) ?_
                refine hG.jp rfl rfl rfl ?_
                rw [nI_1]
                have := ih (k + 1) (by omega) (up τ 3 d1 (bi (decide (x = 0)))) (some (.inl (stC s))) (hS.up (by decide)) (by
                  rw [hev, up_same]; unfold ev1; rw [if_neg h0, if_pos h4]
                  exact ⟨by rw [hrl, upd_same], StkR_upd hR1.2 (by omega)⟩)
                rw [hdp] at this
                exact this
              refine hG.br rfl rfl rfl rfl (fun h6 => ?_) (fun h6 => ?_)
              · refine hG.bit (Or.inl ⟨rfl, rfl⟩) mi_W_bit rfl rfl (c_W_bit false) rfl rfl rfl rfl rfl rfl rfl ?_
                rintro v τ' ⟨rfl, rfl⟩
                exact j127 _ (by rw [decide_eq_false h6])
              · refine hG.bit (Or.inl ⟨rfl, rfl⟩) mi_W_bit rfl rfl (c_W_bit true) rfl rfl rfl rfl rfl rfl rfl ?_
                rintro v τ' ⟨rfl, rfl⟩
                exact j127 _ (by rw [decide_eq_true h6])
            | [], hlen, _, _, _ => simp at hlen
  exact hG.go 5 rfl rfl (loop ln 0 (by omega) σ none Sm.rf trivial)
theorem c_L_work5 (f : Nat → Int32) (B m ln : Nat) (a b c : Int32) (hm : m ≤ 3) (hcd : CdOk f B m ln) (hx1 : σ 14 2 = nI ln) (hx2 : ∀ j, j < ln → σ 15 j = stC (f (B + j))) : Ci l θ 3 m_L_work [.inr 1, .inl (nI 5), .inl a, .inl b, .inl c] σ (fun r σ' => Sm [3] σ σ' ∧ r = (evl (fa3 a b c) f B ln).headD 0) := by
  have hln := hcd.1
  refine Ci.of (Or.inl mi_L_work) pk_L_work (nb rfl) (Or.inl rfl) [some (.inr 1), some (.inl (nI 5)), some (.inl a), some (.inl b), some (.inl c), none, none, none, none] rfl fun Γ hG hR => ?_
  refine hG.br rfl rfl rfl rfl (fun h1 => ?_) (fun h1 => ?_)
  · exact absurd h1 (by decide)
  refine hG.br rfl rfl rfl rfl (fun h2 => ?_) (fun h2 => ?_)
  rotate_left
  · exact absurd (show nI 5 < (14 : Int32) from by decide) h2
  refine hG.lda rfl 5 rfl rfl rfl (Or.inl rfl) rfl (by decide) rfl ?_
  have loop : ∀ n k, k + n = ln → ∀ (τ : Sg) (w : Option AV), Sm [3] σ τ → StkR (τ 3) (evl (fa3 a b c) f B k) → X Γ 29 [some (.inr 1), some (.inl (nI 5)), some (.inl a), some (.inl b), some (.inl c), some (.inr 14), some (.inl (nI (dpth f B k))), some (.inl (nI k)), w] [] τ := by
    intro n
    induction n with
    | zero =>
      intro k hk τ w hS hR1
      have hk : k = ln := by omega
      subst hk
      have eL : τ 14 2 = nI k := by rw [hS 14 (by decide)]; exact hx1
      refine hG.br rfl rfl rfl rfl (fun h1 => ?_) (fun h1 => ?_)
      · refine hG.ld rfl 0 rfl rfl rfl rfl rfl (by decide) ?_
        refine hG.rt hR rfl rfl rfl rfl ?_
        refine ⟨hS, ?_⟩
        have hlen := evl_len (fa := fa3 a b c) hcd k (Nat.le_refl _)
        rw [hcd.2.1] at hlen
        cases he : evl (fa3 a b c) f B k with
        | nil => rw [he] at hlen; simp at hlen
        | cons x r =>
          rw [he] at hlen hR1
          have hr : r = [] := by cases r with
            | nil => rfl
            | cons y r => simp at hlen
          subst hr
          exact hR1.1
      · rw [eL] at h1
        exact absurd (show nI k ≤ nI k from nI_le (Nat.le_refl k) (by omega)) h1
    | succ n ih =>
      intro k hk τ w hS hR1
      have eL : τ 14 2 = nI ln := by rw [hS 14 (by decide)]; exact hx1
      have eS : τ 15 k = stC (f (B + k)) := by rw [hS 15 (by decide)]; exact hx2 k (by omega)
      have hlen := evl_len (fa := fa3 a b c) hcd k (by omega)
      have hdl := dpth_le f B k
      obtain ⟨q1, q2, q3⟩ := hcd.2.2 k (by omega)
      have hev : evl (fa3 a b c) f B (k + 1) = ev1 (fa3 a b c) (f (B + k)) (evl (fa3 a b c) f B k) := rfl
      have hdp : dpth f B (k + 1) = if 0 ≤ f (B + k) then dpth f B k + 1 else if f (B + k) = -10 then dpth f B k else dpth f B k - 1 := rfl
      refine hG.br rfl rfl rfl rfl (fun h1 => ?_) (fun h1 => ?_)
      · rw [eL] at h1
        exact absurd (show nI ln ≤ nI k from h1) (nI_ge (by omega) (by omega))
      · refine hG.ld rfl k rfl rfl rfl rfl rfl (by omega) ?_
        rw [eS]
        generalize hc : f (B + k) = s at *
        generalize hs : evl (fa3 a b c) f B k = st at *
        generalize hd : dpth f B k = dp at *
        by_cases h0 : 0 ≤ s
        · rw [if_pos h0] at hdp
          rw [stC_pos h0]
          refine hG.br rfl rfl rfl rfl (fun h2 => ?_) (fun h2 => ?_)
          · exact absurd h2 (i32_nlt.mpr h0)
          refine hG.br rfl rfl rfl rfl (fun h3 => ?_) (fun h3 => ?_)
          · exact absurd (show nI 96 ≤ nI dp from h3) (nI_ge (by omega) (by omega))
          refine hG.cS lk_L_29 mi_L_leaf rfl rfl (c_L_leaf s a b c) rfl rfl rfl rfl rfl rfl ?_
          rintro x τ' ⟨rfl, rfl⟩
          refine hG.sti rfl dp rfl rfl rfl rfl (by omega) ?_
          refine hG.jp rfl rfl rfl ?_
          rw [nI_1, nI_1, fa3_leaf a b c m hm h0 (q1 h0)]
          have := ih (k + 1) (by omega) (up τ' 3 dp (if s < 10000 then s else fa3 a b c (s - 10000).toNatClampNeg)) (some (.inl s)) (hS.up (by decide)) (by
            rw [hev, up_same]; unfold ev1; rw [if_pos h0]
            exact ⟨by rw [hlen, upd_same], StkR_upd hR1 (by omega)⟩)
          rw [hdp] at this
          exact this
        · rw [if_neg h0] at hdp
          have h10 : -10 ≤ s := by
            by_cases h : s = -10
            · rw [h]; decide
            · exact (q3 h0 h).2
          obtain ⟨g1, g2⟩ := stC_neg h0 h10
          refine hG.br rfl rfl rfl rfl (fun h2 => ?_) (fun h2 => ?_)
          rotate_left
          · exact absurd g1 h2
          refine hG.br rfl rfl rfl rfl (fun h3 => ?_) (fun h3 => ?_)
          · have h4 : ¬ s = -10 := fun e => h3 (g2.mpr e)
            rw [if_neg h4] at hdp
            obtain ⟨q4, q5⟩ := q3 h0 h4
            obtain ⟨d2, rfl⟩ : ∃ d2, dp = d2 + 2 := ⟨dp - 2, by omega⟩
            match st, hlen, hR1, hs, hev with
            | y :: x :: r, hlen, hR1, hs, hev =>
              have hrl : r.length = d2 := by simpa using hlen
              refine hG.br rfl rfl rfl rfl (fun h5 => ?_) (fun h5 => ?_)
              · exact absurd (show nI (d2 + 2) < nI 2 from h5) (fun h => by have := (nI_ltI (by omega) (by omega)).mp h; omega)
              refine hG.ld rfl d2 rfl rfl rfl rfl (by rw [pk_m1, nI_pred]) (by omega) ?_
              refine hG.ld rfl (d2 + 1) rfl rfl rfl rfl (by rw [pk_m1]) (by omega) ?_
              have ex : τ 3 d2 = x := by rw [← hrl]; exact hR1.2.1
              have ey : τ 3 (d2 + 1) = y := by rw [← hrl]; exact hR1.1
              rw [ex, ey]
              refine hG.cS lk_L_37 mi_L_join rfl rfl (c_L_join (-(stC s)) x y) rfl rfl rfl rfl rfl rfl ?_
              rintro z τ' ⟨rfl, rfl⟩
              refine hG.sti rfl d2 rfl rfl rfl (by rw [pk_m1, nI_pred]) (by omega) ?_
              refine hG.jp rfl rfl rfl ?_
              rw [nI_1, pk_m1, jnK_two h0 h10 h4]
              have := ih (k + 1) (by omega) (up τ' 3 d2 (twoK s x y)) (some (.inl (stC s))) (hS.up (by decide)) (by
                rw [hev, up_same]; unfold ev1; rw [if_neg h0, if_neg h4]
                exact ⟨by rw [hrl, upd_same], StkR_upd hR1.2.2 (by omega)⟩)
              rw [hdp] at this
              exact this
            | [], hlen, _, _, _ => simp at hlen
            | [y], hlen, _, _, _ => simp at hlen
          · have h4 : s = -10 := g2.mp h3
            rw [if_pos h4] at hdp
            have q4 := q2 h0 h4
            obtain ⟨d1, rfl⟩ : ∃ d1, dp = d1 + 1 := ⟨dp - 1, by omega⟩
            match st, hlen, hR1, hs, hev with
            | x :: r, hlen, hR1, hs, hev =>
              have hrl : r.length = d1 := by simpa using hlen
              refine hG.br rfl rfl rfl rfl (fun h5 => ?_) (fun h5 => ?_)
              · exact absurd (show nI (d1 + 1) < nI 1 from h5) (fun h => by have := (nI_ltI (by omega) (by omega)).mp h; omega)
              refine hG.ld rfl d1 rfl rfl rfl rfl (nI_pred d1) (by omega) ?_
              have ex : τ 3 d1 = x := by rw [← hrl]; exact hR1.1
              rw [ex]
              have j127 : ∀ v, v = bi (decide (x = 0)) → X Γ 127 [some (.inr 1), some (.inl (nI 5)), some (.inl a), some (.inl b), some (.inl c), some (.inr 14), some (.inl (nI (d1 + 1))), some (.inl (nI k)), some (.inl (stC s))] [.inl v, .inl (nI (d1 + 1) - 1), .inr 3] τ := by
                rintro v rfl
                refine hG.sti rfl d1 rfl rfl rfl (nI_pred d1) (by omega) ?_
                refine hG.jp rfl rfl rfl ?_
                rw [nI_1]
                have := ih (k + 1) (by omega) (up τ 3 d1 (bi (decide (x = 0)))) (some (.inl (stC s))) (hS.up (by decide)) (by
                  rw [hev, up_same]; unfold ev1; rw [if_neg h0, if_pos h4]
                  exact ⟨by rw [hrl, upd_same], StkR_upd hR1.2 (by omega)⟩)
                rw [hdp] at this
                exact this
              refine hG.br rfl rfl rfl rfl (fun h6 => ?_) (fun h6 => ?_)
              · refine hG.bit (Or.inl ⟨rfl, rfl⟩) mi_W_bit rfl rfl (c_W_bit false) rfl rfl rfl rfl rfl rfl rfl ?_
                rintro v τ' ⟨rfl, rfl⟩
                exact j127 _ (by rw [decide_eq_false h6])
              · refine hG.bit (Or.inl ⟨rfl, rfl⟩) mi_W_bit rfl rfl (c_W_bit true) rfl rfl rfl rfl rfl rfl rfl ?_
                rintro v τ' ⟨rfl, rfl⟩
                exact j127 _ (by rw [decide_eq_true h6])
            | [], hlen, _, _, _ => simp at hlen
  exact hG.go 5 rfl rfl (loop ln 0 (by omega) σ none Sm.rf trivial)
theorem c_L_work6 (f : Nat → Int32) (B m ln : Nat) (a b c : Int32) (hm : m ≤ 3) (hcd : CdOk f B m ln) (hx1 : σ 16 2 = nI ln) (hx2 : ∀ j, j < ln → σ 17 j = stC (f (B + j))) : Ci l θ 3 m_L_work [.inr 1, .inl (nI 6), .inl a, .inl b, .inl c] σ (fun r σ' => Sm [3] σ σ' ∧ r = (evl (fa3 a b c) f B ln).headD 0) := by
  have hln := hcd.1
  refine Ci.of (Or.inl mi_L_work) pk_L_work (nb rfl) (Or.inl rfl) [some (.inr 1), some (.inl (nI 6)), some (.inl a), some (.inl b), some (.inl c), none, none, none, none] rfl fun Γ hG hR => ?_
  refine hG.br rfl rfl rfl rfl (fun h1 => ?_) (fun h1 => ?_)
  · exact absurd h1 (by decide)
  refine hG.br rfl rfl rfl rfl (fun h2 => ?_) (fun h2 => ?_)
  rotate_left
  · exact absurd (show nI 6 < (14 : Int32) from by decide) h2
  refine hG.lda rfl 6 rfl rfl rfl (Or.inl rfl) rfl (by decide) rfl ?_
  have loop : ∀ n k, k + n = ln → ∀ (τ : Sg) (w : Option AV), Sm [3] σ τ → StkR (τ 3) (evl (fa3 a b c) f B k) → X Γ 29 [some (.inr 1), some (.inl (nI 6)), some (.inl a), some (.inl b), some (.inl c), some (.inr 16), some (.inl (nI (dpth f B k))), some (.inl (nI k)), w] [] τ := by
    intro n
    induction n with
    | zero =>
      intro k hk τ w hS hR1
      have hk : k = ln := by omega
      subst hk
      have eL : τ 16 2 = nI k := by rw [hS 16 (by decide)]; exact hx1
      refine hG.br rfl rfl rfl rfl (fun h1 => ?_) (fun h1 => ?_)
      · refine hG.ld rfl 0 rfl rfl rfl rfl rfl (by decide) ?_
        refine hG.rt hR rfl rfl rfl rfl ?_
        refine ⟨hS, ?_⟩
        have hlen := evl_len (fa := fa3 a b c) hcd k (Nat.le_refl _)
        rw [hcd.2.1] at hlen
        cases he : evl (fa3 a b c) f B k with
        | nil => rw [he] at hlen; simp at hlen
        | cons x r =>
          rw [he] at hlen hR1
          have hr : r = [] := by cases r with
            | nil => rfl
            | cons y r => simp at hlen
          subst hr
          exact hR1.1
      · rw [eL] at h1
        exact absurd (show nI k ≤ nI k from nI_le (Nat.le_refl k) (by omega)) h1
    | succ n ih =>
      intro k hk τ w hS hR1
      have eL : τ 16 2 = nI ln := by rw [hS 16 (by decide)]; exact hx1
      have eS : τ 17 k = stC (f (B + k)) := by rw [hS 17 (by decide)]; exact hx2 k (by omega)
      have hlen := evl_len (fa := fa3 a b c) hcd k (by omega)
      have hdl := dpth_le f B k
      obtain ⟨q1, q2, q3⟩ := hcd.2.2 k (by omega)
      have hev : evl (fa3 a b c) f B (k + 1) = ev1 (fa3 a b c) (f (B + k)) (evl (fa3 a b c) f B k) := rfl
      have hdp : dpth f B (k + 1) = if 0 ≤ f (B + k) then dpth f B k + 1 else if f (B + k) = -10 then dpth f B k else dpth f B k - 1 := rfl
      refine hG.br rfl rfl rfl rfl (fun h1 => ?_) (fun h1 => ?_)
      · rw [eL] at h1
        exact absurd (show nI ln ≤ nI k from h1) (nI_ge (by omega) (by omega))
      · refine hG.ld rfl k rfl rfl rfl rfl rfl (by omega) ?_
        rw [eS]
        generalize hc : f (B + k) = s at *
        generalize hs : evl (fa3 a b c) f B k = st at *
        generalize hd : dpth f B k = dp at *
        by_cases h0 : 0 ≤ s
        · rw [if_pos h0] at hdp
          rw [stC_pos h0]
          refine hG.br rfl rfl rfl rfl (fun h2 => ?_) (fun h2 => ?_)
          · exact absurd h2 (i32_nlt.mpr h0)
          refine hG.br rfl rfl rfl rfl (fun h3 => ?_) (fun h3 => ?_)
          · exact absurd (show nI 96 ≤ nI dp from h3) (nI_ge (by omega) (by omega))
          refine hG.cS lk_L_29 mi_L_leaf rfl rfl (c_L_leaf s a b c) rfl rfl rfl rfl rfl rfl ?_
          rintro x τ' ⟨rfl, rfl⟩
          refine hG.sti rfl dp rfl rfl rfl rfl (by omega) ?_
          refine hG.jp rfl rfl rfl ?_
          rw [nI_1, nI_1, fa3_leaf a b c m hm h0 (q1 h0)]
          have := ih (k + 1) (by omega) (up τ' 3 dp (if s < 10000 then s else fa3 a b c (s - 10000).toNatClampNeg)) (some (.inl s)) (hS.up (by decide)) (by
            rw [hev, up_same]; unfold ev1; rw [if_pos h0]
            exact ⟨by rw [hlen, upd_same], StkR_upd hR1 (by omega)⟩)
          rw [hdp] at this
          exact this
        · rw [if_neg h0] at hdp
          have h10 : -10 ≤ s := by
            by_cases h : s = -10
            · rw [h]; decide
            · exact (q3 h0 h).2
          obtain ⟨g1, g2⟩ := stC_neg h0 h10
          refine hG.br rfl rfl rfl rfl (fun h2 => ?_) (fun h2 => ?_)
          rotate_left
          · exact absurd g1 h2
          refine hG.br rfl rfl rfl rfl (fun h3 => ?_) (fun h3 => ?_)
          · have h4 : ¬ s = -10 := fun e => h3 (g2.mpr e)
            rw [if_neg h4] at hdp
            obtain ⟨q4, q5⟩ := q3 h0 h4
            obtain ⟨d2, rfl⟩ : ∃ d2, dp = d2 + 2 := ⟨dp - 2, by omega⟩
            match st, hlen, hR1, hs, hev with
            | y :: x :: r, hlen, hR1, hs, hev =>
              have hrl : r.length = d2 := by simpa using hlen
              refine hG.br rfl rfl rfl rfl (fun h5 => ?_) (fun h5 => ?_)
              · exact absurd (show nI (d2 + 2) < nI 2 from h5) (fun h => by have := (nI_ltI (by omega) (by omega)).mp h; omega)
              refine hG.ld rfl d2 rfl rfl rfl rfl (by rw [pk_m1, nI_pred]) (by omega) ?_
              refine hG.ld rfl (d2 + 1) rfl rfl rfl rfl (by rw [pk_m1]) (by omega) ?_
              have ex : τ 3 d2 = x := by rw [← hrl]; exact hR1.2.1
              have ey : τ 3 (d2 + 1) = y := by rw [← hrl]; exact hR1.1
              rw [ex, ey]
              refine hG.cS lk_L_37 mi_L_join rfl rfl (c_L_join (-(stC s)) x y) rfl rfl rfl rfl rfl rfl ?_
              rintro z τ' ⟨rfl, rfl⟩
              refine hG.sti rfl d2 rfl rfl rfl (by rw [pk_m1, nI_pred]) (by omega) ?_
              refine hG.jp rfl rfl rfl ?_
              rw [nI_1, pk_m1, jnK_two h0 h10 h4]
              have := ih (k + 1) (by omega) (up τ' 3 d2 (twoK s x y)) (some (.inl (stC s))) (hS.up (by decide)) (by
                rw [hev, up_same]; unfold ev1; rw [if_neg h0, if_neg h4]
                exact ⟨by rw [hrl, upd_same], StkR_upd hR1.2.2 (by omega)⟩)
              rw [hdp] at this
              exact this
            | [], hlen, _, _, _ => simp at hlen
            | [y], hlen, _, _, _ => simp at hlen
          · have h4 : s = -10 := g2.mp h3
            rw [if_pos h4] at hdp
            have q4 := q2 h0 h4
            obtain ⟨d1, rfl⟩ : ∃ d1, dp = d1 + 1 := ⟨dp - 1, by omega⟩
            match st, hlen, hR1, hs, hev with
            | x :: r, hlen, hR1, hs, hev =>
              have hrl : r.length = d1 := by simpa using hlen
              refine hG.br rfl rfl rfl rfl (fun h5 => ?_) (fun h5 => ?_)
              · exact absurd (show nI (d1 + 1) < nI 1 from h5) (fun h => by have := (nI_ltI (by omega) (by omega)).mp h; omega)
              refine hG.ld rfl d1 rfl rfl rfl rfl (nI_pred d1) (by omega) ?_
              have ex : τ 3 d1 = x := by rw [← hrl]; exact hR1.1
              rw [ex]
              have j127 : ∀ v, v = bi (decide (x = 0)) → X Γ 127 [some (.inr 1), some (.inl (nI 6)), some (.inl a), some (.inl b), some (.inl c), some (.inr 16), some (.inl (nI (d1 + 1))), some (.inl (nI k)), some (.inl (stC s))] [.inl v, .inl (nI (d1 + 1) - 1), .inr 3] τ := by
                rintro v rfl
                refine hG.sti rfl d1 rfl rfl rfl (nI_pred d1) (by omega) ?_
                refine hG.jp rfl rfl rfl ?_
                rw [nI_1]
                have := ih (k + 1) (by omega) (up τ 3 d1 (bi (decide (x = 0)))) (some (.inl (stC s))) (hS.up (by decide)) (by
                  rw [hev, up_same]; unfold ev1; rw [if_neg h0, if_pos h4]
                  exact ⟨by rw [hrl, upd_same], StkR_upd hR1.2 (by omega)⟩)
                rw [hdp] at this
                exact this
              refine hG.br rfl rfl rfl rfl (fun h6 => ?_) (fun h6 => ?_)
              · refine hG.bit (Or.inl ⟨rfl, rfl⟩) mi_W_bit rfl rfl (c_W_bit false) rfl rfl rfl rfl rfl rfl rfl ?_
                rintro v τ' ⟨rfl, rfl⟩
                exact j127 _ (by rw [decide_eq_false h6])
              · refine hG.bit (Or.inl ⟨rfl, rfl⟩) mi_W_bit rfl rfl (c_W_bit true) rfl rfl rfl rfl rfl rfl rfl ?_
                rintro v τ' ⟨rfl, rfl⟩
                exact j127 _ (by rw [decide_eq_true h6])
            | [], hlen, _, _, _ => simp at hlen
  exact hG.go 5 rfl rfl (loop ln 0 (by omega) σ none Sm.rf trivial)
theorem c_L_work7 (f : Nat → Int32) (B m ln : Nat) (a b c : Int32) (hm : m ≤ 3) (hcd : CdOk f B m ln) (hx1 : σ 18 2 = nI ln) (hx2 : ∀ j, j < ln → σ 19 j = stC (f (B + j))) : Ci l θ 3 m_L_work [.inr 1, .inl (nI 7), .inl a, .inl b, .inl c] σ (fun r σ' => Sm [3] σ σ' ∧ r = (evl (fa3 a b c) f B ln).headD 0) := by
  have hln := hcd.1
  refine Ci.of (Or.inl mi_L_work) pk_L_work (nb rfl) (Or.inl rfl) [some (.inr 1), some (.inl (nI 7)), some (.inl a), some (.inl b), some (.inl c), none, none, none, none] rfl fun Γ hG hR => ?_
  refine hG.br rfl rfl rfl rfl (fun h1 => ?_) (fun h1 => ?_)
  · exact absurd h1 (by decide)
  refine hG.br rfl rfl rfl rfl (fun h2 => ?_) (fun h2 => ?_)
  rotate_left
  · exact absurd (show nI 7 < (14 : Int32) from by decide) h2
  refine hG.lda rfl 7 rfl rfl rfl (Or.inl rfl) rfl (by decide) rfl ?_
  have loop : ∀ n k, k + n = ln → ∀ (τ : Sg) (w : Option AV), Sm [3] σ τ → StkR (τ 3) (evl (fa3 a b c) f B k) → X Γ 29 [some (.inr 1), some (.inl (nI 7)), some (.inl a), some (.inl b), some (.inl c), some (.inr 18), some (.inl (nI (dpth f B k))), some (.inl (nI k)), w] [] τ := by
    intro n
    induction n with
    | zero =>
      intro k hk τ w hS hR1
      have hk : k = ln := by omega
      subst hk
      have eL : τ 18 2 = nI k := by rw [hS 18 (by decide)]; exact hx1
      refine hG.br rfl rfl rfl rfl (fun h1 => ?_) (fun h1 => ?_)
      · refine hG.ld rfl 0 rfl rfl rfl rfl rfl (by decide) ?_
        refine hG.rt hR rfl rfl rfl rfl ?_
        refine ⟨hS, ?_⟩
        have hlen := evl_len (fa := fa3 a b c) hcd k (Nat.le_refl _)
        rw [hcd.2.1] at hlen
        cases he : evl (fa3 a b c) f B k with
        | nil => rw [he] at hlen; simp at hlen
        | cons x r =>
          rw [he] at hlen hR1
          have hr : r = [] := by cases r with
            | nil => rfl
            | cons y r => simp at hlen
          subst hr
          exact hR1.1
      · rw [eL] at h1
        exact absurd (show nI k ≤ nI k from nI_le (Nat.le_refl k) (by omega)) h1
    | succ n ih =>
      intro k hk τ w hS hR1
      have eL : τ 18 2 = nI ln := by rw [hS 18 (by decide)]; exact hx1
      have eS : τ 19 k = stC (f (B + k)) := by rw [hS 19 (by decide)]; exact hx2 k (by omega)
      have hlen := evl_len (fa := fa3 a b c) hcd k (by omega)
      have hdl := dpth_le f B k
      obtain ⟨q1, q2, q3⟩ := hcd.2.2 k (by omega)
      have hev : evl (fa3 a b c) f B (k + 1) = ev1 (fa3 a b c) (f (B + k)) (evl (fa3 a b c) f B k) := rfl
      have hdp : dpth f B (k + 1) = if 0 ≤ f (B + k) then dpth f B k + 1 else if f (B + k) = -10 then dpth f B k else dpth f B k - 1 := rfl
      refine hG.br rfl rfl rfl rfl (fun h1 => ?_) (fun h1 => ?_)
      · rw [eL] at h1
        exact absurd (show nI ln ≤ nI k from h1) (nI_ge (by omega) (by omega))
      · refine hG.ld rfl k rfl rfl rfl rfl rfl (by omega) ?_
        rw [eS]
        generalize hc : f (B + k) = s at *
        generalize hs : evl (fa3 a b c) f B k = st at *
        generalize hd : dpth f B k = dp at *
        by_cases h0 : 0 ≤ s
        · rw [if_pos h0] at hdp
          rw [stC_pos h0]
          refine hG.br rfl rfl rfl rfl (fun h2 => ?_) (fun h2 => ?_)
          · exact absurd h2 (i32_nlt.mpr h0)
          refine hG.br rfl rfl rfl rfl (fun h3 => ?_) (fun h3 => ?_)
          · exact absurd (show nI 96 ≤ nI dp from h3) (nI_ge (by omega) (by omega))
          refine hG.cS lk_L_29 mi_L_leaf rfl rfl (c_L_leaf s a b c) rfl rfl rfl rfl rfl rfl ?_
          rintro x τ' ⟨rfl, rfl⟩
          refine hG.sti rfl dp rfl rfl rfl rfl (by omega) ?_
          refine hG.jp rfl rfl rfl ?_
          rw [nI_1, nI_1, fa3_leaf a b c m hm h0 (q1 h0)]
          have := ih (k + 1) (by omega) (up τ' 3 dp (if s < 10000 then s else fa3 a b c (s - 10000).toNatClampNeg)) (some (.inl s)) (hS.up (by decide)) (by
            rw [hev, up_same]; unfold ev1; rw [if_pos h0]
            exact ⟨by rw [hlen, upd_same], StkR_upd hR1 (by omega)⟩)
          rw [hdp] at this
          exact this
        · rw [if_neg h0] at hdp
          have h10 : -10 ≤ s := by
            by_cases h : s = -10
            · rw [h]; decide
            · exact (q3 h0 h).2
          obtain ⟨g1, g2⟩ := stC_neg h0 h10
          refine hG.br rfl rfl rfl rfl (fun h2 => ?_) (fun h2 => ?_)
          rotate_left
          · exact absurd g1 h2
          refine hG.br rfl rfl rfl rfl (fun h3 => ?_) (fun h3 => ?_)
          · have h4 : ¬ s = -10 := fun e => h3 (g2.mpr e)
            rw [if_neg h4] at hdp
            obtain ⟨q4, q5⟩ := q3 h0 h4
            obtain ⟨d2, rfl⟩ : ∃ d2, dp = d2 + 2 := ⟨dp - 2, by omega⟩
            match st, hlen, hR1, hs, hev with
            | y :: x :: r, hlen, hR1, hs, hev =>
              have hrl : r.length = d2 := by simpa using hlen
              refine hG.br rfl rfl rfl rfl (fun h5 => ?_) (fun h5 => ?_)
              · exact absurd (show nI (d2 + 2) < nI 2 from h5) (fun h => by have := (nI_ltI (by omega) (by omega)).mp h; omega)
              refine hG.ld rfl d2 rfl rfl rfl rfl (by rw [pk_m1, nI_pred]) (by omega) ?_
              refine hG.ld rfl (d2 + 1) rfl rfl rfl rfl (by rw [pk_m1]) (by omega) ?_
              have ex : τ 3 d2 = x := by rw [← hrl]; exact hR1.2.1
              have ey : τ 3 (d2 + 1) = y := by rw [← hrl]; exact hR1.1
              rw [ex, ey]
              refine hG.cS lk_L_37 mi_L_join rfl rfl (c_L_join (-(stC s)) x y) rfl rfl rfl rfl rfl rfl ?_
              rintro z τ' ⟨rfl, rfl⟩
              refine hG.sti rfl d2 rfl rfl rfl (by rw [pk_m1, nI_pred]) (by omega) ?_
              refine hG.jp rfl rfl rfl ?_
              rw [nI_1, pk_m1, jnK_two h0 h10 h4]
              have := ih (k + 1) (by omega) (up τ' 3 d2 (twoK s x y)) (some (.inl (stC s))) (hS.up (by decide)) (by
                rw [hev, up_same]; unfold ev1; rw [if_neg h0, if_neg h4]
                exact ⟨by rw [hrl, upd_same], StkR_upd hR1.2.2 (by omega)⟩)
              rw [hdp] at this
              exact this
            | [], hlen, _, _, _ => simp at hlen
            | [y], hlen, _, _, _ => simp at hlen
          · have h4 : s = -10 := g2.mp h3
            rw [if_pos h4] at hdp
            have q4 := q2 h0 h4
            obtain ⟨d1, rfl⟩ : ∃ d1, dp = d1 + 1 := ⟨dp - 1, by omega⟩
            match st, hlen, hR1, hs, hev with
            | x :: r, hlen, hR1, hs, hev =>
              have hrl : r.length = d1 := by simpa using hlen
              refine hG.br rfl rfl rfl rfl (fun h5 => ?_) (fun h5 => ?_)
              · exact absurd (show nI (d1 + 1) < nI 1 from h5) (fun h => by have := (nI_ltI (by omega) (by omega)).mp h; omega)
              refine hG.ld rfl d1 rfl rfl rfl rfl (nI_pred d1) (by omega) ?_
              have ex : τ 3 d1 = x := by rw [← hrl]; exact hR1.1
              rw [ex]
              have j127 : ∀ v, v = bi (decide (x = 0)) → X Γ 127 [some (.inr 1), some (.inl (nI 7)), some (.inl a), some (.inl b), some (.inl c), some (.inr 18), some (.inl (nI (d1 + 1))), some (.inl (nI k)), some (.inl (stC s))] [.inl v, .inl (nI (d1 + 1) - 1), .inr 3] τ := by
                rintro v rfl
                refine hG.sti rfl d1 rfl rfl rfl (nI_pred d1) (by omega) ?_
                refine hG.jp rfl rfl rfl ?_
                rw [nI_1]
                have := ih (k + 1) (by omega) (up τ 3 d1 (bi (decide (x = 0)))) (some (.inl (stC s))) (hS.up (by decide)) (by
                  rw [hev, up_same]; unfold ev1; rw [if_neg h0, if_pos h4]
                  exact ⟨by rw [hrl, upd_same], StkR_upd hR1.2 (by omega)⟩)
                rw [hdp] at this
                exact this
              refine hG.br rfl rfl rfl rfl (fun h6 => ?_) (fun h6 => ?_)
              · refine hG.bit (Or.inl ⟨rfl, rfl⟩) mi_W_bit rfl rfl (c_W_bit false) rfl rfl rfl rfl rfl rfl rfl ?_
                rintro v τ' ⟨rfl, rfl⟩
                exact j127 _ (by rw [decide_eq_false h6])
              · refine hG.bit (Or.inl ⟨rfl, rfl⟩) mi_W_bit rfl rfl (c_W_bit true) rfl rfl rfl rfl rfl rfl rfl ?_
                rintro v τ' ⟨rfl, rfl⟩
                exact j127 _ (by rw [decide_eq_true h6])
            | [], hlen, _, _, _ => simp at hlen
  exact hG.go 5 rfl rfl (loop ln 0 (by omega) σ none Sm.rf trivial)
theorem c_L_work8 (f : Nat → Int32) (B m ln : Nat) (a b c : Int32) (hm : m ≤ 3) (hcd : CdOk f B m ln) (hx1 : σ 20 2 = nI ln) (hx2 : ∀ j, j < ln → σ 21 j = stC (f (B + j))) : Ci l θ 3 m_L_work [.inr 1, .inl (nI 8), .inl a, .inl b, .inl c] σ (fun r σ' => Sm [3] σ σ' ∧ r = (evl (fa3 a b c) f B ln).headD 0) := by
  have hln := hcd.1
  refine Ci.of (Or.inl mi_L_work) pk_L_work (nb rfl) (Or.inl rfl) [some (.inr 1), some (.inl (nI 8)), some (.inl a), some (.inl b), some (.inl c), none, none, none, none] rfl fun Γ hG hR => ?_
  refine hG.br rfl rfl rfl rfl (fun h1 => ?_) (fun h1 => ?_)
  · exact absurd h1 (by decide)
  refine hG.br rfl rfl rfl rfl (fun h2 => ?_) (fun h2 => ?_)
  rotate_left
  · exact absurd (show nI 8 < (14 : Int32) from by decide) h2
  refine hG.lda rfl 8 rfl rfl rfl (Or.inl rfl) rfl (by decide) rfl ?_
  have loop : ∀ n k, k + n = ln → ∀ (τ : Sg) (w : Option AV), Sm [3] σ τ → StkR (τ 3) (evl (fa3 a b c) f B k) → X Γ 29 [some (.inr 1), some (.inl (nI 8)), some (.inl a), some (.inl b), some (.inl c), some (.inr 20), some (.inl (nI (dpth f B k))), some (.inl (nI k)), w] [] τ := by
    intro n
    induction n with
    | zero =>
      intro k hk τ w hS hR1
      have hk : k = ln := by omega
      subst hk
      have eL : τ 20 2 = nI k := by rw [hS 20 (by decide)]; exact hx1
      refine hG.br rfl rfl rfl rfl (fun h1 => ?_) (fun h1 => ?_)
      · refine hG.ld rfl 0 rfl rfl rfl rfl rfl (by decide) ?_
        refine hG.rt hR rfl rfl rfl rfl ?_
        refine ⟨hS, ?_⟩
        have hlen := evl_len (fa := fa3 a b c) hcd k (Nat.le_refl _)
        rw [hcd.2.1] at hlen
        cases he : evl (fa3 a b c) f B k with
        | nil => rw [he] at hlen; simp at hlen
        | cons x r =>
          rw [he] at hlen hR1
          have hr : r = [] := by cases r with
            | nil => rfl
            | cons y r => simp at hlen
          subst hr
          exact hR1.1
      · rw [eL] at h1
        exact absurd (show nI k ≤ nI k from nI_le (Nat.le_refl k) (by omega)) h1
    | succ n ih =>
      intro k hk τ w hS hR1
      have eL : τ 20 2 = nI ln := by rw [hS 20 (by decide)]; exact hx1
      have eS : τ 21 k = stC (f (B + k)) := by rw [hS 21 (by decide)]; exact hx2 k (by omega)
      have hlen := evl_len (fa := fa3 a b c) hcd k (by omega)
      have hdl := dpth_le f B k
      obtain ⟨q1, q2, q3⟩ := hcd.2.2 k (by omega)
      have hev : evl (fa3 a b c) f B (k + 1) = ev1 (fa3 a b c) (f (B + k)) (evl (fa3 a b c) f B k) := rfl
      have hdp : dpth f B (k + 1) = if 0 ≤ f (B + k) then dpth f B k + 1 else if f (B + k) = -10 then dpth f B k else dpth f B k - 1 := rfl
      refine hG.br rfl rfl rfl rfl (fun h1 => ?_) (fun h1 => ?_)
      · rw [eL] at h1
        exact absurd (show nI ln ≤ nI k from h1) (nI_ge (by omega) (by omega))
      · refine hG.ld rfl k rfl rfl rfl rfl rfl (by omega) ?_
        rw [eS]
        generalize hc : f (B + k) = s at *
        generalize hs : evl (fa3 a b c) f B k = st at *
        generalize hd : dpth f B k = dp at *
        by_cases h0 : 0 ≤ s
        · rw [if_pos h0] at hdp
          rw [stC_pos h0]
          refine hG.br rfl rfl rfl rfl (fun h2 => ?_) (fun h2 => ?_)
          · exact absurd h2 (i32_nlt.mpr h0)
          refine hG.br rfl rfl rfl rfl (fun h3 => ?_) (fun h3 => ?_)
          · exact absurd (show nI 96 ≤ nI dp from h3) (nI_ge (by omega) (by omega))
          refine hG.cS lk_L_29 mi_L_leaf rfl rfl (c_L_leaf s a b c) rfl rfl rfl rfl rfl rfl ?_
          rintro x τ' ⟨rfl, rfl⟩
          refine hG.sti rfl dp rfl rfl rfl rfl (by omega) ?_
          refine hG.jp rfl rfl rfl ?_
          rw [nI_1, nI_1, fa3_leaf a b c m hm h0 (q1 h0)]
          have := ih (k + 1) (by omega) (up τ' 3 dp (if s < 10000 then s else fa3 a b c (s - 10000).toNatClampNeg)) (some (.inl s)) (hS.up (by decide)) (by
            rw [hev, up_same]; unfold ev1; rw [if_pos h0]
            exact ⟨by rw [hlen, upd_same], StkR_upd hR1 (by omega)⟩)
          rw [hdp] at this
          exact this
        · rw [if_neg h0] at hdp
          have h10 : -10 ≤ s := by
            by_cases h : s = -10
            · rw [h]; decide
            · exact (q3 h0 h).2
          obtain ⟨g1, g2⟩ := stC_neg h0 h10
          refine hG.br rfl rfl rfl rfl (fun h2 => ?_) (fun h2 => ?_)
          rotate_left
          · exact absurd g1 h2
          refine hG.br rfl rfl rfl rfl (fun h3 => ?_) (fun h3 => ?_)
          · have h4 : ¬ s = -10 := fun e => h3 (g2.mpr e)
            rw [if_neg h4] at hdp
            obtain ⟨q4, q5⟩ := q3 h0 h4
            obtain ⟨d2, rfl⟩ : ∃ d2, dp = d2 + 2 := ⟨dp - 2, by omega⟩
            match st, hlen, hR1, hs, hev with
            | y :: x :: r, hlen, hR1, hs, hev =>
              have hrl : r.length = d2 := by simpa using hlen
              refine hG.br rfl rfl rfl rfl (fun h5 => ?_) (fun h5 => ?_)
              · exact absurd (show nI (d2 + 2) < nI 2 from h5) (fun h => by have := (nI_ltI (by omega) (by omega)).mp h; omega)
              refine hG.ld rfl d2 rfl rfl rfl rfl (by rw [pk_m1, nI_pred]) (by omega) ?_
              refine hG.ld rfl (d2 + 1) rfl rfl rfl rfl (by rw [pk_m1]) (by omega) ?_
              have ex : τ 3 d2 = x := by rw [← hrl]; exact hR1.2.1
              have ey : τ 3 (d2 + 1) = y := by rw [← hrl]; exact hR1.1
              rw [ex, ey]
              refine hG.cS lk_L_37 mi_L_join rfl rfl (c_L_join (-(stC s)) x y) rfl rfl rfl rfl rfl rfl ?_
              rintro z τ' ⟨rfl, rfl⟩
              refine hG.sti rfl d2 rfl rfl rfl (by rw [pk_m1, nI_pred]) (by omega) ?_
              refine hG.jp rfl rfl rfl ?_
              rw [nI_1, pk_m1, jnK_two h0 h10 h4]
              have := ih (k + 1) (by omega) (up τ' 3 d2 (twoK s x y)) (some (.inl (stC s))) (hS.up (by decide)) (by
                rw [hev, up_same]; unfold ev1; rw [if_neg h0, if_neg h4]
                exact ⟨by rw [hrl, upd_same], StkR_upd hR1.2.2 (by omega)⟩)
              rw [hdp] at this
              exact this
            | [], hlen, _, _, _ => simp at hlen
            | [y], hlen, _, _, _ => simp at hlen
          · have h4 : s = -10 := g2.mp h3
            rw [if_pos h4] at hdp
            have q4 := q2 h0 h4
            obtain ⟨d1, rfl⟩ : ∃ d1, dp = d1 + 1 := ⟨dp - 1, by omega⟩
            match st, hlen, hR1, hs, hev with
            | x :: r, hlen, hR1, hs, hev =>
              have hrl : r.length = d1 := by simpa using hlen
              refine hG.br rfl rfl rfl rfl (fun h5 => ?_) (fun h5 => ?_)
              · exact absurd (show nI (d1 + 1) < nI 1 from h5) (fun h => by have := (nI_ltI (by omega) (by omega)).mp h; omega)
              refine hG.ld rfl d1 rfl rfl rfl rfl (nI_pred d1) (by omega) ?_
              have ex : τ 3 d1 = x := by rw [← hrl]; exact hR1.1
              rw [ex]
              have j127 : ∀ v, v = bi (decide (x = 0)) → X Γ 127 [some (.inr 1), some (.inl (nI 8)), some (.inl a), some (.inl b), some (.inl c), some (.inr 20), some (.inl (nI (d1 + 1))), some (.inl (nI k)), some (.inl (stC s))] [.inl v, .inl (nI (d1 + 1) - 1), .inr 3] τ := by
                rintro v rfl
                refine hG.sti rfl d1 rfl rfl rfl (nI_pred d1) (by omega) ?_
                refine hG.jp rfl rfl rfl ?_
                rw [nI_1]
                have := ih (k + 1) (by omega) (up τ 3 d1 (bi (decide (x = 0)))) (some (.inl (stC s))) (hS.up (by decide)) (by
                  rw [hev, up_same]; unfold ev1; rw [if_neg h0, if_pos h4]
                  exact ⟨by rw [hrl, upd_same], StkR_upd hR1.2 (by omega)⟩)
                rw [hdp] at this
                exact this
              refine hG.br rfl rfl rfl rfl (fun h6 => ?_) (fun h6 => ?_)
              · refine hG.bit (Or.inl ⟨rfl, rfl⟩) mi_W_bit rfl rfl (c_W_bit false) rfl rfl rfl rfl rfl rfl rfl ?_
                rintro v τ' ⟨rfl, rfl⟩
                exact j127 _ (by rw [decide_eq_false h6])
              · refine hG.bit (Or.inl ⟨rfl, rfl⟩) mi_W_bit rfl rfl (c_W_bit true) rfl rfl rfl rfl rfl rfl rfl ?_
                rintro v τ' ⟨rfl, rfl⟩
                exact j127 _ (by rw [decide_eq_true h6])
            | [], hlen, _, _, _ => simp at hlen
  exact hG.go 5 rfl rfl (loop ln 0 (by omega) σ none Sm.rf trivial)
theorem c_L_work9 (f : Nat → Int32) (B m ln : Nat) (a b c : Int32) (hm : m ≤ 3) (hcd : CdOk f B m ln) (hx1 : σ 22 2 = nI ln) (hx2 : ∀ j, j < ln → σ 23 j = stC (f (B + j))) : Ci l θ 3 m_L_work [.inr 1, .inl (nI 9), .inl a, .inl b, .inl c] σ (fun r σ' => Sm [3] σ σ' ∧ r = (evl (fa3 a b c) f B ln).headD 0) := by
  have hln := hcd.1
  refine Ci.of (Or.inl mi_L_work) pk_L_work (nb rfl) (Or.inl rfl) [some (.inr 1), some (.inl (nI 9)), some (.inl a), some (.inl b), some (.inl c), none, none, none, none] rfl fun Γ hG hR => ?_
  refine hG.br rfl rfl rfl rfl (fun h1 => ?_) (fun h1 => ?_)
  · exact absurd h1 (by decide)
  refine hG.br rfl rfl rfl rfl (fun h2 => ?_) (fun h2 => ?_)
  rotate_left
  · exact absurd (show nI 9 < (14 : Int32) from by decide) h2
  refine hG.lda rfl 9 rfl rfl rfl (Or.inl rfl) rfl (by decide) rfl ?_
  have loop : ∀ n k, k + n = ln → ∀ (τ : Sg) (w : Option AV), Sm [3] σ τ → StkR (τ 3) (evl (fa3 a b c) f B k) → X Γ 29 [some (.inr 1), some (.inl (nI 9)), some (.inl a), some (.inl b), some (.inl c), some (.inr 22), some (.inl (nI (dpth f B k))), some (.inl (nI k)), w] [] τ := by
    intro n
    induction n with
    | zero =>
      intro k hk τ w hS hR1
      have hk : k = ln := by omega
      subst hk
      have eL : τ 22 2 = nI k := by rw [hS 22 (by decide)]; exact hx1
      refine hG.br rfl rfl rfl rfl (fun h1 => ?_) (fun h1 => ?_)
      · refine hG.ld rfl 0 rfl rfl rfl rfl rfl (by decide) ?_
        refine hG.rt hR rfl rfl rfl rfl ?_
        refine ⟨hS, ?_⟩
        have hlen := evl_len (fa := fa3 a b c) hcd k (Nat.le_refl _)
        rw [hcd.2.1] at hlen
        cases he : evl (fa3 a b c) f B k with
        | nil => rw [he] at hlen; simp at hlen
        | cons x r =>
          rw [he] at hlen hR1
          have hr : r = [] := by cases r with
            | nil => rfl
            | cons y r => simp at hlen
          subst hr
          exact hR1.1
      · rw [eL] at h1
        exact absurd (show nI k ≤ nI k from nI_le (Nat.le_refl k) (by omega)) h1
    | succ n ih =>
      intro k hk τ w hS hR1
      have eL : τ 22 2 = nI ln := by rw [hS 22 (by decide)]; exact hx1
      have eS : τ 23 k = stC (f (B + k)) := by rw [hS 23 (by decide)]; exact hx2 k (by omega)
      have hlen := evl_len (fa := fa3 a b c) hcd k (by omega)
      have hdl := dpth_le f B k
      obtain ⟨q1, q2, q3⟩ := hcd.2.2 k (by omega)
      have hev : evl (fa3 a b c) f B (k + 1) = ev1 (fa3 a b c) (f (B + k)) (evl (fa3 a b c) f B k) := rfl
      have hdp : dpth f B (k + 1) = if 0 ≤ f (B + k) then dpth f B k + 1 else if f (B + k) = -10 then dpth f B k else dpth f B k - 1 := rfl
      refine hG.br rfl rfl rfl rfl (fun h1 => ?_) (fun h1 => ?_)
      · rw [eL] at h1
        exact absurd (show nI ln ≤ nI k from h1) (nI_ge (by omega) (by omega))
      · refine hG.ld rfl k rfl rfl rfl rfl rfl (by omega) ?_
        rw [eS]
        generalize hc : f (B + k) = s at *
        generalize hs : evl (fa3 a b c) f B k = st at *
        generalize hd : dpth f B k = dp at *
        by_cases h0 : 0 ≤ s
        · rw [if_pos h0] at hdp
          rw [stC_pos h0]
          refine hG.br rfl rfl rfl rfl (fun h2 => ?_) (fun h2 => ?_)
          · exact absurd h2 (i32_nlt.mpr h0)
          refine hG.br rfl rfl rfl rfl (fun h3 => ?_) (fun h3 => ?_)
          · exact absurd (show nI 96 ≤ nI dp from h3) (nI_ge (by omega) (by omega))
          refine hG.cS lk_L_29 mi_L_leaf rfl rfl (c_L_leaf s a b c) rfl rfl rfl rfl rfl rfl ?_
          rintro x τ' ⟨rfl, rfl⟩
          refine hG.sti rfl dp rfl rfl rfl rfl (by omega) ?_
          refine hG.jp rfl rfl rfl ?_
          rw [nI_1, nI_1, fa3_leaf a b c m hm h0 (q1 h0)]
          have := ih (k + 1) (by omega) (up τ' 3 dp (if s < 10000 then s else fa3 a b c (s - 10000).toNatClampNeg)) (some (.inl s)) (hS.up (by decide)) (by
            rw [hev, up_same]; unfold ev1; rw [if_pos h0]
            exact ⟨by rw [hlen, upd_same], StkR_upd hR1 (by omega)⟩)
          rw [hdp] at this
          exact this
        · rw [if_neg h0] at hdp
          have h10 : -10 ≤ s := by
            by_cases h : s = -10
            · rw [h]; decide
            · exact (q3 h0 h).2
          obtain ⟨g1, g2⟩ := stC_neg h0 h10
          refine hG.br rfl rfl rfl rfl (fun h2 => ?_) (fun h2 => ?_)
          rotate_left
          · exact absurd g1 h2
          refine hG.br rfl rfl rfl rfl (fun h3 => ?_) (fun h3 => ?_)
          · have h4 : ¬ s = -10 := fun e => h3 (g2.mpr e)
            rw [if_neg h4] at hdp
            obtain ⟨q4, q5⟩ := q3 h0 h4
            obtain ⟨d2, rfl⟩ : ∃ d2, dp = d2 + 2 := ⟨dp - 2, by omega⟩
            match st, hlen, hR1, hs, hev with
            | y :: x :: r, hlen, hR1, hs, hev =>
              have hrl : r.length = d2 := by simpa using hlen
              refine hG.br rfl rfl rfl rfl (fun h5 => ?_) (fun h5 => ?_)
              · exact absurd (show nI (d2 + 2) < nI 2 from h5) (fun h => by have := (nI_ltI (by omega) (by omega)).mp h; omega)
              refine hG.ld rfl d2 rfl rfl rfl rfl (by rw [pk_m1, nI_pred]) (by omega) ?_
              refine hG.ld rfl (d2 + 1) rfl rfl rfl rfl (by rw [pk_m1]) (by omega) ?_
              have ex : τ 3 d2 = x := by rw [← hrl]; exact hR1.2.1
              have ey : τ 3 (d2 + 1) = y := by rw [← hrl]; exact hR1.1
              rw [ex, ey]
              refine hG.cS lk_L_37 mi_L_join rfl rfl (c_L_join (-(stC s)) x y) rfl rfl rfl rfl rfl rfl ?_
              rintro z τ' ⟨rfl, rfl⟩
              refine hG.sti rfl d2 rfl rfl rfl (by rw [pk_m1, nI_pred]) (by omega) ?_
              refine hG.jp rfl rfl rfl ?_
              rw [nI_1, pk_m1, jnK_two h0 h10 h4]
              have := ih (k + 1) (by omega) (up τ' 3 d2 (twoK s x y)) (some (.inl (stC s))) (hS.up (by decide)) (by
                rw [hev, up_same]; unfold ev1; rw [if_neg h0, if_neg h4]
                exact ⟨by rw [hrl, upd_same], StkR_upd hR1.2.2 (by omega)⟩)
              rw [hdp] at this
              exact this
            | [], hlen, _, _, _ => simp at hlen
            | [y], hlen, _, _, _ => simp at hlen
          · have h4 : s = -10 := g2.mp h3
            rw [if_pos h4] at hdp
            have q4 := q2 h0 h4
            obtain ⟨d1, rfl⟩ : ∃ d1, dp = d1 + 1 := ⟨dp - 1, by omega⟩
            match st, hlen, hR1, hs, hev with
            | x :: r, hlen, hR1, hs, hev =>
              have hrl : r.length = d1 := by simpa using hlen
              refine hG.br rfl rfl rfl rfl (fun h5 => ?_) (fun h5 => ?_)
              · exact absurd (show nI (d1 + 1) < nI 1 from h5) (fun h => by have := (nI_ltI (by omega) (by omega)).mp h; omega)
              refine hG.ld rfl d1 rfl rfl rfl rfl (nI_pred d1) (by omega) ?_
              have ex : τ 3 d1 = x := by rw [← hrl]; exact hR1.1
              rw [ex]
              have j127 : ∀ v, v = bi (decide (x = 0)) → X Γ 127 [some (.inr 1), some (.inl (nI 9)), some (.inl a), some (.inl b), some (.inl c), some (.inr 22), some (.inl (nI (d1 + 1))), some (.inl (nI k)), some (.inl (stC s))] [.inl v, .inl (nI (d1 + 1) - 1), .inr 3] τ := by
                rintro v rfl
                refine hG.sti rfl d1 rfl rfl rfl (nI_pred d1) (by omega) ?_
                refine hG.jp rfl rfl rfl ?_
                rw [nI_1]
                have := ih (k + 1) (by omega) (up τ 3 d1 (bi (decide (x = 0)))) (some (.inl (stC s))) (hS.up (by decide)) (by
                  rw [hev, up_same]; unfold ev1; rw [if_neg h0, if_pos h4]
                  exact ⟨by rw [hrl, upd_same], StkR_upd hR1.2 (by omega)⟩)
                rw [hdp] at this
                exact this
              refine hG.br rfl rfl rfl rfl (fun h6 => ?_) (fun h6 => ?_)
              · refine hG.bit (Or.inl ⟨rfl, rfl⟩) mi_W_bit rfl rfl (c_W_bit false) rfl rfl rfl rfl rfl rfl rfl ?_
                rintro v τ' ⟨rfl, rfl⟩
                exact j127 _ (by rw [decide_eq_false h6])
              · refine hG.bit (Or.inl ⟨rfl, rfl⟩) mi_W_bit rfl rfl (c_W_bit true) rfl rfl rfl rfl rfl rfl rfl ?_
                rintro v τ' ⟨rfl, rfl⟩
                exact j127 _ (by rw [decide_eq_true h6])
            | [], hlen, _, _, _ => simp at hlen
  exact hG.go 5 rfl rfl (loop ln 0 (by omega) σ none Sm.rf trivial)
theorem c_L_work10 (f : Nat → Int32) (B m ln : Nat) (a b c : Int32) (hm : m ≤ 3) (hcd : CdOk f B m ln) (hx1 : σ 24 2 = nI ln) (hx2 : ∀ j, j < ln → σ 25 j = stC (f (B + j))) : Ci l θ 3 m_L_work [.inr 1, .inl (nI 10), .inl a, .inl b, .inl c] σ (fun r σ' => Sm [3] σ σ' ∧ r = (evl (fa3 a b c) f B ln).headD 0) := by
  have hln := hcd.1
  refine Ci.of (Or.inl mi_L_work) pk_L_work (nb rfl) (Or.inl rfl) [some (.inr 1), some (.inl (nI 10)), some (.inl a), some (.inl b), some (.inl c), none, none, none, none] rfl fun Γ hG hR => ?_
  refine hG.br rfl rfl rfl rfl (fun h1 => ?_) (fun h1 => ?_)
  · exact absurd h1 (by decide)
  refine hG.br rfl rfl rfl rfl (fun h2 => ?_) (fun h2 => ?_)
  rotate_left
  · exact absurd (show nI 10 < (14 : Int32) from by decide) h2
  refine hG.lda rfl 10 rfl rfl rfl (Or.inl rfl) rfl (by decide) rfl ?_
  have loop : ∀ n k, k + n = ln → ∀ (τ : Sg) (w : Option AV), Sm [3] σ τ → StkR (τ 3) (evl (fa3 a b c) f B k) → X Γ 29 [some (.inr 1), some (.inl (nI 10)), some (.inl a), some (.inl b), some (.inl c), some (.inr 24), some (.inl (nI (dpth f B k))), some (.inl (nI k)), w] [] τ := by
    intro n
    induction n with
    | zero =>
      intro k hk τ w hS hR1
      have hk : k = ln := by omega
      subst hk
      have eL : τ 24 2 = nI k := by rw [hS 24 (by decide)]; exact hx1
      refine hG.br rfl rfl rfl rfl (fun h1 => ?_) (fun h1 => ?_)
      · refine hG.ld rfl 0 rfl rfl rfl rfl rfl (by decide) ?_
        refine hG.rt hR rfl rfl rfl rfl ?_
        refine ⟨hS, ?_⟩
        have hlen := evl_len (fa := fa3 a b c) hcd k (Nat.le_refl _)
        rw [hcd.2.1] at hlen
        cases he : evl (fa3 a b c) f B k with
        | nil => rw [he] at hlen; simp at hlen
        | cons x r =>
          rw [he] at hlen hR1
          have hr : r = [] := by cases r with
            | nil => rfl
            | cons y r => simp at hlen
          subst hr
          exact hR1.1
      · rw [eL] at h1
        exact absurd (show nI k ≤ nI k from nI_le (Nat.le_refl k) (by omega)) h1
    | succ n ih =>
      intro k hk τ w hS hR1
      have eL : τ 24 2 = nI ln := by rw [hS 24 (by decide)]; exact hx1
      have eS : τ 25 k = stC (f (B + k)) := by rw [hS 25 (by decide)]; exact hx2 k (by omega)
      have hlen := evl_len (fa := fa3 a b c) hcd k (by omega)
      have hdl := dpth_le f B k
      obtain ⟨q1, q2, q3⟩ := hcd.2.2 k (by omega)
      have hev : evl (fa3 a b c) f B (k + 1) = ev1 (fa3 a b c) (f (B + k)) (evl (fa3 a b c) f B k) := rfl
      have hdp : dpth f B (k + 1) = if 0 ≤ f (B + k) then dpth f B k + 1 else if f (B + k) = -10 then dpth f B k else dpth f B k - 1 := rfl
      refine hG.br rfl rfl rfl rfl (fun h1 => ?_) (fun h1 => ?_)
      · rw [eL] at h1
        exact absurd (show nI ln ≤ nI k from h1) (nI_ge (by omega) (by omega))
      · refine hG.ld rfl k rfl rfl rfl rfl rfl (by omega) ?_
        rw [eS]
        generalize hc : f (B + k) = s at *
        generalize hs : evl (fa3 a b c) f B k = st at *
        generalize hd : dpth f B k = dp at *
        by_cases h0 : 0 ≤ s
        · rw [if_pos h0] at hdp
          rw [stC_pos h0]
          refine hG.br rfl rfl rfl rfl (fun h2 => ?_) (fun h2 => ?_)
          · exact absurd h2 (i32_nlt.mpr h0)
          refine hG.br rfl rfl rfl rfl (fun h3 => ?_) (fun h3 => ?_)
          · exact absurd (show nI 96 ≤ nI dp from h3) (nI_ge (by omega) (by omega))
          refine hG.cS lk_L_29 mi_L_leaf rfl rfl (c_L_leaf s a b c) rfl rfl rfl rfl rfl rfl ?_
          rintro x τ' ⟨rfl, rfl⟩
          refine hG.sti rfl dp rfl rfl rfl rfl (by omega) ?_
          refine hG.jp rfl rfl rfl ?_
          rw [nI_1, nI_1, fa3_leaf a b c m hm h0 (q1 h0)]
          have := ih (k + 1) (by omega) (up τ' 3 dp (if s < 10000 then s else fa3 a b c (s - 10000).toNatClampNeg)) (some (.inl s)) (hS.up (by decide)) (by
            rw [hev, up_same]; unfold ev1; rw [if_pos h0]
            exact ⟨by rw [hlen, upd_same], StkR_upd hR1 (by omega)⟩)
          rw [hdp] at this
          exact this
        · rw [if_neg h0] at hdp
          have h10 : -10 ≤ s := by
            by_cases h : s = -10
            · rw [h]; decide
            · exact (q3 h0 h).2
          obtain ⟨g1, g2⟩ := stC_neg h0 h10
          refine hG.br rfl rfl rfl rfl (fun h2 => ?_) (fun h2 => ?_)
          rotate_left
          · exact absurd g1 h2
          refine hG.br rfl rfl rfl rfl (fun h3 => ?_) (fun h3 => ?_)
          · have h4 : ¬ s = -10 := fun e => h3 (g2.mpr e)
            rw [if_neg h4] at hdp
            obtain ⟨q4, q5⟩ := q3 h0 h4
            obtain ⟨d2, rfl⟩ : ∃ d2, dp = d2 + 2 := ⟨dp - 2, by omega⟩
            match st, hlen, hR1, hs, hev with
            | y :: x :: r, hlen, hR1, hs, hev =>
              have hrl : r.length = d2 := by simpa using hlen
              refine hG.br rfl rfl rfl rfl (fun h5 => ?_) (fun h5 => ?_)
              · exact absurd (show nI (d2 + 2) < nI 2 from h5) (fun h => by have := (nI_ltI (by omega) (by omega)).mp h; omega)
              refine hG.ld rfl d2 rfl rfl rfl rfl (by rw [pk_m1, nI_pred]) (by omega) ?_
              refine hG.ld rfl (d2 + 1) rfl rfl rfl rfl (by rw [pk_m1]) (by omega) ?_
              have ex : τ 3 d2 = x := by rw [← hrl]; exact hR1.2.1
              have ey : τ 3 (d2 + 1) = y := by rw [← hrl]; exact hR1.1
              rw [ex, ey]
              refine hG.cS lk_L_37 mi_L_join rfl rfl (c_L_join (-(stC s)) x y) rfl rfl rfl rfl rfl rfl ?_
              rintro z τ' ⟨rfl, rfl⟩
              refine hG.sti rfl d2 rfl rfl rfl (by rw [pk_m1, nI_pred]) (by omega) ?_
              refine hG.jp rfl rfl rfl ?_
              rw [nI_1, pk_m1, jnK_two h0 h10 h4]
              have := ih (k + 1) (by omega) (up τ' 3 d2 (twoK s x y)) (some (.inl (stC s))) (hS.up (by decide)) (by
                rw [hev, up_same]; unfold ev1; rw [if_neg h0, if_neg h4]
                exact ⟨by rw [hrl, upd_same], StkR_upd hR1.2.2 (by omega)⟩)
              rw [hdp] at this
              exact this
            | [], hlen, _, _, _ => simp at hlen
            | [y], hlen, _, _, _ => simp at hlen
          · have h4 : s = -10 := g2.mp h3
            rw [if_pos h4] at hdp
            have q4 := q2 h0 h4
            obtain ⟨d1, rfl⟩ : ∃ d1, dp = d1 + 1 := ⟨dp - 1, by omega⟩
            match st, hlen, hR1, hs, hev with
            | x :: r, hlen, hR1, hs, hev =>
              have hrl : r.length = d1 := by simpa using hlen
              refine hG.br rfl rfl rfl rfl (fun h5 => ?_) (fun h5 => ?_)
              · exact absurd (show nI (d1 + 1) < nI 1 from h5) (fun h => by have := (nI_ltI (by omega) (by omega)).mp h; omega)
              refine hG.ld rfl d1 rfl rfl rfl rfl (nI_pred d1) (by omega) ?_
              have ex : τ 3 d1 = x := by rw [← hrl]; exact hR1.1
              rw [ex]
              have j127 : ∀ v, v = bi (decide (x = 0)) → X Γ 127 [some (.inr 1), some (.inl (nI 10)), some (.inl a), some (.inl b), some (.inl c), some (.inr 24), some (.inl (nI (d1 + 1))), some (.inl (nI k)), some (.inl (stC s))] [.inl v, .inl (nI (d1 + 1) - 1), .inr 3] τ := by
                rintro v rfl
                refine hG.sti rfl d1 rfl rfl rfl (nI_pred d1) (by omega) ?_
                refine hG.jp rfl rfl rfl ?_
                rw [nI_1]
                have := ih (k + 1) (by omega) (up τ 3 d1 (bi (decide (x = 0)))) (some (.inl (stC s))) (hS.up (by decide)) (by
                  rw [hev, up_same]; unfold ev1; rw [if_neg h0, if_pos h4]
                  exact ⟨by rw [hrl, upd_same], StkR_upd hR1.2 (by omega)⟩)
                rw [hdp] at this
                exact this
              refine hG.br rfl rfl rfl rfl (fun h6 => ?_) (fun h6 => ?_)
              · refine hG.bit (Or.inl ⟨rfl, rfl⟩) mi_W_bit rfl rfl (c_W_bit false) rfl rfl rfl rfl rfl rfl rfl ?_
                rintro v τ' ⟨rfl, rfl⟩
                exact j127 _ (by rw [decide_eq_false h6])
              · refine hG.bit (Or.inl ⟨rfl, rfl⟩) mi_W_bit rfl rfl (c_W_bit true) rfl rfl rfl rfl rfl rfl rfl ?_
                rintro v τ' ⟨rfl, rfl⟩
                exact j127 _ (by rw [decide_eq_true h6])
            | [], hlen, _, _, _ => simp at hlen
  exact hG.go 5 rfl rfl (loop ln 0 (by omega) σ none Sm.rf trivial)
theorem c_L_work11 (f : Nat → Int32) (B m ln : Nat) (a b c : Int32) (hm : m ≤ 3) (hcd : CdOk f B m ln) (hx1 : σ 26 2 = nI ln) (hx2 : ∀ j, j < ln → σ 27 j = stC (f (B + j))) : Ci l θ 3 m_L_work [.inr 1, .inl (nI 11), .inl a, .inl b, .inl c] σ (fun r σ' => Sm [3] σ σ' ∧ r = (evl (fa3 a b c) f B ln).headD 0) := by
  have hln := hcd.1
  refine Ci.of (Or.inl mi_L_work) pk_L_work (nb rfl) (Or.inl rfl) [some (.inr 1), some (.inl (nI 11)), some (.inl a), some (.inl b), some (.inl c), none, none, none, none] rfl fun Γ hG hR => ?_
  refine hG.br rfl rfl rfl rfl (fun h1 => ?_) (fun h1 => ?_)
  · exact absurd h1 (by decide)
  refine hG.br rfl rfl rfl rfl (fun h2 => ?_) (fun h2 => ?_)
  rotate_left
  · exact absurd (show nI 11 < (14 : Int32) from by decide) h2
  refine hG.lda rfl 11 rfl rfl rfl (Or.inl rfl) rfl (by decide) rfl ?_
  have loop : ∀ n k, k + n = ln → ∀ (τ : Sg) (w : Option AV), Sm [3] σ τ → StkR (τ 3) (evl (fa3 a b c) f B k) → X Γ 29 [some (.inr 1), some (.inl (nI 11)), some (.inl a), some (.inl b), some (.inl c), some (.inr 26), some (.inl (nI (dpth f B k))), some (.inl (nI k)), w] [] τ := by
    intro n
    induction n with
    | zero =>
      intro k hk τ w hS hR1
      have hk : k = ln := by omega
      subst hk
      have eL : τ 26 2 = nI k := by rw [hS 26 (by decide)]; exact hx1
      refine hG.br rfl rfl rfl rfl (fun h1 => ?_) (fun h1 => ?_)
      · refine hG.ld rfl 0 rfl rfl rfl rfl rfl (by decide) ?_
        refine hG.rt hR rfl rfl rfl rfl ?_
        refine ⟨hS, ?_⟩
        have hlen := evl_len (fa := fa3 a b c) hcd k (Nat.le_refl _)
        rw [hcd.2.1] at hlen
        cases he : evl (fa3 a b c) f B k with
        | nil => rw [he] at hlen; simp at hlen
        | cons x r =>
          rw [he] at hlen hR1
          have hr : r = [] := by cases r with
            | nil => rfl
            | cons y r => simp at hlen
          subst hr
          exact hR1.1
      · rw [eL] at h1
        exact absurd (show nI k ≤ nI k from nI_le (Nat.le_refl k) (by omega)) h1
    | succ n ih =>
      intro k hk τ w hS hR1
      have eL : τ 26 2 = nI ln := by rw [hS 26 (by decide)]; exact hx1
      have eS : τ 27 k = stC (f (B + k)) := by rw [hS 27 (by decide)]; exact hx2 k (by omega)
      have hlen := evl_len (fa := fa3 a b c) hcd k (by omega)
      have hdl := dpth_le f B k
      obtain ⟨q1, q2, q3⟩ := hcd.2.2 k (by omega)
      have hev : evl (fa3 a b c) f B (k + 1) = ev1 (fa3 a b c) (f (B + k)) (evl (fa3 a b c) f B k) := rfl
      have hdp : dpth f B (k + 1) = if 0 ≤ f (B + k) then dpth f B k + 1 else if f (B + k) = -10 then dpth f B k else dpth f B k - 1 := rfl
      refine hG.br rfl rfl rfl rfl (fun h1 => ?_) (fun h1 => ?_)
      · rw [eL] at h1
        exact absurd (show nI ln ≤ nI k from h1) (nI_ge (by omega) (by omega))
      · refine hG.ld rfl k rfl rfl rfl rfl rfl (by omega) ?_
        rw [eS]
        generalize hc : f (B + k) = s at *
        generalize hs : evl (fa3 a b c) f B k = st at *
        generalize hd : dpth f B k = dp at *
        by_cases h0 : 0 ≤ s
        · rw [if_pos h0] at hdp
          rw [stC_pos h0]
          refine hG.br rfl rfl rfl rfl (fun h2 => ?_) (fun h2 => ?_)
          · exact absurd h2 (i32_nlt.mpr h0)
          refine hG.br rfl rfl rfl rfl (fun h3 => ?_) (fun h3 => ?_)
          · exact absurd (show nI 96 ≤ nI dp from h3) (nI_ge (by omega) (by omega))
          refine hG.cS lk_L_29 mi_L_leaf rfl rfl (c_L_leaf s a b c) rfl rfl rfl rfl rfl rfl ?_
          rintro x τ' ⟨rfl, rfl⟩
          refine hG.sti rfl dp rfl rfl rfl rfl (by omega) ?_
          refine hG.jp rfl rfl rfl ?_
          rw [nI_1, nI_1, fa3_leaf a b c m hm h0 (q1 h0)]
          have := ih (k + 1) (by omega) (up τ' 3 dp (if s < 10000 then s else fa3 a b c (s - 10000).toNatClampNeg)) (some (.inl s)) (hS.up (by decide)) (by
            rw [hev, up_same]; unfold ev1; rw [if_pos h0]
            exact ⟨by rw [hlen, upd_same], StkR_upd hR1 (by omega)⟩)
          rw [hdp] at this
          exact this
        · rw [if_neg h0] at hdp
          have h10 : -10 ≤ s := by
            by_cases h : s = -10
            · rw [h]; decide
            · exact (q3 h0 h).2
          obtain ⟨g1, g2⟩ := stC_neg h0 h10
          refine hG.br rfl rfl rfl rfl (fun h2 => ?_) (fun h2 => ?_)
          rotate_left
          · exact absurd g1 h2
          refine hG.br rfl rfl rfl rfl (fun h3 => ?_) (fun h3 => ?_)
          · have h4 : ¬ s = -10 := fun e => h3 (g2.mpr e)
            rw [if_neg h4] at hdp
            obtain ⟨q4, q5⟩ := q3 h0 h4
            obtain ⟨d2, rfl⟩ : ∃ d2, dp = d2 + 2 := ⟨dp - 2, by omega⟩
            match st, hlen, hR1, hs, hev with
            | y :: x :: r, hlen, hR1, hs, hev =>
              have hrl : r.length = d2 := by simpa using hlen
              refine hG.br rfl rfl rfl rfl (fun h5 => ?_) (fun h5 => ?_)
              · exact absurd (show nI (d2 + 2) < nI 2 from h5) (fun h => by have := (nI_ltI (by omega) (by omega)).mp h; omega)
              refine hG.ld rfl d2 rfl rfl rfl rfl (by rw [pk_m1, nI_pred]) (by omega) ?_
              refine hG.ld rfl (d2 + 1) rfl rfl rfl rfl (by rw [pk_m1]) (by omega) ?_
              have ex : τ 3 d2 = x := by rw [← hrl]; exact hR1.2.1
              have ey : τ 3 (d2 + 1) = y := by rw [← hrl]; exact hR1.1
              rw [ex, ey]
              refine hG.cS lk_L_37 mi_L_join rfl rfl (c_L_join (-(stC s)) x y) rfl rfl rfl rfl rfl rfl ?_
              rintro z τ' ⟨rfl, rfl⟩
              refine hG.sti rfl d2 rfl rfl rfl (by rw [pk_m1, nI_pred]) (by omega) ?_
              refine hG.jp rfl rfl rfl ?_
              rw [nI_1, pk_m1, jnK_two h0 h10 h4]
              have := ih (k + 1) (by omega) (up τ' 3 d2 (twoK s x y)) (some (.inl (stC s))) (hS.up (by decide)) (by
                rw [hev, up_same]; unfold ev1; rw [if_neg h0, if_neg h4]
                exact ⟨by rw [hrl, upd_same], StkR_upd hR1.2.2 (by omega)⟩)
              rw [hdp] at this
              exact this
            | [], hlen, _, _, _ => simp at hlen
            | [y], hlen, _, _, _ => simp at hlen
          · have h4 : s = -10 := g2.mp h3
            rw [if_pos h4] at hdp
            have q4 := q2 h0 h4
            obtain ⟨d1, rfl⟩ : ∃ d1, dp = d1 + 1 := ⟨dp - 1, by omega⟩
            match st, hlen, hR1, hs, hev with
            | x :: r, hlen, hR1, hs, hev =>
              have hrl : r.length = d1 := by simpa using hlen
              refine hG.br rfl rfl rfl rfl (fun h5 => ?_) (fun h5 => ?_)
              · exact absurd (show nI (d1 + 1) < nI 1 from h5) (fun h => by have := (nI_ltI (by omega) (by omega)).mp h; omega)
              refine hG.ld rfl d1 rfl rfl rfl rfl (nI_pred d1) (by omega) ?_
              have ex : τ 3 d1 = x := by rw [← hrl]; exact hR1.1
              rw [ex]
              have j127 : ∀ v, v = bi (decide (x = 0)) → X Γ 127 [some (.inr 1), some (.inl (nI 11)), some (.inl a), some (.inl b), some (.inl c), some (.inr 26), some (.inl (nI (d1 + 1))), some (.inl (nI k)), some (.inl (stC s))] [.inl v, .inl (nI (d1 + 1) - 1), .inr 3] τ := by
                rintro v rfl
                refine hG.sti rfl d1 rfl rfl rfl (nI_pred d1) (by omega) ?_
                refine hG.jp rfl rfl rfl ?_
                rw [nI_1]
                have := ih (k + 1) (by omega) (up τ 3 d1 (bi (decide (x = 0)))) (some (.inl (stC s))) (hS.up (by decide)) (by
                  rw [hev, up_same]; unfold ev1; rw [if_neg h0, if_pos h4]
                  exact ⟨by rw [hrl, upd_same], StkR_upd hR1.2 (by omega)⟩)
                rw [hdp] at this
                exact this
              refine hG.br rfl rfl rfl rfl (fun h6 => ?_) (fun h6 => ?_)
              · refine hG.bit (Or.inl ⟨rfl, rfl⟩) mi_W_bit rfl rfl (c_W_bit false) rfl rfl rfl rfl rfl rfl rfl ?_
                rintro v τ' ⟨rfl, rfl⟩
                exact j127 _ (by rw [decide_eq_false h6])
              · refine hG.bit (Or.inl ⟨rfl, rfl⟩) mi_W_bit rfl rfl (c_W_bit true) rfl rfl rfl rfl rfl rfl rfl ?_
                rintro v τ' ⟨rfl, rfl⟩
                exact j127 _ (by rw [decide_eq_true h6])
            | [], hlen, _, _, _ => simp at hlen
  exact hG.go 5 rfl rfl (loop ln 0 (by omega) σ none Sm.rf trivial)
theorem c_L_work12 (f : Nat → Int32) (B m ln : Nat) (a b c : Int32) (hm : m ≤ 3) (hcd : CdOk f B m ln) (hx1 : σ 28 2 = nI ln) (hx2 : ∀ j, j < ln → σ 29 j = stC (f (B + j))) : Ci l θ 3 m_L_work [.inr 1, .inl (nI 12), .inl a, .inl b, .inl c] σ (fun r σ' => Sm [3] σ σ' ∧ r = (evl (fa3 a b c) f B ln).headD 0) := by
  have hln := hcd.1
  refine Ci.of (Or.inl mi_L_work) pk_L_work (nb rfl) (Or.inl rfl) [some (.inr 1), some (.inl (nI 12)), some (.inl a), some (.inl b), some (.inl c), none, none, none, none] rfl fun Γ hG hR => ?_
  refine hG.br rfl rfl rfl rfl (fun h1 => ?_) (fun h1 => ?_)
  · exact absurd h1 (by decide)
  refine hG.br rfl rfl rfl rfl (fun h2 => ?_) (fun h2 => ?_)
  rotate_left
  · exact absurd (show nI 12 < (14 : Int32) from by decide) h2
  refine hG.lda rfl 12 rfl rfl rfl (Or.inl rfl) rfl (by decide) rfl ?_
  have loop : ∀ n k, k + n = ln → ∀ (τ : Sg) (w : Option AV), Sm [3] σ τ → StkR (τ 3) (evl (fa3 a b c) f B k) → X Γ 29 [some (.inr 1), some (.inl (nI 12)), some (.inl a), some (.inl b), some (.inl c), some (.inr 28), some (.inl (nI (dpth f B k))), some (.inl (nI k)), w] [] τ := by
    intro n
    induction n with
    | zero =>
      intro k hk τ w hS hR1
      have hk : k = ln := by omega
      subst hk
      have eL : τ 28 2 = nI k := by rw [hS 28 (by decide)]; exact hx1
      refine hG.br rfl rfl rfl rfl (fun h1 => ?_) (fun h1 => ?_)
      · refine hG.ld rfl 0 rfl rfl rfl rfl rfl (by decide) ?_
        refine hG.rt hR rfl rfl rfl rfl ?_
        refine ⟨hS, ?_⟩
        have hlen := evl_len (fa := fa3 a b c) hcd k (Nat.le_refl _)
        rw [hcd.2.1] at hlen
        cases he : evl (fa3 a b c) f B k with
        | nil => rw [he] at hlen; simp at hlen
        | cons x r =>
          rw [he] at hlen hR1
          have hr : r = [] := by cases r with
            | nil => rfl
            | cons y r => simp at hlen
          subst hr
          exact hR1.1
      · rw [eL] at h1
        exact absurd (show nI k ≤ nI k from nI_le (Nat.le_refl k) (by omega)) h1
    | succ n ih =>
      intro k hk τ w hS hR1
      have eL : τ 28 2 = nI ln := by rw [hS 28 (by decide)]; exact hx1
      have eS : τ 29 k = stC (f (B + k)) := by rw [hS 29 (by decide)]; exact hx2 k (by omega)
      have hlen := evl_len (fa := fa3 a b c) hcd k (by omega)
      have hdl := dpth_le f B k
      obtain ⟨q1, q2, q3⟩ := hcd.2.2 k (by omega)
      have hev : evl (fa3 a b c) f B (k + 1) = ev1 (fa3 a b c) (f (B + k)) (evl (fa3 a b c) f B k) := rfl
      have hdp : dpth f B (k + 1) = if 0 ≤ f (B + k) then dpth f B k + 1 else if f (B + k) = -10 then dpth f B k else dpth f B k - 1 := rfl
      refine hG.br rfl rfl rfl rfl (fun h1 => ?_) (fun h1 => ?_)
      · rw [eL] at h1
        exact absurd (show nI ln ≤ nI k from h1) (nI_ge (by omega) (by omega))
      · refine hG.ld rfl k rfl rfl rfl rfl rfl (by omega) ?_
        rw [eS]
        generalize hc : f (B + k) = s at *
        generalize hs : evl (fa3 a b c) f B k = st at *
        generalize hd : dpth f B k = dp at *
        by_cases h0 : 0 ≤ s
        · rw [if_pos h0] at hdp
          rw [stC_pos h0]
          refine hG.br rfl rfl rfl rfl (fun h2 => ?_) (fun h2 => ?_)
          · exact absurd h2 (i32_nlt.mpr h0)
          refine hG.br rfl rfl rfl rfl (fun h3 => ?_) (fun h3 => ?_)
          · exact absurd (show nI 96 ≤ nI dp from h3) (nI_ge (by omega) (by omega))
          refine hG.cS lk_L_29 mi_L_leaf rfl rfl (c_L_leaf s a b c) rfl rfl rfl rfl rfl rfl ?_
          rintro x τ' ⟨rfl, rfl⟩
          refine hG.sti rfl dp rfl rfl rfl rfl (by omega) ?_
          refine hG.jp rfl rfl rfl ?_
          rw [nI_1, nI_1, fa3_leaf a b c m hm h0 (q1 h0)]
          have := ih (k + 1) (by omega) (up τ' 3 dp (if s < 10000 then s else fa3 a b c (s - 10000).toNatClampNeg)) (some (.inl s)) (hS.up (by decide)) (by
            rw [hev, up_same]; unfold ev1; rw [if_pos h0]
            exact ⟨by rw [hlen, upd_same], StkR_upd hR1 (by omega)⟩)
          rw [hdp] at this
          exact this
        · rw [if_neg h0] at hdp
          have h10 : -10 ≤ s := by
            by_cases h : s = -10
            · rw [h]; decide
            · exact (q3 h0 h).2
          obtain ⟨g1, g2⟩ := stC_neg h0 h10
          refine hG.br rfl rfl rfl rfl (fun h2 => ?_) (fun h2 => ?_)
          rotate_left
          · exact absurd g1 h2
          refine hG.br rfl rfl rfl rfl (fun h3 => ?_) (fun h3 => ?_)
          · have h4 : ¬ s = -10 := fun e => h3 (g2.mpr e)
            rw [if_neg h4] at hdp
            obtain ⟨q4, q5⟩ := q3 h0 h4
            obtain ⟨d2, rfl⟩ : ∃ d2, dp = d2 + 2 := ⟨dp - 2, by omega⟩
            match st, hlen, hR1, hs, hev with
            | y :: x :: r, hlen, hR1, hs, hev =>
              have hrl : r.length = d2 := by simpa using hlen
              refine hG.br rfl rfl rfl rfl (fun h5 => ?_) (fun h5 => ?_)
              · exact absurd (show nI (d2 + 2) < nI 2 from h5) (fun h => by have := (nI_ltI (by omega) (by omega)).mp h; omega)
              refine hG.ld rfl d2 rfl rfl rfl rfl (by rw [pk_m1, nI_pred]) (by omega) ?_
              refine hG.ld rfl (d2 + 1) rfl rfl rfl rfl (by rw [pk_m1]) (by omega) ?_
              have ex : τ 3 d2 = x := by rw [← hrl]; exact hR1.2.1
              have ey : τ 3 (d2 + 1) = y := by rw [← hrl]; exact hR1.1
              rw [ex, ey]
              refine hG.cS lk_L_37 mi_L_join rfl rfl (c_L_join (-(stC s)) x y) rfl rfl rfl rfl rfl rfl ?_
              rintro z τ' ⟨rfl, rfl⟩
              refine hG.sti rfl d2 rfl rfl rfl (by rw [pk_m1, nI_pred]) (by omega) ?_
              refine hG.jp rfl rfl rfl ?_
              rw [nI_1, pk_m1, jnK_two h0 h10 h4]
              have := ih (k + 1) (by omega) (up τ' 3 d2 (twoK s x y)) (some (.inl (stC s))) (hS.up (by decide)) (by
                rw [hev, up_same]; unfold ev1; rw [if_neg h0, if_neg h4]
                exact ⟨by rw [hrl, upd_same], StkR_upd hR1.2.2 (by omega)⟩)
              rw [hdp] at this
              exact this
            | [], hlen, _, _, _ => simp at hlen
            | [y], hlen, _, _, _ => simp at hlen
          · have h4 : s = -10 := g2.mp h3
            rw [if_pos h4] at hdp
            have q4 := q2 h0 h4
            obtain ⟨d1, rfl⟩ : ∃ d1, dp = d1 + 1 := ⟨dp - 1, by omega⟩
            match st, hlen, hR1, hs, hev with
            | x :: r, hlen, hR1, hs, hev =>
              have hrl : r.length = d1 := by simpa using hlen
              refine hG.br rfl rfl rfl rfl (fun h5 => ?_) (fun h5 => ?_)
              · exact absurd (show nI (d1 + 1) < nI 1 from h5) (fun h => by have := (nI_ltI (by omega) (by omega)).mp h; omega)
              refine hG.ld rfl d1 rfl rfl rfl rfl (nI_pred d1) (by omega) ?_
              have ex : τ 3 d1 = x := by rw [← hrl]; exact hR1.1
              rw [ex]
              have j127 : ∀ v, v = bi (decide (x = 0)) → X Γ 127 [some (.inr 1), some (.inl (nI 12)), some (.inl a), some (.inl b), some (.inl c), some (.inr 28), some (.inl (nI (d1 + 1))), some (.inl (nI k)), some (.inl (stC s))] [.inl v, .inl (nI (d1 + 1) - 1), .inr 3] τ := by
                rintro v rfl
                refine hG.sti rfl d1 rfl rfl rfl (nI_pred d1) (by omega) ?_
                refine hG.jp rfl rfl rfl ?_
                rw [nI_1]
                have := ih (k + 1) (by omega) (up τ 3 d1 (bi (decide (x = 0)))) (some (.inl (stC s))) (hS.up (by decide)) (by
                  rw [hev, up_same]; unfold ev1; rw [if_neg h0, if_pos h4]
                  exact ⟨by rw [hrl, upd_same], StkR_upd hR1.2 (by omega)⟩)
                rw [hdp] at this
                exact this
              refine hG.br rfl rfl rfl rfl (fun h6 => ?_) (fun h6 => ?_)
              · refine hG.bit (Or.inl ⟨rfl, rfl⟩) mi_W_bit rfl rfl (c_W_bit false) rfl rfl rfl rfl rfl rfl rfl ?_
                rintro v τ' ⟨rfl, rfl⟩
                exact j127 _ (by rw [decide_eq_false h6])
              · refine hG.bit (Or.inl ⟨rfl, rfl⟩) mi_W_bit rfl rfl (c_W_bit true) rfl rfl rfl rfl rfl rfl rfl ?_
                rintro v τ' ⟨rfl, rfl⟩
                exact j127 _ (by rw [decide_eq_true h6])
            | [], hlen, _, _, _ => simp at hlen
  exact hG.go 5 rfl rfl (loop ln 0 (by omega) σ none Sm.rf trivial)
theorem c_L_work13 (f : Nat → Int32) (B m ln : Nat) (a b c : Int32) (hm : m ≤ 3) (hcd : CdOk f B m ln) (hx1 : σ 30 2 = nI ln) (hx2 : ∀ j, j < ln → σ 31 j = stC (f (B + j))) : Ci l θ 3 m_L_work [.inr 1, .inl (nI 13), .inl a, .inl b, .inl c] σ (fun r σ' => Sm [3] σ σ' ∧ r = (evl (fa3 a b c) f B ln).headD 0) := by
  have hln := hcd.1
  refine Ci.of (Or.inl mi_L_work) pk_L_work (nb rfl) (Or.inl rfl) [some (.inr 1), some (.inl (nI 13)), some (.inl a), some (.inl b), some (.inl c), none, none, none, none] rfl fun Γ hG hR => ?_
  refine hG.br rfl rfl rfl rfl (fun h1 => ?_) (fun h1 => ?_)
  · exact absurd h1 (by decide)
  refine hG.br rfl rfl rfl rfl (fun h2 => ?_) (fun h2 => ?_)
  rotate_left
  · exact absurd (show nI 13 < (14 : Int32) from by decide) h2
  refine hG.lda rfl 13 rfl rfl rfl (Or.inl rfl) rfl (by decide) rfl ?_
  have loop : ∀ n k, k + n = ln → ∀ (τ : Sg) (w : Option AV), Sm [3] σ τ → StkR (τ 3) (evl (fa3 a b c) f B k) → X Γ 29 [some (.inr 1), some (.inl (nI 13)), some (.inl a), some (.inl b), some (.inl c), some (.inr 30), some (.inl (nI (dpth f B k))), some (.inl (nI k)), w] [] τ := by
    intro n
    induction n with
    | zero =>
      intro k hk τ w hS hR1
      have hk : k = ln := by omega
      subst hk
      have eL : τ 30 2 = nI k := by rw [hS 30 (by decide)]; exact hx1
      refine hG.br rfl rfl rfl rfl (fun h1 => ?_) (fun h1 => ?_)
      · refine hG.ld rfl 0 rfl rfl rfl rfl rfl (by decide) ?_
        refine hG.rt hR rfl rfl rfl rfl ?_
        refine ⟨hS, ?_⟩
        have hlen := evl_len (fa := fa3 a b c) hcd k (Nat.le_refl _)
        rw [hcd.2.1] at hlen
        cases he : evl (fa3 a b c) f B k with
        | nil => rw [he] at hlen; simp at hlen
        | cons x r =>
          rw [he] at hlen hR1
          have hr : r = [] := by cases r with
            | nil => rfl
            | cons y r => simp at hlen
          subst hr
          exact hR1.1
      · rw [eL] at h1
        exact absurd (show nI k ≤ nI k from nI_le (Nat.le_refl k) (by omega)) h1
    | succ n ih =>
      intro k hk τ w hS hR1
      have eL : τ 30 2 = nI ln := by rw [hS 30 (by decide)]; exact hx1
      have eS : τ 31 k = stC (f (B + k)) := by rw [hS 31 (by decide)]; exact hx2 k (by omega)
      have hlen := evl_len (fa := fa3 a b c) hcd k (by omega)
      have hdl := dpth_le f B k
      obtain ⟨q1, q2, q3⟩ := hcd.2.2 k (by omega)
      have hev : evl (fa3 a b c) f B (k + 1) = ev1 (fa3 a b c) (f (B + k)) (evl (fa3 a b c) f B k) := rfl
      have hdp : dpth f B (k + 1) = if 0 ≤ f (B + k) then dpth f B k + 1 else if f (B + k) = -10 then dpth f B k else dpth f B k - 1 := rfl
      refine hG.br rfl rfl rfl rfl (fun h1 => ?_) (fun h1 => ?_)
      · rw [eL] at h1
        exact absurd (show nI ln ≤ nI k from h1) (nI_ge (by omega) (by omega))
      · refine hG.ld rfl k rfl rfl rfl rfl rfl (by omega) ?_
        rw [eS]
        generalize hc : f (B + k) = s at *
        generalize hs : evl (fa3 a b c) f B k = st at *
        generalize hd : dpth f B k = dp at *
        by_cases h0 : 0 ≤ s
        · rw [if_pos h0] at hdp
          rw [stC_pos h0]
          refine hG.br rfl rfl rfl rfl (fun h2 => ?_) (fun h2 => ?_)
          · exact absurd h2 (i32_nlt.mpr h0)
          refine hG.br rfl rfl rfl rfl (fun h3 => ?_) (fun h3 => ?_)
          · exact absurd (show nI 96 ≤ nI dp from h3) (nI_ge (by omega) (by omega))
          refine hG.cS lk_L_29 mi_L_leaf rfl rfl (c_L_leaf s a b c) rfl rfl rfl rfl rfl rfl ?_
          rintro x τ' ⟨rfl, rfl⟩
          refine hG.sti rfl dp rfl rfl rfl rfl (by omega) ?_
          refine hG.jp rfl rfl rfl ?_
          rw [nI_1, nI_1, fa3_leaf a b c m hm h0 (q1 h0)]
          have := ih (k + 1) (by omega) (up τ' 3 dp (if s < 10000 then s else fa3 a b c (s - 10000).toNatClampNeg)) (some (.inl s)) (hS.up (by decide)) (by
            rw [hev, up_same]; unfold ev1; rw [if_pos h0]
            exact ⟨by rw [hlen, upd_same], StkR_upd hR1 (by omega)⟩)
          rw [hdp] at this
          exact this
        · rw [if_neg h0] at hdp
          have h10 : -10 ≤ s := by
            by_cases h : s = -10
            · rw [h]; decide
            · exact (q3 h0 h).2
          obtain ⟨g1, g2⟩ := stC_neg h0 h10
          refine hG.br rfl rfl rfl rfl (fun h2 => ?_) (fun h2 => ?_)
          rotate_left
          · exact absurd g1 h2
          refine hG.br rfl rfl rfl rfl (fun h3 => ?_) (fun h3 => ?_)
          · have h4 : ¬ s = -10 := fun e => h3 (g2.mpr e)
            rw [if_neg h4] at hdp
            obtain ⟨q4, q5⟩ := q3 h0 h4
            obtain ⟨d2, rfl⟩ : ∃ d2, dp = d2 + 2 := ⟨dp - 2, by omega⟩
            match st, hlen, hR1, hs, hev with
            | y :: x :: r, hlen, hR1, hs, hev =>
              have hrl : r.length = d2 := by simpa using hlen
              refine hG.br rfl rfl rfl rfl (fun h5 => ?_) (fun h5 => ?_)
              · exact absurd (show nI (d2 + 2) < nI 2 from h5) (fun h => by have := (nI_ltI (by omega) (by omega)).mp h; omega)
              refine hG.ld rfl d2 rfl rfl rfl rfl (by rw [pk_m1, nI_pred]) (by omega) ?_
              refine hG.ld rfl (d2 + 1) rfl rfl rfl rfl (by rw [pk_m1]) (by omega) ?_
              have ex : τ 3 d2 = x := by rw [← hrl]; exact hR1.2.1
              have ey : τ 3 (d2 + 1) = y := by rw [← hrl]; exact hR1.1
              rw [ex, ey]
              refine hG.cS lk_L_37 mi_L_join rfl rfl (c_L_join (-(stC s)) x y) rfl rfl rfl rfl rfl rfl ?_
              rintro z τ' ⟨rfl, rfl⟩
              refine hG.sti rfl d2 rfl rfl rfl (by rw [pk_m1, nI_pred]) (by omega) ?_
              refine hG.jp rfl rfl rfl ?_
              rw [nI_1, pk_m1, jnK_two h0 h10 h4]
              have := ih (k + 1) (by omega) (up τ' 3 d2 (twoK s x y)) (some (.inl (stC s))) (hS.up (by decide)) (by
                rw [hev, up_same]; unfold ev1; rw [if_neg h0, if_neg h4]
                exact ⟨by rw [hrl, upd_same], StkR_upd hR1.2.2 (by omega)⟩)
              rw [hdp] at this
              exact this
            | [], hlen, _, _, _ => simp at hlen
            | [y], hlen, _, _, _ => simp at hlen
          · have h4 : s = -10 := g2.mp h3
            rw [if_pos h4] at hdp
            have q4 := q2 h0 h4
            obtain ⟨d1, rfl⟩ : ∃ d1, dp = d1 + 1 := ⟨dp - 1, by omega⟩
            match st, hlen, hR1, hs, hev with
            | x :: r, hlen, hR1, hs, hev =>
              have hrl : r.length = d1 := by simpa using hlen
              refine hG.br rfl rfl rfl rfl (fun h5 => ?_) (fun h5 => ?_)
              · exact absurd (show nI (d1 + 1) < nI 1 from h5) (fun h => by have := (nI_ltI (by omega) (by omega)).mp h; omega)
              refine hG.ld rfl d1 rfl rfl rfl rfl (nI_pred d1) (by omega) ?_
              have ex : τ 3 d1 = x := by rw [← hrl]; exact hR1.1
              rw [ex]
              have j127 : ∀ v, v = bi (decide (x = 0)) → X Γ 127 [some (.inr 1), some (.inl (nI 13)), some (.inl a), some (.inl b), some (.inl c), some (.inr 30), some (.inl (nI (d1 + 1))), some (.inl (nI k)), some (.inl (stC s))] [.inl v, .inl (nI (d1 + 1) - 1), .inr 3] τ := by
                rintro v rfl
                refine hG.sti rfl d1 rfl rfl rfl (nI_pred d1) (by omega) ?_
                refine hG.jp rfl rfl rfl ?_
                rw [nI_1]
                have := ih (k + 1) (by omega) (up τ 3 d1 (bi (decide (x = 0)))) (some (.inl (stC s))) (hS.up (by decide)) (by
                  rw [hev, up_same]; unfold ev1; rw [if_neg h0, if_pos h4]
                  exact ⟨by rw [hrl, upd_same], StkR_upd hR1.2 (by omega)⟩)
                rw [hdp] at this
                exact this
              refine hG.br rfl rfl rfl rfl (fun h6 => ?_) (fun h6 => ?_)
              · refine hG.bit (Or.inl ⟨rfl, rfl⟩) mi_W_bit rfl rfl (c_W_bit false) rfl rfl rfl rfl rfl rfl rfl ?_
                rintro v τ' ⟨rfl, rfl⟩
                exact j127 _ (by rw [decide_eq_false h6])
              · refine hG.bit (Or.inl ⟨rfl, rfl⟩) mi_W_bit rfl rfl (c_W_bit true) rfl rfl rfl rfl rfl rfl rfl ?_
                rintro v τ' ⟨rfl, rfl⟩
                exact j127 _ (by rw [decide_eq_true h6])
            | [], hlen, _, _, _ => simp at hlen
  exact hG.go 5 rfl rfl (loop ln 0 (by omega) σ none Sm.rf trivial)
theorem c_L_work (f : Nat → Int32) (i ky ln : Nat) (a b c : Int32) (hi : i < 14) (ht : TxOk f i ky ln) (hx : TxR σ f i ln) : Ci l θ 3 m_L_work [.inr 1, .inl (nI i), .inl a, .inl b, .inl c] σ (fun r σ' => Sm [3] σ σ' ∧ r = evT f i (fa3 a b c)) := by
  obtain ⟨ht1, ht2, hcd⟩ := ht
  have hm : nmK ky ≤ 3 := by unfold nmK; split <;> omega
  have hln := hcd.1
  obtain ⟨hx1, hx2⟩ := hx
  have e : evT f i (fa3 a b c) = (evl (fa3 a b c) f (86 + 96 * i) ln).headD 0 := by
    rw [evT, ht1, nI_clamp (by omega), show (1000 * ky + ln) % 1000 = ln by omega]
  rw [e]
  rcases (by omega : i = 0 ∨ i = 1 ∨ i = 2 ∨ i = 3 ∨ i = 4 ∨ i = 5 ∨ i = 6 ∨ i = 7 ∨ i = 8 ∨ i = 9 ∨ i = 10 ∨ i = 11 ∨ i = 12 ∨ i = 13) with rfl | rfl | rfl | rfl | rfl | rfl | rfl | rfl | rfl | rfl | rfl | rfl | rfl | rfl
  · exact c_L_work0 f _ _ ln a b c hm hcd hx1 hx2
  · exact c_L_work1 f _ _ ln a b c hm hcd hx1 hx2
  · exact c_L_work2 f _ _ ln a b c hm hcd hx1 hx2
  · exact c_L_work3 f _ _ ln a b c hm hcd hx1 hx2
  · exact c_L_work4 f _ _ ln a b c hm hcd hx1 hx2
  · exact c_L_work5 f _ _ ln a b c hm hcd hx1 hx2
  · exact c_L_work6 f _ _ ln a b c hm hcd hx1 hx2
  · exact c_L_work7 f _ _ ln a b c hm hcd hx1 hx2
  · exact c_L_work8 f _ _ ln a b c hm hcd hx1 hx2
  · exact c_L_work9 f _ _ ln a b c hm hcd hx1 hx2
  · exact c_L_work10 f _ _ ln a b c hm hcd hx1 hx2
  · exact c_L_work11 f _ _ ln a b c hm hcd hx1 hx2
  · exact c_L_work12 f _ _ ln a b c hm hcd hx1 hx2
  · exact c_L_work13 f _ _ ln a b c hm hcd hx1 hx2
end
