def mix (f g : Nat → Int32) : Nat → Int32 := fun k => if k < 1430 then f k else g k
theorem mix_lt {f g : Nat → Int32} {k : Nat} (h : k < 1430) : mix f g k = f k := by simp [mix, h]
def countR (f : Nat → Int32) (n : Nat) (wt tp w : Int32) : Int32 := if w = 0 then f 1 else if w = 1 then nI (sumB (aliveF f) 0 n) else if w = 2 then f 4 else if w = 3 then f 2 else if w = 4 then f 3 else if w = 5 then f 5 else if w = 6 then wt else if w = 7 then tp else if w = 8 then f 0 else -1000000001
def fedB (a b c : Int32) (k : Nat) : Int32 := ((if k < 4 then a else if k < 8 then b else c) >>> ((24 - 8 * nI (k % 4)) &&& 31)) &&& 255
def fedF (tp : Nat → Int32) (T : Nat) (a b c : Int32) : Nat → Int32 := fun j => if T ≤ j ∧ j < T + 12 then fedB a b c (j - T) else tp j
def zr24 (ce : Nat → Int32) (S : Nat) : Nat → Int32 := fun j => if 24 * S ≤ j ∧ j < 24 * S + 24 then 0 else ce j
def shtG (s so n : Int32) : Bool := inB s 0 3 && inB so (-1) 1 && !(decide (0 ≤ so) && decide (24 < n))
def shtZ (so n : Int32) : Bool := decide (0 ≤ so) && decide (n < 0)
def mrkG (so : Int32) (v : Int32) : Option Int32 := if so = 0 ∧ v = -1000000005 then some (-1000000012) else if so = 1 ∧ ¬ v = -1000000005 ∧ inB v (-99999) 99999 = false then some (-1000000001) else none
def mrkF (so sz ce : Nat → Int32) (s p v : Int32) : Int32 × (Nat → Int32) := if inB s 0 3 then (if so s.toNatClampNeg < 0 then (-1000000011, ce) else if inB p 0 (sz s.toNatClampNeg - 1) then (match mrkG (so s.toNatClampNeg) v with
  | some r => (r, ce)
  | none => (1, upd ce (24 * s.toNatClampNeg + p.toNatClampNeg) (if so s.toNatClampNeg = 0 then v.toInt16.toInt32 else v))) else (-1000000013, ce)) else (-1000000001, ce)
section
variable {l : Launch} {θ : Th} {σ : Sg} {n c t y : Nat}
theorem o_M_keep (hf : FOk (σ 96) n c t y) : Ci l θ 5 m_M_keep [.inr 95] σ (fun r σ' => r = nI n ∧ σ' = up (upc σ 97 (mix (σ 96) (σ 97))) 95 3 1) := by
  refine Ci.of (Or.inl mi_M_keep) pk_M_keep (nb rfl) (Or.inl rfl) [some (.inr 95)] rfl fun Γ hG hR => ?_
  refine hG.cSv lk_M_281 mi_M_copyAll rfl rfl (c_M_copyAll 96 97 rfl rfl (by decide)) rfl rfl rfl rfl rfl rfl ?_
  rintro τ rfl
  refine hG.ptz rfl rfl rfl rfl rfl rfl (by decide +kernel) ?_
  refine hG.ld rfl 1 rfl rfl rfl rfl rfl (by decide) ?_
  refine hG.rt hR rfl rfl rfl rfl ?_
  refine ⟨?_, rfl⟩
  rw [up_c _ _ _ _ (show 96 ≠ 95 by decide), upc_c _ _ _ (show 96 ≠ 97 by decide)]
  exact hf.1
theorem o_M_back (h : Bool) (hh : σ 95 3 = bi h) : Ci l θ 5 m_M_back [.inr 95] σ (fun r σ' => (h = false → r = -1000000002 ∧ σ' = σ) ∧ (h = true → r = σ 97 1 ∧ σ' = upc σ 96 (mix (σ 97) (σ 96)))) := by
  refine Ci.of (Or.inl mi_M_back) pk_M_back (nb rfl) (Or.inl rfl) [some (.inr 95)] rfl fun Γ hG hR => ?_
  refine hG.br rfl rfl rfl rfl (fun k1 => ?_) (fun k1 => ?_)
  · rw [hh] at k1
    have hb := bi_ne0.mp k1
    refine hG.cSv lk_M_281 mi_M_copyAll rfl rfl (c_M_copyAll 97 96 rfl rfl (by decide)) rfl rfl rfl rfl rfl rfl ?_
    rintro τ rfl
    refine hG.ld rfl 1 rfl rfl rfl rfl rfl (by decide) ?_
    refine hG.rt hR rfl rfl rfl rfl ?_
    refine ⟨fun e => (by rw [hb] at e; cases e), fun _ => ⟨?_, rfl⟩⟩
    rw [upc_same]; rfl
  · rw [hh] at k1
    have hb := bi_eq0.mp k1
    refine hG.rt hR rfl rfl rfl rfl ?_
    exact ⟨fun _ => ⟨rfl, rfl⟩, fun e => (by rw [hb] at e; cases e)⟩
theorem o_M_count (w : Int32) (hf : FOk (σ 96) n c t y) : Ci l θ 5 m_M_count [.inr 95, .inl w] σ (fun r σ' => r = countR (σ 96) n (σ 95 37) (σ 95 11) w ∧ σ' = σ) := by
  refine Ci.of (Or.inl mi_M_count) pk_M_count (nb rfl) (Or.inl rfl) [some (.inr 95), some (.inl w)] rfl fun Γ hG hR => ?_
  refine hG.tsw [52, 59, 64, 71, 78, 85, 92, 97, 102] 109 rfl rfl rfl (by decide +kernel) ?_ ?_
  · intro k t hk hx
    match k, hk, hx with
    | 0, hk, hx =>
      cases hk
      have e : w = 0 := tsw_x hx rfl
      refine hG.ld rfl 1 rfl rfl rfl rfl rfl (by decide) ?_
      refine hG.rt hR rfl rfl rfl rfl ?_
      exact ⟨by rw [e]; rfl, rfl⟩
    | 1, hk, hx =>
      cases hk
      have e : w = 1 := tsw_x hx rfl
      refine hG.cV lk_M_186 mi_M_aliveMany rfl rfl (c_M_aliveMany n hf.1 hf.2.1) rfl rfl rfl rfl rfl rfl rfl rfl ?_
      rintro x σ' ⟨rfl, rfl⟩
      refine hG.rt hR rfl rfl rfl rfl ?_
      exact ⟨by rw [e]; rfl, rfl⟩
    | 2, hk, hx =>
      cases hk
      have e : w = 2 := tsw_x hx rfl
      refine hG.ld rfl 4 rfl rfl rfl rfl rfl (by decide) ?_
      refine hG.rt hR rfl rfl rfl rfl ?_
      exact ⟨by rw [e]; rfl, rfl⟩
    | 3, hk, hx =>
      cases hk
      have e : w = 3 := tsw_x hx rfl
      refine hG.ld rfl 2 rfl rfl rfl rfl rfl (by decide) ?_
      refine hG.rt hR rfl rfl rfl rfl ?_
      exact ⟨by rw [e]; rfl, rfl⟩
    | 4, hk, hx =>
      cases hk
      have e : w = 4 := tsw_x hx rfl
      refine hG.ld rfl 3 rfl rfl rfl rfl rfl (by decide) ?_
      refine hG.rt hR rfl rfl rfl rfl ?_
      exact ⟨by rw [e]; rfl, rfl⟩
    | 5, hk, hx =>
      cases hk
      have e : w = 5 := tsw_x hx rfl
      refine hG.ld rfl 5 rfl rfl rfl rfl rfl (by decide) ?_
      refine hG.rt hR rfl rfl rfl rfl ?_
      exact ⟨by rw [e]; rfl, rfl⟩
    | 6, hk, hx =>
      cases hk
      have e : w = 6 := tsw_x hx rfl
      refine hG.rt hR rfl rfl rfl rfl ?_
      exact ⟨by rw [e]; rfl, rfl⟩
    | 7, hk, hx =>
      cases hk
      have e : w = 7 := tsw_x hx rfl
      refine hG.rt hR rfl rfl rfl rfl ?_
      exact ⟨by rw [e]; rfl, rfl⟩
    | 8, hk, hx =>
      cases hk
      have e : w = 8 := tsw_x hx rfl
      refine hG.ld rfl 0 rfl rfl rfl rfl rfl (by decide) ?_
      refine hG.rt hR rfl rfl rfl rfl ?_
      exact ⟨by rw [e]; rfl, rfl⟩
    | k + 9, hk, hx => simp at hk
  · intro hx
    have e0 : ¬ w = 0 := fun e => hx 0 (by decide) (by rw [e]; rfl)
    have e1 : ¬ w = 1 := fun e => hx 1 (by decide) (by rw [e]; rfl)
    have e2 : ¬ w = 2 := fun e => hx 2 (by decide) (by rw [e]; rfl)
    have e3 : ¬ w = 3 := fun e => hx 3 (by decide) (by rw [e]; rfl)
    have e4 : ¬ w = 4 := fun e => hx 4 (by decide) (by rw [e]; rfl)
    have e5 : ¬ w = 5 := fun e => hx 5 (by decide) (by rw [e]; rfl)
    have e6 : ¬ w = 6 := fun e => hx 6 (by decide) (by rw [e]; rfl)
    have e7 : ¬ w = 7 := fun e => hx 7 (by decide) (by rw [e]; rfl)
    have e8 : ¬ w = 8 := fun e => hx 8 (by decide) (by rw [e]; rfl)
    refine hG.rt hR rfl rfl rfl rfl ?_
    exact ⟨by simp only [countR, e0, e1, e2, e3, e4, e5, e6, e7, e8, if_false], rfl⟩
theorem o_M_tell (v : Int32) (W : Nat) (hW : σ 95 37 = nI W) (hW60 : W ≤ 60) : Ci l θ 5 m_M_tell [.inr 95, .inl v] σ (fun r σ' => (W = 60 → r = -1000000003 ∧ σ' = σ) ∧ (W ≠ 60 → r = nI (W + 1) ∧ σ' = up (up σ 119 W v) 95 37 (nI (W + 1)))) := by
  refine Ci.of (Or.inl mi_M_tell) pk_M_tell (nb rfl) (Or.inl rfl) [some (.inr 95), some (.inl v)] rfl fun Γ hG hR => ?_
  refine hG.br rfl rfl rfl rfl (fun k1 => ?_) (fun k1 => ?_)
  · rw [hW] at k1
    have hne : W ≠ 60 := fun e => k1 (by rw [e]; rfl)
    refine hG.sti rfl W rfl rfl rfl hW (by omega) ?_
    refine hG.rt hR rfl rfl rfl rfl ?_
    refine ⟨fun e => absurd e hne, fun _ => ?_⟩
    rw [up_self, up_c _ _ _ _ (show 95 ≠ 119 by decide), hW, nI_1]
    exact ⟨rfl, rfl⟩
  · rw [hW] at k1
    have he : W = 60 := (nI_eq (by omega) (by omega)).mp (show nI W = nI 60 from k1)
    refine hG.rt hR rfl rfl rfl rfl ?_
    exact ⟨fun _ => ⟨rfl, rfl⟩, fun e => absurd he e⟩
theorem o_M_trim (v : Int32) (T : Nat) (hT : σ 95 11 = nI T) (hT96 : T ≤ 96) : Ci l θ 5 m_M_trim [.inr 95, .inl v] σ (fun r σ' => (inB v 0 (nI T) = false → r = -1000000001 ∧ σ' = σ) ∧ (inB v 0 (nI T) = true → r = v ∧ σ' = up σ 95 11 v)) := by
  refine Ci.of (Or.inl mi_M_trim) pk_M_trim (nb rfl) (Or.inl rfl) [some (.inr 95), some (.inl v)] rfl fun Γ hG hR => ?_
  refine hG.cS lk_M_84 mi_M_in rfl rfl (c_M_in v 0 (σ 95 11)) rfl rfl rfl rfl rfl rfl ?_
  rintro x σ' ⟨rfl, rfl⟩
  rw [hT]
  refine hG.br rfl rfl rfl rfl (fun k1 => ?_) (fun k1 => ?_)
  · have hb := bi_ne0.mp k1
    refine hG.rt hR rfl rfl rfl rfl ?_
    exact ⟨fun e => (by rw [hb] at e; cases e), fun _ => ⟨rfl, rfl⟩⟩
  · have hb := bi_eq0.mp k1
    refine hG.rt hR rfl rfl rfl rfl ?_
    exact ⟨fun _ => ⟨rfl, rfl⟩, fun e => (by rw [hb] at e; cases e)⟩
theorem o_M_feed (a b cc : Int32) (T : Nat) (hT : σ 95 11 = nI T) (hT96 : T ≤ 96) : Ci l θ 5 m_M_feed [.inr 95, .inl a, .inl b, .inl cc] σ (fun r σ' => (96 < T + 12 → r = -1000000003 ∧ σ' = σ) ∧ (¬ 96 < T + 12 → r = nI (T + 12) ∧ σ' = up (upc σ 103 (fedF (σ 103) T a b cc)) 95 11 (nI (T + 12)))) := by
  refine Ci.of (Or.inl mi_M_feed) pk_M_feed (nb rfl) (Or.inl rfl) [some (.inr 95), some (.inl a), some (.inl b), some (.inl cc), none, none] rfl fun Γ hG hR => ?_
  refine hG.br rfl rfl rfl rfl (fun k1 => ?_) (fun k1 => ?_)
  · rw [hT, show nI T + 12 = nI (T + 12) from nI_add T 12] at k1
    have hle : ¬ 96 < T + 12 := Nat.not_lt.mpr ((nI_leI (by omega) (by omega)).mp (show nI (T + 12) ≤ nI 96 from k1))
    have loop : ∀ m k, k + m = 12 → ∀ w : Option AV, X Γ 18 [some (.inr 95), some (.inl a), some (.inl b), some (.inl cc), some (.inl (nI k)), w] [] (upc σ 103 (fun j => if T ≤ j ∧ j < T + k then fedB a b cc (j - T) else σ 103 j)) := by
      intro m
      induction m with
      | zero =>
        intro k hk w
        have hk : k = 12 := by omega
        subst hk
        refine hG.br rfl rfl rfl rfl (fun k2 => ?_) (fun k2 => ?_)
        · refine hG.rt hR rfl rfl rfl rfl ?_
          refine ⟨fun e => absurd e hle, fun _ => ?_⟩
          rw [up_self, upc_c _ _ _ (show 95 ≠ 103 by decide), hT, show nI T + 12 = nI (T + 12) from nI_add T 12]
          exact ⟨rfl, rfl⟩
        · exact absurd (show nI 12 ≤ nI 12 from nI_le (Nat.le_refl _) (by omega)) k2
      | succ m ih =>
        intro k hk w
        have j47 : ∀ z : Int32, z = (if k < 4 then a else if k < 8 then b else cc) → X Γ 47 [some (.inr 95), some (.inl a), some (.inl b), some (.inl cc), some (.inl (nI k)), w] [.inl z] (upc σ 103 (fun j => if T ≤ j ∧ j < T + k then fedB a b cc (j - T) else σ 103 j)) := by
          intro z hz
          refine hG.rm rfl rfl rfl (by decide) ?_
          rw [show nI k - nI k / 4 * 4 = nI (k % 4) from pk_rem (d := 4) (by omega) (by omega) (by omega)]
          refine hG.sti rfl (T + k) rfl rfl rfl (by rw [upc_c _ _ _ (show 95 ≠ 103 by decide), hT, nI_add]) (by omega) ?_
          refine hG.jp rfl rfl rfl ?_
          rw [nI_1, up_upc]
          have e : upd (fun j => if T ≤ j ∧ j < T + k then fedB a b cc (j - T) else σ 103 j) (T + k) (z >>> ((24 - 8 * nI (k % 4)) &&& 31) &&& 255) = (fun j => if T ≤ j ∧ j < T + (k + 1) then fedB a b cc (j - T) else σ 103 j) := by
            funext j
            simp only [upd]
            by_cases hj : j = T + k
            · subst hj
              rw [if_pos rfl, if_pos ⟨by omega, by omega⟩, show T + k - T = k by omega, fedB, hz]
            · rw [if_neg hj]
              by_cases hq : T ≤ j ∧ j < T + k
              · rw [if_pos hq, if_pos ⟨hq.1, by omega⟩]
              · rw [if_neg hq, if_neg (fun q => hq ⟨q.1, by omega⟩)]
          rw [e]
          exact ih (k + 1) (by omega) _
        refine hG.br rfl rfl rfl rfl (fun k2 => ?_) (fun k2 => ?_)
        · exact absurd (show nI 12 ≤ nI k from k2) (nI_ge (by omega) (by omega))
        · refine hG.br rfl rfl rfl rfl (fun k3 => ?_) (fun k3 => ?_)
          · have q3 : ¬ k < 4 := Nat.not_lt.mpr ((nI_leI (by omega) (by omega)).mp (show nI 4 ≤ nI k from k3))
            refine hG.br rfl rfl rfl rfl (fun k4 => ?_) (fun k4 => ?_)
            · have q4 : ¬ k < 8 := Nat.not_lt.mpr ((nI_leI (by omega) (by omega)).mp (show nI 8 ≤ nI k from k4))
              exact hG.go 1 rfl rfl (j47 cc (by rw [if_neg q3, if_neg q4]))
            · have q4 : k < 8 := Nat.not_le.mp (fun q => k4 (show nI 8 ≤ nI k from nI_le q (by omega)))
              exact hG.go 2 rfl rfl (j47 b (by rw [if_neg q3, if_pos q4]))
          · have q3 : k < 4 := Nat.not_le.mp (fun q => k3 (show nI 4 ≤ nI k from nI_le q (by omega)))
            exact hG.go 2 rfl rfl (j47 a (by rw [if_pos q3]))
    have := loop 12 0 rfl none
    rw [show (fun j => if T ≤ j ∧ j < T + 0 then fedB a b cc (j - T) else σ 103 j) = σ 103 by funext j; rw [if_neg (by omega)], upc_self] at this
    exact hG.go 2 rfl rfl this
  · rw [hT, show nI T + 12 = nI (T + 12) from nI_add T 12] at k1
    have hgt : 96 < T + 12 := Nat.not_le.mp (fun q => k1 (show nI (T + 12) ≤ nI 96 from nI_le q (by omega)))
    refine hG.rt hR rfl rfl rfl rfl ?_
    exact ⟨fun _ => ⟨rfl, rfl⟩, fun e => absurd hgt e⟩
theorem o_M_sheet (s so nn : Int32) : Ci l θ 5 m_M_sheet [.inr 95, .inl s, .inl so, .inl nn] σ (fun r σ' => (shtG s so nn = false → r = -1000000001 ∧ σ' = σ) ∧ (shtG s so nn = true → shtZ so nn = true → r = -1000000014 ∧ σ' = σ) ∧ (shtG s so nn = true → shtZ so nn = false → r = (if so < 0 then 0 else nn) ∧ σ' = upc (up (up σ 111 s.toNatClampNeg so) 112 s.toNatClampNeg (if so < 0 then 0 else nn)) 113 (zr24 (σ 113) s.toNatClampNeg))) := by
  refine Ci.of (Or.inl mi_M_sheet) pk_M_sheet (nb rfl) (Or.inl rfl) [some (.inr 95), some (.inl s), some (.inl so), some (.inl nn), none] rfl fun Γ hG hR => ?_
  have bad : shtG s so nn = false → X Γ 26 [some (.inr 95), some (.inl s), some (.inl so), some (.inl nn), none] [] σ := by
    intro hb
    refine hG.rt hR rfl rfl rfl rfl ?_
    exact ⟨fun _ => ⟨rfl, rfl⟩, fun e => (by rw [hb] at e; cases e), fun e => (by rw [hb] at e; cases e)⟩
  refine hG.cS lk_M_192 mi_M_isSheet rfl rfl (c_M_isSheet s) rfl rfl rfl rfl rfl rfl ?_
  rintro x σ' ⟨rfl, rfl⟩
  refine hG.br rfl rfl rfl rfl (fun k1 => ?_) (fun k1 => ?_)
  · exact bad (by rw [shtG, bi_eq0.mp k1]; rfl)
  · obtain ⟨S, hS1, hS2, rfl⟩ := inB_ab 0 3 (by omega) (by omega) (bi_ne0.mp k1)
    rw [nI_clamp (show S < 2 ^ 31 by omega)] at hR
    refine hG.cS lk_M_84 mi_M_in rfl rfl (c_M_in so (-1) 1) rfl rfl rfl rfl rfl rfl ?_
    rintro x σ' ⟨rfl, rfl⟩
    refine hG.br rfl rfl rfl rfl (fun k2 => ?_) (fun k2 => ?_)
    · exact bad (by rw [shtG, bi_eq0.mp k2]; simp)
    · have main : shtG (nI S) so nn = true → shtZ so nn = false → X Γ 41 [some (.inr 95), some (.inl (nI S)), some (.inl so), some (.inl nn), none] [] σ' := by
        intro hg hz
        refine hG.sti rfl S rfl rfl rfl rfl (by omega) ?_
        have j62 : X Γ 62 [some (.inr 95), some (.inl (nI S)), some (.inl so), some (.inl nn), none] [.inl (if so < 0 then 0 else nn), .inl (nI S), .inr 112] (up σ' 111 S so) := by
          refine hG.sti rfl S rfl rfl rfl rfl (by omega) ?_
          generalize hτ : up (up σ' 111 S so) 112 S (if so < 0 then 0 else nn) = τ
          have e113 : τ 113 = σ' 113 := by rw [← hτ, up_c _ _ _ _ (by decide), up_c _ _ _ _ (by decide)]
          have e112 : τ 112 S = if so < 0 then 0 else nn := by rw [← hτ, up_self]
          have loop : ∀ m k, k + m = 24 → X Γ 66 [some (.inr 95), some (.inl (nI S)), some (.inl so), some (.inl nn), some (.inl (nI k))] [] (upc τ 113 (fun j => if 24 * S ≤ j ∧ j < 24 * S + k then 0 else τ 113 j)) := by
            intro m
            induction m with
            | zero =>
              intro k hk
              have hk : k = 24 := by omega
              subst hk
              refine hG.br rfl rfl rfl rfl (fun k3 => ?_) (fun k3 => ?_)
              · refine hG.ld rfl S rfl rfl rfl rfl rfl (by omega) ?_
                refine hG.rt hR rfl rfl rfl rfl ?_
                refine ⟨fun e => (by rw [hg] at e; cases e), fun _ e => (by rw [hz] at e; cases e), fun _ _ => ⟨?_, ?_⟩⟩
                · rw [upc_c _ _ _ (show 112 ≠ 113 by decide), e112]
                · rw [e113, ← hτ]; rfl
              · exact absurd (show nI 24 ≤ nI 24 from nI_le (Nat.le_refl _) (by omega)) k3
            | succ m ih =>
              intro k hk
              refine hG.br rfl rfl rfl rfl (fun k3 => ?_) (fun k3 => ?_)
              · exact absurd (show nI 24 ≤ nI k from k3) (nI_ge (by omega) (by omega))
              · refine hG.sti rfl (24 * S + k) rfl rfl rfl (by simp only [lit_nI, pk_mul, nI_add, nI_1]; first | done | rfl | (congr 1; omega)) (by omega) ?_
                refine hG.jp rfl rfl rfl ?_
                rw [nI_1, up_upc]
                have e : upd (fun j => if 24 * S ≤ j ∧ j < 24 * S + k then 0 else τ 113 j) (24 * S + k) 0 = (fun j => if 24 * S ≤ j ∧ j < 24 * S + (k + 1) then 0 else τ 113 j) := by
                  funext j
                  simp only [upd]
                  by_cases hj : j = 24 * S + k
                  · subst hj
                    rw [if_pos rfl, if_pos ⟨by omega, by omega⟩]
                  · rw [if_neg hj]
                    by_cases hq : 24 * S ≤ j ∧ j < 24 * S + k
                    · rw [if_pos hq, if_pos ⟨hq.1, by omega⟩]
                    · rw [if_neg hq, if_neg (fun q => hq ⟨q.1, by omega⟩)]
                rw [e]
                exact ih (k + 1) (by omega)
          have := loop 24 0 rfl
          rw [show (fun j => if 24 * S ≤ j ∧ j < 24 * S + 0 then 0 else τ 113 j) = τ 113 by funext j; rw [if_neg (by omega)], upc_self] at this
          exact hG.go 2 rfl rfl this
        refine hG.br rfl rfl rfl rfl (fun k3 => ?_) (fun k3 => ?_)
        · rw [if_neg (i32_nlt.mpr k3)] at j62
          exact hG.go 1 rfl rfl j62
        · rw [if_pos (i32_nle.mp k3)] at j62
          exact hG.go 2 rfl rfl j62
      have next : shtG (nI S) so nn = true → X Γ 29 [some (.inr 95), some (.inl (nI S)), some (.inl so), some (.inl nn), none] [] σ' := by
        intro hg
        refine hG.br rfl rfl rfl rfl (fun k3 => ?_) (fun k3 => ?_)
        · exact main hg (by simp [shtZ, i32_nle.mpr k3])
        · refine hG.br rfl rfl rfl rfl (fun k4 => ?_) (fun k4 => ?_)
          · exact main hg (by simp [shtZ, i32_nlt.mpr k4])
          · have hz : shtZ so nn = true := by simp [shtZ, i32_nlt.mp k3, i32_nle.mp k4]
            refine hG.rt hR rfl rfl rfl rfl ?_
            exact ⟨fun e => (by rw [hg] at e; cases e), fun _ _ => ⟨rfl, rfl⟩, fun _ e => (by rw [hz] at e; cases e)⟩
      refine hG.br rfl rfl rfl rfl (fun k3 => ?_) (fun k3 => ?_)
      · exact next (by rw [shtG, bi_ne0.mp k1, bi_ne0.mp k2]; simp [i32_nle.mpr k3])
      · refine hG.br rfl rfl rfl rfl (fun k4 => ?_) (fun k4 => ?_)
        · exact next (by rw [shtG, bi_ne0.mp k1, bi_ne0.mp k2]; simp [i32_nlt.mpr k4])
        · exact bad (by rw [shtG, bi_ne0.mp k1, bi_ne0.mp k2]; simp [i32_nlt.mp k3, i32_nle.mp k4])
theorem o_M_mark (s p v : Int32) (hs : SOk (σ 111) (σ 112)) : Ci l θ 5 m_M_mark [.inr 95, .inl s, .inl p, .inl v] σ (fun r σ' => r = (mrkF (σ 111) (σ 112) (σ 113) s p v).1 ∧ σ' = upc σ 113 (mrkF (σ 111) (σ 112) (σ 113) s p v).2) := by
  refine Ci.of (Or.inl mi_M_mark) pk_M_mark (nb rfl) (Or.inl rfl) [some (.inr 95), some (.inl s), some (.inl p), some (.inl v)] rfl fun Γ hG hR => ?_
  refine hG.cS lk_M_192 mi_M_isSheet rfl rfl (c_M_isSheet s) rfl rfl rfl rfl rfl rfl ?_
  rintro x σ' ⟨rfl, rfl⟩
  refine hG.br rfl rfl rfl rfl (fun k1 => ?_) (fun k1 => ?_)
  · obtain ⟨S, hS1, hS2, rfl⟩ := inB_ab 0 3 (by omega) (by omega) (bi_ne0.mp k1)
    obtain ⟨hso, Z, hZ, hsz⟩ := hs S (by omega)
    refine hG.ld rfl S rfl rfl rfl rfl rfl (by omega) ?_
    refine hG.br rfl rfl rfl rfl (fun k2 => ?_) (fun k2 => ?_)
    · refine hG.ld rfl S rfl rfl rfl rfl rfl (by omega) ?_
      rw [hsz]
      refine hG.cS lk_M_84 mi_M_in rfl rfl (c_M_in p 0 (nI Z - 1)) rfl rfl rfl rfl rfl rfl ?_
      rintro x σ' ⟨rfl, rfl⟩
      refine hG.br rfl rfl rfl rfl (fun k3 => ?_) (fun k3 => ?_)
      · obtain ⟨P, hP, rfl⟩ := (inB_lt (by omega)).mp (bi_ne0.mp k3)
        have hg : mrkF (σ' 111) (σ' 112) (σ' 113) (nI S) (nI P) v = (match mrkG (σ' 111 S) v with
            | some r => (r, σ' 113)
            | none => (1, upd (σ' 113) (24 * S + P) (if σ' 111 S = 0 then v.toInt16.toInt32 else v))) := by
          rw [mrkF, bi_ne0.mp k1, if_pos rfl, nI_clamp (by omega), if_neg (i32_nlt.mpr k2), hsz, bi_ne0.mp k3, if_pos rfl, nI_clamp (by omega)]
        have fin : mrkG (σ' 111 S) v = none → X Γ 91 [some (.inr 95), some (.inl (nI S)), some (.inl (nI P)), some (.inl v)] [] σ' := by
          intro hm
          rw [hm] at hg
          dsimp only at hg
          refine hG.ld rfl S rfl rfl rfl rfl rfl (by omega) ?_
          refine hG.br rfl rfl rfl rfl (fun k4 => ?_) (fun k4 => ?_)
          · refine hG.sti rfl (24 * S + P) rfl rfl rfl (by simp only [lit_nI, pk_mul, nI_add, nI_1]; first | done | rfl | (congr 1; omega)) (by omega) ?_
            refine hG.rt hR rfl rfl rfl rfl ?_
            rw [hg, if_neg k4]
            exact ⟨rfl, rfl⟩
          · refine hG.sti rfl (24 * S + P) rfl rfl rfl (by simp only [lit_nI, pk_mul, nI_add, nI_1]; first | done | rfl | (congr 1; omega)) (by omega) ?_
            refine hG.rt hR rfl rfl rfl rfl ?_
            rw [hg, if_pos k4]
            exact ⟨rfl, rfl⟩
        have next : ¬ (σ' 111 S = 0 ∧ v = -1000000005) → X Γ 60 [some (.inr 95), some (.inl (nI S)), some (.inl (nI P)), some (.inl v)] [] σ' := by
          intro h0
          refine hG.ld rfl S rfl rfl rfl rfl rfl (by omega) ?_
          refine hG.br rfl rfl rfl rfl (fun k4 => ?_) (fun k4 => ?_)
          · exact fin (by rw [mrkG, if_neg h0, if_neg (fun q => k4 q.1)])
          · refine hG.br rfl rfl rfl rfl (fun k5 => ?_) (fun k5 => ?_)
            · exact fin (by rw [mrkG, if_neg h0, if_neg (fun q => q.2.1 k5)])
            · refine hG.cS lk_M_84 mi_M_in rfl rfl (c_M_in v (-99999) 99999) rfl rfl rfl rfl rfl rfl ?_
              rintro x σ' ⟨rfl, rfl⟩
              refine hG.br rfl rfl rfl rfl (fun k6 => ?_) (fun k6 => ?_)
              · exact fin (by rw [mrkG, if_neg h0, if_neg (fun q => by rw [bi_ne0.mp k6] at q; cases q.2.2)])
              · have hm : mrkG (σ' 111 S) v = some (-1000000001) := by rw [mrkG, if_neg h0, if_pos ⟨k4, k5, bi_eq0.mp k6⟩]
                rw [hm] at hg
                refine hG.rt hR rfl rfl rfl rfl ?_
                rw [hg]
                exact ⟨rfl, (upc_self σ' 113).symm⟩
        refine hG.ld rfl S rfl rfl rfl rfl rfl (by omega) ?_
        refine hG.br rfl rfl rfl rfl (fun k4 => ?_) (fun k4 => ?_)
        · exact next (fun q => k4 q.1)
        · refine hG.br rfl rfl rfl rfl (fun k5 => ?_) (fun k5 => ?_)
          · exact next (fun q => k5 q.2)
          · have hm : mrkG (σ' 111 S) v = some (-1000000012) := by rw [mrkG, if_pos ⟨k4, k5⟩]
            rw [hm] at hg
            refine hG.rt hR rfl rfl rfl rfl ?_
            rw [hg]
            exact ⟨rfl, (upc_self σ' 113).symm⟩
      · refine hG.rt hR rfl rfl rfl rfl ?_
        rw [mrkF, bi_ne0.mp k1, if_pos rfl, nI_clamp (by omega), if_neg (i32_nlt.mpr k2), hsz, bi_eq0.mp k3]
        exact ⟨rfl, (upc_self σ' 113).symm⟩
    · refine hG.rt hR rfl rfl rfl rfl ?_
      rw [mrkF, bi_ne0.mp k1, if_pos rfl, nI_clamp (by omega), if_pos (i32_nle.mp k2)]
      exact ⟨rfl, (upc_self σ' 113).symm⟩
  · refine hG.rt hR rfl rfl rfl rfl ?_
    rw [mrkF, bi_eq0.mp k1]
    exact ⟨rfl, (upc_self σ' 113).symm⟩
end
