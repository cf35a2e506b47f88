def BstR (σ : Sg) (B : Bst) : Prop := match B with
  | none => σ 95 7 = -1 ∧ σ 95 8 = -1
  | some (bm, bf, bl) => σ 95 7 = nI bm ∧ σ 95 8 = nI bf ∧ gvA (-1) bl (σ 101)
def dealG (f : Nat → Int32) (n c t : Nat) : Bst := dl (nearT f t) (fun k => freeG (nearT f t) f n (nI k) (f 2)) (wshN f) c 0 [] 0 0 none
def dlgR (f : Nat → Int32) (n c t : Nat) (w : Int32) : Int32 := if inB w 0 (nI (1 + c)) then (match dealG f n c t with
  | none => 0
  | some (bm, bf, bl) => if w = 0 then nI bm else if w = 1 then nI bf else optN (-1000000005) (bl.getD (w.toNatClampNeg - 2) none)) else -1000000001
def chrL (f : Nat → Int32) (n : Nat) : List (Option Nat) → (Nat → Int32) × Nat
  | [] => (f, n)
  | none :: r => chrL f n r
  | some v :: r => if n < 10 then chrL (comesF f n 0 (nI v) (f 2)) (n + 1) r else chrL f n r
def chrF (f : Nat → Int32) (n c t : Nat) : Int32 × (Nat → Int32) := match dealG f n c t with
  | none => (0, f)
  | some (_, _, bl) => (nI (chrL f n bl).2, upd (chrL f n bl).1 4 0)
theorem WOk_wsh {f : Nat → Int32} {c i w : Nat} (h : WOk f c) (hi : i < c) (hw : w < 2) : wshN f i w < 125 ∧ f (6 + 2 * i + w) = nI (wshN f i w) := by
  obtain ⟨k, hk, e⟩ := h (2 * i + w) (by omega)
  rw [← Nat.add_assoc] at e
  have : wshN f i w = k := by rw [wshN, e, nI_clamp (by omega)]
  rw [this]
  exact ⟨hk, e⟩
section
variable {l : Launch} {θ : Th} {σ : Sg} {n c t y : Nat}
theorem c_M_mayHave (g : Nat → Bool) (gv : List (Option Nat)) (nm : Nat) (hnm : nm < 125) (hN : NT g σ) (h1 : σ 96 1 = nI n) (hn : n ≤ 10) (hgv : gvA (-1) gv (σ 100)) (hok : gvOk gv) (hlen : gv.length ≤ 6) : Ci l θ 5 m_M_mayHave [.inr 95, .inl (nI gv.length), .inl (nI nm)] σ (fun r σ' => σ' = σ ∧ r = bi (mayB g (fun k => freeG g (σ 96) n (nI k) (σ 96 2)) gv nm)) := by
  refine Ci.of (Or.inl mi_M_mayHave) pk_M_mayHave (nb rfl) (Or.inr rfl) [some (.inr 95), some (.inl (nI gv.length)), some (.inl (nI nm)), none] rfl fun Γ hG hR => ?_
  refine hG.ld rfl 2 rfl rfl rfl rfl rfl (by decide) ?_
  refine hG.cV lk_M_148 mi_M_isFree rfl rfl (c_M_isFree g n (nI nm) _ hN h1 hn) rfl rfl rfl rfl rfl rfl rfl rfl ?_
  rintro x σ' ⟨rfl, rfl⟩
  refine hG.br rfl rfl rfl rfl (fun k1 => ?_) (fun k1 => ?_)
  · have loop : ∀ m k, k + m = gv.length → mayB g (fun k => freeG g (σ' 96) n (nI k) (σ' 96 2)) gv nm = (gv.drop k).all (gvP g nm) → X Γ 18 [some (.inr 95), some (.inl (nI gv.length)), some (.inl (nI nm)), some (.inl (nI k))] [] σ' := by
      intro m
      induction m with
      | zero =>
        intro k hk he
        refine hG.br rfl rfl rfl rfl (fun k2 => ?_) (fun k2 => ?_)
        · refine hG.rz hR rfl rfl rfl rfl (Or.inr rfl) ?_
          exact ⟨rfl, by rw [he, List.drop_eq_nil_of_le (by omega)]; rfl⟩
        · exact absurd (nI_le (show gv.length ≤ k by omega) (by omega)) k2
      | succ m ih =>
        intro k hk he
        have hkl : k < gv.length := by omega
        have hgk : gv[k]? = some gv[k] := List.getElem?_eq_getElem hkl
        rw [List.drop_eq_getElem_cons hkl, List.all_cons] at he
        have ha := hgv k _ hgk
        refine hG.br rfl rfl rfl rfl (fun k2 => ?_) (fun k2 => ?_)
        · exact absurd k2 (nI_ge hkl (by omega))
        · refine hG.ld rfl k rfl rfl rfl rfl rfl (by omega) ?_
          rw [ha]
          have next : gvP g nm gv[k] = true → X Γ 48 [some (.inr 95), some (.inl (nI gv.length)), some (.inl (nI nm)), some (.inl (nI k))] [] σ' := by
            intro hp
            refine hG.jp rfl rfl rfl ?_
            rw [nI_1]
            exact ih (k + 1) (by omega) (by rw [he, hp]; rfl)
          cases hx : gv[k] with
          | none =>
            rw [hx] at next
            refine hG.br rfl rfl rfl rfl (fun k3 => ?_) (fun k3 => ?_)
            · exact next rfl
            · exact absurd (show optN (-1) none < 0 by decide) k3
          | some v =>
            rw [hx] at next ha
            have hv : v < 125 := hok v (by rw [← hx]; exact List.getElem_mem hkl)
            refine hG.br rfl rfl rfl rfl (fun k3 => ?_) (fun k3 => ?_)
            · exact absurd (show nI v < 0 from k3) (nI_pos (by omega))
            · refine hG.ld rfl k rfl rfl rfl rfl rfl (by omega) ?_
              rw [ha]
              refine hG.cV lk_M_140 mi_M_areNear rfl rfl (c_M_areNear g (nI v) (nI nm) hN) rfl rfl rfl rfl rfl rfl rfl rfl ?_
              rintro x σ' ⟨rfl, rfl⟩
              refine hG.br rfl rfl rfl rfl (fun k4 => ?_) (fun k4 => ?_)
              · exact next (by rw [gvP, bi_eq0.mp k4]; rfl)
              · refine hG.rz hR rfl rfl rfl rfl (Or.inl rfl) ?_
                exact ⟨rfl, by rw [he, hx, gvP, bi_ne0.mp k4]; rfl⟩
    exact hG.go 2 rfl rfl (loop gv.length 0 (by omega) (by rw [mayB, bi_ne0.mp k1]; rfl))
  · refine hG.rz hR rfl rfl rfl rfl (Or.inl rfl) ?_
    exact ⟨rfl, by rw [mayB, bi_eq0.mp k1]; rfl⟩
theorem c_M_deals (g : Nat → Bool) (cN n : Nat) (hc6 : cN ≤ 6) (hn : n ≤ 10) (f : Nat → Int32) (h1 : f 1 = nI n) (h4 : f 4 = nI cN) (hW : WOk f cN) : ∀ (r c : Nat) (gv : List (Option Nat)) (m fs : Nat) (B : Bst) (σ : Sg), c + r = cN → gv.length = c → gvOk gv → m ≤ c → fs ≤ c → BOk cN B → σ 96 = f → NT g σ → gvA (-1) gv (σ 100) → BstR σ B → Cv l θ (r + 6) m_M_deals [.inr 95, .inl (nI c), .inl (nI m), .inl (nI fs)] σ (fun σ' => BstR σ' (dl g (fun k => freeG g f n (nI k) (f 2)) (wshN f) r c gv m fs B) ∧ Sm [95, 100, 101] σ σ' ∧ (∀ j, j ≠ 7 → j ≠ 8 → σ' 95 j = σ 95 j) ∧ gvA (-1) gv (σ' 100)) := by
  intro r
  induction r with
  | zero =>
    intro c gv m fs B σ hc hl hok hm hfs hB hf hN hgv hb
    have hcN : c = cN := by omega
    subst hcN
    refine Cv.of (Or.inl mi_M_deals) pk_M_deals (nb rfl) rfl [some (.inr 95), some (.inl (nI c)), some (.inl (nI m)), some (.inl (nI fs)), none, none] rfl fun Γ hG hR => ?_
    have e4 : σ 96 4 = nI c := by rw [hf]; exact h4
    refine hG.ld rfl 4 rfl rfl rfl rfl rfl (by decide) ?_
    rw [e4]
    refine hG.br rfl rfl rfl rfl (fun k1 => ?_) (fun k1 => ?_)
    · exact absurd rfl k1
    · have keep : btr m fs B = false → X Γ 73 [some (.inr 95), some (.inl (nI c)), some (.inl (nI m)), some (.inl (nI fs)), none, none] [] σ := by
        intro hbt
        refine hG.rv hR rfl rfl rfl ?_
        refine ⟨?_, Sm.rf, fun _ _ _ => rfl, hgv⟩
        rw [dl, hbt]
        exact hb
      have take : btr m fs B = true → X Γ 34 [some (.inr 95), some (.inl (nI c)), some (.inl (nI m)), some (.inl (nI fs)), none, none] [] σ := by
        intro hbt
        generalize hσ1 : up (up σ 95 7 (nI m)) 95 8 (nI fs) = σ1
        have e7 : σ1 95 7 = nI m := by rw [← hσ1, up_j _ _ _ _ (by decide), up_self]
        have e8 : σ1 95 8 = nI fs := by rw [← hσ1, up_self]
        have ej : ∀ j, j ≠ 7 → j ≠ 8 → σ1 95 j = σ 95 j := fun j h7 h8 => by rw [← hσ1, up_j _ _ _ _ h8, up_j _ _ _ _ h7]
        have hS1 : Sm [95, 100, 101] σ σ1 := by rw [← hσ1]; exact (Sm.rf.up (by decide)).up (by decide)
        have e100 : σ1 100 = σ 100 := by rw [← hσ1, up_c _ _ _ _ (by decide), up_c _ _ _ _ (by decide)]
        have loop : ∀ q k, k + q = c → X Γ 47 [some (.inr 95), some (.inl (nI c)), some (.inl (nI m)), some (.inl (nI fs)), some (.inl (nI k)), none] [] (upc σ1 101 (fun j => if j < k then σ 100 j else σ1 101 j)) := by
          intro q
          induction q with
          | zero =>
            intro k hk
            refine hG.br rfl rfl rfl rfl (fun k2 => ?_) (fun k2 => ?_)
            · refine hG.rv hR rfl rfl rfl ?_
              refine ⟨?_, hS1.upc (by decide), fun j h7 h8 => by rw [upc_c _ _ _ (by decide)]; exact ej j h7 h8, by rw [upc_c _ _ _ (by decide), e100]; exact hgv⟩
              rw [dl, hbt, if_pos rfl]
              refine ⟨by rw [upc_c _ _ _ (by decide)]; exact e7, by rw [upc_c _ _ _ (by decide)]; exact e8, ?_⟩
              intro i x hx
              have hi : i < gv.length := (List.getElem?_eq_some_iff.mp hx).1
              rw [upc_same, if_pos (by omega)]
              exact hgv i x hx
            · exact absurd (nI_le (show c ≤ k by omega) (by omega)) k2
          | succ q ih =>
            intro k hk
            refine hG.br rfl rfl rfl rfl (fun k2 => ?_) (fun k2 => ?_)
            · exact absurd k2 (nI_ge (by omega) (by omega))
            · refine hG.ld rfl k rfl rfl rfl rfl rfl (by omega) ?_
              rw [upc_c _ _ _ (show 100 ≠ 101 by decide), e100]
              refine hG.sti rfl k rfl rfl rfl rfl (by omega) ?_
              refine hG.jp rfl rfl rfl ?_
              rw [nI_1, up_upc]
              have e : upd (fun j => if j < k then σ 100 j else σ1 101 j) k (σ 100 k) = (fun j => if j < k + 1 then σ 100 j else σ1 101 j) := by
                funext j
                simp only [upd]
                by_cases hj : j = k
                · subst hj; simp
                · have : j < k + 1 ↔ j < k := by omega
                  simp [hj, this]
              rw [e]
              exact ih (k + 1) (by omega)
        have hl0 := loop c 0 (by omega)
        rw [show (fun j => if j < 0 then σ 100 j else σ1 101 j) = σ1 101 by funext j; simp, upc_self, ← hσ1] at hl0
        exact hG.go 8 rfl rfl hl0
      cases B with
      | none =>
        obtain ⟨b7, b8⟩ := hb
        refine hG.br rfl rfl rfl rfl (fun k2 => ?_) (fun k2 => ?_)
        · exact take rfl
        · rw [b7] at k2
          exact absurd (Int32.lt_of_lt_of_le (by decide : (-1 : Int32) < 0) (nI_pos' (by omega))) k2
      | some q =>
        obtain ⟨bm, bf, bl⟩ := q
        obtain ⟨b7, b8, b9⟩ := hb
        obtain ⟨-, -, hbm, hbf⟩ := hB bm bf bl rfl
        refine hG.br rfl rfl rfl rfl (fun k2 => ?_) (fun k2 => ?_)
        · rw [b7] at k2
          exact take (by simp [btr, (nI_ltI (by omega) (by omega)).mp k2])
        · rw [b7] at k2
          have q2 : ¬ bm < m := fun z => k2 (nI_lt z (by omega))
          refine hG.br rfl rfl rfl rfl (fun k3 => ?_) (fun k3 => ?_)
          · rw [b7] at k3
            have q3 : ¬ m = bm := fun z => k3 (by rw [z])
            exact keep (by simp [btr, q2, q3])
          · rw [b7] at k3
            have q3 : m = bm := (nI_eq (by omega) (by omega)).mp k3
            refine hG.br rfl rfl rfl rfl (fun k4 => ?_) (fun k4 => ?_)
            · rw [b8] at k4
              have q4 : ¬ bf < fs := fun z => absurd k4 (nI_ge z (by omega))
              exact keep (by simp [btr, q2, q4])
            · rw [b8] at k4
              have q4 : bf < fs := Nat.not_le.mp (fun z => k4 (nI_le z (by omega)))
              exact take (by simp [btr, q3, q4])
  | succ r ih =>
    intro c gv m fs B σ hc hl hok hm hfs hB hf hN hgv hb
    refine Cv.of (Or.inl mi_M_deals) pk_M_deals (nb rfl) rfl [some (.inr 95), some (.inl (nI c)), some (.inl (nI m)), some (.inl (nI fs)), none, none] rfl fun Γ hG hR => ?_
    have hWc := fun w hw => WOk_wsh (i := c) (w := w) hW (by omega) hw
    have e4 : σ 96 4 = nI cN := by rw [hf]; exact h4
    -- behind both ways
    have last : ∀ (B2 : Bst) (σ1 : Sg) (w4 w5 : Option AV), BOk cN B2 → σ1 96 = f → NT g σ1 → gvA (-1) gv (σ1 100) → BstR σ1 B2 → Sm [95, 100, 101] σ σ1 → (∀ j, j ≠ 7 → j ≠ 8 → σ1 95 j = σ 95 j) → dl g (fun k => freeG g f n (nI k) (f 2)) (wshN f) (r + 1) c gv m fs B = dl g (fun k => freeG g f n (nI k) (f 2)) (wshN f) r (c + 1) (gv ++ [none]) m fs B2 → X Γ 139 [some (.inr 95), some (.inl (nI c)), some (.inl (nI m)), some (.inl (nI fs)), w4, w5] [] σ1 := by
      intro B2 σ1 w4 w5 hB2 hf1 hN1 hg1 hb1 hS1 hj1 he
      refine hG.sti rfl c rfl rfl rfl rfl (by omega) ?_
      have hg2 : gvA (-1) (gv ++ [none]) (up σ1 100 c (-1) 100) := by rw [up_same, ← hl]; exact gvA_app hg1
      have hb2 : BstR (up σ1 100 c (-1)) B2 := by
        cases B2 with
        | none => exact ⟨by rw [up_c _ _ _ _ (by decide)]; exact hb1.1, by rw [up_c _ _ _ _ (by decide)]; exact hb1.2⟩
        | some q => exact ⟨by rw [up_c _ _ _ _ (by decide)]; exact hb1.1, by rw [up_c _ _ _ _ (by decide)]; exact hb1.2.1, by rw [up_c _ _ _ _ (by decide)]; exact hb1.2.2⟩
      refine hG.go 7 rfl rfl ?_
      rw [nI_1]
      refine hG.cVv lk_M_167 mi_M_deals rfl rfl (ih (c + 1) (gv ++ [none]) m fs B2 (up σ1 100 c (-1)) (by omega) (by simp [hl]) (gvOk_app hok (fun v h => by cases h)) (by omega) (by omega) hB2 (by rw [up_c _ _ _ _ (by decide)]; exact hf1) (fun q hq => by rw [up_c _ _ _ _ (by decide)]; exact hN1 q hq) hg2 hb2) rfl rfl (Nat.ble_eq_true_of_le (by omega)) rfl rfl rfl rfl rfl ?_
      rintro σ2 ⟨p1, p2, p3, p4⟩
      refine hG.rv hR rfl rfl rfl ?_
      refine ⟨by rw [he]; exact p1, (hS1.up (by decide)).tr p2, fun j h7 h8 => ?_, gvA_pre p4⟩
      rw [p3 j h7 h8, up_c _ _ _ _ (by decide)]
      exact hj1 j h7 h8
    -- one way
    have way : ∀ (w : Nat) (B1 : Bst) (σ1 : Sg) (w5 : Option AV) (Bn : Bst), w < 2 → Bn = (if mayB g (fun k => freeG g f n (nI k) (f 2)) gv (wshN f c w) then dl g (fun k => freeG g f n (nI k) (f 2)) (wshN f) r (c + 1) (gv ++ [some (wshN f c w)]) (m + 1) (fs + 1 - w) B1 else B1) → BOk cN B1 → σ1 96 = f → NT g σ1 → gvA (-1) gv (σ1 100) → BstR σ1 B1 → Sm [95, 100, 101] σ σ1 → (∀ j, j ≠ 7 → j ≠ 8 → σ1 95 j = σ 95 j) → (∀ (σ2 : Sg) (w5 : Option AV), BOk cN Bn → σ2 96 = f → NT g σ2 → gvA (-1) gv (σ2 100) → BstR σ2 Bn → Sm [95, 100, 101] σ σ2 → (∀ j, j ≠ 7 → j ≠ 8 → σ2 95 j = σ 95 j) → X Γ 77 [some (.inr 95), some (.inl (nI c)), some (.inl (nI m)), some (.inl (nI fs)), some (.inl (nI (w + 1))), w5] [] σ2) → X Γ 77 [some (.inr 95), some (.inl (nI c)), some (.inl (nI m)), some (.inl (nI fs)), some (.inl (nI w)), w5] [] σ1 := by
      intro w B1 σ1 w5 Bn hw hBn hB1 hf1 hN1 hg1 hb1 hS1 hj1 kk
      refine hG.br rfl rfl rfl rfl (fun k1 => ?_) (fun k1 => ?_)
      · exact absurd (show nI 2 ≤ nI w from k1) (nI_ge hw (by omega))
      · refine hG.ld rfl (6 + 2 * c + w) rfl rfl rfl rfl (by simp only [lit_nI, pk_mul, nI_add, nI_1]; first | done | rfl | (congr 1; omega)) (by omega) ?_
        rw [hf1, (hWc w hw).2]
        have hmay := c_M_mayHave (l := l) (θ := θ) (σ := σ1) (n := n) g gv (wshN f c w) (hWc w hw).1 hN1 (by rw [hf1]; exact h1) hn hg1 hok (by omega)
        rw [hl, hf1] at hmay
        refine hG.cV lk_M_164 mi_M_mayHave rfl rfl hmay rfl rfl (Nat.ble_eq_true_of_le (by omega)) rfl rfl rfl rfl rfl ?_
        rintro x σ1 ⟨rfl, rfl⟩
        refine hG.br rfl rfl rfl rfl (fun k2 => ?_) (fun k2 => ?_)
        · rw [bi_eq0.mp k2] at hBn
          refine hG.jp rfl rfl rfl ?_
          rw [nI_1]
          have hBn : Bn = B1 := hBn
          subst hBn
          exact kk σ1 _ hB1 hf1 hN1 hg1 hb1 hS1 hj1
        · rw [bi_ne0.mp k2, if_pos rfl] at hBn
          refine hG.sti rfl c rfl rfl rfl rfl (by omega) ?_
          have hg2 : gvA (-1) (gv ++ [some (wshN f c w)]) (up σ1 100 c (nI (wshN f c w)) 100) := by rw [up_same, ← hl]; exact gvA_app hg1
          have hb2 : BstR (up σ1 100 c (nI (wshN f c w))) B1 := by
            cases B1 with
            | none => exact ⟨by rw [up_c _ _ _ _ (by decide)]; exact hb1.1, by rw [up_c _ _ _ _ (by decide)]; exact hb1.2⟩
            | some q => exact ⟨by rw [up_c _ _ _ _ (by decide)]; exact hb1.1, by rw [up_c _ _ _ _ (by decide)]; exact hb1.2.1, by rw [up_c _ _ _ _ (by decide)]; exact hb1.2.2⟩
          refine hG.go 12 rfl rfl ?_
          rw [nI_1, nI_1, nI_1, show nI (fs + 1) - nI w = nI (fs + 1 - w) from pk_sub (by omega)]
          refine hG.cVv lk_M_167 mi_M_deals rfl rfl (ih (c + 1) (gv ++ [some (wshN f c w)]) (m + 1) (fs + 1 - w) B1 (up σ1 100 c (nI (wshN f c w))) (by omega) (by simp [hl]) (gvOk_app hok (fun v h => by cases h; exact (hWc w hw).1)) (by omega) (by omega) hB1 (by rw [up_c _ _ _ _ (by decide)]; exact hf1) (fun q hq => by rw [up_c _ _ _ _ (by decide)]; exact hN1 q hq) hg2 hb2) rfl rfl (Nat.ble_eq_true_of_le (by omega)) rfl rfl rfl rfl rfl ?_
          rintro σ2 ⟨p1, p2, p3, p4⟩
          refine hG.jp rfl rfl rfl ?_
          rw [nI_1]
          have hS2 := (hS1.up (c := 100) (j := c) (v := nI (wshN f c w)) (by decide)).tr p2
          refine kk σ2 _ ?_ ?_ ?_ (gvA_pre p4) (by rw [hBn]; exact p1) hS2 ?_
          · rw [hBn]
            exact dl_ok (fun i w' hi hw' => (WOk_wsh hW hi hw').1) r (c + 1) _ _ _ _ (by omega) (by simp [hl]) (gvOk_app hok (fun v h => by cases h; exact (hWc w hw).1)) (by omega) (by omega) hB1
          · rw [p2 96 (by decide), up_c _ _ _ _ (by decide)]; exact hf1
          · intro q hq
            rw [p2 99 (by decide), up_c _ _ _ _ (by decide)]; exact hN1 q hq
          · intro j h7 h8
            rw [p3 j h7 h8, up_c _ _ _ _ (by decide)]
            exact hj1 j h7 h8
    refine hG.ld rfl 4 rfl rfl rfl rfl rfl (by decide) ?_
    rw [e4]
    refine hG.br rfl rfl rfl rfl (fun k1 => ?_) (fun k1 => ?_)
    · refine hG.go 2 rfl rfl ?_
      refine way 0 B σ none _ (by decide) rfl hB hf hN hgv hb Sm.rf (fun _ _ _ => rfl) ?_
      intro σ2 w5 a1 a2 a3 a4 a5 a6 a7
      refine way 1 _ σ2 w5 _ (by decide) rfl a1 a2 a3 a4 a5 a6 a7 ?_
      intro σ3 w5 b1 b2 b3 b4 b5 b6 b7
      refine hG.br rfl rfl rfl rfl (fun k2 => ?_) (fun k2 => ?_)
      · exact last _ σ3 _ _ b1 b2 b3 b4 b5 b6 b7 rfl
      · exact absurd (show nI 2 ≤ nI 2 from nI_le (Nat.le_refl _) (by omega)) k2
    · exact absurd ((nI_eq (by omega) (by omega)).mp k1) (by omega)
theorem c_M_findDealing (hf : FOk (σ 96) n c t y) : Cv l θ 13 m_M_findDealing [.inr 95] σ (fun σ' => BstR σ' (dealG (σ 96) n c t) ∧ Sm [95, 99, 100, 101, 109, 110] σ σ' ∧ ∀ j, j ≠ 7 → j ≠ 8 → σ' 95 j = σ 95 j) := by
  obtain ⟨h1, hn, h4, hc, h5, ht, h2, h2y, hT, hW⟩ := hf
  refine Cv.of (Or.inl mi_M_findDealing) pk_M_findDealing (nb rfl) rfl [some (.inr 95)] rfl fun Γ hG hR => ?_
  refine hG.cVv lk_M_137 mi_M_findNears rfl rfl (c_M_findNears t h5 ht hT) rfl rfl rfl rfl rfl rfl rfl rfl ?_
  rintro τ ⟨hS, hN⟩
  have e96 : τ 96 = σ 96 := hS 96 (by decide)
  have hd := c_M_deals (l := l) (θ := θ) (nearT (σ 96) t) c n hc hn (σ 96) h1 h4 hW c 0 [] 0 0 none (up (up τ 95 7 (-1)) 95 8 (-1)) (by omega) rfl (fun v h => absurd h List.not_mem_nil) (by omega) (by omega) (fun _ _ _ h => by cases h) (by rw [up_c _ _ _ _ (by decide), up_c _ _ _ _ (by decide)]; exact e96) (fun q hq => by rw [up_c _ _ _ _ (by decide), up_c _ _ _ _ (by decide)]; exact hN q hq) (fun i x h => by simp at h) ⟨by rw [up_j _ _ _ _ (by decide), up_self], up_self _ _ _ _⟩
  refine hG.cVv lk_M_167 mi_M_deals rfl rfl hd rfl rfl (Nat.ble_eq_true_of_le (by omega)) rfl rfl rfl rfl rfl ?_
  rintro σ2 ⟨p1, p2, p3, p4⟩
  refine hG.rv hR rfl rfl rfl ?_
  refine ⟨p1, (((hS.mono (by decide)).up (by decide)).up (by decide)).tr (p2.mono (by decide)), fun j h7 h8 => ?_⟩
  rw [p3 j h7 h8, up_j _ _ _ _ h8, up_j _ _ _ _ h7, hS 95 (by decide)]
theorem o_M_dealing (w : Int32) (hf : FOk (σ 96) n c t y) : Ci l θ 14 m_M_dealing [.inr 95, .inl w] σ (fun r σ' => r = dlgR (σ 96) n c t w ∧ Sm [95, 99, 100, 101, 109, 110] σ σ' ∧ ∀ j, j ≠ 7 → j ≠ 8 → σ' 95 j = σ 95 j) := by
  have hf0 := hf
  obtain ⟨h1, hn, h4, hc, h5, ht, h2, h2y, hT, hW⟩ := hf
  refine Ci.of (Or.inl mi_M_dealing) pk_M_dealing (nb rfl) (Or.inl rfl) [some (.inr 95), some (.inl w)] rfl fun Γ hG hR => ?_
  refine hG.ld rfl 4 rfl rfl rfl rfl rfl (by decide) ?_
  rw [h4]
  refine hG.go 1 rfl rfl ?_
  rw [show (1 : Int32) + nI c = nI (1 + c) from nI_add 1 c]
  refine hG.cS lk_M_84 mi_M_in rfl rfl (c_M_in w 0 (nI (1 + c))) rfl rfl rfl rfl rfl rfl ?_
  rintro x σ' ⟨rfl, rfl⟩
  refine hG.br rfl rfl rfl rfl (fun k1 => ?_) (fun k1 => ?_)
  · obtain ⟨V, hV, rfl⟩ := (inB_nI (by omega)).mp (bi_ne0.mp k1)
    refine hG.cVv lk_M_171 mi_M_findDealing rfl rfl (c_M_findDealing hf0) rfl rfl rfl rfl rfl rfl rfl rfl ?_
    rintro τ ⟨hb, hS, hj⟩
    obtain ⟨⟨bm, bf, bl⟩, hq⟩ := dl_some (g := nearT (σ' 96) t) (F := fun k => freeG (nearT (σ' 96) t) (σ' 96) n (nI k) (σ' 96 2)) (W := wshN (σ' 96)) c 0 [] 0 0 none
    have hq : dealG (σ' 96) n c t = some (bm, bf, bl) := hq
    have hBO := dl_ok (g := nearT (σ' 96) t) (F := fun k => freeG (nearT (σ' 96) t) (σ' 96) n (nI k) (σ' 96 2)) (W := wshN (σ' 96)) (cN := c) (fun i w hi hw => (WOk_wsh hW hi hw).1) c 0 [] 0 0 none (by omega) rfl (fun v h => absurd h List.not_mem_nil) (by omega) (by omega) (fun _ _ _ h => by cases h) bm bf bl hq
    rw [hq] at hb
    obtain ⟨b7, b8, b9⟩ := hb
    have hg : dlgR (σ' 96) n c t (nI V) = if nI V = 0 then nI bm else if nI V = 1 then nI bf else optN (-1000000005) (bl.getD (V - 2) none) := by
      rw [dlgR, bi_ne0.mp k1, if_pos rfl, hq, nI_clamp (by omega)]
    refine hG.br rfl rfl rfl rfl (fun k2 => ?_) (fun k2 => ?_)
    · refine hG.br rfl rfl rfl rfl (fun k3 => ?_) (fun k3 => ?_)
      · have hV2 : 2 ≤ V := by
          have v0 : V ≠ 0 := fun e => k2 (by rw [e]; rfl)
          have v1 : V ≠ 1 := fun e => k3 (by rw [e]; rfl)
          omega
        have hbl : V - 2 < bl.length := by omega
        have hx : bl[V - 2]? = some bl[V - 2] := List.getElem?_eq_getElem hbl
        have hget : bl.getD (V - 2) none = bl[V - 2] := by rw [List.getD_eq_getElem?_getD, hx]; rfl
        have ha := b9 _ _ hx
        refine hG.ld rfl (V - 2) rfl rfl rfl rfl (show nI V - nI 2 = _ from pk_sub hV2) (by omega) ?_
        rw [ha]
        rw [if_neg k2, if_neg k3, hget] at hg
        cases hxx : bl[V - 2] with
        | none =>
          rw [hxx] at hg
          refine hG.br rfl rfl rfl rfl (fun k4 => ?_) (fun k4 => ?_)
          · exact absurd (show (0 : Int32) ≤ optN (-1) none from k4) (by decide)
          · refine hG.rt hR rfl rfl rfl rfl ?_
            exact ⟨by rw [hg]; rfl, hS, hj⟩
        | some v =>
          rw [hxx] at hg ha
          have hv : v < 125 := hBO.2.1 v (by rw [← hxx]; exact List.getElem_mem hbl)
          refine hG.br rfl rfl rfl rfl (fun k4 => ?_) (fun k4 => ?_)
          · refine hG.ld rfl (V - 2) rfl rfl rfl rfl (show nI V - nI 2 = _ from pk_sub hV2) (by omega) ?_
            rw [ha]
            refine hG.rt hR rfl rfl rfl rfl ?_
            exact ⟨by rw [hg]; rfl, hS, hj⟩
          · exact absurd (show 0 ≤ nI v from nI_pos' (by omega)) k4
      · refine hG.rt hR rfl rfl rfl rfl ?_
        exact ⟨by rw [hg, if_neg k2, if_pos k3, b8], hS, hj⟩
    · refine hG.rt hR rfl rfl rfl rfl ?_
      exact ⟨by rw [hg, if_pos k2, b7], hS, hj⟩
  · refine hG.rt hR rfl rfl rfl rfl ?_
    exact ⟨by rw [dlgR, bi_eq0.mp k1]; rfl, Sm.rf, fun _ _ _ => rfl⟩
theorem o_M_christen (hf : FOk (σ 96) n c t y) : Ci l θ 14 m_M_christen [.inr 95] σ (fun r σ' => r = (chrF (σ 96) n c t).1 ∧ σ' 96 = (chrF (σ 96) n c t).2 ∧ Sm [95, 96, 99, 100, 101, 109, 110] σ σ' ∧ ∀ j, j ≠ 7 → j ≠ 8 → σ' 95 j = σ 95 j) := by
  have hf0 := hf
  obtain ⟨h1, hn, h4, hc, h5, ht, h2, h2y, hT, hW⟩ := hf
  refine Ci.of (Or.inl mi_M_christen) pk_M_christen (nb rfl) (Or.inl rfl) [some (.inr 95), none, none] rfl fun Γ hG hR => ?_
  refine hG.cVv lk_M_171 mi_M_findDealing rfl rfl (c_M_findDealing hf0) rfl rfl rfl rfl rfl rfl rfl rfl ?_
  rintro τ ⟨hb, hS, hj⟩
  obtain ⟨⟨bm, bf, bl⟩, hq⟩ := dl_some (g := nearT (σ 96) t) (F := fun k => freeG (nearT (σ 96) t) (σ 96) n (nI k) (σ 96 2)) (W := wshN (σ 96)) c 0 [] 0 0 none
  have hq : dealG (σ 96) n c t = some (bm, bf, bl) := hq
  have hBO := dl_ok (g := nearT (σ 96) t) (F := fun k => freeG (nearT (σ 96) t) (σ 96) n (nI k) (σ 96 2)) (W := wshN (σ 96)) (cN := c) (fun i w hi hw => (WOk_wsh hW hi hw).1) c 0 [] 0 0 none (by omega) rfl (fun v h => absurd h List.not_mem_nil) (by omega) (by omega) (fun _ _ _ h => by cases h) bm bf bl hq
  rw [hq] at hb
  obtain ⟨b7, b8, b9⟩ := hb
  have hg : chrF (σ 96) n c t = (nI (chrL (σ 96) n bl).2, upd (chrL (σ 96) n bl).1 4 0) := by rw [chrF, hq]
  have e96 : τ 96 = σ 96 := hS 96 (by decide)
  have hlen : bl.length = c := hBO.1
  have loop : ∀ m k nn, k + m = c → nn ≤ 10 → ∀ (g : Nat → Int32) (w2 : Option AV), g 1 = nI nn → g 4 = nI c → g 2 = σ 96 2 → chrL (σ 96) n bl = chrL g nn (bl.drop k) → X Γ 6 [some (.inr 95), some (.inl (nI k)), w2] [] (upc τ 96 g) := by
    intro m
    induction m with
    | zero =>
      intro k nn hk hnn g w2 g1 g4 g2 he
      rw [List.drop_eq_nil_of_le (by omega)] at he
      have he : chrL (σ 96) n bl = (g, nn) := he
      refine hG.ld rfl 4 rfl rfl rfl rfl rfl (by decide) ?_
      rw [upc_same, g4]
      refine hG.br rfl rfl rfl rfl (fun k1 => ?_) (fun k1 => ?_)
      · refine hG.sti rfl 4 rfl rfl rfl rfl (by decide) ?_
        refine hG.ld rfl 1 rfl rfl rfl rfl rfl (by decide) ?_
        refine hG.rt hR rfl rfl rfl rfl ?_
        rw [up_upc, upc_same, hg, he]
        refine ⟨by rw [upd_ne (by decide)]; exact g1, rfl, (hS.mono (by decide)).upc (by decide), fun j h7 h8 => ?_⟩
        rw [upc_c _ _ _ (by decide)]; exact hj j h7 h8
      · exact absurd (nI_le (show c ≤ k by omega) (by omega)) k1
    | succ m ih =>
      intro k nn hk hnn g w2 g1 g4 g2 he
      have hkl : k < bl.length := by omega
      have hx : bl[k]? = some bl[k] := List.getElem?_eq_getElem hkl
      have ha := b9 _ _ hx
      rw [List.drop_eq_getElem_cons hkl] at he
      refine hG.ld rfl 4 rfl rfl rfl rfl rfl (by decide) ?_
      rw [upc_same, g4]
      refine hG.br rfl rfl rfl rfl (fun k1 => ?_) (fun k1 => ?_)
      · exact absurd k1 (nI_ge (by omega) (by omega))
      · refine hG.ld rfl k rfl rfl rfl rfl rfl (by omega) ?_
        rw [upc_c _ _ _ (show 101 ≠ 96 by decide), ha]
        have skip : chrL (σ 96) n bl = chrL g nn (bl.drop (k + 1)) → X Γ 54 [some (.inr 95), some (.inl (nI k)), w2] [] (upc τ 96 g) := by
          intro h
          refine hG.jp rfl rfl rfl ?_
          rw [nI_1]
          exact ih (k + 1) nn (by omega) hnn g w2 g1 g4 g2 h
        cases hxx : bl[k] with
        | none =>
          rw [hxx] at he
          refine hG.br rfl rfl rfl rfl (fun k2 => ?_) (fun k2 => ?_)
          · exact skip he
          · exact absurd (show optN (-1) none < 0 by decide) k2
        | some v =>
          rw [hxx] at he ha
          have hv : v < 125 := hBO.2.1 v (by rw [← hxx]; exact List.getElem_mem hkl)
          rw [chrL] at he
          refine hG.br rfl rfl rfl rfl (fun k2 => ?_) (fun k2 => ?_)
          · exact absurd (show nI v < 0 from k2) (nI_pos (by omega))
          · refine hG.ld rfl 1 rfl rfl rfl rfl rfl (by decide) ?_
            rw [upc_same, g1]
            refine hG.br rfl rfl rfl rfl (fun k3 => ?_) (fun k3 => ?_)
            · have q : ¬ nn < 10 := fun z => absurd (show nI 10 ≤ nI nn from k3) (nI_ge z (by omega))
              rw [if_neg q] at he
              exact skip he
            · have q : nn < 10 := Nat.not_le.mp (fun z => k3 (show nI 10 ≤ nI nn from nI_le z (by omega)))
              rw [if_pos q] at he
              refine hG.ld rfl k rfl rfl rfl rfl rfl (by omega) ?_
              rw [upc_c _ _ _ (show 101 ≠ 96 by decide), ha]
              refine hG.ld rfl 2 rfl rfl rfl rfl rfl (by decide) ?_
              rw [upc_same]
              refine hG.cV lk_M_99 mi_M_comes rfl rfl (c_M_comes nn 0 (nI v) (g 2) (by omega) (by rw [upc_same]; exact g1)) rfl rfl rfl rfl rfl rfl rfl rfl ?_
              rintro x τ2 ⟨rfl, rfl⟩
              rw [upc_upc, upc_same]
              refine hG.jp rfl rfl rfl ?_
              rw [nI_1]
              refine ih (k + 1) (nn + 1) (by omega) (by omega) _ _ ?_ ?_ ?_ he
              · rw [comesF, upd_same]
              · rw [comesF, upd_ne (by decide), upd_ne (by omega), upd_ne (by omega), upd_ne (by omega), upd_ne (by omega)]; exact g4
              · rw [comesF, upd_ne (by decide), upd_ne (by omega), upd_ne (by omega), upd_ne (by omega), upd_ne (by omega)]; exact g2
  have := loop c 0 n (by omega) hn (σ 96) none h1 h4 rfl rfl
  rw [← e96, upc_self] at this
  exact hG.go 2 rfl rfl this
end
