/-! the law: a case is two calls and a comparison (gen_law.py) -/
theorem Md.pg {Γ : Cx} {l : Launch} {θ : Th} {d : Nat} {M : MI} {pg pg2 : List Rw} (hG : Md Γ l θ d M pg) (h : okP M.1.cls M.2.1 pg2) : Md Γ l θ d M pg2 := ⟨hG.1, h, hG.2.2⟩
def Scr (Γ : Cx) (len : Nat) (xs : Nat → Int32) : Prop := match Γ with
  | (θ, (_, _, _, _, s, _, _, _, _, _), A, _, _) => va_X (θ.1 910) len xs s s.heap ∧ θ.1 910 < s.heap.size ∧ ¬ A (θ.1 910)
section
variable {Γ : Cx} {l : Launch} {θ : Th} {d : Nat} {M : MI} {pg : List Rw} {pc p1 len : Nat} {L L1 : Lc} {st r : List AV} {σ σ1 : Sg} {xs : Nat → Int32}
theorem Md.scr (hG : Md Γ l θ d M pg) (hc : Scr Γ len xs) (hlen : len ≤ 3072) (k : Nat) {j : Int32} (hL : L.length = M.2.2.1) (hr : run pg 99 pc L st σ = (p1, L1, .inl j :: .inr 910 :: r, σ1)) (hd : decode M.2.1 p1 = .ok (.iaload, 1)) (hj : j = nI k) (hk : k < len) (kk : X Γ (p1 + 1) L1 (.inl (xs k) :: r) σ1) : X Γ pc L st σ := by
  refine hG.go 99 hL hr ?_
  obtain ⟨θ', ⟨p, l', e, R, s, m, args, below, meth, c⟩, A, ⟨kc, ks⟩, Q⟩ := Γ
  obtain ⟨⟨hx, hb, hml, hown, hts, hE, hI, hA⟩, hp, q1, q2, hf1, hf2, hf3, hf4⟩ := hG
  obtain ⟨c1, c2, c3⟩ := hc
  subst q1; subst q2; subst hj
  intro H locs ls hP hS hl
  refine va_sld hx hb c1 c2 c3 hS (vp_in_nI hk (by omega)) hd ?_
  rw [nI_clamp (by omega)]
  exact kk H locs ls hP hS hl
theorem Md.scl (hG : Md Γ l θ d M pg) (hc : Scr Γ len xs) (hL : L.length = M.2.2.1) (hr : run pg 99 pc L st σ = (p1, L1, .inr 910 :: r, σ1)) (hd : decode M.2.1 p1 = .ok (.arraylength, 1)) (kk : X Γ (p1 + 1) L1 (.inl (nI len) :: r) σ1) : X Γ pc L st σ := by
  refine hG.go 99 hL hr ?_
  obtain ⟨θ', ⟨p, l', e, R, s, m, args, below, meth, c⟩, A, ⟨kc, ks⟩, Q⟩ := Γ
  obtain ⟨⟨hx, hb, hml, hown, hts, hE, hI, hA⟩, hp, q1, q2, hf1, hf2, hf3, hf4⟩ := hG
  obtain ⟨c1, c2, c3⟩ := hc
  subst q1; subst q2
  intro H locs ls hP hS hl
  exact va_slen hx hb c1 c2 c3 hS hd (kk H locs ls hP hS hl)
theorem law_c0 (hG : Md Γ l θ 120 m_Law pg) (hc : Scr Γ len xs) (hlen : len ≤ 3072) {i : Nat} (hi : i + 6 ≤ len) (hC : Cor σ) (next : ∀ σ', Cor σ' → X Γ 1466 [some (.inr 910), some (.inr 0), some (.inr 95), some (.inl (nI i))] [] σ') : X Γ 224 [some (.inr 910), some (.inr 0), some (.inr 95), some (.inl (nI i))] [] σ := by
  have hG := hG.pg pk_Law0
  obtain ⟨d1, post1, hd1, hC1, h2⟩ := pr_person (l := l) (θ := θ) (xs (i + 1)) (xs (i + 2)) (xs (i + 3)) σ hC
  refine hG.scr hc hlen (i + 1) rfl rfl (by decide +kernel) (nI_add i 1) (by omega) ?_
  refine hG.scr hc hlen (i + 2) rfl rfl (by decide +kernel) (nI_add i 2) (by omega) ?_
  refine hG.scr hc hlen (i + 3) rfl rfl (by decide +kernel) (nI_add i 3) (by omega) ?_
  refine hG.cV lk_Law_13 mi_W_person rfl rfl hC1 rfl rfl (Nat.ble_eq_true_of_le (by omega)) rfl rfl rfl rfl rfl ?_
  intro r1 σ1 hp1
  obtain ⟨d2, post2, hd2, hC2, h3⟩ := h2 r1 σ1 hp1
  refine hG.scr hc hlen (i + 1) rfl rfl (by decide +kernel) (nI_add i 1) (by omega) ?_
  refine hG.scr hc hlen (i + 2) rfl rfl (by decide +kernel) (nI_add i 2) (by omega) ?_
  refine hG.scr hc hlen (i + 3) rfl rfl (by decide +kernel) (nI_add i 3) (by omega) ?_
  refine hG.cV lk_Law_17 mi_M_person rfl rfl hC2 rfl rfl (Nat.ble_eq_true_of_le (by omega)) rfl rfl rfl rfl rfl ?_
  intro r2 σ2 hp2
  obtain ⟨e, hC3⟩ := h3 r2 σ2 hp2
  refine hG.br rfl rfl rfl rfl (fun _ => next σ2 hC3) (fun q => absurd e q)
theorem law_c1 (hG : Md Γ l θ 120 m_Law pg) (hc : Scr Γ len xs) (hlen : len ≤ 3072) {i : Nat} (hi : i + 6 ≤ len) (hC : Cor σ) (next : ∀ σ', Cor σ' → X Γ 1466 [some (.inr 910), some (.inr 0), some (.inr 95), some (.inl (nI i))] [] σ') : X Γ 267 [some (.inr 910), some (.inr 0), some (.inr 95), some (.inl (nI i))] [] σ := by
  have hG := hG.pg pk_Law1
  obtain ⟨d1, post1, hd1, hC1, h2⟩ := pr_told (l := l) (θ := θ) (xs (i + 1)) (xs (i + 2)) σ hC
  refine hG.scr hc hlen (i + 1) rfl rfl (by decide +kernel) (nI_add i 1) (by omega) ?_
  refine hG.scr hc hlen (i + 2) rfl rfl (by decide +kernel) (nI_add i 2) (by omega) ?_
  refine hG.cV lk_Law_18 mi_W_told rfl rfl hC1 rfl rfl (Nat.ble_eq_true_of_le (by omega)) rfl rfl rfl rfl rfl ?_
  intro r1 σ1 hp1
  obtain ⟨d2, post2, hd2, hC2, h3⟩ := h2 r1 σ1 hp1
  refine hG.scr hc hlen (i + 1) rfl rfl (by decide +kernel) (nI_add i 1) (by omega) ?_
  refine hG.scr hc hlen (i + 2) rfl rfl (by decide +kernel) (nI_add i 2) (by omega) ?_
  refine hG.cV lk_Law_22 mi_M_told rfl rfl hC2 rfl rfl (Nat.ble_eq_true_of_le (by omega)) rfl rfl rfl rfl rfl ?_
  intro r2 σ2 hp2
  obtain ⟨e, hC3⟩ := h3 r2 σ2 hp2
  refine hG.br rfl rfl rfl rfl (fun _ => next σ2 hC3) (fun q => absurd e q)
theorem law_c2 (hG : Md Γ l θ 120 m_Law pg) (hc : Scr Γ len xs) (hlen : len ≤ 3072) {i : Nat} (hi : i + 6 ≤ len) (hC : Cor σ) (next : ∀ σ', Cor σ' → X Γ 1466 [some (.inr 910), some (.inr 0), some (.inr 95), some (.inl (nI i))] [] σ') : X Γ 300 [some (.inr 910), some (.inr 0), some (.inr 95), some (.inl (nI i))] [] σ := by
  have hG := hG.pg pk_Law2
  obtain ⟨d1, post1, hd1, hC1, h2⟩ := pr_as (l := l) (θ := θ) (xs (i + 1)) (xs (i + 2)) σ hC
  refine hG.scr hc hlen (i + 1) rfl rfl (by decide +kernel) (nI_add i 1) (by omega) ?_
  refine hG.scr hc hlen (i + 2) rfl rfl (by decide +kernel) (nI_add i 2) (by omega) ?_
  refine hG.cV lk_Law_23 mi_W_as rfl rfl hC1 rfl rfl (Nat.ble_eq_true_of_le (by omega)) rfl rfl rfl rfl rfl ?_
  intro r1 σ1 hp1
  obtain ⟨d2, post2, hd2, hC2, h3⟩ := h2 r1 σ1 hp1
  refine hG.scr hc hlen (i + 1) rfl rfl (by decide +kernel) (nI_add i 1) (by omega) ?_
  refine hG.scr hc hlen (i + 2) rfl rfl (by decide +kernel) (nI_add i 2) (by omega) ?_
  refine hG.cV lk_Law_26 mi_M_as rfl rfl hC2 rfl rfl (Nat.ble_eq_true_of_le (by omega)) rfl rfl rfl rfl rfl ?_
  intro r2 σ2 hp2
  obtain ⟨e, hC3⟩ := h3 r2 σ2 hp2
  refine hG.br rfl rfl rfl rfl (fun _ => next σ2 hC3) (fun q => absurd e q)
theorem law_c3 (hG : Md Γ l θ 120 m_Law pg) (hc : Scr Γ len xs) (hlen : len ≤ 3072) {i : Nat} (hi : i + 6 ≤ len) (hC : Cor σ) (next : ∀ σ', Cor σ' → X Γ 1466 [some (.inr 910), some (.inr 0), some (.inr 95), some (.inl (nI i))] [] σ') : X Γ 333 [some (.inr 910), some (.inr 0), some (.inr 95), some (.inl (nI i))] [] σ := by
  have hG := hG.pg pk_Law3
  obtain ⟨d1, post1, hd1, hC1, h2⟩ := pr_turns (l := l) (θ := θ) (xs (i + 1)) (xs (i + 2)) σ hC
  refine hG.scr hc hlen (i + 1) rfl rfl (by decide +kernel) (nI_add i 1) (by omega) ?_
  refine hG.scr hc hlen (i + 2) rfl rfl (by decide +kernel) (nI_add i 2) (by omega) ?_
  refine hG.cV lk_Law_27 mi_W_turns rfl rfl hC1 rfl rfl (Nat.ble_eq_true_of_le (by omega)) rfl rfl rfl rfl rfl ?_
  intro r1 σ1 hp1
  obtain ⟨d2, post2, hd2, hC2, h3⟩ := h2 r1 σ1 hp1
  refine hG.scr hc hlen (i + 1) rfl rfl (by decide +kernel) (nI_add i 1) (by omega) ?_
  refine hG.scr hc hlen (i + 2) rfl rfl (by decide +kernel) (nI_add i 2) (by omega) ?_
  refine hG.cV lk_Law_30 mi_M_turns rfl rfl hC2 rfl rfl (Nat.ble_eq_true_of_le (by omega)) rfl rfl rfl rfl rfl ?_
  intro r2 σ2 hp2
  obtain ⟨e, hC3⟩ := h3 r2 σ2 hp2
  refine hG.br rfl rfl rfl rfl (fun _ => next σ2 hC3) (fun q => absurd e q)
theorem law_c4 (hG : Md Γ l θ 120 m_Law pg) (hc : Scr Γ len xs) (hlen : len ≤ 3072) {i : Nat} (hi : i + 6 ≤ len) (hC : Cor σ) (next : ∀ σ', Cor σ' → X Γ 1466 [some (.inr 910), some (.inr 0), some (.inr 95), some (.inl (nI i))] [] σ') : X Γ 366 [some (.inr 910), some (.inr 0), some (.inr 95), some (.inl (nI i))] [] σ := by
  have hG := hG.pg pk_Law4
  obtain ⟨d1, post1, hd1, hC1, h2⟩ := pr_set (l := l) (θ := θ) (xs (i + 1)) (xs (i + 2)) (xs (i + 3)) σ hC
  refine hG.scr hc hlen (i + 1) rfl rfl (by decide +kernel) (nI_add i 1) (by omega) ?_
  refine hG.scr hc hlen (i + 2) rfl rfl (by decide +kernel) (nI_add i 2) (by omega) ?_
  refine hG.scr hc hlen (i + 3) rfl rfl (by decide +kernel) (nI_add i 3) (by omega) ?_
  refine hG.cV lk_Law_31 mi_W_set rfl rfl hC1 rfl rfl (Nat.ble_eq_true_of_le (by omega)) rfl rfl rfl rfl rfl ?_
  intro r1 σ1 hp1
  obtain ⟨d2, post2, hd2, hC2, h3⟩ := h2 r1 σ1 hp1
  refine hG.scr hc hlen (i + 1) rfl rfl (by decide +kernel) (nI_add i 1) (by omega) ?_
  refine hG.scr hc hlen (i + 2) rfl rfl (by decide +kernel) (nI_add i 2) (by omega) ?_
  refine hG.scr hc hlen (i + 3) rfl rfl (by decide +kernel) (nI_add i 3) (by omega) ?_
  refine hG.cV lk_Law_34 mi_M_set rfl rfl hC2 rfl rfl (Nat.ble_eq_true_of_le (by omega)) rfl rfl rfl rfl rfl ?_
  intro r2 σ2 hp2
  obtain ⟨e, hC3⟩ := h3 r2 σ2 hp2
  refine hG.br rfl rfl rfl rfl (fun _ => next σ2 hC3) (fun q => absurd e q)
theorem law_c5 (hG : Md Γ l θ 120 m_Law pg) (hc : Scr Γ len xs) (hlen : len ≤ 3072) {i : Nat} (hi : i + 6 ≤ len) (hC : Cor σ) (next : ∀ σ', Cor σ' → X Γ 1466 [some (.inr 910), some (.inr 0), some (.inr 95), some (.inl (nI i))] [] σ') : X Γ 409 [some (.inr 910), some (.inr 0), some (.inr 95), some (.inl (nI i))] [] σ := by
  have hG := hG.pg pk_Law5
  obtain ⟨d1, post1, hd1, hC1, h2⟩ := pr_holds (l := l) (θ := θ) (xs (i + 1)) (xs (i + 2)) σ hC
  refine hG.scr hc hlen (i + 1) rfl rfl (by decide +kernel) (nI_add i 1) (by omega) ?_
  refine hG.scr hc hlen (i + 2) rfl rfl (by decide +kernel) (nI_add i 2) (by omega) ?_
  refine hG.cV lk_Law_35 mi_W_holds rfl rfl hC1 rfl rfl (Nat.ble_eq_true_of_le (by omega)) rfl rfl rfl rfl rfl ?_
  intro r1 σ1 hp1
  obtain ⟨d2, post2, hd2, hC2, h3⟩ := h2 r1 σ1 hp1
  refine hG.scr hc hlen (i + 1) rfl rfl (by decide +kernel) (nI_add i 1) (by omega) ?_
  refine hG.scr hc hlen (i + 2) rfl rfl (by decide +kernel) (nI_add i 2) (by omega) ?_
  refine hG.cV lk_Law_38 mi_M_holds rfl rfl hC2 rfl rfl (Nat.ble_eq_true_of_le (by omega)) rfl rfl rfl rfl rfl ?_
  intro r2 σ2 hp2
  obtain ⟨e, hC3⟩ := h3 r2 σ2 hp2
  refine hG.br rfl rfl rfl rfl (fun _ => next σ2 hC3) (fun q => absurd e q)
theorem law_c6 (hG : Md Γ l θ 120 m_Law pg) (hc : Scr Γ len xs) (hlen : len ≤ 3072) {i : Nat} (hi : i + 6 ≤ len) (hC : Cor σ) (next : ∀ σ', Cor σ' → X Γ 1466 [some (.inr 910), some (.inr 0), some (.inr 95), some (.inl (nI i))] [] σ') : X Γ 442 [some (.inr 910), some (.inr 0), some (.inr 95), some (.inl (nI i))] [] σ := by
  have hG := hG.pg pk_Law6
  obtain ⟨d1, post1, hd1, hC1, h2⟩ := pr_apart (l := l) (θ := θ) (xs (i + 1)) (xs (i + 2)) σ hC
  refine hG.scr hc hlen (i + 1) rfl rfl (by decide +kernel) (nI_add i 1) (by omega) ?_
  refine hG.scr hc hlen (i + 2) rfl rfl (by decide +kernel) (nI_add i 2) (by omega) ?_
  refine hG.cV lk_Law_39 mi_W_apart rfl rfl hC1 rfl rfl (Nat.ble_eq_true_of_le (by omega)) rfl rfl rfl rfl rfl ?_
  intro r1 σ1 hp1
  obtain ⟨d2, post2, hd2, hC2, h3⟩ := h2 r1 σ1 hp1
  refine hG.scr hc hlen (i + 1) rfl rfl (by decide +kernel) (nI_add i 1) (by omega) ?_
  refine hG.scr hc hlen (i + 2) rfl rfl (by decide +kernel) (nI_add i 2) (by omega) ?_
  refine hG.cV lk_Law_42 mi_M_apart rfl rfl hC2 rfl rfl (Nat.ble_eq_true_of_le (by omega)) rfl rfl rfl rfl rfl ?_
  intro r2 σ2 hp2
  obtain ⟨e, hC3⟩ := h3 r2 σ2 hp2
  refine hG.br rfl rfl rfl rfl (fun _ => next σ2 hC3) (fun q => absurd e q)
theorem law_c7 (hG : Md Γ l θ 120 m_Law pg) (hc : Scr Γ len xs) (hlen : len ≤ 3072) {i : Nat} (hi : i + 6 ≤ len) (hC : Cor σ) (next : ∀ σ', Cor σ' → X Γ 1466 [some (.inr 910), some (.inr 0), some (.inr 95), some (.inl (nI i))] [] σ') : X Γ 475 [some (.inr 910), some (.inr 0), some (.inr 95), some (.inl (nI i))] [] σ := by
  have hG := hG.pg pk_Law7
  obtain ⟨d1, post1, hd1, hC1, h2⟩ := pr_near (l := l) (θ := θ) (xs (i + 1)) (xs (i + 2)) σ hC
  refine hG.scr hc hlen (i + 1) rfl rfl (by decide +kernel) (nI_add i 1) (by omega) ?_
  refine hG.scr hc hlen (i + 2) rfl rfl (by decide +kernel) (nI_add i 2) (by omega) ?_
  refine hG.cV lk_Law_43 mi_W_near rfl rfl hC1 rfl rfl (Nat.ble_eq_true_of_le (by omega)) rfl rfl rfl rfl rfl ?_
  intro r1 σ1 hp1
  obtain ⟨d2, post2, hd2, hC2, h3⟩ := h2 r1 σ1 hp1
  refine hG.scr hc hlen (i + 1) rfl rfl (by decide +kernel) (nI_add i 1) (by omega) ?_
  refine hG.scr hc hlen (i + 2) rfl rfl (by decide +kernel) (nI_add i 2) (by omega) ?_
  refine hG.cV lk_Law_46 mi_M_near rfl rfl hC2 rfl rfl (Nat.ble_eq_true_of_le (by omega)) rfl rfl rfl rfl rfl ?_
  intro r2 σ2 hp2
  obtain ⟨e, hC3⟩ := h3 r2 σ2 hp2
  refine hG.br rfl rfl rfl rfl (fun _ => next σ2 hC3) (fun q => absurd e q)
theorem law_c8 (hG : Md Γ l θ 120 m_Law pg) (hc : Scr Γ len xs) (hlen : len ≤ 3072) {i : Nat} (hi : i + 6 ≤ len) (hC : Cor σ) (next : ∀ σ', Cor σ' → X Γ 1466 [some (.inr 910), some (.inr 0), some (.inr 95), some (.inl (nI i))] [] σ') : X Γ 508 [some (.inr 910), some (.inr 0), some (.inr 95), some (.inl (nI i))] [] σ := by
  have hG := hG.pg pk_Law8
  obtain ⟨d1, post1, hd1, hC1, h2⟩ := pr_lifetime (l := l) (θ := θ) (xs (i + 1)) σ hC
  refine hG.scr hc hlen (i + 1) rfl rfl (by decide +kernel) (nI_add i 1) (by omega) ?_
  refine hG.cV lk_Law_47 mi_W_lifetime rfl rfl hC1 rfl rfl (Nat.ble_eq_true_of_le (by omega)) rfl rfl rfl rfl rfl ?_
  intro r1 σ1 hp1
  obtain ⟨d2, post2, hd2, hC2, h3⟩ := h2 r1 σ1 hp1
  refine hG.scr hc hlen (i + 1) rfl rfl (by decide +kernel) (nI_add i 1) (by omega) ?_
  refine hG.cV lk_Law_51 mi_M_lifetime rfl rfl hC2 rfl rfl (Nat.ble_eq_true_of_le (by omega)) rfl rfl rfl rfl rfl ?_
  intro r2 σ2 hp2
  obtain ⟨e, hC3⟩ := h3 r2 σ2 hp2
  refine hG.br rfl rfl rfl rfl (fun _ => next σ2 hC3) (fun q => absurd e q)
theorem law_c9 (hG : Md Γ l θ 120 m_Law pg) (hc : Scr Γ len xs) (hlen : len ≤ 3072) {i : Nat} (hi : i + 6 ≤ len) (hC : Cor σ) (next : ∀ σ', Cor σ' → X Γ 1466 [some (.inr 910), some (.inr 0), some (.inr 95), some (.inl (nI i))] [] σ') : X Γ 531 [some (.inr 910), some (.inr 0), some (.inr 95), some (.inl (nI i))] [] σ := by
  have hG := hG.pg pk_Law9
  obtain ⟨d1, post1, hd1, hC1, h2⟩ := pr_deal (l := l) (θ := θ) (xs (i + 1)) σ hC
  refine hG.scr hc hlen (i + 1) rfl rfl (by decide +kernel) (nI_add i 1) (by omega) ?_
  refine hG.cV lk_Law_52 mi_W_deal rfl rfl hC1 rfl rfl (Nat.ble_eq_true_of_le (by omega)) rfl rfl rfl rfl rfl ?_
  intro r1 σ1 hp1
  obtain ⟨d2, post2, hd2, hC2, h3⟩ := h2 r1 σ1 hp1
  refine hG.scr hc hlen (i + 1) rfl rfl (by decide +kernel) (nI_add i 1) (by omega) ?_
  refine hG.cV lk_Law_55 mi_M_deal rfl rfl hC2 rfl rfl (Nat.ble_eq_true_of_le (by omega)) rfl rfl rfl rfl rfl ?_
  intro r2 σ2 hp2
  obtain ⟨e, hC3⟩ := h3 r2 σ2 hp2
  refine hG.br rfl rfl rfl rfl (fun _ => next σ2 hC3) (fun q => absurd e q)
theorem law_c10 (hG : Md Γ l θ 120 m_Law pg) (hc : Scr Γ len xs) (hlen : len ≤ 3072) {i : Nat} (hi : i + 6 ≤ len) (hC : Cor σ) (next : ∀ σ', Cor σ' → X Γ 1466 [some (.inr 910), some (.inr 0), some (.inr 95), some (.inl (nI i))] [] σ') : X Γ 554 [some (.inr 910), some (.inr 0), some (.inr 95), some (.inl (nI i))] [] σ := by
  have hG := hG.pg pk_Law10
  obtain ⟨d1, post1, hd1, hC1, h2⟩ := pr_seed (l := l) (θ := θ) (xs (i + 1)) σ hC
  refine hG.scr hc hlen (i + 1) rfl rfl (by decide +kernel) (nI_add i 1) (by omega) ?_
  refine hG.cV lk_Law_56 mi_W_seed rfl rfl hC1 rfl rfl (Nat.ble_eq_true_of_le (by omega)) rfl rfl rfl rfl rfl ?_
  intro r1 σ1 hp1
  obtain ⟨d2, post2, hd2, hC2, h3⟩ := h2 r1 σ1 hp1
  refine hG.scr hc hlen (i + 1) rfl rfl (by decide +kernel) (nI_add i 1) (by omega) ?_
  refine hG.cV lk_Law_59 mi_M_seed rfl rfl hC2 rfl rfl (Nat.ble_eq_true_of_le (by omega)) rfl rfl rfl rfl rfl ?_
  intro r2 σ2 hp2
  obtain ⟨e, hC3⟩ := h3 r2 σ2 hp2
  refine hG.br rfl rfl rfl rfl (fun _ => next σ2 hC3) (fun q => absurd e q)
theorem law_c11 (hG : Md Γ l θ 120 m_Law pg) (hc : Scr Γ len xs) (hlen : len ≤ 3072) {i : Nat} (hi : i + 6 ≤ len) (hC : Cor σ) (next : ∀ σ', Cor σ' → X Γ 1466 [some (.inr 910), some (.inr 0), some (.inr 95), some (.inl (nI i))] [] σ') : X Γ 577 [some (.inr 910), some (.inr 0), some (.inr 95), some (.inl (nI i))] [] σ := by
  have hG := hG.pg pk_Law11
  obtain ⟨d1, post1, hd1, hC1, h2⟩ := pr_free (l := l) (θ := θ) (xs (i + 1)) (xs (i + 2)) σ hC
  refine hG.scr hc hlen (i + 1) rfl rfl (by decide +kernel) (nI_add i 1) (by omega) ?_
  refine hG.scr hc hlen (i + 2) rfl rfl (by decide +kernel) (nI_add i 2) (by omega) ?_
  refine hG.cV lk_Law_60 mi_W_free rfl rfl hC1 rfl rfl (Nat.ble_eq_true_of_le (by omega)) rfl rfl rfl rfl rfl ?_
  intro r1 σ1 hp1
  obtain ⟨d2, post2, hd2, hC2, h3⟩ := h2 r1 σ1 hp1
  refine hG.scr hc hlen (i + 1) rfl rfl (by decide +kernel) (nI_add i 1) (by omega) ?_
  refine hG.scr hc hlen (i + 2) rfl rfl (by decide +kernel) (nI_add i 2) (by omega) ?_
  refine hG.cV lk_Law_63 mi_M_free rfl rfl hC2 rfl rfl (Nat.ble_eq_true_of_le (by omega)) rfl rfl rfl rfl rfl ?_
  intro r2 σ2 hp2
  obtain ⟨e, hC3⟩ := h3 r2 σ2 hp2
  refine hG.br rfl rfl rfl rfl (fun _ => next σ2 hC3) (fun q => absurd e q)
theorem law_c12 (hG : Md Γ l θ 120 m_Law pg) (hc : Scr Γ len xs) (hlen : len ≤ 3072) {i : Nat} (hi : i + 6 ≤ len) (hC : Cor σ) (next : ∀ σ', Cor σ' → X Γ 1466 [some (.inr 910), some (.inr 0), some (.inr 95), some (.inl (nI i))] [] σ') : X Γ 610 [some (.inr 910), some (.inr 0), some (.inr 95), some (.inl (nI i))] [] σ := by
  have hG := hG.pg pk_Law12
  obtain ⟨d1, post1, hd1, hC1, h2⟩ := pr_frees (l := l) (θ := θ) (xs (i + 1)) σ hC
  refine hG.scr hc hlen (i + 1) rfl rfl (by decide +kernel) (nI_add i 1) (by omega) ?_
  refine hG.cV lk_Law_64 mi_W_frees rfl rfl hC1 rfl rfl (Nat.ble_eq_true_of_le (by omega)) rfl rfl rfl rfl rfl ?_
  intro r1 σ1 hp1
  obtain ⟨d2, post2, hd2, hC2, h3⟩ := h2 r1 σ1 hp1
  refine hG.scr hc hlen (i + 1) rfl rfl (by decide +kernel) (nI_add i 1) (by omega) ?_
  refine hG.cV lk_Law_67 mi_M_frees rfl rfl hC2 rfl rfl (Nat.ble_eq_true_of_le (by omega)) rfl rfl rfl rfl rfl ?_
  intro r2 σ2 hp2
  obtain ⟨e, hC3⟩ := h3 r2 σ2 hp2
  refine hG.br rfl rfl rfl rfl (fun _ => next σ2 hC3) (fun q => absurd e q)
theorem law_c13 (hG : Md Γ l θ 120 m_Law pg) (hc : Scr Γ len xs) (hlen : len ≤ 3072) {i : Nat} (hi : i + 6 ≤ len) (hC : Cor σ) (next : ∀ σ', Cor σ' → X Γ 1466 [some (.inr 910), some (.inr 0), some (.inr 95), some (.inl (nI i))] [] σ') : X Γ 633 [some (.inr 910), some (.inr 0), some (.inr 95), some (.inl (nI i))] [] σ := by
  have hG := hG.pg pk_Law13
  obtain ⟨d1, post1, hd1, hC1, h2⟩ := pr_soonest (l := l) (θ := θ) (xs (i + 1)) σ hC
  refine hG.scr hc hlen (i + 1) rfl rfl (by decide +kernel) (nI_add i 1) (by omega) ?_
  refine hG.cV lk_Law_68 mi_W_soonest rfl rfl hC1 rfl rfl (Nat.ble_eq_true_of_le (by omega)) rfl rfl rfl rfl rfl ?_
  intro r1 σ1 hp1
  obtain ⟨d2, post2, hd2, hC2, h3⟩ := h2 r1 σ1 hp1
  refine hG.scr hc hlen (i + 1) rfl rfl (by decide +kernel) (nI_add i 1) (by omega) ?_
  refine hG.cV lk_Law_71 mi_M_soonest rfl rfl hC2 rfl rfl (Nat.ble_eq_true_of_le (by omega)) rfl rfl rfl rfl rfl ?_
  intro r2 σ2 hp2
  obtain ⟨e, hC3⟩ := h3 r2 σ2 hp2
  refine hG.br rfl rfl rfl rfl (fun _ => next σ2 hC3) (fun q => absurd e q)
theorem law_c14 (hG : Md Γ l θ 120 m_Law pg) (hc : Scr Γ len xs) (hlen : len ≤ 3072) {i : Nat} (hi : i + 6 ≤ len) (hC : Cor σ) (next : ∀ σ', Cor σ' → X Γ 1466 [some (.inr 910), some (.inr 0), some (.inr 95), some (.inl (nI i))] [] σ') : X Γ 656 [some (.inr 910), some (.inr 0), some (.inr 95), some (.inl (nI i))] [] σ := by
  have hG := hG.pg pk_Law14
  obtain ⟨d1, post1, hd1, hC1, h2⟩ := pr_child (l := l) (θ := θ) (xs (i + 1)) (xs (i + 2)) σ hC
  refine hG.scr hc hlen (i + 1) rfl rfl (by decide +kernel) (nI_add i 1) (by omega) ?_
  refine hG.scr hc hlen (i + 2) rfl rfl (by decide +kernel) (nI_add i 2) (by omega) ?_
  refine hG.cV lk_Law_72 mi_W_child rfl rfl hC1 rfl rfl (Nat.ble_eq_true_of_le (by omega)) rfl rfl rfl rfl rfl ?_
  intro r1 σ1 hp1
  obtain ⟨d2, post2, hd2, hC2, h3⟩ := h2 r1 σ1 hp1
  refine hG.scr hc hlen (i + 1) rfl rfl (by decide +kernel) (nI_add i 1) (by omega) ?_
  refine hG.scr hc hlen (i + 2) rfl rfl (by decide +kernel) (nI_add i 2) (by omega) ?_
  refine hG.cV lk_Law_75 mi_M_child rfl rfl hC2 rfl rfl (Nat.ble_eq_true_of_le (by omega)) rfl rfl rfl rfl rfl ?_
  intro r2 σ2 hp2
  obtain ⟨e, hC3⟩ := h3 r2 σ2 hp2
  refine hG.br rfl rfl rfl rfl (fun _ => next σ2 hC3) (fun q => absurd e q)
theorem law_c15 (hG : Md Γ l θ 120 m_Law pg) (hc : Scr Γ len xs) (hlen : len ≤ 3072) {i : Nat} (hi : i + 6 ≤ len) (hC : Cor σ) (next : ∀ σ', Cor σ' → X Γ 1466 [some (.inr 910), some (.inr 0), some (.inr 95), some (.inl (nI i))] [] σ') : X Γ 689 [some (.inr 910), some (.inr 0), some (.inr 95), some (.inl (nI i))] [] σ := by
  have hG := hG.pg pk_Law15
  obtain ⟨d1, post1, hd1, hC1, h2⟩ := pr_forget (l := l) (θ := θ)  σ hC
  refine hG.cV lk_Law_76 mi_W_forget rfl rfl hC1 rfl rfl (Nat.ble_eq_true_of_le (by omega)) rfl rfl rfl rfl rfl ?_
  intro r1 σ1 hp1
  obtain ⟨d2, post2, hd2, hC2, h3⟩ := h2 r1 σ1 hp1
  refine hG.cV lk_Law_80 mi_M_forget rfl rfl hC2 rfl rfl (Nat.ble_eq_true_of_le (by omega)) rfl rfl rfl rfl rfl ?_
  intro r2 σ2 hp2
  obtain ⟨e, hC3⟩ := h3 r2 σ2 hp2
  refine hG.br rfl rfl rfl rfl (fun _ => next σ2 hC3) (fun q => absurd e q)
theorem law_c16 (hG : Md Γ l θ 120 m_Law pg) (hc : Scr Γ len xs) (hlen : len ≤ 3072) {i : Nat} (hi : i + 6 ≤ len) (hC : Cor σ) (next : ∀ σ', Cor σ' → X Γ 1466 [some (.inr 910), some (.inr 0), some (.inr 95), some (.inl (nI i))] [] σ') : X Γ 702 [some (.inr 910), some (.inr 0), some (.inr 95), some (.inl (nI i))] [] σ := by
  have hG := hG.pg pk_Law16
  obtain ⟨d1, post1, hd1, hC1, h2⟩ := pr_dealing (l := l) (θ := θ) (xs (i + 1)) σ hC
  refine hG.scr hc hlen (i + 1) rfl rfl (by decide +kernel) (nI_add i 1) (by omega) ?_
  refine hG.cV lk_Law_81 mi_W_dealing rfl rfl hC1 rfl rfl (Nat.ble_eq_true_of_le (by omega)) rfl rfl rfl rfl rfl ?_
  intro r1 σ1 hp1
  obtain ⟨d2, post2, hd2, hC2, h3⟩ := h2 r1 σ1 hp1
  refine hG.scr hc hlen (i + 1) rfl rfl (by decide +kernel) (nI_add i 1) (by omega) ?_
  refine hG.cV lk_Law_84 mi_M_dealing rfl rfl hC2 rfl rfl (Nat.ble_eq_true_of_le (by omega)) rfl rfl rfl rfl rfl ?_
  intro r2 σ2 hp2
  obtain ⟨e, hC3⟩ := h3 r2 σ2 hp2
  refine hG.br rfl rfl rfl rfl (fun _ => next σ2 hC3) (fun q => absurd e q)
theorem law_c17 (hG : Md Γ l θ 120 m_Law pg) (hc : Scr Γ len xs) (hlen : len ≤ 3072) {i : Nat} (hi : i + 6 ≤ len) (hC : Cor σ) (next : ∀ σ', Cor σ' → X Γ 1466 [some (.inr 910), some (.inr 0), some (.inr 95), some (.inl (nI i))] [] σ') : X Γ 725 [some (.inr 910), some (.inr 0), some (.inr 95), some (.inl (nI i))] [] σ := by
  have hG := hG.pg pk_Law17
  obtain ⟨d1, post1, hd1, hC1, h2⟩ := pr_christen (l := l) (θ := θ)  σ hC
  refine hG.cV lk_Law_85 mi_W_christen rfl rfl hC1 rfl rfl (Nat.ble_eq_true_of_le (by omega)) rfl rfl rfl rfl rfl ?_
  intro r1 σ1 hp1
  obtain ⟨d2, post2, hd2, hC2, h3⟩ := h2 r1 σ1 hp1
  refine hG.cV lk_Law_88 mi_M_christen rfl rfl hC2 rfl rfl (Nat.ble_eq_true_of_le (by omega)) rfl rfl rfl rfl rfl ?_
  intro r2 σ2 hp2
  obtain ⟨e, hC3⟩ := h3 r2 σ2 hp2
  refine hG.br rfl rfl rfl rfl (fun _ => next σ2 hC3) (fun q => absurd e q)
theorem law_c18 (hG : Md Γ l θ 120 m_Law pg) (hc : Scr Γ len xs) (hlen : len ≤ 3072) {i : Nat} (hi : i + 6 ≤ len) (hC : Cor σ) (next : ∀ σ', Cor σ' → X Γ 1466 [some (.inr 910), some (.inr 0), some (.inr 95), some (.inl (nI i))] [] σ') : X Γ 738 [some (.inr 910), some (.inr 0), some (.inr 95), some (.inl (nI i))] [] σ := by
  have hG := hG.pg pk_Law18
  obtain ⟨d1, post1, hd1, hC1, h2⟩ := pr_yields (l := l) (θ := θ) (xs (i + 1)) σ hC
  refine hG.scr hc hlen (i + 1) rfl rfl (by decide +kernel) (nI_add i 1) (by omega) ?_
  refine hG.cV lk_Law_89 mi_W_yields rfl rfl hC1 rfl rfl (Nat.ble_eq_true_of_le (by omega)) rfl rfl rfl rfl rfl ?_
  intro r1 σ1 hp1
  obtain ⟨d2, post2, hd2, hC2, h3⟩ := h2 r1 σ1 hp1
  refine hG.scr hc hlen (i + 1) rfl rfl (by decide +kernel) (nI_add i 1) (by omega) ?_
  refine hG.cV lk_Law_92 mi_M_yields rfl rfl hC2 rfl rfl (Nat.ble_eq_true_of_le (by omega)) rfl rfl rfl rfl rfl ?_
  intro r2 σ2 hp2
  obtain ⟨e, hC3⟩ := h3 r2 σ2 hp2
  refine hG.br rfl rfl rfl rfl (fun _ => next σ2 hC3) (fun q => absurd e q)
theorem law_c19 (hG : Md Γ l θ 120 m_Law pg) (hc : Scr Γ len xs) (hlen : len ≤ 3072) {i : Nat} (hi : i + 6 ≤ len) (hC : Cor σ) (next : ∀ σ', Cor σ' → X Γ 1466 [some (.inr 910), some (.inr 0), some (.inr 95), some (.inl (nI i))] [] σ') : X Γ 761 [some (.inr 910), some (.inr 0), some (.inr 95), some (.inl (nI i))] [] σ := by
  have hG := hG.pg pk_Law19
  obtain ⟨d1, post1, hd1, hC1, h2⟩ := pr_years (l := l) (θ := θ) (xs (i + 1)) σ hC
  refine hG.scr hc hlen (i + 1) rfl rfl (by decide +kernel) (nI_add i 1) (by omega) ?_
  refine hG.cV lk_Law_93 mi_W_years rfl rfl hC1 rfl rfl (Nat.ble_eq_true_of_le (by omega)) rfl rfl rfl rfl rfl ?_
  intro r1 σ1 hp1
  obtain ⟨d2, post2, hd2, hC2, h3⟩ := h2 r1 σ1 hp1
  refine hG.scr hc hlen (i + 1) rfl rfl (by decide +kernel) (nI_add i 1) (by omega) ?_
  refine hG.cV lk_Law_96 mi_M_years rfl rfl hC2 rfl rfl (Nat.ble_eq_true_of_le (by omega)) rfl rfl rfl rfl rfl ?_
  intro r2 σ2 hp2
  obtain ⟨e, hC3⟩ := h3 r2 σ2 hp2
  refine hG.br rfl rfl rfl rfl (fun _ => next σ2 hC3) (fun q => absurd e q)
theorem law_c20 (hG : Md Γ l θ 120 m_Law pg) (hc : Scr Γ len xs) (hlen : len ≤ 3072) {i : Nat} (hi : i + 6 ≤ len) (hC : Cor σ) (next : ∀ σ', Cor σ' → X Γ 1466 [some (.inr 910), some (.inr 0), some (.inr 95), some (.inl (nI i))] [] σ') : X Γ 784 [some (.inr 910), some (.inr 0), some (.inr 95), some (.inl (nI i))] [] σ := by
  have hG := hG.pg pk_Law20
  obtain ⟨d1, post1, hd1, hC1, h2⟩ := pr_behind (l := l) (θ := θ) (xs (i + 1)) (xs (i + 2)) σ hC
  refine hG.scr hc hlen (i + 1) rfl rfl (by decide +kernel) (nI_add i 1) (by omega) ?_
  refine hG.scr hc hlen (i + 2) rfl rfl (by decide +kernel) (nI_add i 2) (by omega) ?_
  refine hG.cV lk_Law_97 mi_W_behind rfl rfl hC1 rfl rfl (Nat.ble_eq_true_of_le (by omega)) rfl rfl rfl rfl rfl ?_
  intro r1 σ1 hp1
  obtain ⟨d2, post2, hd2, hC2, h3⟩ := h2 r1 σ1 hp1
  refine hG.scr hc hlen (i + 1) rfl rfl (by decide +kernel) (nI_add i 1) (by omega) ?_
  refine hG.scr hc hlen (i + 2) rfl rfl (by decide +kernel) (nI_add i 2) (by omega) ?_
  refine hG.cV lk_Law_100 mi_M_behind rfl rfl hC2 rfl rfl (Nat.ble_eq_true_of_le (by omega)) rfl rfl rfl rfl rfl ?_
  intro r2 σ2 hp2
  obtain ⟨e, hC3⟩ := h3 r2 σ2 hp2
  refine hG.br rfl rfl rfl rfl (fun _ => next σ2 hC3) (fun q => absurd e q)
theorem law_c21 (hG : Md Γ l θ 120 m_Law pg) (hc : Scr Γ len xs) (hlen : len ≤ 3072) {i : Nat} (hi : i + 6 ≤ len) (hC : Cor σ) (next : ∀ σ', Cor σ' → X Γ 1466 [some (.inr 910), some (.inr 0), some (.inr 95), some (.inl (nI i))] [] σ') : X Γ 817 [some (.inr 910), some (.inr 0), some (.inr 95), some (.inl (nI i))] [] σ := by
  have hG := hG.pg pk_Law21
  obtain ⟨d1, post1, hd1, hC1, h2⟩ := pr_ends (l := l) (θ := θ)  σ hC
  refine hG.cV lk_Law_101 mi_W_ends rfl rfl hC1 rfl rfl (Nat.ble_eq_true_of_le (by omega)) rfl rfl rfl rfl rfl ?_
  intro r1 σ1 hp1
  obtain ⟨d2, post2, hd2, hC2, h3⟩ := h2 r1 σ1 hp1
  refine hG.cV lk_Law_104 mi_M_ends rfl rfl hC2 rfl rfl (Nat.ble_eq_true_of_le (by omega)) rfl rfl rfl rfl rfl ?_
  intro r2 σ2 hp2
  obtain ⟨e, hC3⟩ := h3 r2 σ2 hp2
  refine hG.br rfl rfl rfl rfl (fun _ => next σ2 hC3) (fun q => absurd e q)
theorem law_c22 (hG : Md Γ l θ 120 m_Law pg) (hc : Scr Γ len xs) (hlen : len ≤ 3072) {i : Nat} (hi : i + 6 ≤ len) (hC : Cor σ) (next : ∀ σ', Cor σ' → X Γ 1466 [some (.inr 910), some (.inr 0), some (.inr 95), some (.inl (nI i))] [] σ') : X Γ 830 [some (.inr 910), some (.inr 0), some (.inr 95), some (.inl (nI i))] [] σ := by
  have hG := hG.pg pk_Law22
  obtain ⟨d1, post1, hd1, hC1, h2⟩ := pr_stays (l := l) (θ := θ) (xs (i + 1)) (xs (i + 2)) σ hC
  refine hG.scr hc hlen (i + 1) rfl rfl (by decide +kernel) (nI_add i 1) (by omega) ?_
  refine hG.scr hc hlen (i + 2) rfl rfl (by decide +kernel) (nI_add i 2) (by omega) ?_
  refine hG.cV lk_Law_105 mi_W_stays rfl rfl hC1 rfl rfl (Nat.ble_eq_true_of_le (by omega)) rfl rfl rfl rfl rfl ?_
  intro r1 σ1 hp1
  obtain ⟨d2, post2, hd2, hC2, h3⟩ := h2 r1 σ1 hp1
  refine hG.scr hc hlen (i + 1) rfl rfl (by decide +kernel) (nI_add i 1) (by omega) ?_
  refine hG.scr hc hlen (i + 2) rfl rfl (by decide +kernel) (nI_add i 2) (by omega) ?_
  refine hG.cV lk_Law_108 mi_M_stays rfl rfl hC2 rfl rfl (Nat.ble_eq_true_of_le (by omega)) rfl rfl rfl rfl rfl ?_
  intro r2 σ2 hp2
  obtain ⟨e, hC3⟩ := h3 r2 σ2 hp2
  refine hG.br rfl rfl rfl rfl (fun _ => next σ2 hC3) (fun q => absurd e q)
theorem law_c23 (hG : Md Γ l θ 120 m_Law pg) (hc : Scr Γ len xs) (hlen : len ≤ 3072) {i : Nat} (hi : i + 6 ≤ len) (hC : Cor σ) (next : ∀ σ', Cor σ' → X Γ 1466 [some (.inr 910), some (.inr 0), some (.inr 95), some (.inl (nI i))] [] σ') : X Γ 863 [some (.inr 910), some (.inr 0), some (.inr 95), some (.inl (nI i))] [] σ := by
  have hG := hG.pg pk_Law23
  obtain ⟨d1, post1, hd1, hC1, h2⟩ := pr_line (l := l) (θ := θ) (xs (i + 1)) σ hC
  refine hG.scr hc hlen (i + 1) rfl rfl (by decide +kernel) (nI_add i 1) (by omega) ?_
  refine hG.cV lk_Law_109 mi_W_line rfl rfl hC1 rfl rfl (Nat.ble_eq_true_of_le (by omega)) rfl rfl rfl rfl rfl ?_
  intro r1 σ1 hp1
  obtain ⟨d2, post2, hd2, hC2, h3⟩ := h2 r1 σ1 hp1
  refine hG.scr hc hlen (i + 1) rfl rfl (by decide +kernel) (nI_add i 1) (by omega) ?_
  refine hG.cV lk_Law_112 mi_M_line rfl rfl hC2 rfl rfl (Nat.ble_eq_true_of_le (by omega)) rfl rfl rfl rfl rfl ?_
  intro r2 σ2 hp2
  obtain ⟨e, hC3⟩ := h3 r2 σ2 hp2
  refine hG.br rfl rfl rfl rfl (fun _ => next σ2 hC3) (fun q => absurd e q)
theorem law_c24 (hG : Md Γ l θ 120 m_Law pg) (hc : Scr Γ len xs) (hlen : len ≤ 3072) {i : Nat} (hi : i + 6 ≤ len) (hC : Cor σ) (next : ∀ σ', Cor σ' → X Γ 1466 [some (.inr 910), some (.inr 0), some (.inr 95), some (.inl (nI i))] [] σ') : X Γ 886 [some (.inr 910), some (.inr 0), some (.inr 95), some (.inl (nI i))] [] σ := by
  have hG := hG.pg pk_Law24
  obtain ⟨d1, post1, hd1, hC1, h2⟩ := pr_fine (l := l) (θ := θ)  σ hC
  refine hG.cV lk_Law_113 mi_W_fine rfl rfl hC1 rfl rfl (Nat.ble_eq_true_of_le (by omega)) rfl rfl rfl rfl rfl ?_
  intro r1 σ1 hp1
  obtain ⟨d2, post2, hd2, hC2, h3⟩ := h2 r1 σ1 hp1
  refine hG.cV lk_Law_116 mi_M_fine rfl rfl hC2 rfl rfl (Nat.ble_eq_true_of_le (by omega)) rfl rfl rfl rfl rfl ?_
  intro r2 σ2 hp2
  obtain ⟨e, hC3⟩ := h3 r2 σ2 hp2
  refine hG.br rfl rfl rfl rfl (fun _ => next σ2 hC3) (fun q => absurd e q)
theorem law_c25 (hG : Md Γ l θ 120 m_Law pg) (hc : Scr Γ len xs) (hlen : len ≤ 3072) {i : Nat} (hi : i + 6 ≤ len) (hC : Cor σ) (next : ∀ σ', Cor σ' → X Γ 1466 [some (.inr 910), some (.inr 0), some (.inr 95), some (.inl (nI i))] [] σ') : X Γ 899 [some (.inr 910), some (.inr 0), some (.inr 95), some (.inl (nI i))] [] σ := by
  have hG := hG.pg pk_Law25
  obtain ⟨d1, post1, hd1, hC1, h2⟩ := pr_feed (l := l) (θ := θ) (xs (i + 1)) (xs (i + 2)) (xs (i + 3)) σ hC
  refine hG.scr hc hlen (i + 1) rfl rfl (by decide +kernel) (nI_add i 1) (by omega) ?_
  refine hG.scr hc hlen (i + 2) rfl rfl (by decide +kernel) (nI_add i 2) (by omega) ?_
  refine hG.scr hc hlen (i + 3) rfl rfl (by decide +kernel) (nI_add i 3) (by omega) ?_
  refine hG.cV lk_Law_117 mi_W_feed rfl rfl hC1 rfl rfl (Nat.ble_eq_true_of_le (by omega)) rfl rfl rfl rfl rfl ?_
  intro r1 σ1 hp1
  obtain ⟨d2, post2, hd2, hC2, h3⟩ := h2 r1 σ1 hp1
  refine hG.scr hc hlen (i + 1) rfl rfl (by decide +kernel) (nI_add i 1) (by omega) ?_
  refine hG.scr hc hlen (i + 2) rfl rfl (by decide +kernel) (nI_add i 2) (by omega) ?_
  refine hG.scr hc hlen (i + 3) rfl rfl (by decide +kernel) (nI_add i 3) (by omega) ?_
  refine hG.cV lk_Law_120 mi_M_feed rfl rfl hC2 rfl rfl (Nat.ble_eq_true_of_le (by omega)) rfl rfl rfl rfl rfl ?_
  intro r2 σ2 hp2
  obtain ⟨e, hC3⟩ := h3 r2 σ2 hp2
  refine hG.br rfl rfl rfl rfl (fun _ => next σ2 hC3) (fun q => absurd e q)
theorem law_c26 (hG : Md Γ l θ 120 m_Law pg) (hc : Scr Γ len xs) (hlen : len ≤ 3072) {i : Nat} (hi : i + 6 ≤ len) (hC : Cor σ) (next : ∀ σ', Cor σ' → X Γ 1466 [some (.inr 910), some (.inr 0), some (.inr 95), some (.inl (nI i))] [] σ') : X Γ 942 [some (.inr 910), some (.inr 0), some (.inr 95), some (.inl (nI i))] [] σ := by
  have hG := hG.pg pk_Law26
  obtain ⟨d1, post1, hd1, hC1, h2⟩ := pr_trim (l := l) (θ := θ) (xs (i + 1)) σ hC
  refine hG.scr hc hlen (i + 1) rfl rfl (by decide +kernel) (nI_add i 1) (by omega) ?_
  refine hG.cV lk_Law_121 mi_W_trim rfl rfl hC1 rfl rfl (Nat.ble_eq_true_of_le (by omega)) rfl rfl rfl rfl rfl ?_
  intro r1 σ1 hp1
  obtain ⟨d2, post2, hd2, hC2, h3⟩ := h2 r1 σ1 hp1
  refine hG.scr hc hlen (i + 1) rfl rfl (by decide +kernel) (nI_add i 1) (by omega) ?_
  refine hG.cV lk_Law_124 mi_M_trim rfl rfl hC2 rfl rfl (Nat.ble_eq_true_of_le (by omega)) rfl rfl rfl rfl rfl ?_
  intro r2 σ2 hp2
  obtain ⟨e, hC3⟩ := h3 r2 σ2 hp2
  refine hG.br rfl rfl rfl rfl (fun _ => next σ2 hC3) (fun q => absurd e q)
theorem law_c27 (hG : Md Γ l θ 120 m_Law pg) (hc : Scr Γ len xs) (hlen : len ≤ 3072) {i : Nat} (hi : i + 6 ≤ len) (hC : Cor σ) (next : ∀ σ', Cor σ' → X Γ 1466 [some (.inr 910), some (.inr 0), some (.inr 95), some (.inl (nI i))] [] σ') : X Γ 965 [some (.inr 910), some (.inr 0), some (.inr 95), some (.inl (nI i))] [] σ := by
  have hG := hG.pg pk_Law27
  obtain ⟨d1, post1, hd1, hC1, h2⟩ := pr_text (l := l) (θ := θ)  σ hC
  refine hG.cV lk_Law_125 mi_W_text rfl rfl hC1 rfl rfl (Nat.ble_eq_true_of_le (by omega)) rfl rfl rfl rfl rfl ?_
  intro r1 σ1 hp1
  obtain ⟨d2, post2, hd2, hC2, h3⟩ := h2 r1 σ1 hp1
  refine hG.cV lk_Law_128 mi_M_text rfl rfl hC2 rfl rfl (Nat.ble_eq_true_of_le (by omega)) rfl rfl rfl rfl rfl ?_
  intro r2 σ2 hp2
  obtain ⟨e, hC3⟩ := h3 r2 σ2 hp2
  refine hG.br rfl rfl rfl rfl (fun _ => next σ2 hC3) (fun q => absurd e q)
theorem law_c28 (hG : Md Γ l θ 120 m_Law pg) (hc : Scr Γ len xs) (hlen : len ≤ 3072) {i : Nat} (hi : i + 6 ≤ len) (hC : Cor σ) (next : ∀ σ', Cor σ' → X Γ 1466 [some (.inr 910), some (.inr 0), some (.inr 95), some (.inl (nI i))] [] σ') : X Γ 978 [some (.inr 910), some (.inr 0), some (.inr 95), some (.inl (nI i))] [] σ := by
  have hG := hG.pg pk_Law28
  obtain ⟨d1, post1, hd1, hC1, h2⟩ := pr_textTold (l := l) (θ := θ) (xs (i + 1)) (xs (i + 2)) σ hC
  refine hG.scr hc hlen (i + 1) rfl rfl (by decide +kernel) (nI_add i 1) (by omega) ?_
  refine hG.scr hc hlen (i + 2) rfl rfl (by decide +kernel) (nI_add i 2) (by omega) ?_
  refine hG.cV lk_Law_129 mi_W_textTold rfl rfl hC1 rfl rfl (Nat.ble_eq_true_of_le (by omega)) rfl rfl rfl rfl rfl ?_
  intro r1 σ1 hp1
  obtain ⟨d2, post2, hd2, hC2, h3⟩ := h2 r1 σ1 hp1
  refine hG.scr hc hlen (i + 1) rfl rfl (by decide +kernel) (nI_add i 1) (by omega) ?_
  refine hG.scr hc hlen (i + 2) rfl rfl (by decide +kernel) (nI_add i 2) (by omega) ?_
  refine hG.cV lk_Law_132 mi_M_textTold rfl rfl hC2 rfl rfl (Nat.ble_eq_true_of_le (by omega)) rfl rfl rfl rfl rfl ?_
  intro r2 σ2 hp2
  obtain ⟨e, hC3⟩ := h3 r2 σ2 hp2
  refine hG.br rfl rfl rfl rfl (fun _ => next σ2 hC3) (fun q => absurd e q)
theorem law_c29 (hG : Md Γ l θ 120 m_Law pg) (hc : Scr Γ len xs) (hlen : len ≤ 3072) {i : Nat} (hi : i + 6 ≤ len) (hC : Cor σ) (next : ∀ σ', Cor σ' → X Γ 1466 [some (.inr 910), some (.inr 0), some (.inr 95), some (.inl (nI i))] [] σ') : X Γ 1011 [some (.inr 910), some (.inr 0), some (.inr 95), some (.inl (nI i))] [] σ := by
  have hG := hG.pg pk_Law29
  obtain ⟨d1, post1, hd1, hC1, h2⟩ := pr_why (l := l) (θ := θ) (xs (i + 1)) σ hC
  refine hG.scr hc hlen (i + 1) rfl rfl (by decide +kernel) (nI_add i 1) (by omega) ?_
  refine hG.cV lk_Law_133 mi_W_why rfl rfl hC1 rfl rfl (Nat.ble_eq_true_of_le (by omega)) rfl rfl rfl rfl rfl ?_
  intro r1 σ1 hp1
  obtain ⟨d2, post2, hd2, hC2, h3⟩ := h2 r1 σ1 hp1
  refine hG.scr hc hlen (i + 1) rfl rfl (by decide +kernel) (nI_add i 1) (by omega) ?_
  refine hG.cV lk_Law_136 mi_M_why rfl rfl hC2 rfl rfl (Nat.ble_eq_true_of_le (by omega)) rfl rfl rfl rfl rfl ?_
  intro r2 σ2 hp2
  obtain ⟨e, hC3⟩ := h3 r2 σ2 hp2
  refine hG.br rfl rfl rfl rfl (fun _ => next σ2 hC3) (fun q => absurd e q)
theorem law_c30 (hG : Md Γ l θ 120 m_Law pg) (hc : Scr Γ len xs) (hlen : len ≤ 3072) {i : Nat} (hi : i + 6 ≤ len) (hC : Cor σ) (next : ∀ σ', Cor σ' → X Γ 1466 [some (.inr 910), some (.inr 0), some (.inr 95), some (.inl (nI i))] [] σ') : X Γ 1034 [some (.inr 910), some (.inr 0), some (.inr 95), some (.inl (nI i))] [] σ := by
  have hG := hG.pg pk_Law30
  obtain ⟨d1, post1, hd1, hC1, h2⟩ := pr_sheet (l := l) (θ := θ) (xs (i + 1)) (xs (i + 2)) (xs (i + 3)) σ hC
  refine hG.scr hc hlen (i + 1) rfl rfl (by decide +kernel) (nI_add i 1) (by omega) ?_
  refine hG.scr hc hlen (i + 2) rfl rfl (by decide +kernel) (nI_add i 2) (by omega) ?_
  refine hG.scr hc hlen (i + 3) rfl rfl (by decide +kernel) (nI_add i 3) (by omega) ?_
  refine hG.cV lk_Law_137 mi_W_sheet rfl rfl hC1 rfl rfl (Nat.ble_eq_true_of_le (by omega)) rfl rfl rfl rfl rfl ?_
  intro r1 σ1 hp1
  obtain ⟨d2, post2, hd2, hC2, h3⟩ := h2 r1 σ1 hp1
  refine hG.scr hc hlen (i + 1) rfl rfl (by decide +kernel) (nI_add i 1) (by omega) ?_
  refine hG.scr hc hlen (i + 2) rfl rfl (by decide +kernel) (nI_add i 2) (by omega) ?_
  refine hG.scr hc hlen (i + 3) rfl rfl (by decide +kernel) (nI_add i 3) (by omega) ?_
  refine hG.cV lk_Law_140 mi_M_sheet rfl rfl hC2 rfl rfl (Nat.ble_eq_true_of_le (by omega)) rfl rfl rfl rfl rfl ?_
  intro r2 σ2 hp2
  obtain ⟨e, hC3⟩ := h3 r2 σ2 hp2
  refine hG.br rfl rfl rfl rfl (fun _ => next σ2 hC3) (fun q => absurd e q)
theorem law_c31 (hG : Md Γ l θ 120 m_Law pg) (hc : Scr Γ len xs) (hlen : len ≤ 3072) {i : Nat} (hi : i + 6 ≤ len) (hC : Cor σ) (next : ∀ σ', Cor σ' → X Γ 1466 [some (.inr 910), some (.inr 0), some (.inr 95), some (.inl (nI i))] [] σ') : X Γ 1077 [some (.inr 910), some (.inr 0), some (.inr 95), some (.inl (nI i))] [] σ := by
  have hG := hG.pg pk_Law31
  obtain ⟨d1, post1, hd1, hC1, h2⟩ := pr_mark (l := l) (θ := θ) (xs (i + 1)) (xs (i + 2)) (xs (i + 3)) σ hC
  refine hG.scr hc hlen (i + 1) rfl rfl (by decide +kernel) (nI_add i 1) (by omega) ?_
  refine hG.scr hc hlen (i + 2) rfl rfl (by decide +kernel) (nI_add i 2) (by omega) ?_
  refine hG.scr hc hlen (i + 3) rfl rfl (by decide +kernel) (nI_add i 3) (by omega) ?_
  refine hG.cV lk_Law_141 mi_W_mark rfl rfl hC1 rfl rfl (Nat.ble_eq_true_of_le (by omega)) rfl rfl rfl rfl rfl ?_
  intro r1 σ1 hp1
  obtain ⟨d2, post2, hd2, hC2, h3⟩ := h2 r1 σ1 hp1
  refine hG.scr hc hlen (i + 1) rfl rfl (by decide +kernel) (nI_add i 1) (by omega) ?_
  refine hG.scr hc hlen (i + 2) rfl rfl (by decide +kernel) (nI_add i 2) (by omega) ?_
  refine hG.scr hc hlen (i + 3) rfl rfl (by decide +kernel) (nI_add i 3) (by omega) ?_
  refine hG.cV lk_Law_144 mi_M_mark rfl rfl hC2 rfl rfl (Nat.ble_eq_true_of_le (by omega)) rfl rfl rfl rfl rfl ?_
  intro r2 σ2 hp2
  obtain ⟨e, hC3⟩ := h3 r2 σ2 hp2
  refine hG.br rfl rfl rfl rfl (fun _ => next σ2 hC3) (fun q => absurd e q)
theorem law_c32 (hG : Md Γ l θ 120 m_Law pg) (hc : Scr Γ len xs) (hlen : len ≤ 3072) {i : Nat} (hi : i + 6 ≤ len) (hC : Cor σ) (next : ∀ σ', Cor σ' → X Γ 1466 [some (.inr 910), some (.inr 0), some (.inr 95), some (.inl (nI i))] [] σ') : X Γ 1120 [some (.inr 910), some (.inr 0), some (.inr 95), some (.inl (nI i))] [] σ := by
  have hG := hG.pg pk_Law32
  obtain ⟨d1, post1, hd1, hC1, h2⟩ := pr_pour (l := l) (θ := θ) (xs (i + 1)) σ hC
  refine hG.scr hc hlen (i + 1) rfl rfl (by decide +kernel) (nI_add i 1) (by omega) ?_
  refine hG.cV lk_Law_145 mi_W_pour rfl rfl hC1 rfl rfl (Nat.ble_eq_true_of_le (by omega)) rfl rfl rfl rfl rfl ?_
  intro r1 σ1 hp1
  obtain ⟨d2, post2, hd2, hC2, h3⟩ := h2 r1 σ1 hp1
  refine hG.scr hc hlen (i + 1) rfl rfl (by decide +kernel) (nI_add i 1) (by omega) ?_
  refine hG.cV lk_Law_148 mi_M_pour rfl rfl hC2 rfl rfl (Nat.ble_eq_true_of_le (by omega)) rfl rfl rfl rfl rfl ?_
  intro r2 σ2 hp2
  obtain ⟨e, hC3⟩ := h3 r2 σ2 hp2
  refine hG.br rfl rfl rfl rfl (fun _ => next σ2 hC3) (fun q => absurd e q)
theorem law_c33 (hG : Md Γ l θ 120 m_Law pg) (hc : Scr Γ len xs) (hlen : len ≤ 3072) {i : Nat} (hi : i + 6 ≤ len) (hC : Cor σ) (next : ∀ σ', Cor σ' → X Γ 1466 [some (.inr 910), some (.inr 0), some (.inr 95), some (.inl (nI i))] [] σ') : X Γ 1143 [some (.inr 910), some (.inr 0), some (.inr 95), some (.inl (nI i))] [] σ := by
  have hG := hG.pg pk_Law33
  obtain ⟨d1, post1, hd1, hC1, h2⟩ := pr_reads (l := l) (θ := θ) (xs (i + 1)) σ hC
  refine hG.scr hc hlen (i + 1) rfl rfl (by decide +kernel) (nI_add i 1) (by omega) ?_
  refine hG.cV lk_Law_149 mi_W_reads rfl rfl hC1 rfl rfl (Nat.ble_eq_true_of_le (by omega)) rfl rfl rfl rfl rfl ?_
  intro r1 σ1 hp1
  obtain ⟨d2, post2, hd2, hC2, h3⟩ := h2 r1 σ1 hp1
  refine hG.scr hc hlen (i + 1) rfl rfl (by decide +kernel) (nI_add i 1) (by omega) ?_
  refine hG.cV lk_Law_152 mi_M_reads rfl rfl hC2 rfl rfl (Nat.ble_eq_true_of_le (by omega)) rfl rfl rfl rfl rfl ?_
  intro r2 σ2 hp2
  obtain ⟨e, hC3⟩ := h3 r2 σ2 hp2
  refine hG.br rfl rfl rfl rfl (fun _ => next σ2 hC3) (fun q => absurd e q)
theorem law_c34 (hG : Md Γ l θ 120 m_Law pg) (hc : Scr Γ len xs) (hlen : len ≤ 3072) {i : Nat} (hi : i + 6 ≤ len) (hC : Cor σ) (next : ∀ σ', Cor σ' → X Γ 1466 [some (.inr 910), some (.inr 0), some (.inr 95), some (.inl (nI i))] [] σ') : X Γ 1166 [some (.inr 910), some (.inr 0), some (.inr 95), some (.inl (nI i))] [] σ := by
  have hG := hG.pg pk_Law34
  obtain ⟨d1, post1, hd1, hC1, h2⟩ := pr_copy (l := l) (θ := θ) (xs (i + 1)) (xs (i + 2)) (xs (i + 3)) (xs (i + 4)) (xs (i + 5)) σ hC
  refine hG.scr hc hlen (i + 1) rfl rfl (by decide +kernel) (nI_add i 1) (by omega) ?_
  refine hG.scr hc hlen (i + 2) rfl rfl (by decide +kernel) (nI_add i 2) (by omega) ?_
  refine hG.scr hc hlen (i + 3) rfl rfl (by decide +kernel) (nI_add i 3) (by omega) ?_
  refine hG.scr hc hlen (i + 4) rfl rfl (by decide +kernel) (nI_add i 4) (by omega) ?_
  refine hG.scr hc hlen (i + 5) rfl rfl (by decide +kernel) (nI_add i 5) (by omega) ?_
  refine hG.cV lk_Law_153 mi_W_copy rfl rfl hC1 rfl rfl (Nat.ble_eq_true_of_le (by omega)) rfl rfl rfl rfl rfl ?_
  intro r1 σ1 hp1
  obtain ⟨d2, post2, hd2, hC2, h3⟩ := h2 r1 σ1 hp1
  refine hG.scr hc hlen (i + 1) rfl rfl (by decide +kernel) (nI_add i 1) (by omega) ?_
  refine hG.scr hc hlen (i + 2) rfl rfl (by decide +kernel) (nI_add i 2) (by omega) ?_
  refine hG.scr hc hlen (i + 3) rfl rfl (by decide +kernel) (nI_add i 3) (by omega) ?_
  refine hG.scr hc hlen (i + 4) rfl rfl (by decide +kernel) (nI_add i 4) (by omega) ?_
  refine hG.scr hc hlen (i + 5) rfl rfl (by decide +kernel) (nI_add i 5) (by omega) ?_
  refine hG.cV lk_Law_157 mi_M_copy rfl rfl hC2 rfl rfl (Nat.ble_eq_true_of_le (by omega)) rfl rfl rfl rfl rfl ?_
  intro r2 σ2 hp2
  obtain ⟨e, hC3⟩ := h3 r2 σ2 hp2
  refine hG.br rfl rfl rfl rfl (fun _ => next σ2 hC3) (fun q => absurd e q)
theorem law_c35 (hG : Md Γ l θ 120 m_Law pg) (hc : Scr Γ len xs) (hlen : len ≤ 3072) {i : Nat} (hi : i + 6 ≤ len) (hC : Cor σ) (next : ∀ σ', Cor σ' → X Γ 1466 [some (.inr 910), some (.inr 0), some (.inr 95), some (.inl (nI i))] [] σ') : X Γ 1229 [some (.inr 910), some (.inr 0), some (.inr 95), some (.inl (nI i))] [] σ := by
  have hG := hG.pg pk_Law35
  obtain ⟨d1, post1, hd1, hC1, h2⟩ := pr_lay (l := l) (θ := θ) (xs (i + 1)) (xs (i + 2)) (xs (i + 3)) σ hC
  refine hG.scr hc hlen (i + 1) rfl rfl (by decide +kernel) (nI_add i 1) (by omega) ?_
  refine hG.scr hc hlen (i + 2) rfl rfl (by decide +kernel) (nI_add i 2) (by omega) ?_
  refine hG.scr hc hlen (i + 3) rfl rfl (by decide +kernel) (nI_add i 3) (by omega) ?_
  refine hG.cV lk_Law_158 mi_W_lay rfl rfl hC1 rfl rfl (Nat.ble_eq_true_of_le (by omega)) rfl rfl rfl rfl rfl ?_
  intro r1 σ1 hp1
  obtain ⟨d2, post2, hd2, hC2, h3⟩ := h2 r1 σ1 hp1
  refine hG.scr hc hlen (i + 1) rfl rfl (by decide +kernel) (nI_add i 1) (by omega) ?_
  refine hG.scr hc hlen (i + 2) rfl rfl (by decide +kernel) (nI_add i 2) (by omega) ?_
  refine hG.scr hc hlen (i + 3) rfl rfl (by decide +kernel) (nI_add i 3) (by omega) ?_
  refine hG.cV lk_Law_161 mi_M_lay rfl rfl hC2 rfl rfl (Nat.ble_eq_true_of_le (by omega)) rfl rfl rfl rfl rfl ?_
  intro r2 σ2 hp2
  obtain ⟨e, hC3⟩ := h3 r2 σ2 hp2
  refine hG.br rfl rfl rfl rfl (fun _ => next σ2 hC3) (fun q => absurd e q)
theorem law_c36 (hG : Md Γ l θ 120 m_Law pg) (hc : Scr Γ len xs) (hlen : len ≤ 3072) {i : Nat} (hi : i + 6 ≤ len) (hC : Cor σ) (next : ∀ σ', Cor σ' → X Γ 1466 [some (.inr 910), some (.inr 0), some (.inr 95), some (.inl (nI i))] [] σ') : X Γ 1272 [some (.inr 910), some (.inr 0), some (.inr 95), some (.inl (nI i))] [] σ := by
  have hG := hG.pg pk_Law36
  obtain ⟨d1, post1, hd1, hC1, h2⟩ := pr_ask (l := l) (θ := θ) (xs (i + 1)) (xs (i + 2)) σ hC
  refine hG.scr hc hlen (i + 1) rfl rfl (by decide +kernel) (nI_add i 1) (by omega) ?_
  refine hG.scr hc hlen (i + 2) rfl rfl (by decide +kernel) (nI_add i 2) (by omega) ?_
  refine hG.cV lk_Law_162 mi_W_ask rfl rfl hC1 rfl rfl (Nat.ble_eq_true_of_le (by omega)) rfl rfl rfl rfl rfl ?_
  intro r1 σ1 hp1
  obtain ⟨d2, post2, hd2, hC2, h3⟩ := h2 r1 σ1 hp1
  refine hG.scr hc hlen (i + 1) rfl rfl (by decide +kernel) (nI_add i 1) (by omega) ?_
  refine hG.scr hc hlen (i + 2) rfl rfl (by decide +kernel) (nI_add i 2) (by omega) ?_
  refine hG.cV lk_Law_165 mi_M_ask rfl rfl hC2 rfl rfl (Nat.ble_eq_true_of_le (by omega)) rfl rfl rfl rfl rfl ?_
  intro r2 σ2 hp2
  obtain ⟨e, hC3⟩ := h3 r2 σ2 hp2
  refine hG.br rfl rfl rfl rfl (fun _ => next σ2 hC3) (fun q => absurd e q)
theorem law_c37 (hG : Md Γ l θ 120 m_Law pg) (hc : Scr Γ len xs) (hlen : len ≤ 3072) {i : Nat} (hi : i + 6 ≤ len) (hC : Cor σ) (next : ∀ σ', Cor σ' → X Γ 1466 [some (.inr 910), some (.inr 0), some (.inr 95), some (.inl (nI i))] [] σ') : X Γ 1305 [some (.inr 910), some (.inr 0), some (.inr 95), some (.inl (nI i))] [] σ := by
  have hG := hG.pg pk_Law37
  obtain ⟨d1, post1, hd1, hC1, h2⟩ := pr_item (l := l) (θ := θ) (xs (i + 1)) (xs (i + 2)) σ hC
  refine hG.scr hc hlen (i + 1) rfl rfl (by decide +kernel) (nI_add i 1) (by omega) ?_
  refine hG.scr hc hlen (i + 2) rfl rfl (by decide +kernel) (nI_add i 2) (by omega) ?_
  refine hG.cV lk_Law_166 mi_W_item rfl rfl hC1 rfl rfl (Nat.ble_eq_true_of_le (by omega)) rfl rfl rfl rfl rfl ?_
  intro r1 σ1 hp1
  obtain ⟨d2, post2, hd2, hC2, h3⟩ := h2 r1 σ1 hp1
  refine hG.scr hc hlen (i + 1) rfl rfl (by decide +kernel) (nI_add i 1) (by omega) ?_
  refine hG.scr hc hlen (i + 2) rfl rfl (by decide +kernel) (nI_add i 2) (by omega) ?_
  refine hG.cV lk_Law_169 mi_M_item rfl rfl hC2 rfl rfl (Nat.ble_eq_true_of_le (by omega)) rfl rfl rfl rfl rfl ?_
  intro r2 σ2 hp2
  obtain ⟨e, hC3⟩ := h3 r2 σ2 hp2
  refine hG.br rfl rfl rfl rfl (fun _ => next σ2 hC3) (fun q => absurd e q)
theorem law_c38 (hG : Md Γ l θ 120 m_Law pg) (hc : Scr Γ len xs) (hlen : len ≤ 3072) {i : Nat} (hi : i + 6 ≤ len) (hC : Cor σ) (next : ∀ σ', Cor σ' → X Γ 1466 [some (.inr 910), some (.inr 0), some (.inr 95), some (.inl (nI i))] [] σ') : X Γ 1338 [some (.inr 910), some (.inr 0), some (.inr 95), some (.inl (nI i))] [] σ := by
  have hG := hG.pg pk_Law38
  obtain ⟨d1, post1, hd1, hC1, h2⟩ := pr_rest (l := l) (θ := θ) (xs (i + 1)) (xs (i + 2)) σ hC
  refine hG.scr hc hlen (i + 1) rfl rfl (by decide +kernel) (nI_add i 1) (by omega) ?_
  refine hG.scr hc hlen (i + 2) rfl rfl (by decide +kernel) (nI_add i 2) (by omega) ?_
  refine hG.cV lk_Law_170 mi_W_rest rfl rfl hC1 rfl rfl (Nat.ble_eq_true_of_le (by omega)) rfl rfl rfl rfl rfl ?_
  intro r1 σ1 hp1
  obtain ⟨d2, post2, hd2, hC2, h3⟩ := h2 r1 σ1 hp1
  refine hG.scr hc hlen (i + 1) rfl rfl (by decide +kernel) (nI_add i 1) (by omega) ?_
  refine hG.scr hc hlen (i + 2) rfl rfl (by decide +kernel) (nI_add i 2) (by omega) ?_
  refine hG.cV lk_Law_173 mi_M_rest rfl rfl hC2 rfl rfl (Nat.ble_eq_true_of_le (by omega)) rfl rfl rfl rfl rfl ?_
  intro r2 σ2 hp2
  obtain ⟨e, hC3⟩ := h3 r2 σ2 hp2
  refine hG.br rfl rfl rfl rfl (fun _ => next σ2 hC3) (fun q => absurd e q)
theorem law_c39 (hG : Md Γ l θ 120 m_Law pg) (hc : Scr Γ len xs) (hlen : len ≤ 3072) {i : Nat} (hi : i + 6 ≤ len) (hC : Cor σ) (next : ∀ σ', Cor σ' → X Γ 1466 [some (.inr 910), some (.inr 0), some (.inr 95), some (.inl (nI i))] [] σ') : X Γ 1371 [some (.inr 910), some (.inr 0), some (.inr 95), some (.inl (nI i))] [] σ := by
  have hG := hG.pg pk_Law39
  obtain ⟨d1, post1, hd1, hC1, h2⟩ := pr_tell (l := l) (θ := θ) (xs (i + 1)) σ hC
  refine hG.scr hc hlen (i + 1) rfl rfl (by decide +kernel) (nI_add i 1) (by omega) ?_
  refine hG.cV lk_Law_174 mi_W_tell rfl rfl hC1 rfl rfl (Nat.ble_eq_true_of_le (by omega)) rfl rfl rfl rfl rfl ?_
  intro r1 σ1 hp1
  obtain ⟨d2, post2, hd2, hC2, h3⟩ := h2 r1 σ1 hp1
  refine hG.scr hc hlen (i + 1) rfl rfl (by decide +kernel) (nI_add i 1) (by omega) ?_
  refine hG.cV lk_Law_177 mi_M_tell rfl rfl hC2 rfl rfl (Nat.ble_eq_true_of_le (by omega)) rfl rfl rfl rfl rfl ?_
  intro r2 σ2 hp2
  obtain ⟨e, hC3⟩ := h3 r2 σ2 hp2
  refine hG.br rfl rfl rfl rfl (fun _ => next σ2 hC3) (fun q => absurd e q)
theorem law_c40 (hG : Md Γ l θ 120 m_Law pg) (hc : Scr Γ len xs) (hlen : len ≤ 3072) {i : Nat} (hi : i + 6 ≤ len) (hC : Cor σ) (next : ∀ σ', Cor σ' → X Γ 1466 [some (.inr 910), some (.inr 0), some (.inr 95), some (.inl (nI i))] [] σ') : X Γ 1394 [some (.inr 910), some (.inr 0), some (.inr 95), some (.inl (nI i))] [] σ := by
  have hG := hG.pg pk_Law40
  obtain ⟨d1, post1, hd1, hC1, h2⟩ := pr_check (l := l) (θ := θ) (xs (i + 1)) σ hC
  refine hG.scr hc hlen (i + 1) rfl rfl (by decide +kernel) (nI_add i 1) (by omega) ?_
  refine hG.cV lk_Law_178 mi_W_check rfl rfl hC1 rfl rfl (Nat.ble_eq_true_of_le (by omega)) rfl rfl rfl rfl rfl ?_
  intro r1 σ1 hp1
  obtain ⟨d2, post2, hd2, hC2, h3⟩ := h2 r1 σ1 hp1
  refine hG.scr hc hlen (i + 1) rfl rfl (by decide +kernel) (nI_add i 1) (by omega) ?_
  refine hG.cV lk_Law_181 mi_M_check rfl rfl hC2 rfl rfl (Nat.ble_eq_true_of_le (by omega)) rfl rfl rfl rfl rfl ?_
  intro r2 σ2 hp2
  obtain ⟨e, hC3⟩ := h3 r2 σ2 hp2
  refine hG.br rfl rfl rfl rfl (fun _ => next σ2 hC3) (fun q => absurd e q)
theorem law_c41 (hG : Md Γ l θ 120 m_Law pg) (hc : Scr Γ len xs) (hlen : len ≤ 3072) {i : Nat} (hi : i + 6 ≤ len) (hC : Cor σ) (next : ∀ σ', Cor σ' → X Γ 1466 [some (.inr 910), some (.inr 0), some (.inr 95), some (.inl (nI i))] [] σ') : X Γ 1417 [some (.inr 910), some (.inr 0), some (.inr 95), some (.inl (nI i))] [] σ := by
  have hG := hG.pg pk_Law41
  obtain ⟨d1, post1, hd1, hC1, h2⟩ := pr_keep (l := l) (θ := θ)  σ hC
  refine hG.cV lk_Law_182 mi_W_keep rfl rfl hC1 rfl rfl (Nat.ble_eq_true_of_le (by omega)) rfl rfl rfl rfl rfl ?_
  intro r1 σ1 hp1
  obtain ⟨d2, post2, hd2, hC2, h3⟩ := h2 r1 σ1 hp1
  refine hG.cV lk_Law_185 mi_M_keep rfl rfl hC2 rfl rfl (Nat.ble_eq_true_of_le (by omega)) rfl rfl rfl rfl rfl ?_
  intro r2 σ2 hp2
  obtain ⟨e, hC3⟩ := h3 r2 σ2 hp2
  refine hG.br rfl rfl rfl rfl (fun _ => next σ2 hC3) (fun q => absurd e q)
theorem law_c42 (hG : Md Γ l θ 120 m_Law pg) (hc : Scr Γ len xs) (hlen : len ≤ 3072) {i : Nat} (hi : i + 6 ≤ len) (hC : Cor σ) (next : ∀ σ', Cor σ' → X Γ 1466 [some (.inr 910), some (.inr 0), some (.inr 95), some (.inl (nI i))] [] σ') : X Γ 1430 [some (.inr 910), some (.inr 0), some (.inr 95), some (.inl (nI i))] [] σ := by
  have hG := hG.pg pk_Law42
  obtain ⟨d1, post1, hd1, hC1, h2⟩ := pr_back (l := l) (θ := θ)  σ hC
  refine hG.cV lk_Law_186 mi_W_back rfl rfl hC1 rfl rfl (Nat.ble_eq_true_of_le (by omega)) rfl rfl rfl rfl rfl ?_
  intro r1 σ1 hp1
  obtain ⟨d2, post2, hd2, hC2, h3⟩ := h2 r1 σ1 hp1
  refine hG.cV lk_Law_189 mi_M_back rfl rfl hC2 rfl rfl (Nat.ble_eq_true_of_le (by omega)) rfl rfl rfl rfl rfl ?_
  intro r2 σ2 hp2
  obtain ⟨e, hC3⟩ := h3 r2 σ2 hp2
  refine hG.br rfl rfl rfl rfl (fun _ => next σ2 hC3) (fun q => absurd e q)
theorem law_c43 (hG : Md Γ l θ 120 m_Law pg) (hc : Scr Γ len xs) (hlen : len ≤ 3072) {i : Nat} (hi : i + 6 ≤ len) (hC : Cor σ) (next : ∀ σ', Cor σ' → X Γ 1466 [some (.inr 910), some (.inr 0), some (.inr 95), some (.inl (nI i))] [] σ') : X Γ 1443 [some (.inr 910), some (.inr 0), some (.inr 95), some (.inl (nI i))] [] σ := by
  have hG := hG.pg pk_Law43
  obtain ⟨d1, post1, hd1, hC1, h2⟩ := pr_count (l := l) (θ := θ) (xs (i + 1)) σ hC
  refine hG.scr hc hlen (i + 1) rfl rfl (by decide +kernel) (nI_add i 1) (by omega) ?_
  refine hG.cV lk_Law_190 mi_W_count rfl rfl hC1 rfl rfl (Nat.ble_eq_true_of_le (by omega)) rfl rfl rfl rfl rfl ?_
  intro r1 σ1 hp1
  obtain ⟨d2, post2, hd2, hC2, h3⟩ := h2 r1 σ1 hp1
  refine hG.scr hc hlen (i + 1) rfl rfl (by decide +kernel) (nI_add i 1) (by omega) ?_
  refine hG.cV lk_Law_193 mi_M_count rfl rfl hC2 rfl rfl (Nat.ble_eq_true_of_le (by omega)) rfl rfl rfl rfl rfl ?_
  intro r2 σ2 hp2
  obtain ⟨e, hC3⟩ := h3 r2 σ2 hp2
  refine hG.br rfl rfl rfl rfl (fun _ => next σ2 hC3) (fun q => absurd e q)
theorem law_loop (hG : Md Γ l θ 120 m_Law pg) (hc : Scr Γ len xs) (hlen : len ≤ 3072) (exit : ∀ (L : Lc) (σ : Sg), X Γ 1473 L [.inl 1] σ) : ∀ (m i : Nat) (σ : Sg), len < i + m → i ≤ 4000 → Cor σ → X Γ 18 [some (.inr 910), some (.inr 0), some (.inr 95), some (.inl (nI i))] [] σ := by
  have hH := hG.pg pk_LawH
  have hT := hG.pg pk_LawT
  intro m
  induction m with
  | zero =>
    intro i σ hm hi4 hC
    refine hH.scl hc rfl rfl (by decide +kernel) ?_
    refine hH.br rfl rfl rfl rfl (fun _ => hT.go 1 rfl rfl (exit _ _)) (fun k1 => ?_)
    refine absurd (Int32.lt_iff_toInt_lt.mpr ?_) k1
    rw [show (nI len - 6).toInt = (len : Int) - (6 : Nat) from pk_sub_toInt (b := 6) (by omega) (by decide), nI_toInt (by omega)]
    omega
  | succ m ih =>
    intro i σ hm hi4 hC
    refine hH.scl hc rfl rfl (by decide +kernel) ?_
    refine hH.br rfl rfl rfl rfl (fun _ => hT.go 1 rfl rfl (exit _ _)) (fun k1 => ?_)
    have hi : i + 6 ≤ len := by
      refine Nat.not_lt.mp (fun q => k1 (Int32.lt_iff_toInt_lt.mpr ?_))
      rw [show (nI len - 6).toInt = (len : Int) - (6 : Nat) from pk_sub_toInt (b := 6) (by omega) (by decide), nI_toInt (by omega)]
      omega
    have next : ∀ σ', Cor σ' → X Γ 1466 [some (.inr 910), some (.inr 0), some (.inr 95), some (.inl (nI i))] [] σ' := by
      intro σ' hC'
      refine hT.jp rfl rfl rfl ?_
      rw [show nI i + 6 = nI (i + 6) from nI_add i 6]
      exact ih (i + 6) σ' (by omega) (by omega) hC'
    refine hH.scr hc hlen i rfl rfl (by decide +kernel) rfl (by omega) ?_
    refine hH.tsw [224, 267, 300, 333, 366, 409, 442, 475, 508, 531, 554, 577, 610, 633, 656, 689, 702, 725, 738, 761, 784, 817, 830, 863, 886, 899, 942, 965, 978, 1011, 1034, 1077, 1120, 1143, 1166, 1229, 1272, 1305, 1338, 1371, 1394, 1417, 1430, 1443] 1466 rfl rfl rfl (by decide +kernel) ?_ ?_
    · intro k t hk hx
      match k, hk, hx with
      | 0, hk, hx => cases hk; exact law_c0 hG hc hlen hi hC next
      | 1, hk, hx => cases hk; exact law_c1 hG hc hlen hi hC next
      | 2, hk, hx => cases hk; exact law_c2 hG hc hlen hi hC next
      | 3, hk, hx => cases hk; exact law_c3 hG hc hlen hi hC next
      | 4, hk, hx => cases hk; exact law_c4 hG hc hlen hi hC next
      | 5, hk, hx => cases hk; exact law_c5 hG hc hlen hi hC next
      | 6, hk, hx => cases hk; exact law_c6 hG hc hlen hi hC next
      | 7, hk, hx => cases hk; exact law_c7 hG hc hlen hi hC next
      | 8, hk, hx => cases hk; exact law_c8 hG hc hlen hi hC next
      | 9, hk, hx => cases hk; exact law_c9 hG hc hlen hi hC next
      | 10, hk, hx => cases hk; exact law_c10 hG hc hlen hi hC next
      | 11, hk, hx => cases hk; exact law_c11 hG hc hlen hi hC next
      | 12, hk, hx => cases hk; exact law_c12 hG hc hlen hi hC next
      | 13, hk, hx => cases hk; exact law_c13 hG hc hlen hi hC next
      | 14, hk, hx => cases hk; exact law_c14 hG hc hlen hi hC next
      | 15, hk, hx => cases hk; exact law_c15 hG hc hlen hi hC next
      | 16, hk, hx => cases hk; exact law_c16 hG hc hlen hi hC next
      | 17, hk, hx => cases hk; exact law_c17 hG hc hlen hi hC next
      | 18, hk, hx => cases hk; exact law_c18 hG hc hlen hi hC next
      | 19, hk, hx => cases hk; exact law_c19 hG hc hlen hi hC next
      | 20, hk, hx => cases hk; exact law_c20 hG hc hlen hi hC next
      | 21, hk, hx => cases hk; exact law_c21 hG hc hlen hi hC next
      | 22, hk, hx => cases hk; exact law_c22 hG hc hlen hi hC next
      | 23, hk, hx => cases hk; exact law_c23 hG hc hlen hi hC next
      | 24, hk, hx => cases hk; exact law_c24 hG hc hlen hi hC next
      | 25, hk, hx => cases hk; exact law_c25 hG hc hlen hi hC next
      | 26, hk, hx => cases hk; exact law_c26 hG hc hlen hi hC next
      | 27, hk, hx => cases hk; exact law_c27 hG hc hlen hi hC next
      | 28, hk, hx => cases hk; exact law_c28 hG hc hlen hi hC next
      | 29, hk, hx => cases hk; exact law_c29 hG hc hlen hi hC next
      | 30, hk, hx => cases hk; exact law_c30 hG hc hlen hi hC next
      | 31, hk, hx => cases hk; exact law_c31 hG hc hlen hi hC next
      | 32, hk, hx => cases hk; exact law_c32 hG hc hlen hi hC next
      | 33, hk, hx => cases hk; exact law_c33 hG hc hlen hi hC next
      | 34, hk, hx => cases hk; exact law_c34 hG hc hlen hi hC next
      | 35, hk, hx => cases hk; exact law_c35 hG hc hlen hi hC next
      | 36, hk, hx => cases hk; exact law_c36 hG hc hlen hi hC next
      | 37, hk, hx => cases hk; exact law_c37 hG hc hlen hi hC next
      | 38, hk, hx => cases hk; exact law_c38 hG hc hlen hi hC next
      | 39, hk, hx => cases hk; exact law_c39 hG hc hlen hi hC next
      | 40, hk, hx => cases hk; exact law_c40 hG hc hlen hi hC next
      | 41, hk, hx => cases hk; exact law_c41 hG hc hlen hi hC next
      | 42, hk, hx => cases hk; exact law_c42 hG hc hlen hi hC next
      | 43, hk, hx => cases hk; exact law_c43 hG hc hlen hi hC next
      | k + 44, hk, hx => cases hk
    · intro _
      exact next σ hC
end
