/-! a Valley of the class against the row f of the reference -/
theorem allB_snoc (P : Nat → Bool) : ∀ (n i : Nat), allB P i (n + 1) = (allB P i n && P (i + n))
  | 0, i => by simp [allB]
  | n + 1, i => by rw [allB, allB_snoc P n (i + 1), allB, Bool.and_assoc, show i + 1 + n = i + (n + 1) by omega]
theorem sumB_snoc (P : Nat → Bool) : ∀ (n i : Nat), sumB P i (n + 1) = sumB P i n + (if P (i + n) then 1 else 0)
  | 0, i => by simp [sumB]
  | n + 1, i => by
    rw [sumB, sumB_snoc P n (i + 1), sumB, show i + 1 + n = i + (n + 1) by omega]; omega
def nwB (x : Int32) (w : Nat) : Bool := decide (¬ (x >>> (nI w &&& 31)) &&& 1 = 0)
def RV (σ : Sg) (b : Nat) (f : Nat → Int32) (n c t : Nat) : Prop :=
  (σ b 4 = nI n ∧ σ b 7 = nI c ∧ σ b 8 = f 3 ∧ σ b 9 = f 2 ∧ σ b 10 = f 0 ∧ σ b 11 = nI t) ∧
  (∀ w, w < 8 → nwB (σ b 13) w = nearT f t (wyIx w)) ∧
  (∀ p, p < n → σ (b + 1) p = f (18 + 4 * p) ∧ σ (b + 2) p = f (18 + 4 * p + 1) ∧ σ (b + 3) p = f (18 + 4 * p + 2) ∧ σ (b + 4) p = f (18 + 4 * p + 3)) ∧
  (∀ i, i < c → σ (b + 5) i = f (6 + 2 * i) ∧ σ (b + 6) i = f (6 + 2 * i + 1)) ∧
  (∀ k, k < 3 → σ (b + 7) k = optN (-1000000005) (cntO f (nI k) t))
section
variable {σ σ' : Sg} {b n c t : Nat} {f g : Nat → Int32}
theorem RV.pn (h : RV σ b f n c t) : σ b 4 = nI n := h.1.1
theorem RV.cn (h : RV σ b f n c t) : σ b 7 = nI c := h.1.2.1
theorem RV.tm (h : RV σ b f n c t) : σ b 8 = f 3 := h.1.2.2.1
theorem RV.y (h : RV σ b f n c t) : σ b 9 = f 2 := h.1.2.2.2.1
theorem RV.z (h : RV σ b f n c t) : σ b 10 = f 0 := h.1.2.2.2.2.1
theorem RV.tn (h : RV σ b f n c t) : σ b 11 = nI t := h.1.2.2.2.2.2
theorem RV.w (h : RV σ b f n c t) {w : Nat} (hw : w < 8) : nwB (σ b 13) w = nearT f t (wyIx w) := h.2.1 w hw
theorem RV.kd (h : RV σ b f n c t) {p : Nat} (hp : p < n) : σ (b + 1) p = f (18 + 4 * p) := (h.2.2.1 p hp).1
theorem RV.nm (h : RV σ b f n c t) {p : Nat} (hp : p < n) : σ (b + 2) p = f (18 + 4 * p + 1) := (h.2.2.1 p hp).2.1
theorem RV.bn (h : RV σ b f n c t) {p : Nat} (hp : p < n) : σ (b + 3) p = f (18 + 4 * p + 2) := (h.2.2.1 p hp).2.2.1
theorem RV.dd (h : RV σ b f n c t) {p : Nat} (hp : p < n) : σ (b + 4) p = f (18 + 4 * p + 3) := (h.2.2.1 p hp).2.2.2
theorem RV.c1 (h : RV σ b f n c t) {i : Nat} (hi : i < c) : σ (b + 5) i = f (6 + 2 * i) := (h.2.2.2.1 i hi).1
theorem RV.c2 (h : RV σ b f n c t) {i : Nat} (hi : i < c) : σ (b + 6) i = f (6 + 2 * i + 1) := (h.2.2.2.1 i hi).2
theorem RV.ct (h : RV σ b f n c t) {k : Nat} (hk : k < 3) : σ (b + 7) k = optN (-1000000005) (cntO f (nI k) t) := h.2.2.2.2 k hk
/-- only the gathered names have changed -/
def Hm (b : Nat) (σ σ' : Sg) : Prop := Sm [b, b + 8] σ σ' ∧ ∀ j, j ≠ 15 → σ' b j = σ b j
theorem Hm.rf : Hm b σ σ := ⟨Sm.rf, fun _ _ => rfl⟩
theorem Hm.tr {σ'' : Sg} (h : Hm b σ σ') (h2 : Hm b σ' σ'') : Hm b σ σ'' := ⟨h.1.tr h2.1, fun j hj => (h2.2 j hj).trans (h.2 j hj)⟩
theorem RV.hm (h : RV σ b f n c t) (hh : Hm b σ σ') : RV σ' b f n c t := by
  have e : ∀ k, 1 ≤ k → k ≤ 7 → σ' (b + k) = σ (b + k) := fun k h1 h2 => hh.1 _ (by simp; omega)
  refine ⟨⟨?_, ?_, ?_, ?_, ?_, ?_⟩, ?_, ?_, ?_, ?_⟩
  · rw [hh.2 4 (by omega)]; exact h.pn
  · rw [hh.2 7 (by omega)]; exact h.cn
  · rw [hh.2 8 (by omega)]; exact h.tm
  · rw [hh.2 9 (by omega)]; exact h.y
  · rw [hh.2 10 (by omega)]; exact h.z
  · rw [hh.2 11 (by omega)]; exact h.tn
  · rw [hh.2 13 (by omega)]; exact h.2.1
  · rw [e 1 (by omega) (by omega), e 2 (by omega) (by omega), e 3 (by omega) (by omega), e 4 (by omega) (by omega)]; exact h.2.2.1
  · rw [e 5 (by omega) (by omega), e 6 (by omega) (by omega)]; exact h.2.2.2.1
  · rw [e 7 (by omega) (by omega)]; exact h.2.2.2.2
theorem RV.sm {cs : List Nat} (h : RV σ b f n c t) (hh : Sm cs σ σ') (hc : ∀ k, k ≤ 7 → b + k ∉ cs) : RV σ' b f n c t := by
  have e : ∀ k, k ≤ 7 → σ' (b + k) = σ (b + k) := fun k h1 => hh _ (hc k h1)
  have e0 : σ' b = σ b := e 0 (by omega)
  refine ⟨?_, ?_, ?_, ?_, ?_⟩
  · rw [e0]; exact h.1
  · rw [e0]; exact h.2.1
  · rw [e 1 (by omega), e 2 (by omega), e 3 (by omega), e 4 (by omega)]; exact h.2.2.1
  · rw [e 5 (by omega), e 6 (by omega)]; exact h.2.2.2.1
  · rw [e 7 (by omega)]; exact h.2.2.2.2
def GH (σ : Sg) (b : Nat) (f : Nat → Int32) (n : Nat) (y : Int32) : Prop := ∃ m, m ≤ 10 ∧ σ b 15 = nI m ∧ ∀ (g : Nat → Bool) (nm : Int32), allB (fun j => !g (nrIx nm (σ (b + 8) j))) 0 m = freeG g f n nm y
end
section
variable {l : Launch} {θ : Th} {σ : Sg} {n c t : Nat} {f : Nat → Int32}
theorem c_V_isAlive32 (p : Nat) (hp : p < n) (hn : n ≤ 10) (hV : RV σ 32 f n c t) : Ci l θ 1 m_V_isAlive [.inr 32, .inl (nI p)] σ (fun r σ' => σ' = σ ∧ r = bi (aliveF f p)) := by
  have e : aliveF f p = decide (σ 36 p = -1000000005) := by rw [aliveF, ← hV.dd hp]
  refine Ci.of (Or.inl mi_V_isAlive) pk_V_isAlive (nb rfl) (Or.inr rfl) [some (.inr 32), some (.inl (nI p))] rfl fun Γ hG hR => ?_
  rw [e] at hR
  refine hG.ld rfl p rfl rfl rfl rfl rfl (by omega) ?_
  refine hG.br rfl rfl rfl rfl (fun h1 => ?_) (fun h1 => ?_)
  · refine hG.rz hR rfl rfl rfl rfl (Or.inl rfl) ?_
    exact ⟨rfl, by rw [decide_eq_false h1]; rfl⟩
  · refine hG.rz hR rfl rfl rfl rfl (Or.inr rfl) ?_
    exact ⟨rfl, by rw [decide_eq_true h1]; rfl⟩
theorem c_V_holdsIn32 (p : Nat) (y : Int32) (hp : p < n) (hn : n ≤ 10) (hV : RV σ 32 f n c t) : Ci l θ 2 m_V_holdsIn [.inr 32, .inl (nI p), .inl y] σ (fun r σ' => σ' = σ ∧ r = bi (holdF f p y)) := by
  have e : holdF f p y = holdC (σ 33 p) (σ 35 p) (σ 36 p) (σ 32 8) y := by rw [holdF_C, ← hV.kd hp, ← hV.bn hp, ← hV.dd hp, ← hV.tm]
  refine Ci.of (Or.inl mi_V_holdsIn) pk_V_holdsIn (nb rfl) (Or.inr rfl) [some (.inr 32), some (.inl (nI p)), some (.inl y)] rfl fun Γ hG hR => ?_
  rw [e] at hR
  refine hG.ld rfl p rfl rfl rfl rfl rfl (by omega) ?_
  refine hG.ld rfl p rfl rfl rfl rfl rfl (by omega) ?_
  refine hG.ld rfl p rfl rfl rfl rfl rfl (by omega) ?_
  refine hG.cS lk_V_82 mi_K_holdsIn rfl rfl (c_K_holdsIn (σ 33 p) (σ 35 p) (σ 36 p) (σ 32 8) y) rfl rfl rfl rfl rfl rfl ?_
  rintro x σ' ⟨rfl, rfl⟩
  refine hG.rz hR rfl rfl rfl rfl (bi_01 _) ?_
  exact ⟨rfl, rfl⟩
theorem c_V_areNear32 (a b : Int32) (hV : RV σ 32 f n c t) : Ci l θ 2 m_V_areNear [.inr 32, .inl a, .inl b] σ (fun r σ' => σ' = σ ∧ r = bi (nearT f t (nrIx a b))) := by
  have e : nearT f t (nrIx a b) = nwB (σ 32 13) (alN a b) := by rw [alN_ix, hV.w (alN_lt a b)]
  refine Ci.of (Or.inl mi_V_areNear) pk_V_areNear (nb rfl) (Or.inr rfl) [some (.inr 32), some (.inl a), some (.inl b)] rfl fun Γ hG hR => ?_
  rw [e] at hR
  refine hG.cS lk_V_86 mi_E_alike rfl rfl (c_E_alike a b) rfl rfl rfl rfl rfl rfl ?_
  rintro x σ' ⟨rfl, rfl⟩
  refine hG.br rfl rfl rfl rfl (fun h1 => ?_) (fun h1 => ?_)
  · refine hG.rz hR rfl rfl rfl rfl (Or.inl rfl) ?_
    exact ⟨rfl, by rw [nwB, decide_eq_false (fun h => h h1)]; rfl⟩
  · refine hG.rz hR rfl rfl rfl rfl (Or.inr rfl) ?_
    exact ⟨rfl, by rw [nwB, decide_eq_true h1]; rfl⟩
theorem c_V_gatherHeld32 (y : Int32) (hn : n ≤ 10) (hV : RV σ 32 f n c t) : Cv l θ 3 m_V_gatherHeld [.inr 32, .inl y] σ (fun σ' => Hm 32 σ σ' ∧ GH σ' 32 f n y) := by
  refine Cv.of (Or.inl mi_V_gatherHeld) pk_V_gatherHeld (nb rfl) rfl [some (.inr 32), some (.inl y), none] rfl fun Γ hG hR => ?_
  have loop : ∀ k i, i + k = n → ∀ (τ : Sg) (m : Nat), Hm 32 σ τ → m ≤ i → τ 32 15 = nI m → (∀ (g : Nat → Bool) (nm : Int32), allB (fun j => !g (nrIx nm (τ 40 j))) 0 m = freeG g f i nm y) → X Γ 7 [some (.inr 32), some (.inl y), some (.inl (nI i))] [] τ := by
    intro k
    induction k with
    | zero =>
      intro i hi τ m hH hm h15 hg
      have hi : i = n := by omega
      subst hi
      have hV' := hV.hm hH
      refine hG.br rfl rfl rfl rfl (fun h1 => ?_) (fun h1 => ?_)
      · refine hG.rv hR rfl rfl rfl ?_
        exact ⟨hH, m, by omega, h15, hg⟩
      · rw [hV'.pn] at h1
        exact absurd (nI_le (Nat.le_refl i) (by omega)) h1
    | succ k ih =>
      intro i hi τ m hH hm h15 hg
      have hV' := hV.hm hH
      refine hG.br rfl rfl rfl rfl (fun h1 => ?_) (fun h1 => ?_)
      · rw [hV'.pn] at h1
        exact absurd h1 (nI_ge (by omega) (by omega))
      · refine hG.cV lk_V_93 mi_V_holdsIn rfl rfl (c_V_holdsIn32 i y (by omega) hn hV') rfl rfl rfl rfl rfl rfl rfl rfl ?_
        rintro x τ' ⟨rfl, rfl⟩
        have es : ∀ (g : Nat → Bool) (nm : Int32), freeG g f (i + 1) nm y = (freeG g f i nm y && !(g (nrIx nm (f (18 + 4 * i + 1))) && holdF f i y)) := by
          intro g nm
          rw [freeG, allB_snoc, Nat.zero_add, freeG]
        refine hG.br rfl rfl rfl rfl (fun h2 => ?_) (fun h2 => ?_)
        · refine hG.jp rfl rfl rfl ?_
          rw [nI_1]
          refine ih (i + 1) (by omega) _ m hH (by omega) h15 (fun g nm => ?_)
          rw [hg, es, bi_eq0.mp h2, Bool.and_false]; simp
        · refine hG.ld rfl i rfl rfl rfl rfl rfl (by omega) ?_
          refine hG.sti rfl m rfl rfl rfl h15 (by omega) ?_
          refine hG.jp rfl rfl rfl ?_
          rw [nI_1]
          refine ih (i + 1) (by omega) _ (m + 1) ?_ (by omega) ?_ (fun g nm => ?_)
          · refine ⟨(hH.1.up (by decide)).up (by decide), fun j hj => ?_⟩
            rw [up_j _ _ _ _ hj, up_c _ _ _ _ (by decide)]
            exact hH.2 j hj
          · rw [up_self, up_c _ _ _ _ (by decide), h15, nI_1]
          · rw [allB_snoc, Nat.zero_add, es, up_c _ _ _ _ (by decide), up_self, hV'.nm (by omega), bi_ne0.mp h2, Bool.and_true, ← hg]
            congr 1
            refine allB_congr m 0 (fun k _ hk => ?_)
            rw [up_j _ _ _ _ (by omega)]
  refine hG.go 5 rfl rfl ?_
  refine loop n 0 (by omega) _ 0 ⟨Sm.rf.up (by decide), fun j hj => up_j _ _ _ _ hj⟩ (by omega) (up_self _ _ _ _) (fun g nm => rfl)
theorem c_V_isClear32 (nm y : Int32) (hV : RV σ 32 f n c t) (hg : GH σ 32 f n y) : Ci l θ 3 m_V_isClear [.inr 32, .inl nm] σ (fun r σ' => σ' = σ ∧ r = bi (freeG (nearT f t) f n nm y)) := by
  obtain ⟨m, hm, h15, hg⟩ := hg
  have e := hg (nearT f t) nm
  refine Ci.of (Or.inl mi_V_isClear) pk_V_isClear (nb rfl) (Or.inr rfl) [some (.inr 32), some (.inl nm), none] rfl fun Γ hG hR => ?_
  rw [← e] at hR
  have loop : ∀ k i, i + k = m → allB (fun j => !nearT f t (nrIx nm (σ 40 j))) 0 m = allB (fun j => !nearT f t (nrIx nm (σ 40 j))) i k → X Γ 2 [some (.inr 32), some (.inl nm), some (.inl (nI i))] [] σ := by
    intro k
    induction k with
    | zero =>
      intro i hi ha
      have hi : i = m := by omega
      subst hi
      rw [ha] at hR
      refine hG.br rfl rfl rfl rfl (fun h1 => ?_) (fun h1 => ?_)
      · refine hG.rz hR rfl rfl rfl rfl (Or.inr rfl) ?_
        exact ⟨rfl, rfl⟩
      · rw [h15] at h1
        exact absurd (nI_le (Nat.le_refl i) (by omega)) h1
    | succ k ih =>
      intro i hi ha
      refine hG.br rfl rfl rfl rfl (fun h1 => ?_) (fun h1 => ?_)
      · rw [h15] at h1
        exact absurd h1 (nI_ge (by omega) (by omega))
      · refine hG.ld rfl i rfl rfl rfl rfl rfl (by omega) ?_
        refine hG.cV lk_V_96 mi_V_areNear rfl rfl (c_V_areNear32 nm (σ 40 i) hV) rfl rfl rfl rfl rfl rfl rfl rfl ?_
        rintro x σ' ⟨rfl, rfl⟩
        refine hG.br rfl rfl rfl rfl (fun h2 => ?_) (fun h2 => ?_)
        · refine hG.jp rfl rfl rfl ?_
          rw [nI_1]
          refine ih (i + 1) (by omega) ?_
          rw [ha, allB, bi_eq0.mp h2]; rfl
        · rw [ha] at hR
          refine hG.rz hR rfl rfl rfl rfl (Or.inl rfl) ?_
          exact ⟨rfl, by rw [allB, bi_ne0.mp h2]; rfl⟩
  exact hG.go 2 rfl rfl (loop m 0 (by omega) rfl)
theorem c_V_countAlive32 (hn : n ≤ 10) (hV : RV σ 32 f n c t) : Ci l θ 2 m_V_countAlive [.inr 32] σ (fun r σ' => σ' = σ ∧ r = nI (sumB (aliveF f) 0 n)) := by
  refine Ci.of (Or.inl mi_V_countAlive) pk_V_countAlive (nb rfl) (Or.inl rfl) [some (.inr 32), none, none] rfl fun Γ hG hR => ?_
  have loop : ∀ k i, i + k = n → X Γ 4 [some (.inr 32), some (.inl (nI (sumB (aliveF f) 0 i))), some (.inl (nI i))] [] σ := by
    intro k
    induction k with
    | zero =>
      intro i hi
      have hi : i = n := by omega
      subst hi
      refine hG.br rfl rfl rfl rfl (fun h1 => ?_) (fun h1 => ?_)
      · refine hG.rt hR rfl rfl rfl rfl ?_
        exact ⟨rfl, rfl⟩
      · rw [hV.pn] at h1
        exact absurd (nI_le (Nat.le_refl i) (by omega)) h1
    | succ k ih =>
      intro i hi
      refine hG.br rfl rfl rfl rfl (fun h1 => ?_) (fun h1 => ?_)
      · rw [hV.pn] at h1
        exact absurd h1 (nI_ge (by omega) (by omega))
      · refine hG.cV lk_V_78 mi_V_isAlive rfl rfl (c_V_isAlive32 i (by omega) hn hV) rfl rfl rfl rfl rfl rfl rfl rfl ?_
        rintro x τ' ⟨rfl, rfl⟩
        have := ih (i + 1) (by omega)
        rw [sumB_snoc, Nat.zero_add] at this
        refine hG.br rfl rfl rfl rfl (fun h2 => ?_) (fun h2 => ?_)
        · refine hG.jp rfl rfl rfl ?_
          rw [nI_1]
          rw [bi_eq0.mp h2] at this
          exact this
        · refine hG.jp rfl rfl rfl ?_
          rw [nI_1, nI_1]
          rw [bi_ne0.mp h2] at this
          exact this
  exact hG.go 4 rfl rfl (loop n 0 (by omega))
theorem c_V_countFree32 (hn : n ≤ 10) (hV : RV σ 32 f n c t) : Ci l θ 4 m_V_countFree [.inr 32] σ (fun r σ' => Hm 32 σ σ' ∧ r = manyF f n t) := by
  refine Ci.of (Or.inl mi_V_countFree) pk_V_countFree (nb rfl) (Or.inl rfl) [some (.inr 32), none, none] rfl fun Γ hG hR => ?_
  refine hG.cVv lk_V_99 mi_V_gatherHeld rfl rfl (c_V_gatherHeld32 (σ 32 9) hn hV) rfl rfl rfl rfl rfl rfl rfl rfl ?_
  rintro τ ⟨hH, hg⟩
  have hV' := hV.hm hH
  rw [hV.y] at hg
  have loop : ∀ k i, i + k = 125 → X Γ 12 [some (.inr 32), some (.inl (nI (sumB (fun k => freeG (nearT f t) f n (nI k) (f 2)) 0 i))), some (.inl (nI i))] [] τ := by
    intro k
    induction k with
    | zero =>
      intro i hi
      have hi : i = 125 := by omega
      subst hi
      refine hG.br rfl rfl rfl rfl (fun h1 => ?_) (fun h1 => ?_)
      · refine hG.rt hR rfl rfl rfl rfl ?_
        exact ⟨hH, rfl⟩
      · exact absurd (show nI 125 ≤ nI 125 from nI_le (Nat.le_refl 125) (by omega)) h1
    | succ k ih =>
      intro i hi
      refine hG.br rfl rfl rfl rfl (fun h1 => ?_) (fun h1 => ?_)
      · exact absurd (show nI 125 ≤ nI i from h1) (nI_ge (by omega) (by omega))
      · refine hG.cV lk_V_103 mi_V_isClear rfl rfl (c_V_isClear32 (nI i) (f 2) hV' hg) rfl rfl rfl rfl rfl rfl rfl rfl ?_
        rintro x τ' ⟨rfl, rfl⟩
        have := ih (i + 1) (by omega)
        rw [sumB_snoc, Nat.zero_add] at this
        refine hG.br rfl rfl rfl rfl (fun h2 => ?_) (fun h2 => ?_)
        · refine hG.jp rfl rfl rfl ?_
          rw [nI_1]
          rw [bi_eq0.mp h2] at this
          exact this
        · refine hG.jp rfl rfl rfl ?_
          rw [nI_1, nI_1]
          rw [bi_ne0.mp h2] at this
          exact this
  exact hG.go 4 rfl rfl (loop 125 0 (by omega))
theorem c_V_leastFree32 (hn : n ≤ 10) (hV : RV σ 32 f n c t) : Ci l θ 4 m_V_leastFree [.inr 32] σ (fun r σ' => Hm 32 σ σ' ∧ r = leastF f n t) := by
  refine Ci.of (Or.inl mi_V_leastFree) pk_V_leastFree (nb rfl) (Or.inl rfl) [some (.inr 32), none] rfl fun Γ hG hR => ?_
  refine hG.cVv lk_V_99 mi_V_gatherHeld rfl rfl (c_V_gatherHeld32 (σ 32 9) hn hV) rfl rfl rfl rfl rfl rfl rfl rfl ?_
  rintro τ ⟨hH, hg⟩
  have hV' := hV.hm hH
  rw [hV.y] at hg
  have loop : ∀ k i, i + k = 125 → leastF f n t = optN (-1000000005) (fndB (fun k => freeG (nearT f t) f n (nI k) (f 2)) i k) → X Γ 10 [some (.inr 32), some (.inl (nI i))] [] τ := by
    intro k
    induction k with
    | zero =>
      intro i hi ha
      have hi : i = 125 := by omega
      subst hi
      refine hG.br rfl rfl rfl rfl (fun h1 => ?_) (fun h1 => ?_)
      · refine hG.rt hR rfl rfl rfl rfl ?_
        exact ⟨hH, ha.symm⟩
      · exact absurd (show nI 125 ≤ nI 125 from nI_le (Nat.le_refl 125) (by omega)) h1
    | succ k ih =>
      intro i hi ha
      refine hG.br rfl rfl rfl rfl (fun h1 => ?_) (fun h1 => ?_)
      · exact absurd (show nI 125 ≤ nI i from h1) (nI_ge (by omega) (by omega))
      · refine hG.cV lk_V_103 mi_V_isClear rfl rfl (c_V_isClear32 (nI i) (f 2) hV' hg) rfl rfl rfl rfl rfl rfl rfl rfl ?_
        rintro x τ' ⟨rfl, rfl⟩
        rw [fndB] at ha
        refine hG.br rfl rfl rfl rfl (fun h2 => ?_) (fun h2 => ?_)
        · refine hG.jp rfl rfl rfl ?_
          rw [nI_1]
          rw [bi_eq0.mp h2] at ha
          exact ih (i + 1) (by omega) ha
        · refine hG.rt hR rfl rfl rfl rfl ?_
          rw [bi_ne0.mp h2] at ha
          exact ⟨hH, ha.symm⟩
  exact hG.go 2 rfl rfl (loop 125 0 (by omega) rfl)
theorem c_V_isAlive50 (p : Nat) (hp : p < n) (hn : n ≤ 10) (hV : RV σ 50 f n c t) : Ci l θ 1 m_V_isAlive [.inr 50, .inl (nI p)] σ (fun r σ' => σ' = σ ∧ r = bi (aliveF f p)) := by
  have e : aliveF f p = decide (σ 54 p = -1000000005) := by rw [aliveF, ← hV.dd hp]
  refine Ci.of (Or.inl mi_V_isAlive) pk_V_isAlive (nb rfl) (Or.inr rfl) [some (.inr 50), some (.inl (nI p))] rfl fun Γ hG hR => ?_
  rw [e] at hR
  refine hG.ld rfl p rfl rfl rfl rfl rfl (by omega) ?_
  refine hG.br rfl rfl rfl rfl (fun h1 => ?_) (fun h1 => ?_)
  · refine hG.rz hR rfl rfl rfl rfl (Or.inl rfl) ?_
    exact ⟨rfl, by rw [decide_eq_false h1]; rfl⟩
  · refine hG.rz hR rfl rfl rfl rfl (Or.inr rfl) ?_
    exact ⟨rfl, by rw [decide_eq_true h1]; rfl⟩
theorem c_V_holdsIn50 (p : Nat) (y : Int32) (hp : p < n) (hn : n ≤ 10) (hV : RV σ 50 f n c t) : Ci l θ 2 m_V_holdsIn [.inr 50, .inl (nI p), .inl y] σ (fun r σ' => σ' = σ ∧ r = bi (holdF f p y)) := by
  have e : holdF f p y = holdC (σ 51 p) (σ 53 p) (σ 54 p) (σ 50 8) y := by rw [holdF_C, ← hV.kd hp, ← hV.bn hp, ← hV.dd hp, ← hV.tm]
  refine Ci.of (Or.inl mi_V_holdsIn) pk_V_holdsIn (nb rfl) (Or.inr rfl) [some (.inr 50), some (.inl (nI p)), some (.inl y)] rfl fun Γ hG hR => ?_
  rw [e] at hR
  refine hG.ld rfl p rfl rfl rfl rfl rfl (by omega) ?_
  refine hG.ld rfl p rfl rfl rfl rfl rfl (by omega) ?_
  refine hG.ld rfl p rfl rfl rfl rfl rfl (by omega) ?_
  refine hG.cS lk_V_82 mi_K_holdsIn rfl rfl (c_K_holdsIn (σ 51 p) (σ 53 p) (σ 54 p) (σ 50 8) y) rfl rfl rfl rfl rfl rfl ?_
  rintro x σ' ⟨rfl, rfl⟩
  refine hG.rz hR rfl rfl rfl rfl (bi_01 _) ?_
  exact ⟨rfl, rfl⟩
theorem c_V_areNear50 (a b : Int32) (hV : RV σ 50 f n c t) : Ci l θ 2 m_V_areNear [.inr 50, .inl a, .inl b] σ (fun r σ' => σ' = σ ∧ r = bi (nearT f t (nrIx a b))) := by
  have e : nearT f t (nrIx a b) = nwB (σ 50 13) (alN a b) := by rw [alN_ix, hV.w (alN_lt a b)]
  refine Ci.of (Or.inl mi_V_areNear) pk_V_areNear (nb rfl) (Or.inr rfl) [some (.inr 50), some (.inl a), some (.inl b)] rfl fun Γ hG hR => ?_
  rw [e] at hR
  refine hG.cS lk_V_86 mi_E_alike rfl rfl (c_E_alike a b) rfl rfl rfl rfl rfl rfl ?_
  rintro x σ' ⟨rfl, rfl⟩
  refine hG.br rfl rfl rfl rfl (fun h1 => ?_) (fun h1 => ?_)
  · refine hG.rz hR rfl rfl rfl rfl (Or.inl rfl) ?_
    exact ⟨rfl, by rw [nwB, decide_eq_false (fun h => h h1)]; rfl⟩
  · refine hG.rz hR rfl rfl rfl rfl (Or.inr rfl) ?_
    exact ⟨rfl, by rw [nwB, decide_eq_true h1]; rfl⟩
theorem c_V_gatherHeld50 (y : Int32) (hn : n ≤ 10) (hV : RV σ 50 f n c t) : Cv l θ 3 m_V_gatherHeld [.inr 50, .inl y] σ (fun σ' => Hm 50 σ σ' ∧ GH σ' 50 f n y) := by
  refine Cv.of (Or.inl mi_V_gatherHeld) pk_V_gatherHeld (nb rfl) rfl [some (.inr 50), some (.inl y), none] rfl fun Γ hG hR => ?_
  have loop : ∀ k i, i + k = n → ∀ (τ : Sg) (m : Nat), Hm 50 σ τ → m ≤ i → τ 50 15 = nI m → (∀ (g : Nat → Bool) (nm : Int32), allB (fun j => !g (nrIx nm (τ 58 j))) 0 m = freeG g f i nm y) → X Γ 7 [some (.inr 50), some (.inl y), some (.inl (nI i))] [] τ := by
    intro k
    induction k with
    | zero =>
      intro i hi τ m hH hm h15 hg
      have hi : i = n := by omega
      subst hi
      have hV' := hV.hm hH
      refine hG.br rfl rfl rfl rfl (fun h1 => ?_) (fun h1 => ?_)
      · refine hG.rv hR rfl rfl rfl ?_
        exact ⟨hH, m, by omega, h15, hg⟩
      · rw [hV'.pn] at h1
        exact absurd (nI_le (Nat.le_refl i) (by omega)) h1
    | succ k ih =>
      intro i hi τ m hH hm h15 hg
      have hV' := hV.hm hH
      refine hG.br rfl rfl rfl rfl (fun h1 => ?_) (fun h1 => ?_)
      · rw [hV'.pn] at h1
        exact absurd h1 (nI_ge (by omega) (by omega))
      · refine hG.cV lk_V_93 mi_V_holdsIn rfl rfl (c_V_holdsIn50 i y (by omega) hn hV') rfl rfl rfl rfl rfl rfl rfl rfl ?_
        rintro x τ' ⟨rfl, rfl⟩
        have es : ∀ (g : Nat → Bool) (nm : Int32), freeG g f (i + 1) nm y = (freeG g f i nm y && !(g (nrIx nm (f (18 + 4 * i + 1))) && holdF f i y)) := by
          intro g nm
          rw [freeG, allB_snoc, Nat.zero_add, freeG]
        refine hG.br rfl rfl rfl rfl (fun h2 => ?_) (fun h2 => ?_)
        · refine hG.jp rfl rfl rfl ?_
          rw [nI_1]
          refine ih (i + 1) (by omega) _ m hH (by omega) h15 (fun g nm => ?_)
          rw [hg, es, bi_eq0.mp h2, Bool.and_false]; simp
        · refine hG.ld rfl i rfl rfl rfl rfl rfl (by omega) ?_
          refine hG.sti rfl m rfl rfl rfl h15 (by omega) ?_
          refine hG.jp rfl rfl rfl ?_
          rw [nI_1]
          refine ih (i + 1) (by omega) _ (m + 1) ?_ (by omega) ?_ (fun g nm => ?_)
          · refine ⟨(hH.1.up (by decide)).up (by decide), fun j hj => ?_⟩
            rw [up_j _ _ _ _ hj, up_c _ _ _ _ (by decide)]
            exact hH.2 j hj
          · rw [up_self, up_c _ _ _ _ (by decide), h15, nI_1]
          · rw [allB_snoc, Nat.zero_add, es, up_c _ _ _ _ (by decide), up_self, hV'.nm (by omega), bi_ne0.mp h2, Bool.and_true, ← hg]
            congr 1
            refine allB_congr m 0 (fun k _ hk => ?_)
            rw [up_j _ _ _ _ (by omega)]
  refine hG.go 5 rfl rfl ?_
  refine loop n 0 (by omega) _ 0 ⟨Sm.rf.up (by decide), fun j hj => up_j _ _ _ _ hj⟩ (by omega) (up_self _ _ _ _) (fun g nm => rfl)
theorem c_V_isClear50 (nm y : Int32) (hV : RV σ 50 f n c t) (hg : GH σ 50 f n y) : Ci l θ 3 m_V_isClear [.inr 50, .inl nm] σ (fun r σ' => σ' = σ ∧ r = bi (freeG (nearT f t) f n nm y)) := by
  obtain ⟨m, hm, h15, hg⟩ := hg
  have e := hg (nearT f t) nm
  refine Ci.of (Or.inl mi_V_isClear) pk_V_isClear (nb rfl) (Or.inr rfl) [some (.inr 50), some (.inl nm), none] rfl fun Γ hG hR => ?_
  rw [← e] at hR
  have loop : ∀ k i, i + k = m → allB (fun j => !nearT f t (nrIx nm (σ 58 j))) 0 m = allB (fun j => !nearT f t (nrIx nm (σ 58 j))) i k → X Γ 2 [some (.inr 50), some (.inl nm), some (.inl (nI i))] [] σ := by
    intro k
    induction k with
    | zero =>
      intro i hi ha
      have hi : i = m := by omega
      subst hi
      rw [ha] at hR
      refine hG.br rfl rfl rfl rfl (fun h1 => ?_) (fun h1 => ?_)
      · refine hG.rz hR rfl rfl rfl rfl (Or.inr rfl) ?_
        exact ⟨rfl, rfl⟩
      · rw [h15] at h1
        exact absurd (nI_le (Nat.le_refl i) (by omega)) h1
    | succ k ih =>
      intro i hi ha
      refine hG.br rfl rfl rfl rfl (fun h1 => ?_) (fun h1 => ?_)
      · rw [h15] at h1
        exact absurd h1 (nI_ge (by omega) (by omega))
      · refine hG.ld rfl i rfl rfl rfl rfl rfl (by omega) ?_
        refine hG.cV lk_V_96 mi_V_areNear rfl rfl (c_V_areNear50 nm (σ 58 i) hV) rfl rfl rfl rfl rfl rfl rfl rfl ?_
        rintro x σ' ⟨rfl, rfl⟩
        refine hG.br rfl rfl rfl rfl (fun h2 => ?_) (fun h2 => ?_)
        · refine hG.jp rfl rfl rfl ?_
          rw [nI_1]
          refine ih (i + 1) (by omega) ?_
          rw [ha, allB, bi_eq0.mp h2]; rfl
        · rw [ha] at hR
          refine hG.rz hR rfl rfl rfl rfl (Or.inl rfl) ?_
          exact ⟨rfl, by rw [allB, bi_ne0.mp h2]; rfl⟩
  exact hG.go 2 rfl rfl (loop m 0 (by omega) rfl)
theorem c_V_countAlive50 (hn : n ≤ 10) (hV : RV σ 50 f n c t) : Ci l θ 2 m_V_countAlive [.inr 50] σ (fun r σ' => σ' = σ ∧ r = nI (sumB (aliveF f) 0 n)) := by
  refine Ci.of (Or.inl mi_V_countAlive) pk_V_countAlive (nb rfl) (Or.inl rfl) [some (.inr 50), none, none] rfl fun Γ hG hR => ?_
  have loop : ∀ k i, i + k = n → X Γ 4 [some (.inr 50), some (.inl (nI (sumB (aliveF f) 0 i))), some (.inl (nI i))] [] σ := by
    intro k
    induction k with
    | zero =>
      intro i hi
      have hi : i = n := by omega
      subst hi
      refine hG.br rfl rfl rfl rfl (fun h1 => ?_) (fun h1 => ?_)
      · refine hG.rt hR rfl rfl rfl rfl ?_
        exact ⟨rfl, rfl⟩
      · rw [hV.pn] at h1
        exact absurd (nI_le (Nat.le_refl i) (by omega)) h1
    | succ k ih =>
      intro i hi
      refine hG.br rfl rfl rfl rfl (fun h1 => ?_) (fun h1 => ?_)
      · rw [hV.pn] at h1
        exact absurd h1 (nI_ge (by omega) (by omega))
      · refine hG.cV lk_V_78 mi_V_isAlive rfl rfl (c_V_isAlive50 i (by omega) hn hV) rfl rfl rfl rfl rfl rfl rfl rfl ?_
        rintro x τ' ⟨rfl, rfl⟩
        have := ih (i + 1) (by omega)
        rw [sumB_snoc, Nat.zero_add] at this
        refine hG.br rfl rfl rfl rfl (fun h2 => ?_) (fun h2 => ?_)
        · refine hG.jp rfl rfl rfl ?_
          rw [nI_1]
          rw [bi_eq0.mp h2] at this
          exact this
        · refine hG.jp rfl rfl rfl ?_
          rw [nI_1, nI_1]
          rw [bi_ne0.mp h2] at this
          exact this
  exact hG.go 4 rfl rfl (loop n 0 (by omega))
theorem c_V_countFree50 (hn : n ≤ 10) (hV : RV σ 50 f n c t) : Ci l θ 4 m_V_countFree [.inr 50] σ (fun r σ' => Hm 50 σ σ' ∧ r = manyF f n t) := by
  refine Ci.of (Or.inl mi_V_countFree) pk_V_countFree (nb rfl) (Or.inl rfl) [some (.inr 50), none, none] rfl fun Γ hG hR => ?_
  refine hG.cVv lk_V_99 mi_V_gatherHeld rfl rfl (c_V_gatherHeld50 (σ 50 9) hn hV) rfl rfl rfl rfl rfl rfl rfl rfl ?_
  rintro τ ⟨hH, hg⟩
  have hV' := hV.hm hH
  rw [hV.y] at hg
  have loop : ∀ k i, i + k = 125 → X Γ 12 [some (.inr 50), some (.inl (nI (sumB (fun k => freeG (nearT f t) f n (nI k) (f 2)) 0 i))), some (.inl (nI i))] [] τ := by
    intro k
    induction k with
    | zero =>
      intro i hi
      have hi : i = 125 := by omega
      subst hi
      refine hG.br rfl rfl rfl rfl (fun h1 => ?_) (fun h1 => ?_)
      · refine hG.rt hR rfl rfl rfl rfl ?_
        exact ⟨hH, rfl⟩
      · exact absurd (show nI 125 ≤ nI 125 from nI_le (Nat.le_refl 125) (by omega)) h1
    | succ k ih =>
      intro i hi
      refine hG.br rfl rfl rfl rfl (fun h1 => ?_) (fun h1 => ?_)
      · exact absurd (show nI 125 ≤ nI i from h1) (nI_ge (by omega) (by omega))
      · refine hG.cV lk_V_103 mi_V_isClear rfl rfl (c_V_isClear50 (nI i) (f 2) hV' hg) rfl rfl rfl rfl rfl rfl rfl rfl ?_
        rintro x τ' ⟨rfl, rfl⟩
        have := ih (i + 1) (by omega)
        rw [sumB_snoc, Nat.zero_add] at this
        refine hG.br rfl rfl rfl rfl (fun h2 => ?_) (fun h2 => ?_)
        · refine hG.jp rfl rfl rfl ?_
          rw [nI_1]
          rw [bi_eq0.mp h2] at this
          exact this
        · refine hG.jp rfl rfl rfl ?_
          rw [nI_1, nI_1]
          rw [bi_ne0.mp h2] at this
          exact this
  exact hG.go 4 rfl rfl (loop 125 0 (by omega))
theorem c_V_leastFree50 (hn : n ≤ 10) (hV : RV σ 50 f n c t) : Ci l θ 4 m_V_leastFree [.inr 50] σ (fun r σ' => Hm 50 σ σ' ∧ r = leastF f n t) := by
  refine Ci.of (Or.inl mi_V_leastFree) pk_V_leastFree (nb rfl) (Or.inl rfl) [some (.inr 50), none] rfl fun Γ hG hR => ?_
  refine hG.cVv lk_V_99 mi_V_gatherHeld rfl rfl (c_V_gatherHeld50 (σ 50 9) hn hV) rfl rfl rfl rfl rfl rfl rfl rfl ?_
  rintro τ ⟨hH, hg⟩
  have hV' := hV.hm hH
  rw [hV.y] at hg
  have loop : ∀ k i, i + k = 125 → leastF f n t = optN (-1000000005) (fndB (fun k => freeG (nearT f t) f n (nI k) (f 2)) i k) → X Γ 10 [some (.inr 50), some (.inl (nI i))] [] τ := by
    intro k
    induction k with
    | zero =>
      intro i hi ha
      have hi : i = 125 := by omega
      subst hi
      refine hG.br rfl rfl rfl rfl (fun h1 => ?_) (fun h1 => ?_)
      · refine hG.rt hR rfl rfl rfl rfl ?_
        exact ⟨hH, ha.symm⟩
      · exact absurd (show nI 125 ≤ nI 125 from nI_le (Nat.le_refl 125) (by omega)) h1
    | succ k ih =>
      intro i hi ha
      refine hG.br rfl rfl rfl rfl (fun h1 => ?_) (fun h1 => ?_)
      · exact absurd (show nI 125 ≤ nI i from h1) (nI_ge (by omega) (by omega))
      · refine hG.cV lk_V_103 mi_V_isClear rfl rfl (c_V_isClear50 (nI i) (f 2) hV' hg) rfl rfl rfl rfl rfl rfl rfl rfl ?_
        rintro x τ' ⟨rfl, rfl⟩
        rw [fndB] at ha
        refine hG.br rfl rfl rfl rfl (fun h2 => ?_) (fun h2 => ?_)
        · refine hG.jp rfl rfl rfl ?_
          rw [nI_1]
          rw [bi_eq0.mp h2] at ha
          exact ih (i + 1) (by omega) ha
        · refine hG.rt hR rfl rfl rfl rfl ?_
          rw [bi_ne0.mp h2] at ha
          exact ⟨hH, ha.symm⟩
  exact hG.go 2 rfl rfl (loop 125 0 (by omega) rfl)
end
