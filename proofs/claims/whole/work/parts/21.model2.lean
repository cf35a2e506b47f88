theorem tsw_x {x w : Int32} {n : Int} (h : x.toInt = n) (hw : w.toInt = n) : x = w := Int32.toInt_inj.mp (h.trans hw.symm)
def holdK (k : Int32) (al one saint : Bool) (old y : Int32) : Bool := if k = 1 then one && decide (old < 100) else if k = 2 then saint else if k = 3 then one && decide (old < 100) && (!al || decide (y - y / 2 * 2 = 0)) else if k = 4 then saint || decide (old < 500) else if k = 5 then al else one
def deadF (f : Nat → Int32) (p : Nat) (y : Int32) : Int32 := if aliveF f p then 0 else y - f (18 + 4 * p + 3)
def oneF (f : Nat → Int32) (p : Nat) (y : Int32) : Bool := aliveF f p || decide (deadF f p y < f 3)
def saintF (f : Nat → Int32) (p : Nat) (y : Int32) : Bool := oneF f p y || decide (deadF f p y < 200)
def holdF (f : Nat → Int32) (p : Nat) (y : Int32) : Bool := holdK (f (18 + 4 * p)) (aliveF f p) (oneF f p y) (saintF f p y) (y - f (18 + 4 * p + 2)) y
def worthK (k nm : Int32) : Int32 := if k = 1 then nm + 7 else if k = 2 then 200 - nm else if k = 3 then 2 * (nm + 7) else if k = 4 then 191 - nm else if k = 5 then 3 else nm
def underK (k o : Int32) : Bool := decide (o = 0) || decide (k = o) || (decide (o = 1) && decide (k = 3)) || (decide (o = 2) && decide (k = 4))
section
variable {l : Launch} {θ : Th} {σ : Sg}
theorem c_M_doesHold (p : Nat) (y : Int32) (hp : p < 10) : Ci l θ 3 m_M_doesHold [.inr 95, .inl (nI p), .inl y] σ (fun r σ' => σ' = σ ∧ r = bi (holdF (σ 96) p y)) := by
  refine Ci.of (Or.inl mi_M_doesHold) pk_M_doesHold (nb rfl) (Or.inr rfl) [some (.inr 95), some (.inl (nI p)), some (.inl y), none, none, none, none, none] rfl fun Γ hG hR => ?_
  refine hG.cV lk_M_103 mi_M_isAlive rfl rfl (c_M_isAlive p hp) rfl rfl rfl rfl rfl rfl rfl rfl ?_
  rintro x σ' ⟨rfl, rfl⟩
  have j22 : X Γ 22 [some (.inr 95), some (.inl (nI p)), some (.inl y), some (.inl (bi (aliveF (σ' 96) p))), none, none, none, none] [.inl (deadF (σ' 96) p y)] σ' := by
    refine hG.cV lk_M_88 mi_M_of rfl rfl (c_M_of p 2 (by omega)) rfl rfl rfl rfl rfl rfl rfl rfl ?_
    rintro x σ' ⟨rfl, rfl⟩
    have j54 : X Γ 54 [some (.inr 95), some (.inl (nI p)), some (.inl y), some (.inl (bi (aliveF (σ' 96) p))), some (.inl (deadF (σ' 96) p y)), some (.inl (y - σ' 96 (18 + 4 * p + 2))), none, none] [.inl (bi (oneF (σ' 96) p y))] σ' := by
      have j74 : X Γ 74 [some (.inr 95), some (.inl (nI p)), some (.inl y), some (.inl (bi (aliveF (σ' 96) p))), some (.inl (deadF (σ' 96) p y)), some (.inl (y - σ' 96 (18 + 4 * p + 2))), some (.inl (bi (oneF (σ' 96) p y))), none] [.inl (bi (saintF (σ' 96) p y))] σ' := by
        refine hG.cV lk_M_88 mi_M_of rfl rfl (c_M_of p 0 (by omega)) rfl rfl rfl rfl rfl rfl rfl rfl ?_
        rintro x σ' ⟨rfl, rfl⟩
        rw [show 18 + 4 * p + 0 = 18 + 4 * p from rfl]
        refine hG.tsw [116, 134, 137, 165, 184] 186 rfl rfl rfl (by decide +kernel) ?_ ?_
        · intro k t hk hx
          match k, hk, hx with
          | 0, hk, hx =>
            cases hk
            have e : σ' 96 (18 + 4 * p) = 1 := tsw_x hx rfl
            refine hG.br rfl rfl rfl rfl (fun h1 => ?_) (fun h1 => ?_)
            · refine hG.rz hR rfl rfl rfl rfl (Or.inl rfl) ?_
              exact ⟨rfl, by simp [holdF, holdK, e, bi_eq0.mp h1, bi]⟩
            · refine hG.br rfl rfl rfl rfl (fun h2 => ?_) (fun h2 => ?_)
              · refine hG.rz hR rfl rfl rfl rfl (Or.inl rfl) ?_
                exact ⟨rfl, by simp [holdF, holdK, e, i32_nlt.mpr h2, bi]⟩
              · refine hG.rz hR rfl rfl rfl rfl (Or.inr rfl) ?_
                exact ⟨rfl, by simp [holdF, holdK, e, bi_ne0.mp h1, i32_nle.mp h2, bi]⟩
          | 1, hk, hx =>
            cases hk
            have e : σ' 96 (18 + 4 * p) = 2 := tsw_x hx rfl
            refine hG.rz hR rfl rfl rfl rfl (bi_01 _) ?_
            exact ⟨rfl, by simp [holdF, holdK, e]⟩
          | 2, hk, hx =>
            cases hk
            have e : σ' 96 (18 + 4 * p) = 3 := tsw_x hx rfl
            refine hG.br rfl rfl rfl rfl (fun h1 => ?_) (fun h1 => ?_)
            · refine hG.rz hR rfl rfl rfl rfl (Or.inl rfl) ?_
              exact ⟨rfl, by simp [holdF, holdK, e, bi_eq0.mp h1, bi]⟩
            · refine hG.br rfl rfl rfl rfl (fun h2 => ?_) (fun h2 => ?_)
              · refine hG.rz hR rfl rfl rfl rfl (Or.inl rfl) ?_
                exact ⟨rfl, by simp [holdF, holdK, e, i32_nlt.mpr h2, bi]⟩
              · refine hG.br rfl rfl rfl rfl (fun h3 => ?_) (fun h3 => ?_)
                · refine hG.rz hR rfl rfl rfl rfl (Or.inr rfl) ?_
                  exact ⟨rfl, by simp [holdF, holdK, e, bi_ne0.mp h1, i32_nle.mp h2, bi_eq0.mp h3, bi]⟩
                · refine hG.rm rfl rfl rfl (by decide) ?_
                  refine hG.br rfl rfl rfl rfl (fun h4 => ?_) (fun h4 => ?_)
                  · refine hG.rz hR rfl rfl rfl rfl (Or.inl rfl) ?_
                    exact ⟨rfl, by simp [holdF, holdK, e, bi_ne0.mp h3, h4, bi]⟩
                  · refine hG.rz hR rfl rfl rfl rfl (Or.inr rfl) ?_
                    exact ⟨rfl, by simp [holdF, holdK, e, bi_ne0.mp h1, i32_nle.mp h2, h4, bi]⟩
          | 3, hk, hx =>
            cases hk
            have e : σ' 96 (18 + 4 * p) = 4 := tsw_x hx rfl
            refine hG.br rfl rfl rfl rfl (fun h1 => ?_) (fun h1 => ?_)
            · refine hG.rz hR rfl rfl rfl rfl (Or.inr rfl) ?_
              exact ⟨rfl, by simp [holdF, holdK, e, bi_ne0.mp h1, bi]⟩
            · refine hG.br rfl rfl rfl rfl (fun h2 => ?_) (fun h2 => ?_)
              · refine hG.rz hR rfl rfl rfl rfl (Or.inl rfl) ?_
                exact ⟨rfl, by simp [holdF, holdK, e, bi_eq0.mp h1, i32_nlt.mpr h2, bi]⟩
              · refine hG.rz hR rfl rfl rfl rfl (Or.inr rfl) ?_
                exact ⟨rfl, by simp [holdF, holdK, e, i32_nle.mp h2, bi]⟩
          | 4, hk, hx =>
            cases hk
            have e : σ' 96 (18 + 4 * p) = 5 := tsw_x hx rfl
            refine hG.rz hR rfl rfl rfl rfl (bi_01 _) ?_
            exact ⟨rfl, by simp [holdF, holdK, e]⟩
          | k + 5, hk, hx => simp at hk
        · intro hx
          have e1 : ¬ σ' 96 (18 + 4 * p) = 1 := fun e => hx 0 (by decide) (by rw [e]; rfl)
          have e2 : ¬ σ' 96 (18 + 4 * p) = 2 := fun e => hx 1 (by decide) (by rw [e]; rfl)
          have e3 : ¬ σ' 96 (18 + 4 * p) = 3 := fun e => hx 2 (by decide) (by rw [e]; rfl)
          have e4 : ¬ σ' 96 (18 + 4 * p) = 4 := fun e => hx 3 (by decide) (by rw [e]; rfl)
          have e5 : ¬ σ' 96 (18 + 4 * p) = 5 := fun e => hx 4 (by decide) (by rw [e]; rfl)
          refine hG.rz hR rfl rfl rfl rfl (bi_01 _) ?_
          exact ⟨rfl, by simp [holdF, holdK, e1, e2, e3, e4, e5]⟩
      refine hG.br rfl rfl rfl rfl (fun h1 => ?_) (fun h1 => ?_)
      · refine hG.go 1 rfl rfl ?_
        have e : saintF (σ' 96) p y = true := by simp [saintF, bi_ne0.mp h1]
        rw [e] at j74
        exact hG.go 1 rfl rfl j74
      · refine hG.br rfl rfl rfl rfl (fun h2 => ?_) (fun h2 => ?_)
        · have e : saintF (σ' 96) p y = false := by simp [saintF, bi_eq0.mp h1, i32_nlt.mpr h2]
          rw [e] at j74
          exact hG.go 1 rfl rfl j74
        · have e : saintF (σ' 96) p y = true := by simp [saintF, i32_nle.mp h2]
          rw [e] at j74
          exact hG.go 2 rfl rfl j74
    refine hG.br rfl rfl rfl rfl (fun h1 => ?_) (fun h1 => ?_)
    · have e : oneF (σ' 96) p y = true := by simp [oneF, bi_ne0.mp h1]
      rw [e] at j54
      exact hG.go 2 rfl rfl j54
    · refine hG.ld rfl 3 rfl rfl rfl rfl rfl (by decide) ?_
      refine hG.br rfl rfl rfl rfl (fun h2 => ?_) (fun h2 => ?_)
      · have e : oneF (σ' 96) p y = false := by simp [oneF, bi_eq0.mp h1, i32_nlt.mpr h2]
        rw [e] at j54
        exact hG.go 1 rfl rfl j54
      · have e : oneF (σ' 96) p y = true := by simp [oneF, i32_nle.mp h2]
        rw [e] at j54
        exact hG.go 2 rfl rfl j54
  refine hG.br rfl rfl rfl rfl (fun h1 => ?_) (fun h1 => ?_)
  · refine hG.cV lk_M_88 mi_M_of rfl rfl (c_M_of p 3 (by omega)) rfl rfl rfl rfl rfl rfl rfl rfl ?_
    rintro x σ' ⟨rfl, rfl⟩
    have e : deadF (σ' 96) p y = y - σ' 96 (18 + 4 * p + 3) := by simp [deadF, bi_eq0.mp h1]
    rw [e] at j22
    exact hG.go 1 rfl rfl j22
  · have e : deadF (σ' 96) p y = 0 := by simp [deadF, bi_ne0.mp h1]
    rw [e] at j22
    exact hG.go 2 rfl rfl j22
theorem c_M_worthOf (p : Nat) (hp : p < 10) : Ci l θ 2 m_M_worthOf [.inr 95, .inl (nI p)] σ (fun r σ' => σ' = σ ∧ r = worthK (σ 96 (18 + 4 * p)) (σ 96 (18 + 4 * p + 1))) := by
  refine Ci.of (Or.inl mi_M_worthOf) pk_M_worthOf (nb rfl) (Or.inl rfl) [some (.inr 95), some (.inl (nI p)), none] rfl fun Γ hG hR => ?_
  refine hG.cV lk_M_88 mi_M_of rfl rfl (c_M_of p 1 (by omega)) rfl rfl rfl rfl rfl rfl rfl rfl ?_
  rintro x σ' ⟨rfl, rfl⟩
  refine hG.cV lk_M_88 mi_M_of rfl rfl (c_M_of p 0 (by omega)) rfl rfl rfl rfl rfl rfl rfl rfl ?_
  rintro x σ' ⟨rfl, rfl⟩
  rw [show 18 + 4 * p + 0 = 18 + 4 * p from rfl]
  refine hG.tsw [48, 53, 59, 66, 72] 74 rfl rfl rfl (by decide +kernel) ?_ ?_
  · intro k t hk hx
    match k, hk, hx with
    | 0, hk, hx =>
      cases hk
      have e : σ' 96 (18 + 4 * p) = 1 := tsw_x hx rfl
      refine hG.rt hR rfl rfl rfl rfl ?_
      exact ⟨rfl, by simp [worthK, e]⟩
    | 1, hk, hx =>
      cases hk
      have e : σ' 96 (18 + 4 * p) = 2 := tsw_x hx rfl
      refine hG.rt hR rfl rfl rfl rfl ?_
      exact ⟨rfl, by simp [worthK, e]⟩
    | 2, hk, hx =>
      cases hk
      have e : σ' 96 (18 + 4 * p) = 3 := tsw_x hx rfl
      refine hG.rt hR rfl rfl rfl rfl ?_
      exact ⟨rfl, by simp [worthK, e]⟩
    | 3, hk, hx =>
      cases hk
      have e : σ' 96 (18 + 4 * p) = 4 := tsw_x hx rfl
      refine hG.rt hR rfl rfl rfl rfl ?_
      exact ⟨rfl, by simp [worthK, e]⟩
    | 4, hk, hx =>
      cases hk
      have e : σ' 96 (18 + 4 * p) = 5 := tsw_x hx rfl
      refine hG.rt hR rfl rfl rfl rfl ?_
      exact ⟨rfl, by simp [worthK, e]⟩
    | k + 5, hk, hx => simp at hk
  · intro hx
    have e1 : ¬ σ' 96 (18 + 4 * p) = 1 := fun e => hx 0 (by decide) (by rw [e]; rfl)
    have e2 : ¬ σ' 96 (18 + 4 * p) = 2 := fun e => hx 1 (by decide) (by rw [e]; rfl)
    have e3 : ¬ σ' 96 (18 + 4 * p) = 3 := fun e => hx 2 (by decide) (by rw [e]; rfl)
    have e4 : ¬ σ' 96 (18 + 4 * p) = 4 := fun e => hx 3 (by decide) (by rw [e]; rfl)
    have e5 : ¬ σ' 96 (18 + 4 * p) = 5 := fun e => hx 4 (by decide) (by rw [e]; rfl)
    refine hG.rt hR rfl rfl rfl rfl ?_
    exact ⟨rfl, by simp [worthK, e1, e2, e3, e4, e5]⟩
theorem c_M_isUnder (k o : Int32) : Ci l θ 1 m_M_isUnder [.inl k, .inl o] σ (fun r σ' => σ' = σ ∧ r = bi (underK k o)) := by
  refine Ci.of (Or.inr mi_M_isUnder) pk_M_isUnder (nb rfl) (Or.inr rfl) [some (.inl k), some (.inl o)] rfl fun Γ hG hR => ?_
  refine hG.br rfl rfl rfl rfl (fun h1 => ?_) (fun h1 => ?_)
  · refine hG.rz hR rfl rfl rfl rfl (Or.inr rfl) ?_
    exact ⟨rfl, by simp [underK, h1, bi]⟩
  · refine hG.br rfl rfl rfl rfl (fun h2 => ?_) (fun h2 => ?_)
    · refine hG.rz hR rfl rfl rfl rfl (Or.inr rfl) ?_
      exact ⟨rfl, by simp [underK, h2, bi]⟩
    · refine hG.br rfl rfl rfl rfl (fun h3 => ?_) (fun h3 => ?_)
      · refine hG.br rfl rfl rfl rfl (fun h4 => ?_) (fun h4 => ?_)
        · refine hG.rz hR rfl rfl rfl rfl (Or.inl rfl) ?_
          exact ⟨rfl, by simp [underK, h1, h2, h3, h4, bi]⟩
        · refine hG.br rfl rfl rfl rfl (fun h5 => ?_) (fun h5 => ?_)
          · refine hG.rz hR rfl rfl rfl rfl (Or.inl rfl) ?_
            exact ⟨rfl, by simp_all [underK, bi]⟩
          · refine hG.rz hR rfl rfl rfl rfl (Or.inr rfl) ?_
            exact ⟨rfl, by simp [underK, h4, h5, bi]⟩
      · refine hG.br rfl rfl rfl rfl (fun h4 => ?_) (fun h4 => ?_)
        · refine hG.rz hR rfl rfl rfl rfl (Or.inr rfl) ?_
          exact ⟨rfl, by simp [underK, h3, h4, bi]⟩
        · refine hG.br rfl rfl rfl rfl (fun h5 => ?_) (fun h5 => ?_)
          · refine hG.rz hR rfl rfl rfl rfl (Or.inl rfl) ?_
            exact ⟨rfl, by simp_all [underK, bi]⟩
          · exact absurd (h3.symm.trans h5) (by decide)
def apF (a b : Int32) : Int32 := bi (decide (¬ a / 25 = b / 25)) + bi (decide (¬ a / 5 - a / 5 / 5 * 5 = b / 5 - b / 5 / 5 * 5)) + bi (decide (¬ a - a / 5 * 5 = b - b / 5 * 5))
theorem c_M_apartOf (a b : Int32) : Ci l θ 1 m_M_apartOf [.inl a, .inl b] σ (fun r σ' => σ' = σ ∧ r = apF a b) := by
  refine Ci.of (Or.inr mi_M_apartOf) pk_M_apartOf (nb rfl) (Or.inl rfl) [some (.inl a), some (.inl b)] rfl fun Γ hG hR => ?_
  refine hG.dv rfl rfl rfl (by decide) ?_
  refine hG.dv rfl rfl rfl (by decide) ?_
  have j16 : X Γ 16 [some (.inl a), some (.inl b)] [.inl (bi (decide (¬ a / 25 = b / 25)))] σ := by
    refine hG.dv rfl rfl rfl (by decide) ?_
    refine hG.rm rfl rfl rfl (by decide) ?_
    refine hG.dv rfl rfl rfl (by decide) ?_
    refine hG.rm rfl rfl rfl (by decide) ?_
    have j34 : X Γ 34 [some (.inl a), some (.inl b)] [.inl (bi (decide (¬ a / 5 - a / 5 / 5 * 5 = b / 5 - b / 5 / 5 * 5))), .inl (bi (decide (¬ a / 25 = b / 25)))] σ := by
      refine hG.rm rfl rfl rfl (by decide) ?_
      refine hG.rm rfl rfl rfl (by decide) ?_
      have j49 : X Γ 49 [some (.inl a), some (.inl b)] [.inl (bi (decide (¬ a - a / 5 * 5 = b - b / 5 * 5))), .inl (bi (decide (¬ a / 25 = b / 25)) + bi (decide (¬ a / 5 - a / 5 / 5 * 5 = b / 5 - b / 5 / 5 * 5)))] σ := by
        refine hG.rt hR rfl rfl rfl rfl ?_
        exact ⟨rfl, rfl⟩
      refine hG.br rfl rfl rfl rfl (fun h => ?_) (fun h => ?_)
      · rw [show decide (¬ a - a / 5 * 5 = b - b / 5 * 5) = true by simp [h]] at j49
        exact hG.go 1 rfl rfl j49
      · rw [show decide (¬ a - a / 5 * 5 = b - b / 5 * 5) = false by simp [h]] at j49
        exact hG.go 2 rfl rfl j49
    refine hG.br rfl rfl rfl rfl (fun h => ?_) (fun h => ?_)
    · rw [show decide (¬ a / 5 - a / 5 / 5 * 5 = b / 5 - b / 5 / 5 * 5) = true by simp [h]] at j34
      exact hG.go 1 rfl rfl j34
    · rw [show decide (¬ a / 5 - a / 5 / 5 * 5 = b / 5 - b / 5 / 5 * 5) = false by simp [h]] at j34
      exact hG.go 2 rfl rfl j34
  refine hG.br rfl rfl rfl rfl (fun h => ?_) (fun h => ?_)
  · rw [show decide (¬ a / 25 = b / 25) = true by simp [h]] at j16
    exact hG.go 1 rfl rfl j16
  · rw [show decide (¬ a / 25 = b / 25) = false by simp [h]] at j16
    exact hG.go 2 rfl rfl j16
end
