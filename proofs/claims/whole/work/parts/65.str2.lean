/-! contracts of the JDK's own methods of strings -/
theorem chr_id : ∀ k, k < 12 → (((st_byt.getD 0 []).getD k 0 &&& 255).toUInt32 % 65536).toInt32 = (st_byt.getD 0 []).getD k 0 := by decide +kernel
theorem chr_nar : ∀ k, k < 12 → narrow .char (.int ((st_byt.getD 0 []).getD k 0)) = .int ((st_byt.getD 0 []).getD k 0) := by decide +kernel
def ixS (i : Nat) (x : Int32) : Int32 := optN (-1) (fndB (fun k => decide ((st_byt.getD i []).getD k 0 = x)) 0 (st_len.getD i 0))
section
variable {l : Launch} {θ : Th} {σ : Sg}
theorem c_Str_checkIndex (i n : Int32) (h0 : ¬ i < 0) (h1 : i < n) : Cv l θ 2 m_Str_checkIndex [.inl i, .inl n] σ (fun σ' => σ' = σ) := by
  refine Cv.of (Or.inr mi_Str_checkIndex) pk_Str_checkIndex (nb rfl) rfl [some (.inl i), some (.inl n)] rfl fun Γ hG hR => ?_
  refine hG.go 2 rfl rfl (hG.chk rfl h0 h1 rfl ?_)
  refine hG.rv hR rfl rfl rfl ?_
  rfl
theorem c_Sl_charAt (k : Nat) (hk : k < 12) : Ci l θ 3 m_Sl_charAt [.inr 905, .inl (nI k)] σ (fun r σ' => σ' = σ ∧ r = (st_byt.getD 0 []).getD k 0) := by
  refine Ci.ofz (Or.inr mi_Sl_charAt) pk_Sl_charAt (nb rfl) rfl [some (.inr 905), some (.inl (nI k))] rfl fun Γ hG hR => ?_
  refine hG.slen 0 rfl rfl (by decide) rfl rfl (by decide +kernel) ?_
  refine hG.cSv lk_Sl_9 mi_Str_checkIndex rfl rfl (c_Str_checkIndex (nI k) (nI 12) (nI_pos (by omega)) (nI_lt hk (by decide))) rfl rfl rfl rfl rfl rfl ?_
  rintro σ' rfl
  refine hG.sld 0 k rfl rfl (by decide) rfl rfl hk rfl (by decide +kernel) ?_
  refine hG.rtc hR rfl rfl (by decide +kernel) (fun ty h => ?_) ⟨rfl, chr_id k hk⟩
  cases h
  rw [chr_id k hk]
  exact chr_nar k hk
theorem c_Str_isLatin1_0 : Ci l θ 1 m_Str_isLatin1 [.inr 901] σ (fun r σ' => σ' = σ ∧ r = 1) := by
  refine Ci.of (Or.inl mi_Str_isLatin1) pk_Str_isLatin1 (nb rfl) (Or.inr rfl) [some (.inr 901)] rfl fun Γ hG hR => ?_
  refine hG.gcomp rfl rfl rfl (by decide +kernel) ?_
  refine hG.br rfl rfl rfl rfl (fun h1 => ?_) (fun h1 => ?_)
  · exact absurd h1 (by decide)
  · refine hG.gcod 0 rfl rfl rfl (by decide) rfl (by decide +kernel) ?_
    refine hG.br rfl rfl rfl rfl (fun h2 => ?_) (fun h2 => ?_)
    · exact absurd rfl h2
    · refine hG.rz hR rfl rfl rfl rfl (Or.inr rfl) ?_
      exact ⟨rfl, rfl⟩
theorem c_Str_coder_0 : Ci l θ 1 m_Str_coder [.inr 901] σ (fun r σ' => σ' = σ ∧ r = 0) := by
  refine Ci.ofz (Or.inl mi_Str_coder) pk_Str_coder (nb rfl) rfl [some (.inr 901)] rfl fun Γ hG hR => ?_
  refine hG.gcomp rfl rfl rfl (by decide +kernel) ?_
  refine hG.br rfl rfl rfl rfl (fun h1 => ?_) (fun h1 => ?_)
  · exact absurd h1 (by decide)
  · refine hG.gcod 0 rfl rfl rfl (by decide) rfl (by decide +kernel) ?_
    refine hG.rtc hR rfl rfl (by decide +kernel) (fun ty h => ?_) ⟨rfl, rfl⟩
    cases h
    decide +kernel
theorem c_Str_length_0 : Ci l θ 2 m_Str_length [.inr 901] σ (fun r σ' => σ' = σ ∧ r = nI 12) := by
  refine Ci.of (Or.inl mi_Str_length) pk_Str_length (nb rfl) (Or.inl rfl) [some (.inr 901)] rfl fun Γ hG hR => ?_
  refine hG.gval 0 rfl rfl rfl (by decide) rfl rfl (by decide +kernel) ?_
  refine hG.slen 0 rfl rfl (by decide) rfl rfl (by decide +kernel) ?_
  refine hG.cVs 0 lk_Str_335 mi_Str_coder rfl rfl c_Str_coder_0 rfl (by decide) rfl rfl rfl rfl rfl rfl rfl ?_
  rintro x σ' ⟨rfl, rfl⟩
  refine hG.rt hR rfl rfl rfl rfl ?_
  exact ⟨rfl, by decide +kernel⟩
theorem c_Str_isLatin1_1 : Ci l θ 1 m_Str_isLatin1 [.inr 902] σ (fun r σ' => σ' = σ ∧ r = 1) := by
  refine Ci.of (Or.inl mi_Str_isLatin1) pk_Str_isLatin1 (nb rfl) (Or.inr rfl) [some (.inr 902)] rfl fun Γ hG hR => ?_
  refine hG.gcomp rfl rfl rfl (by decide +kernel) ?_
  refine hG.br rfl rfl rfl rfl (fun h1 => ?_) (fun h1 => ?_)
  · exact absurd h1 (by decide)
  · refine hG.gcod 1 rfl rfl rfl (by decide) rfl (by decide +kernel) ?_
    refine hG.br rfl rfl rfl rfl (fun h2 => ?_) (fun h2 => ?_)
    · exact absurd rfl h2
    · refine hG.rz hR rfl rfl rfl rfl (Or.inr rfl) ?_
      exact ⟨rfl, rfl⟩
theorem c_Str_coder_1 : Ci l θ 1 m_Str_coder [.inr 902] σ (fun r σ' => σ' = σ ∧ r = 0) := by
  refine Ci.ofz (Or.inl mi_Str_coder) pk_Str_coder (nb rfl) rfl [some (.inr 902)] rfl fun Γ hG hR => ?_
  refine hG.gcomp rfl rfl rfl (by decide +kernel) ?_
  refine hG.br rfl rfl rfl rfl (fun h1 => ?_) (fun h1 => ?_)
  · exact absurd h1 (by decide)
  · refine hG.gcod 1 rfl rfl rfl (by decide) rfl (by decide +kernel) ?_
    refine hG.rtc hR rfl rfl (by decide +kernel) (fun ty h => ?_) ⟨rfl, rfl⟩
    cases h
    decide +kernel
theorem c_Str_length_1 : Ci l θ 2 m_Str_length [.inr 902] σ (fun r σ' => σ' = σ ∧ r = nI 3) := by
  refine Ci.of (Or.inl mi_Str_length) pk_Str_length (nb rfl) (Or.inl rfl) [some (.inr 902)] rfl fun Γ hG hR => ?_
  refine hG.gval 1 rfl rfl rfl (by decide) rfl rfl (by decide +kernel) ?_
  refine hG.slen 1 rfl rfl (by decide) rfl rfl (by decide +kernel) ?_
  refine hG.cVs 1 lk_Str_335 mi_Str_coder rfl rfl c_Str_coder_1 rfl (by decide) rfl rfl rfl rfl rfl rfl rfl ?_
  rintro x σ' ⟨rfl, rfl⟩
  refine hG.rt hR rfl rfl rfl rfl ?_
  exact ⟨rfl, by decide +kernel⟩
theorem c_Str_isLatin1_2 : Ci l θ 1 m_Str_isLatin1 [.inr 903] σ (fun r σ' => σ' = σ ∧ r = 1) := by
  refine Ci.of (Or.inl mi_Str_isLatin1) pk_Str_isLatin1 (nb rfl) (Or.inr rfl) [some (.inr 903)] rfl fun Γ hG hR => ?_
  refine hG.gcomp rfl rfl rfl (by decide +kernel) ?_
  refine hG.br rfl rfl rfl rfl (fun h1 => ?_) (fun h1 => ?_)
  · exact absurd h1 (by decide)
  · refine hG.gcod 2 rfl rfl rfl (by decide) rfl (by decide +kernel) ?_
    refine hG.br rfl rfl rfl rfl (fun h2 => ?_) (fun h2 => ?_)
    · exact absurd rfl h2
    · refine hG.rz hR rfl rfl rfl rfl (Or.inr rfl) ?_
      exact ⟨rfl, rfl⟩
theorem c_Str_coder_2 : Ci l θ 1 m_Str_coder [.inr 903] σ (fun r σ' => σ' = σ ∧ r = 0) := by
  refine Ci.ofz (Or.inl mi_Str_coder) pk_Str_coder (nb rfl) rfl [some (.inr 903)] rfl fun Γ hG hR => ?_
  refine hG.gcomp rfl rfl rfl (by decide +kernel) ?_
  refine hG.br rfl rfl rfl rfl (fun h1 => ?_) (fun h1 => ?_)
  · exact absurd h1 (by decide)
  · refine hG.gcod 2 rfl rfl rfl (by decide) rfl (by decide +kernel) ?_
    refine hG.rtc hR rfl rfl (by decide +kernel) (fun ty h => ?_) ⟨rfl, rfl⟩
    cases h
    decide +kernel
theorem c_Str_length_2 : Ci l θ 2 m_Str_length [.inr 903] σ (fun r σ' => σ' = σ ∧ r = nI 2) := by
  refine Ci.of (Or.inl mi_Str_length) pk_Str_length (nb rfl) (Or.inl rfl) [some (.inr 903)] rfl fun Γ hG hR => ?_
  refine hG.gval 2 rfl rfl rfl (by decide) rfl rfl (by decide +kernel) ?_
  refine hG.slen 2 rfl rfl (by decide) rfl rfl (by decide +kernel) ?_
  refine hG.cVs 2 lk_Str_335 mi_Str_coder rfl rfl c_Str_coder_2 rfl (by decide) rfl rfl rfl rfl rfl rfl rfl ?_
  rintro x σ' ⟨rfl, rfl⟩
  refine hG.rt hR rfl rfl rfl rfl ?_
  exact ⟨rfl, by decide +kernel⟩
theorem c_Str_isLatin1_3 : Ci l θ 1 m_Str_isLatin1 [.inr 904] σ (fun r σ' => σ' = σ ∧ r = 1) := by
  refine Ci.of (Or.inl mi_Str_isLatin1) pk_Str_isLatin1 (nb rfl) (Or.inr rfl) [some (.inr 904)] rfl fun Γ hG hR => ?_
  refine hG.gcomp rfl rfl rfl (by decide +kernel) ?_
  refine hG.br rfl rfl rfl rfl (fun h1 => ?_) (fun h1 => ?_)
  · exact absurd h1 (by decide)
  · refine hG.gcod 3 rfl rfl rfl (by decide) rfl (by decide +kernel) ?_
    refine hG.br rfl rfl rfl rfl (fun h2 => ?_) (fun h2 => ?_)
    · exact absurd rfl h2
    · refine hG.rz hR rfl rfl rfl rfl (Or.inr rfl) ?_
      exact ⟨rfl, rfl⟩
theorem c_Str_coder_3 : Ci l θ 1 m_Str_coder [.inr 904] σ (fun r σ' => σ' = σ ∧ r = 0) := by
  refine Ci.ofz (Or.inl mi_Str_coder) pk_Str_coder (nb rfl) rfl [some (.inr 904)] rfl fun Γ hG hR => ?_
  refine hG.gcomp rfl rfl rfl (by decide +kernel) ?_
  refine hG.br rfl rfl rfl rfl (fun h1 => ?_) (fun h1 => ?_)
  · exact absurd h1 (by decide)
  · refine hG.gcod 3 rfl rfl rfl (by decide) rfl (by decide +kernel) ?_
    refine hG.rtc hR rfl rfl (by decide +kernel) (fun ty h => ?_) ⟨rfl, rfl⟩
    cases h
    decide +kernel
theorem c_Str_length_3 : Ci l θ 2 m_Str_length [.inr 904] σ (fun r σ' => σ' = σ ∧ r = nI 2) := by
  refine Ci.of (Or.inl mi_Str_length) pk_Str_length (nb rfl) (Or.inl rfl) [some (.inr 904)] rfl fun Γ hG hR => ?_
  refine hG.gval 3 rfl rfl rfl (by decide) rfl rfl (by decide +kernel) ?_
  refine hG.slen 3 rfl rfl (by decide) rfl rfl (by decide +kernel) ?_
  refine hG.cVs 3 lk_Str_335 mi_Str_coder rfl rfl c_Str_coder_3 rfl (by decide) rfl rfl rfl rfl rfl rfl rfl ?_
  rintro x σ' ⟨rfl, rfl⟩
  refine hG.rt hR rfl rfl rfl rfl ?_
  exact ⟨rfl, by decide +kernel⟩
theorem c_Str_charAt (k : Nat) (hk : k < 12) : Ci l θ 4 m_Str_charAt [.inr 901, .inl (nI k)] σ (fun r σ' => σ' = σ ∧ r = (st_byt.getD 0 []).getD k 0) := by
  refine Ci.ofz (Or.inl mi_Str_charAt) pk_Str_charAt (nb rfl) rfl [some (.inr 901), some (.inl (nI k))] rfl fun Γ hG hR => ?_
  refine hG.cVs 0 lk_Str_492 mi_Str_isLatin1 rfl rfl c_Str_isLatin1_0 rfl (by decide) rfl rfl rfl rfl rfl rfl rfl ?_
  rintro x σ' ⟨rfl, rfl⟩
  refine hG.br rfl rfl rfl rfl (fun h1 => ?_) (fun h1 => ?_)
  · exact absurd h1 (by decide)
  · refine hG.gval 0 rfl rfl rfl (by decide) rfl rfl (by decide +kernel) ?_
    refine hG.cS lk_Str_495 mi_Sl_charAt rfl rfl (c_Sl_charAt k hk) rfl rfl rfl rfl rfl rfl ?_
    rintro x σ' ⟨rfl, rfl⟩
    refine hG.rtc hR rfl rfl (by decide +kernel) (fun ty h => ?_) ⟨rfl, rfl⟩
    cases h
    exact chr_nar k hk
theorem c_Sl_canEncode (x : Int32) (h0 : ¬ x < 0) (h1 : ¬ 255 < x) : Ci l θ 1 m_Sl_canEncode [.inl x] σ (fun r σ' => σ' = σ ∧ r = 1) := by
  refine Ci.of (Or.inr mi_Sl_canEncode) pk_Sl_canEncode (nb rfl) (Or.inr rfl) [some (.inl x)] rfl fun Γ hG hR => ?_
  refine hG.br rfl rfl rfl rfl (fun k1 => ?_) (fun k1 => ?_)
  · exact absurd k1 h0
  · refine hG.br rfl rfl rfl rfl (fun k2 => ?_) (fun k2 => ?_)
    · exact absurd k2 h1
    · refine hG.rz hR rfl rfl rfl rfl (Or.inr rfl) ?_
      exact ⟨rfl, rfl⟩
theorem c_Sl_indexOfChar_1 (x : Int32) (hx : x.toInt8.toInt32 = x) : Ci l θ 1 m_Sl_indexOfChar [.inr 906, .inl x, .inl (nI 0), .inl (nI 3)] σ (fun r σ' => σ' = σ ∧ r = ixS 1 x) := by
  refine Ci.of (Or.inr mi_Sl_indexOfChar) pk_Sl_indexOfChar (nb rfl) (Or.inl rfl) [some (.inr 906), some (.inl x), some (.inl (nI 0)), some (.inl (nI 3)), none, none] rfl fun Γ hG hR => ?_
  refine hG.i2b rfl rfl (by decide +kernel) hx ?_
  have hg : ixS 1 x = optN (-1) (fndB (fun k => decide ((st_byt.getD 1 []).getD k 0 = x)) 0 3) := rfl
  rw [hg] at hR
  generalize hP : (fun k => decide ((st_byt.getD 1 []).getD k 0 = x)) = P at hR
  have loop : ∀ m k, k + m = 3 → fndB P 0 3 = fndB P k m → X Γ 7 [some (.inr 906), some (.inl x), some (.inl (nI 0)), some (.inl (nI 3)), some (.inl x), some (.inl (nI k))] [] σ := by
    intro m
    induction m with
    | zero =>
      intro k hk he
      refine hG.br rfl rfl rfl rfl (fun k1 => ?_) (fun k1 => ?_)
      · refine hG.rt hR rfl rfl rfl rfl ?_
        exact ⟨rfl, by rw [he]; rfl⟩
      · exact absurd (nI_le (show 3 ≤ k by omega) (by omega)) k1
    | succ m ih =>
      intro k hk he
      rw [fndB_s _ _ m] at he
      have hPk : P k = decide ((st_byt.getD 1 []).getD k 0 = x) := by rw [← hP]
      refine hG.br rfl rfl rfl rfl (fun k1 => ?_) (fun k1 => ?_)
      · exact absurd k1 (nI_ge (by omega) (by omega))
      · refine hG.sld 1 k rfl rfl (by decide) rfl rfl (show k < 3 by omega) rfl (by decide +kernel) ?_
        refine hG.br rfl rfl rfl rfl (fun k2 => ?_) (fun k2 => ?_)
        · refine hG.jp rfl rfl rfl ?_
          rw [nI_1]
          exact ih (k + 1) (by omega) (by rw [he, hPk, decide_eq_false k2]; rfl)
        · refine hG.rt hR rfl rfl rfl rfl ?_
          exact ⟨rfl, by rw [he, hPk, decide_eq_true k2]; rfl⟩
  exact hG.go 3 rfl rfl (loop 3 0 (by omega) rfl)
theorem c_Sl_indexOf_1 (x : Int32) (h0 : ¬ x < 0) (h1 : ¬ 255 < x) (hx : x.toInt8.toInt32 = x) : Ci l θ 2 m_Sl_indexOf [.inr 906, .inl x, .inl 0, .inl (nI 3)] σ (fun r σ' => σ' = σ ∧ r = ixS 1 x) := by
  refine Ci.of (Or.inr mi_Sl_indexOf) pk_Sl_indexOf (nb rfl) (Or.inl rfl) [some (.inr 906), some (.inl x), some (.inl 0), some (.inl (nI 3))] rfl fun Γ hG hR => ?_
  refine hG.cS lk_Sl_88 mi_Sl_canEncode rfl rfl (c_Sl_canEncode x h0 h1) rfl rfl rfl rfl rfl rfl ?_
  rintro y σ' ⟨rfl, rfl⟩
  refine hG.br rfl rfl rfl rfl (fun k1 => ?_) (fun k1 => ?_)
  · refine hG.mx rfl lk_Sl_92 rfl rfl rfl rfl rfl ?_
    rw [if_neg (by decide)]
    refine hG.slen 1 rfl rfl (by decide) rfl rfl (by decide +kernel) ?_
    refine hG.mn rfl lk_Sl_38 rfl rfl rfl rfl rfl ?_
    rw [if_neg (by decide)]
    refine hG.br rfl rfl rfl rfl (fun k2 => ?_) (fun k2 => ?_)
    · refine hG.cS lk_Sl_95 mi_Sl_indexOfChar rfl rfl (c_Sl_indexOfChar_1 x hx) rfl rfl rfl rfl rfl rfl ?_
      rintro y σ' ⟨rfl, rfl⟩
      refine hG.rt hR rfl rfl rfl rfl ?_
      exact ⟨rfl, rfl⟩
    · exact absurd (show (0 : Int32) < nI 3 by decide) k2
  · exact absurd k1 (by decide)
theorem c_Str_indexOf2_1 (x : Int32) (h0 : ¬ x < 0) (h1 : ¬ 255 < x) (hx : x.toInt8.toInt32 = x) : Ci l θ 3 m_Str_indexOf_ [.inr 902, .inl x, .inl 0] σ (fun r σ' => σ' = σ ∧ r = ixS 1 x) := by
  refine Ci.of (Or.inl mi_Str_indexOf_) pk_Str_indexOf_ (nb rfl) (Or.inl rfl) [some (.inr 902), some (.inl x), some (.inl 0)] rfl fun Γ hG hR => ?_
  refine hG.cVs 1 lk_Str_492 mi_Str_isLatin1 rfl rfl c_Str_isLatin1_1 rfl (by decide) rfl rfl rfl rfl rfl rfl rfl ?_
  rintro y σ' ⟨rfl, rfl⟩
  refine hG.br rfl rfl rfl rfl (fun k1 => ?_) (fun k1 => ?_)
  · exact absurd k1 (by decide)
  · refine hG.gval 1 rfl rfl rfl (by decide) rfl rfl (by decide +kernel) ?_
    refine hG.cVs 1 lk_Str_505 mi_Str_length rfl rfl c_Str_length_1 rfl (by decide) rfl rfl rfl rfl rfl rfl rfl ?_
    rintro y σ' ⟨rfl, rfl⟩
    refine hG.cS lk_Str_637 mi_Sl_indexOf rfl rfl (c_Sl_indexOf_1 x h0 h1 hx) rfl rfl rfl rfl rfl rfl ?_
    rintro y σ' ⟨rfl, rfl⟩
    refine hG.rt hR rfl rfl rfl rfl ?_
    exact ⟨rfl, rfl⟩
theorem c_Str_indexOf_1 (x : Int32) (h0 : ¬ x < 0) (h1 : ¬ 255 < x) (hx : x.toInt8.toInt32 = x) : Ci l θ 4 m_Str_indexOf [.inr 902, .inl x] σ (fun r σ' => σ' = σ ∧ r = ixS 1 x) := by
  refine Ci.of (Or.inl mi_Str_indexOf) pk_Str_indexOf (nb rfl) (Or.inl rfl) [some (.inr 902), some (.inl x)] rfl fun Γ hG hR => ?_
  refine hG.cVs 1 lk_Str_633 mi_Str_indexOf_ rfl rfl (c_Str_indexOf2_1 x h0 h1 hx) rfl (by decide) rfl rfl rfl rfl rfl rfl rfl ?_
  rintro y σ' ⟨rfl, rfl⟩
  refine hG.rt hR rfl rfl rfl rfl ?_
  exact ⟨rfl, rfl⟩
theorem c_Sl_indexOfChar_2 (x : Int32) (hx : x.toInt8.toInt32 = x) : Ci l θ 1 m_Sl_indexOfChar [.inr 907, .inl x, .inl (nI 0), .inl (nI 2)] σ (fun r σ' => σ' = σ ∧ r = ixS 2 x) := by
  refine Ci.of (Or.inr mi_Sl_indexOfChar) pk_Sl_indexOfChar (nb rfl) (Or.inl rfl) [some (.inr 907), some (.inl x), some (.inl (nI 0)), some (.inl (nI 2)), none, none] rfl fun Γ hG hR => ?_
  refine hG.i2b rfl rfl (by decide +kernel) hx ?_
  have hg : ixS 2 x = optN (-1) (fndB (fun k => decide ((st_byt.getD 2 []).getD k 0 = x)) 0 2) := rfl
  rw [hg] at hR
  generalize hP : (fun k => decide ((st_byt.getD 2 []).getD k 0 = x)) = P at hR
  have loop : ∀ m k, k + m = 2 → fndB P 0 2 = fndB P k m → X Γ 7 [some (.inr 907), some (.inl x), some (.inl (nI 0)), some (.inl (nI 2)), some (.inl x), some (.inl (nI k))] [] σ := by
    intro m
    induction m with
    | zero =>
      intro k hk he
      refine hG.br rfl rfl rfl rfl (fun k1 => ?_) (fun k1 => ?_)
      · refine hG.rt hR rfl rfl rfl rfl ?_
        exact ⟨rfl, by rw [he]; rfl⟩
      · exact absurd (nI_le (show 2 ≤ k by omega) (by omega)) k1
    | succ m ih =>
      intro k hk he
      rw [fndB_s _ _ m] at he
      have hPk : P k = decide ((st_byt.getD 2 []).getD k 0 = x) := by rw [← hP]
      refine hG.br rfl rfl rfl rfl (fun k1 => ?_) (fun k1 => ?_)
      · exact absurd k1 (nI_ge (by omega) (by omega))
      · refine hG.sld 2 k rfl rfl (by decide) rfl rfl (show k < 2 by omega) rfl (by decide +kernel) ?_
        refine hG.br rfl rfl rfl rfl (fun k2 => ?_) (fun k2 => ?_)
        · refine hG.jp rfl rfl rfl ?_
          rw [nI_1]
          exact ih (k + 1) (by omega) (by rw [he, hPk, decide_eq_false k2]; rfl)
        · refine hG.rt hR rfl rfl rfl rfl ?_
          exact ⟨rfl, by rw [he, hPk, decide_eq_true k2]; rfl⟩
  exact hG.go 3 rfl rfl (loop 2 0 (by omega) rfl)
theorem c_Sl_indexOf_2 (x : Int32) (h0 : ¬ x < 0) (h1 : ¬ 255 < x) (hx : x.toInt8.toInt32 = x) : Ci l θ 2 m_Sl_indexOf [.inr 907, .inl x, .inl 0, .inl (nI 2)] σ (fun r σ' => σ' = σ ∧ r = ixS 2 x) := by
  refine Ci.of (Or.inr mi_Sl_indexOf) pk_Sl_indexOf (nb rfl) (Or.inl rfl) [some (.inr 907), some (.inl x), some (.inl 0), some (.inl (nI 2))] rfl fun Γ hG hR => ?_
  refine hG.cS lk_Sl_88 mi_Sl_canEncode rfl rfl (c_Sl_canEncode x h0 h1) rfl rfl rfl rfl rfl rfl ?_
  rintro y σ' ⟨rfl, rfl⟩
  refine hG.br rfl rfl rfl rfl (fun k1 => ?_) (fun k1 => ?_)
  · refine hG.mx rfl lk_Sl_92 rfl rfl rfl rfl rfl ?_
    rw [if_neg (by decide)]
    refine hG.slen 2 rfl rfl (by decide) rfl rfl (by decide +kernel) ?_
    refine hG.mn rfl lk_Sl_38 rfl rfl rfl rfl rfl ?_
    rw [if_neg (by decide)]
    refine hG.br rfl rfl rfl rfl (fun k2 => ?_) (fun k2 => ?_)
    · refine hG.cS lk_Sl_95 mi_Sl_indexOfChar rfl rfl (c_Sl_indexOfChar_2 x hx) rfl rfl rfl rfl rfl rfl ?_
      rintro y σ' ⟨rfl, rfl⟩
      refine hG.rt hR rfl rfl rfl rfl ?_
      exact ⟨rfl, rfl⟩
    · exact absurd (show (0 : Int32) < nI 2 by decide) k2
  · exact absurd k1 (by decide)
theorem c_Str_indexOf2_2 (x : Int32) (h0 : ¬ x < 0) (h1 : ¬ 255 < x) (hx : x.toInt8.toInt32 = x) : Ci l θ 3 m_Str_indexOf_ [.inr 903, .inl x, .inl 0] σ (fun r σ' => σ' = σ ∧ r = ixS 2 x) := by
  refine Ci.of (Or.inl mi_Str_indexOf_) pk_Str_indexOf_ (nb rfl) (Or.inl rfl) [some (.inr 903), some (.inl x), some (.inl 0)] rfl fun Γ hG hR => ?_
  refine hG.cVs 2 lk_Str_492 mi_Str_isLatin1 rfl rfl c_Str_isLatin1_2 rfl (by decide) rfl rfl rfl rfl rfl rfl rfl ?_
  rintro y σ' ⟨rfl, rfl⟩
  refine hG.br rfl rfl rfl rfl (fun k1 => ?_) (fun k1 => ?_)
  · exact absurd k1 (by decide)
  · refine hG.gval 2 rfl rfl rfl (by decide) rfl rfl (by decide +kernel) ?_
    refine hG.cVs 2 lk_Str_505 mi_Str_length rfl rfl c_Str_length_2 rfl (by decide) rfl rfl rfl rfl rfl rfl rfl ?_
    rintro y σ' ⟨rfl, rfl⟩
    refine hG.cS lk_Str_637 mi_Sl_indexOf rfl rfl (c_Sl_indexOf_2 x h0 h1 hx) rfl rfl rfl rfl rfl rfl ?_
    rintro y σ' ⟨rfl, rfl⟩
    refine hG.rt hR rfl rfl rfl rfl ?_
    exact ⟨rfl, rfl⟩
theorem c_Str_indexOf_2 (x : Int32) (h0 : ¬ x < 0) (h1 : ¬ 255 < x) (hx : x.toInt8.toInt32 = x) : Ci l θ 4 m_Str_indexOf [.inr 903, .inl x] σ (fun r σ' => σ' = σ ∧ r = ixS 2 x) := by
  refine Ci.of (Or.inl mi_Str_indexOf) pk_Str_indexOf (nb rfl) (Or.inl rfl) [some (.inr 903), some (.inl x)] rfl fun Γ hG hR => ?_
  refine hG.cVs 2 lk_Str_633 mi_Str_indexOf_ rfl rfl (c_Str_indexOf2_2 x h0 h1 hx) rfl (by decide) rfl rfl rfl rfl rfl rfl rfl ?_
  rintro y σ' ⟨rfl, rfl⟩
  refine hG.rt hR rfl rfl rfl rfl ?_
  exact ⟨rfl, rfl⟩
theorem c_Sl_indexOfChar_3 (x : Int32) (hx : x.toInt8.toInt32 = x) : Ci l θ 1 m_Sl_indexOfChar [.inr 908, .inl x, .inl (nI 0), .inl (nI 2)] σ (fun r σ' => σ' = σ ∧ r = ixS 3 x) := by
  refine Ci.of (Or.inr mi_Sl_indexOfChar) pk_Sl_indexOfChar (nb rfl) (Or.inl rfl) [some (.inr 908), some (.inl x), some (.inl (nI 0)), some (.inl (nI 2)), none, none] rfl fun Γ hG hR => ?_
  refine hG.i2b rfl rfl (by decide +kernel) hx ?_
  have hg : ixS 3 x = optN (-1) (fndB (fun k => decide ((st_byt.getD 3 []).getD k 0 = x)) 0 2) := rfl
  rw [hg] at hR
  generalize hP : (fun k => decide ((st_byt.getD 3 []).getD k 0 = x)) = P at hR
  have loop : ∀ m k, k + m = 2 → fndB P 0 2 = fndB P k m → X Γ 7 [some (.inr 908), some (.inl x), some (.inl (nI 0)), some (.inl (nI 2)), some (.inl x), some (.inl (nI k))] [] σ := by
    intro m
    induction m with
    | zero =>
      intro k hk he
      refine hG.br rfl rfl rfl rfl (fun k1 => ?_) (fun k1 => ?_)
      · refine hG.rt hR rfl rfl rfl rfl ?_
        exact ⟨rfl, by rw [he]; rfl⟩
      · exact absurd (nI_le (show 2 ≤ k by omega) (by omega)) k1
    | succ m ih =>
      intro k hk he
      rw [fndB_s _ _ m] at he
      have hPk : P k = decide ((st_byt.getD 3 []).getD k 0 = x) := by rw [← hP]
      refine hG.br rfl rfl rfl rfl (fun k1 => ?_) (fun k1 => ?_)
      · exact absurd k1 (nI_ge (by omega) (by omega))
      · refine hG.sld 3 k rfl rfl (by decide) rfl rfl (show k < 2 by omega) rfl (by decide +kernel) ?_
        refine hG.br rfl rfl rfl rfl (fun k2 => ?_) (fun k2 => ?_)
        · refine hG.jp rfl rfl rfl ?_
          rw [nI_1]
          exact ih (k + 1) (by omega) (by rw [he, hPk, decide_eq_false k2]; rfl)
        · refine hG.rt hR rfl rfl rfl rfl ?_
          exact ⟨rfl, by rw [he, hPk, decide_eq_true k2]; rfl⟩
  exact hG.go 3 rfl rfl (loop 2 0 (by omega) rfl)
theorem c_Sl_indexOf_3 (x : Int32) (h0 : ¬ x < 0) (h1 : ¬ 255 < x) (hx : x.toInt8.toInt32 = x) : Ci l θ 2 m_Sl_indexOf [.inr 908, .inl x, .inl 0, .inl (nI 2)] σ (fun r σ' => σ' = σ ∧ r = ixS 3 x) := by
  refine Ci.of (Or.inr mi_Sl_indexOf) pk_Sl_indexOf (nb rfl) (Or.inl rfl) [some (.inr 908), some (.inl x), some (.inl 0), some (.inl (nI 2))] rfl fun Γ hG hR => ?_
  refine hG.cS lk_Sl_88 mi_Sl_canEncode rfl rfl (c_Sl_canEncode x h0 h1) rfl rfl rfl rfl rfl rfl ?_
  rintro y σ' ⟨rfl, rfl⟩
  refine hG.br rfl rfl rfl rfl (fun k1 => ?_) (fun k1 => ?_)
  · refine hG.mx rfl lk_Sl_92 rfl rfl rfl rfl rfl ?_
    rw [if_neg (by decide)]
    refine hG.slen 3 rfl rfl (by decide) rfl rfl (by decide +kernel) ?_
    refine hG.mn rfl lk_Sl_38 rfl rfl rfl rfl rfl ?_
    rw [if_neg (by decide)]
    refine hG.br rfl rfl rfl rfl (fun k2 => ?_) (fun k2 => ?_)
    · refine hG.cS lk_Sl_95 mi_Sl_indexOfChar rfl rfl (c_Sl_indexOfChar_3 x hx) rfl rfl rfl rfl rfl rfl ?_
      rintro y σ' ⟨rfl, rfl⟩
      refine hG.rt hR rfl rfl rfl rfl ?_
      exact ⟨rfl, rfl⟩
    · exact absurd (show (0 : Int32) < nI 2 by decide) k2
  · exact absurd k1 (by decide)
theorem c_Str_indexOf2_3 (x : Int32) (h0 : ¬ x < 0) (h1 : ¬ 255 < x) (hx : x.toInt8.toInt32 = x) : Ci l θ 3 m_Str_indexOf_ [.inr 904, .inl x, .inl 0] σ (fun r σ' => σ' = σ ∧ r = ixS 3 x) := by
  refine Ci.of (Or.inl mi_Str_indexOf_) pk_Str_indexOf_ (nb rfl) (Or.inl rfl) [some (.inr 904), some (.inl x), some (.inl 0)] rfl fun Γ hG hR => ?_
  refine hG.cVs 3 lk_Str_492 mi_Str_isLatin1 rfl rfl c_Str_isLatin1_3 rfl (by decide) rfl rfl rfl rfl rfl rfl rfl ?_
  rintro y σ' ⟨rfl, rfl⟩
  refine hG.br rfl rfl rfl rfl (fun k1 => ?_) (fun k1 => ?_)
  · exact absurd k1 (by decide)
  · refine hG.gval 3 rfl rfl rfl (by decide) rfl rfl (by decide +kernel) ?_
    refine hG.cVs 3 lk_Str_505 mi_Str_length rfl rfl c_Str_length_3 rfl (by decide) rfl rfl rfl rfl rfl rfl rfl ?_
    rintro y σ' ⟨rfl, rfl⟩
    refine hG.cS lk_Str_637 mi_Sl_indexOf rfl rfl (c_Sl_indexOf_3 x h0 h1 hx) rfl rfl rfl rfl rfl rfl ?_
    rintro y σ' ⟨rfl, rfl⟩
    refine hG.rt hR rfl rfl rfl rfl ?_
    exact ⟨rfl, rfl⟩
theorem c_Str_indexOf_3 (x : Int32) (h0 : ¬ x < 0) (h1 : ¬ 255 < x) (hx : x.toInt8.toInt32 = x) : Ci l θ 4 m_Str_indexOf [.inr 904, .inl x] σ (fun r σ' => σ' = σ ∧ r = ixS 3 x) := by
  refine Ci.of (Or.inl mi_Str_indexOf) pk_Str_indexOf (nb rfl) (Or.inl rfl) [some (.inr 904), some (.inl x)] rfl fun Γ hG hR => ?_
  refine hG.cVs 3 lk_Str_633 mi_Str_indexOf_ rfl rfl (c_Str_indexOf2_3 x h0 h1 hx) rfl (by decide) rfl rfl rfl rfl rfl rfl rfl ?_
  rintro y σ' ⟨rfl, rfl⟩
  refine hG.rt hR rfl rfl rfl rfl ?_
  exact ⟨rfl, rfl⟩
end
