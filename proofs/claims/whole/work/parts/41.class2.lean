/-! the class's texts, and how they are worked out -/
def stC (c : Int32) : Int32 := if 0 ≤ c then c else if c = -1 then -124 else if c = -2 then -38 else if c = -3 then -60 else if c = -4 then -61 else if c = -5 then -62 else if c = -6 then -43 else if c = -7 then -45 else if c = -8 then -42 else if c = -9 then -47 else -33
def jnK (s a b : Int32) : Int32 := if s = 38 then bi (decide (¬ a = 0) && decide (¬ b = 0)) else if s = 42 then a * b else if s = 43 then a + b else if s = 45 then a - b else if s = 60 then bi (decide (a < b)) else if s = 61 then bi (decide (a = b)) else if s = 62 then bi (decide (b < a)) else if s = 124 then bi (decide (¬ a = 0) || decide (¬ b = 0)) else if b = 0 then 0 else a / b
theorem sgn_cases {c : Int32} (h0 : ¬ 0 ≤ c) (h1 : -10 ≤ c) : c = -1 ∨ c = -2 ∨ c = -3 ∨ c = -4 ∨ c = -5 ∨ c = -6 ∨ c = -7 ∨ c = -8 ∨ c = -9 ∨ c = -10 := by
  rw [Int32.le_iff_toInt_le] at h0 h1
  have e0 : (0 : Int32).toInt = 0 := by decide
  have e1 : (-10 : Int32).toInt = -10 := by decide
  rw [e0] at h0
  rw [e1] at h1
  have key : ∀ (w : Int32) (k : Int), w.toInt = k → c.toInt = k → c = w := fun w k hw hc => Int32.toInt_inj.mp (hc.trans hw.symm)
  rcases (by omega : c.toInt = -1 ∨ c.toInt = -2 ∨ c.toInt = -3 ∨ c.toInt = -4 ∨ c.toInt = -5 ∨ c.toInt = -6 ∨ c.toInt = -7 ∨ c.toInt = -8 ∨ c.toInt = -9 ∨ c.toInt = -10) with h | h | h | h | h | h | h | h | h | h
  · exact Or.inl (key _ _ (by decide) h)
  · exact Or.inr (Or.inl (key _ _ (by decide) h))
  · exact Or.inr (Or.inr (Or.inl (key _ _ (by decide) h)))
  · exact Or.inr (Or.inr (Or.inr (Or.inl (key _ _ (by decide) h))))
  · exact Or.inr (Or.inr (Or.inr (Or.inr (Or.inl (key _ _ (by decide) h)))))
  · exact Or.inr (Or.inr (Or.inr (Or.inr (Or.inr (Or.inl (key _ _ (by decide) h))))))
  · exact Or.inr (Or.inr (Or.inr (Or.inr (Or.inr (Or.inr (Or.inl (key _ _ (by decide) h)))))))
  · exact Or.inr (Or.inr (Or.inr (Or.inr (Or.inr (Or.inr (Or.inr (Or.inl (key _ _ (by decide) h))))))))
  · exact Or.inr (Or.inr (Or.inr (Or.inr (Or.inr (Or.inr (Or.inr (Or.inr (Or.inl (key _ _ (by decide) h)))))))))
  · exact Or.inr (Or.inr (Or.inr (Or.inr (Or.inr (Or.inr (Or.inr (Or.inr (Or.inr (key _ _ (by decide) h)))))))))
theorem jnK_two {c a b : Int32} (h0 : ¬ 0 ≤ c) (h1 : -10 ≤ c) (h2 : ¬ c = -10) : jnK (-(stC c)) a b = twoK c a b := by
  rcases sgn_cases h0 h1 with rfl | rfl | rfl | rfl | rfl | rfl | rfl | rfl | rfl | rfl
  · rw [show -(stC (-1)) = 124 by decide, twoK, if_pos rfl, jnK, if_neg (by decide), if_neg (by decide), if_neg (by decide), if_neg (by decide), if_neg (by decide), if_neg (by decide), if_neg (by decide), if_pos rfl]
  · rw [show -(stC (-2)) = 38 by decide, twoK, if_neg (by decide), if_pos rfl, jnK, if_pos rfl]
  · rw [show -(stC (-3)) = 60 by decide, twoK, if_neg (by decide), if_neg (by decide), if_pos rfl, jnK, if_neg (by decide), if_neg (by decide), if_neg (by decide), if_neg (by decide), if_pos rfl]
  · rw [show -(stC (-4)) = 61 by decide, twoK, if_neg (by decide), if_neg (by decide), if_neg (by decide), if_pos rfl, jnK, if_neg (by decide), if_neg (by decide), if_neg (by decide), if_neg (by decide), if_neg (by decide), if_pos rfl]
  · rw [show -(stC (-5)) = 62 by decide, twoK, if_neg (by decide), if_neg (by decide), if_neg (by decide), if_neg (by decide), if_pos rfl, jnK, if_neg (by decide), if_neg (by decide), if_neg (by decide), if_neg (by decide), if_neg (by decide), if_neg (by decide), if_pos rfl]
  · rw [show -(stC (-6)) = 43 by decide, twoK, if_neg (by decide), if_neg (by decide), if_neg (by decide), if_neg (by decide), if_neg (by decide), if_pos rfl, jnK, if_neg (by decide), if_neg (by decide), if_pos rfl]
  · rw [show -(stC (-7)) = 45 by decide, twoK, if_neg (by decide), if_neg (by decide), if_neg (by decide), if_neg (by decide), if_neg (by decide), if_neg (by decide), if_pos rfl, jnK, if_neg (by decide), if_neg (by decide), if_neg (by decide), if_pos rfl]
  · rw [show -(stC (-8)) = 42 by decide, twoK, if_neg (by decide), if_neg (by decide), if_neg (by decide), if_neg (by decide), if_neg (by decide), if_neg (by decide), if_neg (by decide), if_pos rfl, jnK, if_neg (by decide), if_pos rfl]
  · rw [show -(stC (-9)) = 47 by decide, twoK, if_neg (by decide), if_neg (by decide), if_neg (by decide), if_neg (by decide), if_neg (by decide), if_neg (by decide), if_neg (by decide), if_neg (by decide), jnK, if_neg (by decide), if_neg (by decide), if_neg (by decide), if_neg (by decide), if_neg (by decide), if_neg (by decide), if_neg (by decide), if_neg (by decide)]
  · exact absurd rfl h2
theorem stC_pos {c : Int32} (h : 0 ≤ c) : stC c = c := by rw [stC, if_pos h]
theorem stC_neg {c : Int32} (h0 : ¬ 0 ≤ c) (h1 : -10 ≤ c) : stC c < 0 ∧ (stC c = -33 ↔ c = -10) := by
  rcases sgn_cases h0 h1 with rfl | rfl | rfl | rfl | rfl | rfl | rfl | rfl | rfl | rfl <;> decide
section
variable {l : Launch} {θ : Th} {σ : Sg}
theorem c_L_leaf (s a b c : Int32) : Ci l θ 1 m_L_leaf [.inl s, .inl a, .inl b, .inl c] σ (fun r σ' => σ' = σ ∧ r = if s < 10000 then s else if s = 10000 then a else if s = 10001 then b else c) := by
  refine Ci.of (Or.inr mi_L_leaf) pk_L_leaf (nb rfl) (Or.inl rfl) [some (.inl s), some (.inl a), some (.inl b), some (.inl c)] rfl fun Γ hG hR => ?_
  refine hG.br rfl rfl rfl rfl (fun h1 => ?_) (fun h1 => ?_)
  · rw [if_neg (i32_nlt.mpr h1)] at hR
    refine hG.br rfl rfl rfl rfl (fun h2 => ?_) (fun h2 => ?_)
    · rw [if_neg h2] at hR
      refine hG.br rfl rfl rfl rfl (fun h3 => ?_) (fun h3 => ?_)
      · refine hG.rt hR rfl rfl rfl rfl ?_
        exact ⟨rfl, by rw [if_neg h3]⟩
      · refine hG.rt hR rfl rfl rfl rfl ?_
        exact ⟨rfl, by rw [if_pos h3]⟩
    · refine hG.rt hR rfl rfl rfl rfl ?_
      exact ⟨rfl, by rw [if_pos h2]⟩
  · refine hG.rt hR rfl rfl rfl rfl ?_
    exact ⟨rfl, by rw [if_pos (i32_nle.mp h1)]⟩
theorem c_L_join (s a b : Int32) : Ci l θ 2 m_L_join [.inl s, .inl a, .inl b] σ (fun r σ' => σ' = σ ∧ r = jnK s a b) := by
  refine Ci.of (Or.inr mi_L_join) pk_L_join (nb rfl) (Or.inl rfl) [some (.inl s), some (.inl a), some (.inl b)] rfl fun Γ hG hR => ?_
  refine hG.lsw [(38, 93), (42, 160), (43, 152), (45, 156), (60, 110), (61, 124), (62, 138), (124, 76)] 164 rfl rfl rfl (by decide +kernel) ?_ ?_
  · intro k t hk hx
    simp only [List.mem_cons, Prod.mk.injEq, List.not_mem_nil, or_false] at hk
    rcases hk with ⟨rfl, rfl⟩ | ⟨rfl, rfl⟩ | ⟨rfl, rfl⟩ | ⟨rfl, rfl⟩ | ⟨rfl, rfl⟩ | ⟨rfl, rfl⟩ | ⟨rfl, rfl⟩ | ⟨rfl, rfl⟩
    · have e : s = 38 := tsw_x hx rfl
      have e' : jnK s a b = bi (decide (¬ a = 0) && decide (¬ b = 0)) := by rw [jnK, if_pos e]
      rw [e'] at hR
      refine hG.br rfl rfl rfl rfl (fun h1 => ?_) (fun h1 => ?_)
      · refine hG.bit (Or.inl ⟨rfl, rfl⟩) mi_W_bit rfl rfl (c_W_bit false) rfl rfl rfl rfl rfl rfl rfl ?_
        rintro x σ' ⟨rfl, rfl⟩
        refine hG.rt hR rfl rfl rfl rfl ?_
        exact ⟨rfl, by rw [decide_eq_false (fun h => h h1)]; rfl⟩
      · refine hG.br rfl rfl rfl rfl (fun h2 => ?_) (fun h2 => ?_)
        · refine hG.bit (Or.inl ⟨rfl, rfl⟩) mi_W_bit rfl rfl (c_W_bit false) rfl rfl rfl rfl rfl rfl rfl ?_
          rintro x σ' ⟨rfl, rfl⟩
          refine hG.rt hR rfl rfl rfl rfl ?_
          exact ⟨rfl, by rw [decide_eq_false (p := ¬ b = 0) (fun h => h h2), Bool.and_false]⟩
        · refine hG.bit (Or.inl ⟨rfl, rfl⟩) mi_W_bit rfl rfl (c_W_bit true) rfl rfl rfl rfl rfl rfl rfl ?_
          rintro x σ' ⟨rfl, rfl⟩
          refine hG.rt hR rfl rfl rfl rfl ?_
          exact ⟨rfl, by rw [decide_eq_true h1, decide_eq_true h2]; rfl⟩
    · have e : s = 42 := tsw_x hx rfl
      refine hG.rt hR rfl rfl rfl rfl ?_
      exact ⟨rfl, by rw [jnK, e, if_neg (by decide), if_pos rfl]⟩
    · have e : s = 43 := tsw_x hx rfl
      refine hG.rt hR rfl rfl rfl rfl ?_
      exact ⟨rfl, by rw [jnK, e, if_neg (by decide), if_neg (by decide), if_pos rfl]⟩
    · have e : s = 45 := tsw_x hx rfl
      refine hG.rt hR rfl rfl rfl rfl ?_
      exact ⟨rfl, by rw [jnK, e, if_neg (by decide), if_neg (by decide), if_neg (by decide), if_pos rfl]⟩
    · have e : s = 60 := tsw_x hx rfl
      have e' : jnK s a b = bi (decide (a < b)) := by rw [jnK, e, if_neg (by decide), if_neg (by decide), if_neg (by decide), if_neg (by decide), if_pos rfl]
      rw [e'] at hR
      refine hG.br rfl rfl rfl rfl (fun h1 => ?_) (fun h1 => ?_)
      · refine hG.bit (Or.inl ⟨rfl, rfl⟩) mi_W_bit rfl rfl (c_W_bit false) rfl rfl rfl rfl rfl rfl rfl ?_
        rintro x σ' ⟨rfl, rfl⟩
        refine hG.rt hR rfl rfl rfl rfl ?_
        exact ⟨rfl, by rw [decide_eq_false (i32_nlt.mpr h1)]⟩
      · refine hG.bit (Or.inl ⟨rfl, rfl⟩) mi_W_bit rfl rfl (c_W_bit true) rfl rfl rfl rfl rfl rfl rfl ?_
        rintro x σ' ⟨rfl, rfl⟩
        refine hG.rt hR rfl rfl rfl rfl ?_
        exact ⟨rfl, by rw [decide_eq_true (i32_nle.mp h1)]⟩
    · have e : s = 61 := tsw_x hx rfl
      have e' : jnK s a b = bi (decide (a = b)) := by rw [jnK, e, if_neg (by decide), if_neg (by decide), if_neg (by decide), if_neg (by decide), if_neg (by decide), if_pos rfl]
      rw [e'] at hR
      refine hG.br rfl rfl rfl rfl (fun h1 => ?_) (fun h1 => ?_)
      · refine hG.bit (Or.inl ⟨rfl, rfl⟩) mi_W_bit rfl rfl (c_W_bit false) rfl rfl rfl rfl rfl rfl rfl ?_
        rintro x σ' ⟨rfl, rfl⟩
        refine hG.rt hR rfl rfl rfl rfl ?_
        exact ⟨rfl, by rw [decide_eq_false h1]⟩
      · refine hG.bit (Or.inl ⟨rfl, rfl⟩) mi_W_bit rfl rfl (c_W_bit true) rfl rfl rfl rfl rfl rfl rfl ?_
        rintro x σ' ⟨rfl, rfl⟩
        refine hG.rt hR rfl rfl rfl rfl ?_
        exact ⟨rfl, by rw [decide_eq_true h1]⟩
    · have e : s = 62 := tsw_x hx rfl
      have e' : jnK s a b = bi (decide (b < a)) := by rw [jnK, e, if_neg (by decide), if_neg (by decide), if_neg (by decide), if_neg (by decide), if_neg (by decide), if_neg (by decide), if_pos rfl]
      rw [e'] at hR
      refine hG.br rfl rfl rfl rfl (fun h1 => ?_) (fun h1 => ?_)
      · refine hG.bit (Or.inl ⟨rfl, rfl⟩) mi_W_bit rfl rfl (c_W_bit false) rfl rfl rfl rfl rfl rfl rfl ?_
        rintro x σ' ⟨rfl, rfl⟩
        refine hG.rt hR rfl rfl rfl rfl ?_
        exact ⟨rfl, by rw [decide_eq_false (i32_nlt.mpr h1)]⟩
      · refine hG.bit (Or.inl ⟨rfl, rfl⟩) mi_W_bit rfl rfl (c_W_bit true) rfl rfl rfl rfl rfl rfl rfl ?_
        rintro x σ' ⟨rfl, rfl⟩
        refine hG.rt hR rfl rfl rfl rfl ?_
        exact ⟨rfl, by rw [decide_eq_true (i32_nle.mp h1)]⟩
    · have e : s = 124 := tsw_x hx rfl
      have e' : jnK s a b = bi (decide (¬ a = 0) || decide (¬ b = 0)) := by rw [jnK, e, if_neg (by decide), if_neg (by decide), if_neg (by decide), if_neg (by decide), if_neg (by decide), if_neg (by decide), if_neg (by decide), if_pos rfl]
      rw [e'] at hR
      refine hG.br rfl rfl rfl rfl (fun h1 => ?_) (fun h1 => ?_)
      · refine hG.bit (Or.inl ⟨rfl, rfl⟩) mi_W_bit rfl rfl (c_W_bit true) rfl rfl rfl rfl rfl rfl rfl ?_
        rintro x σ' ⟨rfl, rfl⟩
        refine hG.rt hR rfl rfl rfl rfl ?_
        exact ⟨rfl, by rw [decide_eq_true h1]; rfl⟩
      · refine hG.br rfl rfl rfl rfl (fun h2 => ?_) (fun h2 => ?_)
        · refine hG.bit (Or.inl ⟨rfl, rfl⟩) mi_W_bit rfl rfl (c_W_bit false) rfl rfl rfl rfl rfl rfl rfl ?_
          rintro x σ' ⟨rfl, rfl⟩
          refine hG.rt hR rfl rfl rfl rfl ?_
          exact ⟨rfl, by rw [decide_eq_false (p := ¬ a = 0) (fun h => h h1), decide_eq_false (p := ¬ b = 0) (fun h => h h2)]; rfl⟩
        · refine hG.bit (Or.inl ⟨rfl, rfl⟩) mi_W_bit rfl rfl (c_W_bit true) rfl rfl rfl rfl rfl rfl rfl ?_
          rintro x σ' ⟨rfl, rfl⟩
          refine hG.rt hR rfl rfl rfl rfl ?_
          exact ⟨rfl, by rw [decide_eq_true h2, Bool.or_true]⟩
  · intro hx
    have g : ∀ (w : Int32), (∃ t, (w.toInt, t) ∈ [((38 : Int), 93), (42, 160), (43, 152), (45, 156), (60, 110), (61, 124), (62, 138), (124, 76)]) → ¬ s = w := by
      rintro w ⟨t, ht⟩ e
      exact hx _ ht (by rw [e])
    have e' : jnK s a b = if b = 0 then 0 else a / b := by
      rw [jnK, if_neg (g 38 ⟨93, by decide⟩), if_neg (g 42 ⟨160, by decide⟩), if_neg (g 43 ⟨152, by decide⟩), if_neg (g 45 ⟨156, by decide⟩), if_neg (g 60 ⟨110, by decide⟩), if_neg (g 61 ⟨124, by decide⟩), if_neg (g 62 ⟨138, by decide⟩), if_neg (g 124 ⟨76, by decide⟩)]
    rw [e'] at hR
    refine hG.br rfl rfl rfl rfl (fun h1 => ?_) (fun h1 => ?_)
    · refine hG.dv rfl rfl rfl h1 ?_
      refine hG.rt hR rfl rfl rfl rfl ?_
      exact ⟨rfl, by rw [if_neg h1]⟩
    · refine hG.rt hR rfl rfl rfl rfl ?_
      exact ⟨rfl, by rw [if_pos h1]⟩
end
