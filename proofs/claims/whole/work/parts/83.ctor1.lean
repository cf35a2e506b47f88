/-! the class's small constructors (gen_ctor.py) -/
abbrev dE5 : En := .inl (5, [.inl (0), .inl (0), .inl (0), .inr none])
def df5 : List FV := [.inl (0), .inl (0), .inl (0), .inr none]
theorem df5_ok : ∀ (a : Nat → Nat) (j : Nat), j < 4 → defaultValue (ft5 j) = vp_V (df5.map (cFV a)) j := by
  intro a j hj
  match j, hj with
  | 0, _ => rfl
  | 1, _ => rfl
  | 2, _ => rfl
  | 3, _ => rfl
  | j + 4, hj => exact absurd hj (by omega)
theorem mc_X : MC m_X_init := ⟨memTB _ [96, 61, 97] (by decide +kernel) (by decide +kernel), ⟨by decide +kernel, ⟨by decide +kernel, by decide +kernel⟩, by decide +kernel, by decide +kernel⟩, rfl, rfl⟩
def es_X_0 : List En := [.inl (5, [.inl (0), .inl (0), .inl (0), .inr none])]
def es_X_1 : List En := [.inl (5, [.inl (0), .inl (0), .inl (0), .inr none]), .inr (.inl (0, 96, []))]
def es_X_2 : List En := [.inl (5, [.inl (0), .inl (0), .inl (0), .inr (some 1)]), .inr (.inl (0, 96, []))]
abbrev es_X_end : List En := es_X_2
set_option maxRecDepth 100000 in
set_option maxHeartbeats 4000000 in
theorem k_X (l : Launch) (Δ : Dl) : Cc l Δ 1 1 96 m_X_init dE5 es_X_end := by
  refine Cc.of mc_X rfl (by decide) [some (.inr 0)] rfl fun Γ hΔ hl hpin hO hR => ?_
  show Y Γ 0 _ [] es_X_0 0 0
  refine hO.al (k := 0) 0 0 rfl rfl (by decide +kernel) ?_
  refine hO.obj (idx := 3) 0 rfl (memTB _ [98, 84, 85] (by decide +kernel) (by decide +kernel)) rfl rfl (by decide) (by decide +kernel) ?_
  refine hO.al (k := 0) 0 0 rfl rfl (by decide +kernel) ?_
  refine hO.bp (n := 96) (96) (by decide) (by decide +kernel) ?_
  refine hO.newa (at_ := .int) 0 .int 96 rfl (by decide) rfl (fun _ => rfl) (fun _ _ => rfl) rfl (memTB [.arrayClass .int] [117] rfl (by decide +kernel) _ (List.mem_singleton.mpr rfl)) (by decide) (by decide +kernel) (by decide +kernel) (by decide +kernel) (Or.inr (by decide +kernel)) rfl rfl (by decide +kernel) (n := 1) rfl (es' := es_X_1) rfl (kc' := 1) (ks' := 96) rfl rfl ?_
  refine hO.putr (idx := 9) 0 3 1 5 [.inl (0), .inl (0), .inl (0), .inr none] (.array .int) rfl rfl (by decide) (memTB [.fieldLink "NotWorn$Text" 9 "NotWorn$Text" "steps" "[I"] [106] rfl (by decide +kernel) _ (List.mem_singleton.mpr rfl)) rfl rfl (by decide +kernel) (fun _ => rfl) (fun _ => rfl) (by decide) hpin (by decide +kernel) (es' := es_X_2) rfl ?_
  exact hR 12 _ (by decide +kernel)
abbrev dE2 : En := .inl (2, [.inl (0), .inl (0), .inr none])
def df2 : List FV := [.inl (0), .inl (0), .inr none]
theorem df2_ok : ∀ (a : Nat → Nat) (j : Nat), j < 3 → defaultValue (ft2 j) = vp_V (df2.map (cFV a)) j := by
  intro a j hj
  match j, hj with
  | 0, _ => rfl
  | 1, _ => rfl
  | 2, _ => rfl
  | j + 3, hj => exact absurd hj (by omega)
theorem mc_R : MC m_R_init := ⟨memTB _ [262, 65, 263] (by decide +kernel) (by decide +kernel), ⟨by decide +kernel, ⟨by decide +kernel, by decide +kernel⟩, by decide +kernel, by decide +kernel⟩, rfl, rfl⟩
def es_R_0 : List En := [.inl (2, [.inl (0), .inl (0), .inr none])]
def es_R_1 : List En := [.inl (2, [.inl (-1), .inl (0), .inr none])]
def es_R_2 : List En := [.inl (2, [.inl (-1), .inl (0), .inr none]), .inr (.inl (0, 24, []))]
def es_R_3 : List En := [.inl (2, [.inl (-1), .inl (0), .inr (some 1)]), .inr (.inl (0, 24, []))]
abbrev es_R_end : List En := es_R_3
set_option maxRecDepth 100000 in
set_option maxHeartbeats 4000000 in
theorem k_R (l : Launch) (Δ : Dl) : Cc l Δ 1 1 24 m_R_init dE2 es_R_end := by
  refine Cc.of mc_R rfl (by decide) [some (.inr 0)] rfl fun Γ hΔ hl hpin hO hR => ?_
  show Y Γ 0 _ [] es_R_0 0 0
  refine hO.al (k := 0) 0 0 rfl rfl (by decide +kernel) ?_
  refine hO.obj (idx := 3) 0 rfl (memTB _ [264, 84, 85] (by decide +kernel) (by decide +kernel)) rfl rfl (by decide) (by decide +kernel) ?_
  refine hO.al (k := 0) 0 0 rfl rfl (by decide +kernel) ?_
  refine hO.ic (n := -1) (-1) (by decide) (by decide +kernel) ?_
  refine hO.puti (idx := 9) 0 0 2 (-1) [.inl (0), .inl (0), .inr none] rfl rfl (by decide) (memTB [.fieldLink "NotWorn$Row" 9 "NotWorn$Row" "sort" "I"] [265] rfl (by decide +kernel) _ (List.mem_singleton.mpr rfl)) rfl (by decide +kernel) (by decide) (by decide +kernel) (es' := es_R_1) rfl ?_
  refine hO.al (k := 0) 0 0 rfl rfl (by decide +kernel) ?_
  refine hO.bp (n := 24) (24) (by decide) (by decide +kernel) ?_
  refine hO.newa (at_ := .int) 0 .int 24 rfl (by decide) rfl (fun _ => rfl) (fun _ _ => rfl) rfl (memTB [.arrayClass .int] [117] rfl (by decide +kernel) _ (List.mem_singleton.mpr rfl)) (by decide) (by decide +kernel) (by decide +kernel) (by decide +kernel) (Or.inr (by decide +kernel)) rfl rfl (by decide +kernel) (n := 1) rfl (es' := es_R_2) rfl (kc' := 1) (ks' := 24) rfl rfl ?_
  refine hO.putr (idx := 15) 0 2 1 2 [.inl (-1), .inl (0), .inr none] (.array .int) rfl rfl (by decide) (memTB [.fieldLink "NotWorn$Row" 15 "NotWorn$Row" "cells" "[I"] [269] rfl (by decide +kernel) _ (List.mem_singleton.mpr rfl)) rfl rfl (by decide +kernel) (fun _ => rfl) (fun _ => rfl) (by decide) hpin (by decide +kernel) (es' := es_R_3) rfl ?_
  exact hR 17 _ (by decide +kernel)
abbrev dE0 : En := .inl (0, [.inr none, .inl (0), .inl (0), .inr none, .inr none, .inr none])
def df0 : List FV := [.inr none, .inl (0), .inl (0), .inr none, .inr none, .inr none]
theorem df0_ok : ∀ (a : Nat → Nat) (j : Nat), j < 6 → defaultValue (ft0 j) = vp_V (df0.map (cFV a)) j := by
  intro a j hj
  match j, hj with
  | 0, _ => rfl
  | 1, _ => rfl
  | 2, _ => rfl
  | 3, _ => rfl
  | 4, _ => rfl
  | 5, _ => rfl
  | j + 6, hj => exact absurd hj (by omega)
theorem mc_D : MC m_D_init := ⟨memTB _ [200, 63, 201] (by decide +kernel) (by decide +kernel), ⟨by decide +kernel, ⟨by decide +kernel, by decide +kernel⟩, by decide +kernel, by decide +kernel⟩, rfl, rfl⟩
def es_D_0 : List En := [.inl (0, [.inr none, .inl (0), .inl (0), .inr none, .inr none, .inr none])]
def es_D_1 : List En := [.inl (0, [.inr none, .inl (0), .inl (0), .inr none, .inr none, .inr none]), .inr (.inl (0, 6, []))]
def es_D_2 : List En := [.inl (0, [.inr (some 1), .inl (0), .inl (0), .inr none, .inr none, .inr none]), .inr (.inl (0, 6, []))]
def es_D_3 : List En := [.inl (0, [.inr (some 1), .inl (0), .inl (0), .inr none, .inr none, .inr none]), .inr (.inl (0, 6, [])), .inr (.inl (0, 6, []))]
def es_D_4 : List En := [.inl (0, [.inr (some 1), .inl (0), .inl (0), .inr (some 2), .inr none, .inr none]), .inr (.inl (0, 6, [])), .inr (.inl (0, 6, []))]
def es_D_5 : List En := [.inl (0, [.inr (some 1), .inl (0), .inl (0), .inr (some 2), .inr none, .inr none]), .inr (.inl (0, 6, [])), .inr (.inl (0, 6, [])), .inr (.inl (1, 6, []))]
def es_D_6 : List En := [.inl (0, [.inr (some 1), .inl (0), .inl (0), .inr (some 2), .inr (some 3), .inr none]), .inr (.inl (0, 6, [])), .inr (.inl (0, 6, [])), .inr (.inl (1, 6, []))]
def es_D_7 : List En := [.inl (0, [.inr (some 1), .inl (0), .inl (0), .inr (some 2), .inr (some 3), .inr none]), .inr (.inl (0, 6, [])), .inr (.inl (0, 6, [])), .inr (.inl (1, 6, [])), .inr (.inl (1, 6, []))]
def es_D_8 : List En := [.inl (0, [.inr (some 1), .inl (0), .inl (0), .inr (some 2), .inr (some 3), .inr (some 4)]), .inr (.inl (0, 6, [])), .inr (.inl (0, 6, [])), .inr (.inl (1, 6, [])), .inr (.inl (1, 6, []))]
abbrev es_D_end : List En := es_D_8
set_option maxRecDepth 100000 in
set_option maxHeartbeats 4000000 in
theorem k_D (l : Launch) (Δ : Dl) : Cc l Δ 1 4 24 m_D_init dE0 es_D_end := by
  refine Cc.of mc_D rfl (by decide) [some (.inr 0)] rfl fun Γ hΔ hl hpin hO hR => ?_
  show Y Γ 0 _ [] es_D_0 0 0
  refine hO.al (k := 0) 0 0 rfl rfl (by decide +kernel) ?_
  refine hO.obj (idx := 3) 0 rfl (memTB _ [202, 84, 85] (by decide +kernel) (by decide +kernel)) rfl rfl (by decide) (by decide +kernel) ?_
  refine hO.al (k := 0) 0 0 rfl rfl (by decide +kernel) ?_
  refine hO.bp (n := 6) (6) (by decide) (by decide +kernel) ?_
  refine hO.newa (at_ := .int) 0 .int 6 rfl (by decide) rfl (fun _ => rfl) (fun _ _ => rfl) rfl (memTB [.arrayClass .int] [117] rfl (by decide +kernel) _ (List.mem_singleton.mpr rfl)) (by decide) (by decide +kernel) (by decide +kernel) (by decide +kernel) (Or.inr (by decide +kernel)) rfl rfl (by decide +kernel) (n := 1) rfl (es' := es_D_1) rfl (kc' := 1) (ks' := 6) rfl rfl ?_
  refine hO.putr (idx := 9) 0 0 1 0 [.inr none, .inl (0), .inl (0), .inr none, .inr none, .inr none] (.array .int) rfl rfl (by decide) (memTB [.fieldLink "NotWorn$Dealer" 9 "NotWorn$Dealer" "best" "[I"] [203] rfl (by decide +kernel) _ (List.mem_singleton.mpr rfl)) rfl rfl (by decide +kernel) (fun _ => rfl) (fun _ => rfl) (by decide) hpin (by decide +kernel) (es' := es_D_2) rfl ?_
  refine hO.al (k := 0) 0 0 rfl rfl (by decide +kernel) ?_
  refine hO.bp (n := 6) (6) (by decide) (by decide +kernel) ?_
  refine hO.newa (at_ := .int) 0 .int 6 rfl (by decide) rfl (fun _ => rfl) (fun _ _ => rfl) rfl (memTB [.arrayClass .int] [117] rfl (by decide +kernel) _ (List.mem_singleton.mpr rfl)) (by decide) (by decide +kernel) (by decide +kernel) (by decide +kernel) (Or.inr (by decide +kernel)) rfl rfl (by decide +kernel) (n := 2) rfl (es' := es_D_3) rfl (kc' := 2) (ks' := 12) rfl rfl ?_
  refine hO.putr (idx := 15) 0 3 2 0 [.inr (some 1), .inl (0), .inl (0), .inr none, .inr none, .inr none] (.array .int) rfl rfl (by decide) (memTB [.fieldLink "NotWorn$Dealer" 15 "NotWorn$Dealer" "tried" "[I"] [209] rfl (by decide +kernel) _ (List.mem_singleton.mpr rfl)) rfl rfl (by decide +kernel) (fun _ => rfl) (fun _ => rfl) (by decide) hpin (by decide +kernel) (es' := es_D_4) rfl ?_
  refine hO.al (k := 0) 0 0 rfl rfl (by decide +kernel) ?_
  refine hO.bp (n := 6) (6) (by decide) (by decide +kernel) ?_
  refine hO.newa (at_ := .boolean) 1 .boolean 6 rfl (by decide) rfl (fun _ => rfl) (fun _ _ => rfl) rfl (memTB [.arrayClass .boolean] [225] rfl (by decide +kernel) _ (List.mem_singleton.mpr rfl)) (by decide) (by decide +kernel) (by decide +kernel) (by decide +kernel) (Or.inr (by decide +kernel)) rfl rfl (by decide +kernel) (n := 3) rfl (es' := es_D_5) rfl (kc' := 3) (ks' := 18) rfl rfl ?_
  refine hO.putr (idx := 18) 0 4 3 0 [.inr (some 1), .inl (0), .inl (0), .inr (some 2), .inr none, .inr none] (.array .boolean) rfl rfl (by decide) (memTB [.fieldLink "NotWorn$Dealer" 18 "NotWorn$Dealer" "firstClear" "[Z"] [210] rfl (by decide +kernel) _ (List.mem_singleton.mpr rfl)) rfl rfl (by decide +kernel) (fun _ => rfl) (fun _ => rfl) (by decide) hpin (by decide +kernel) (es' := es_D_6) rfl ?_
  refine hO.al (k := 0) 0 0 rfl rfl (by decide +kernel) ?_
  refine hO.bp (n := 6) (6) (by decide) (by decide +kernel) ?_
  refine hO.newa (at_ := .boolean) 1 .boolean 6 rfl (by decide) rfl (fun _ => rfl) (fun _ _ => rfl) rfl (memTB [.arrayClass .boolean] [225] rfl (by decide +kernel) _ (List.mem_singleton.mpr rfl)) (by decide) (by decide +kernel) (by decide +kernel) (by decide +kernel) (Or.inr (by decide +kernel)) rfl rfl (by decide +kernel) (n := 4) rfl (es' := es_D_7) rfl (kc' := 4) (ks' := 24) rfl rfl ?_
  refine hO.putr (idx := 22) 0 5 4 0 [.inr (some 1), .inl (0), .inl (0), .inr (some 2), .inr (some 3), .inr none] (.array .boolean) rfl rfl (by decide) (memTB [.fieldLink "NotWorn$Dealer" 22 "NotWorn$Dealer" "secondClear" "[Z"] [211] rfl (by decide +kernel) _ (List.mem_singleton.mpr rfl)) rfl rfl (by decide +kernel) (fun _ => rfl) (fun _ => rfl) (by decide) hpin (by decide +kernel) (es' := es_D_8) rfl ?_
  exact hR 36 _ (by decide +kernel)
abbrev dE6 : En := .inl (6, [.inr none, .inr none, .inr none, .inr none, .inl (0), .inr none, .inr none, .inl (0), .inl (0), .inl (0), .inl (0), .inl (0), .inr none, .inl (0), .inr none, .inl (0)])
def df6 : List FV := [.inr none, .inr none, .inr none, .inr none, .inl (0), .inr none, .inr none, .inl (0), .inl (0), .inl (0), .inl (0), .inl (0), .inr none, .inl (0), .inr none, .inl (0)]
theorem df6_ok : ∀ (a : Nat → Nat) (j : Nat), j < 16 → defaultValue (ft6 j) = vp_V (df6.map (cFV a)) j := by
  intro a j hj
  match j, hj with
  | 0, _ => rfl
  | 1, _ => rfl
  | 2, _ => rfl
  | 3, _ => rfl
  | 4, _ => rfl
  | 5, _ => rfl
  | 6, _ => rfl
  | 7, _ => rfl
  | 8, _ => rfl
  | 9, _ => rfl
  | 10, _ => rfl
  | 11, _ => rfl
  | 12, _ => rfl
  | 13, _ => rfl
  | 14, _ => rfl
  | 15, _ => rfl
  | j + 16, hj => exact absurd hj (by omega)
theorem mc_V : MC m_V_init := ⟨memTB _ [129, 62, 130] (by decide +kernel) (by decide +kernel), ⟨by decide +kernel, ⟨by decide +kernel, by decide +kernel⟩, by decide +kernel, by decide +kernel⟩, rfl, rfl⟩
def es_V_0 : List En := [.inl (6, [.inr none, .inr none, .inr none, .inr none, .inl (0), .inr none, .inr none, .inl (0), .inl (0), .inl (0), .inl (0), .inl (0), .inr none, .inl (0), .inr none, .inl (0)])]
def es_V_1 : List En := [.inl (6, [.inr none, .inr none, .inr none, .inr none, .inl (0), .inr none, .inr none, .inl (0), .inl (0), .inl (0), .inl (0), .inl (0), .inr none, .inl (0), .inr none, .inl (0)]), .inr (.inl (0, 10, []))]
def es_V_2 : List En := [.inl (6, [.inr (some 1), .inr none, .inr none, .inr none, .inl (0), .inr none, .inr none, .inl (0), .inl (0), .inl (0), .inl (0), .inl (0), .inr none, .inl (0), .inr none, .inl (0)]), .inr (.inl (0, 10, []))]
def es_V_3 : List En := [.inl (6, [.inr (some 1), .inr none, .inr none, .inr none, .inl (0), .inr none, .inr none, .inl (0), .inl (0), .inl (0), .inl (0), .inl (0), .inr none, .inl (0), .inr none, .inl (0)]), .inr (.inl (0, 10, [])), .inr (.inl (0, 10, []))]
def es_V_4 : List En := [.inl (6, [.inr (some 1), .inr (some 2), .inr none, .inr none, .inl (0), .inr none, .inr none, .inl (0), .inl (0), .inl (0), .inl (0), .inl (0), .inr none, .inl (0), .inr none, .inl (0)]), .inr (.inl (0, 10, [])), .inr (.inl (0, 10, []))]
def es_V_5 : List En := [.inl (6, [.inr (some 1), .inr (some 2), .inr none, .inr none, .inl (0), .inr none, .inr none, .inl (0), .inl (0), .inl (0), .inl (0), .inl (0), .inr none, .inl (0), .inr none, .inl (0)]), .inr (.inl (0, 10, [])), .inr (.inl (0, 10, [])), .inr (.inl (0, 10, []))]
def es_V_6 : List En := [.inl (6, [.inr (some 1), .inr (some 2), .inr (some 3), .inr none, .inl (0), .inr none, .inr none, .inl (0), .inl (0), .inl (0), .inl (0), .inl (0), .inr none, .inl (0), .inr none, .inl (0)]), .inr (.inl (0, 10, [])), .inr (.inl (0, 10, [])), .inr (.inl (0, 10, []))]
def es_V_7 : List En := [.inl (6, [.inr (some 1), .inr (some 2), .inr (some 3), .inr none, .inl (0), .inr none, .inr none, .inl (0), .inl (0), .inl (0), .inl (0), .inl (0), .inr none, .inl (0), .inr none, .inl (0)]), .inr (.inl (0, 10, [])), .inr (.inl (0, 10, [])), .inr (.inl (0, 10, [])), .inr (.inl (0, 10, []))]
def es_V_8 : List En := [.inl (6, [.inr (some 1), .inr (some 2), .inr (some 3), .inr (some 4), .inl (0), .inr none, .inr none, .inl (0), .inl (0), .inl (0), .inl (0), .inl (0), .inr none, .inl (0), .inr none, .inl (0)]), .inr (.inl (0, 10, [])), .inr (.inl (0, 10, [])), .inr (.inl (0, 10, [])), .inr (.inl (0, 10, []))]
def es_V_9 : List En := [.inl (6, [.inr (some 1), .inr (some 2), .inr (some 3), .inr (some 4), .inl (0), .inr none, .inr none, .inl (0), .inl (0), .inl (0), .inl (0), .inl (0), .inr none, .inl (0), .inr none, .inl (0)]), .inr (.inl (0, 10, [])), .inr (.inl (0, 10, [])), .inr (.inl (0, 10, [])), .inr (.inl (0, 10, [])), .inr (.inl (0, 6, []))]
def es_V_10 : List En := [.inl (6, [.inr (some 1), .inr (some 2), .inr (some 3), .inr (some 4), .inl (0), .inr (some 5), .inr none, .inl (0), .inl (0), .inl (0), .inl (0), .inl (0), .inr none, .inl (0), .inr none, .inl (0)]), .inr (.inl (0, 10, [])), .inr (.inl (0, 10, [])), .inr (.inl (0, 10, [])), .inr (.inl (0, 10, [])), .inr (.inl (0, 6, []))]
def es_V_11 : List En := [.inl (6, [.inr (some 1), .inr (some 2), .inr (some 3), .inr (some 4), .inl (0), .inr (some 5), .inr none, .inl (0), .inl (0), .inl (0), .inl (0), .inl (0), .inr none, .inl (0), .inr none, .inl (0)]), .inr (.inl (0, 10, [])), .inr (.inl (0, 10, [])), .inr (.inl (0, 10, [])), .inr (.inl (0, 10, [])), .inr (.inl (0, 6, [])), .inr (.inl (0, 6, []))]
def es_V_12 : List En := [.inl (6, [.inr (some 1), .inr (some 2), .inr (some 3), .inr (some 4), .inl (0), .inr (some 5), .inr (some 6), .inl (0), .inl (0), .inl (0), .inl (0), .inl (0), .inr none, .inl (0), .inr none, .inl (0)]), .inr (.inl (0, 10, [])), .inr (.inl (0, 10, [])), .inr (.inl (0, 10, [])), .inr (.inl (0, 10, [])), .inr (.inl (0, 6, [])), .inr (.inl (0, 6, []))]
def es_V_13 : List En := [.inl (6, [.inr (some 1), .inr (some 2), .inr (some 3), .inr (some 4), .inl (0), .inr (some 5), .inr (some 6), .inl (0), .inl (80), .inl (0), .inl (0), .inl (0), .inr none, .inl (0), .inr none, .inl (0)]), .inr (.inl (0, 10, [])), .inr (.inl (0, 10, [])), .inr (.inl (0, 10, [])), .inr (.inl (0, 10, [])), .inr (.inl (0, 6, [])), .inr (.inl (0, 6, []))]
def es_V_14 : List En := [.inl (6, [.inr (some 1), .inr (some 2), .inr (some 3), .inr (some 4), .inl (0), .inr (some 5), .inr (some 6), .inl (0), .inl (80), .inl (0), .inl (1), .inl (0), .inr none, .inl (0), .inr none, .inl (0)]), .inr (.inl (0, 10, [])), .inr (.inl (0, 10, [])), .inr (.inl (0, 10, [])), .inr (.inl (0, 10, [])), .inr (.inl (0, 6, [])), .inr (.inl (0, 6, []))]
def es_V_15 : List En := [.inl (6, [.inr (some 1), .inr (some 2), .inr (some 3), .inr (some 4), .inl (0), .inr (some 5), .inr (some 6), .inl (0), .inl (80), .inl (0), .inl (1), .inl (0), .inr none, .inl (0), .inr none, .inl (0)]), .inr (.inl (0, 10, [])), .inr (.inl (0, 10, [])), .inr (.inl (0, 10, [])), .inr (.inl (0, 10, [])), .inr (.inl (0, 6, [])), .inr (.inl (0, 6, [])), .inr (.inl (0, 3, []))]
def es_V_16 : List En := [.inl (6, [.inr (some 1), .inr (some 2), .inr (some 3), .inr (some 4), .inl (0), .inr (some 5), .inr (some 6), .inl (0), .inl (80), .inl (0), .inl (1), .inl (0), .inr none, .inl (0), .inr none, .inl (0)]), .inr (.inl (0, 10, [])), .inr (.inl (0, 10, [])), .inr (.inl (0, 10, [])), .inr (.inl (0, 10, [])), .inr (.inl (0, 6, [])), .inr (.inl (0, 6, [])), .inr (.inl (0, 3, [(0, (-1000000005))]))]
def es_V_17 : List En := [.inl (6, [.inr (some 1), .inr (some 2), .inr (some 3), .inr (some 4), .inl (0), .inr (some 5), .inr (some 6), .inl (0), .inl (80), .inl (0), .inl (1), .inl (0), .inr none, .inl (0), .inr none, .inl (0)]), .inr (.inl (0, 10, [])), .inr (.inl (0, 10, [])), .inr (.inl (0, 10, [])), .inr (.inl (0, 10, [])), .inr (.inl (0, 6, [])), .inr (.inl (0, 6, [])), .inr (.inl (0, 3, [(1, (-1000000005)), (0, (-1000000005))]))]
def es_V_18 : List En := [.inl (6, [.inr (some 1), .inr (some 2), .inr (some 3), .inr (some 4), .inl (0), .inr (some 5), .inr (some 6), .inl (0), .inl (80), .inl (0), .inl (1), .inl (0), .inr none, .inl (0), .inr none, .inl (0)]), .inr (.inl (0, 10, [])), .inr (.inl (0, 10, [])), .inr (.inl (0, 10, [])), .inr (.inl (0, 10, [])), .inr (.inl (0, 6, [])), .inr (.inl (0, 6, [])), .inr (.inl (0, 3, [(2, (-1000000005)), (1, (-1000000005)), (0, (-1000000005))]))]
def es_V_19 : List En := [.inl (6, [.inr (some 1), .inr (some 2), .inr (some 3), .inr (some 4), .inl (0), .inr (some 5), .inr (some 6), .inl (0), .inl (80), .inl (0), .inl (1), .inl (0), .inr (some 7), .inl (0), .inr none, .inl (0)]), .inr (.inl (0, 10, [])), .inr (.inl (0, 10, [])), .inr (.inl (0, 10, [])), .inr (.inl (0, 10, [])), .inr (.inl (0, 6, [])), .inr (.inl (0, 6, [])), .inr (.inl (0, 3, [(2, (-1000000005)), (1, (-1000000005)), (0, (-1000000005))]))]
def es_V_20 : List En := [.inl (6, [.inr (some 1), .inr (some 2), .inr (some 3), .inr (some 4), .inl (0), .inr (some 5), .inr (some 6), .inl (0), .inl (80), .inl (0), .inl (1), .inl (0), .inr (some 7), .inl (128), .inr none, .inl (0)]), .inr (.inl (0, 10, [])), .inr (.inl (0, 10, [])), .inr (.inl (0, 10, [])), .inr (.inl (0, 10, [])), .inr (.inl (0, 6, [])), .inr (.inl (0, 6, [])), .inr (.inl (0, 3, [(2, (-1000000005)), (1, (-1000000005)), (0, (-1000000005))]))]
def es_V_21 : List En := [.inl (6, [.inr (some 1), .inr (some 2), .inr (some 3), .inr (some 4), .inl (0), .inr (some 5), .inr (some 6), .inl (0), .inl (80), .inl (0), .inl (1), .inl (0), .inr (some 7), .inl (128), .inr none, .inl (0)]), .inr (.inl (0, 10, [])), .inr (.inl (0, 10, [])), .inr (.inl (0, 10, [])), .inr (.inl (0, 10, [])), .inr (.inl (0, 6, [])), .inr (.inl (0, 6, [])), .inr (.inl (0, 3, [(2, (-1000000005)), (1, (-1000000005)), (0, (-1000000005))])), .inr (.inl (0, 10, []))]
def es_V_22 : List En := [.inl (6, [.inr (some 1), .inr (some 2), .inr (some 3), .inr (some 4), .inl (0), .inr (some 5), .inr (some 6), .inl (0), .inl (80), .inl (0), .inl (1), .inl (0), .inr (some 7), .inl (128), .inr (some 8), .inl (0)]), .inr (.inl (0, 10, [])), .inr (.inl (0, 10, [])), .inr (.inl (0, 10, [])), .inr (.inl (0, 10, [])), .inr (.inl (0, 6, [])), .inr (.inl (0, 6, [])), .inr (.inl (0, 3, [(2, (-1000000005)), (1, (-1000000005)), (0, (-1000000005))])), .inr (.inl (0, 10, []))]
abbrev es_V_end : List En := es_V_22
set_option maxRecDepth 100000 in
set_option maxHeartbeats 4000000 in
theorem k_V (l : Launch) (Δ : Dl) : Cc l Δ 1 8 65 m_V_init dE6 es_V_end := by
  refine Cc.of mc_V rfl (by decide) [some (.inr 0)] rfl fun Γ hΔ hl hpin hO hR => ?_
  show Y Γ 0 _ [] es_V_0 0 0
  refine hO.al (k := 0) 0 0 rfl rfl (by decide +kernel) ?_
  refine hO.obj (idx := 3) 0 rfl (memTB _ [131, 84, 85] (by decide +kernel) (by decide +kernel)) rfl rfl (by decide) (by decide +kernel) ?_
  refine hO.al (k := 0) 0 0 rfl rfl (by decide +kernel) ?_
  refine hO.bp (n := 10) (10) (by decide) (by decide +kernel) ?_
  refine hO.newa (at_ := .int) 0 .int 10 rfl (by decide) rfl (fun _ => rfl) (fun _ _ => rfl) rfl (memTB [.arrayClass .int] [117] rfl (by decide +kernel) _ (List.mem_singleton.mpr rfl)) (by decide) (by decide +kernel) (by decide +kernel) (by decide +kernel) (Or.inr (by decide +kernel)) rfl rfl (by decide +kernel) (n := 1) rfl (es' := es_V_1) rfl (kc' := 1) (ks' := 10) rfl rfl ?_
  refine hO.putr (idx := 9) 0 0 1 6 [.inr none, .inr none, .inr none, .inr none, .inl (0), .inr none, .inr none, .inl (0), .inl (0), .inl (0), .inl (0), .inl (0), .inr none, .inl (0), .inr none, .inl (0)] (.array .int) rfl rfl (by decide) (memTB [.fieldLink "NotWorn$Valley" 9 "NotWorn$Valley" "kinds" "[I"] [133] rfl (by decide +kernel) _ (List.mem_singleton.mpr rfl)) rfl rfl (by decide +kernel) (fun _ => rfl) (fun _ => rfl) (by decide) hpin (by decide +kernel) (es' := es_V_2) rfl ?_
  refine hO.al (k := 0) 0 0 rfl rfl (by decide +kernel) ?_
  refine hO.bp (n := 10) (10) (by decide) (by decide +kernel) ?_
  refine hO.newa (at_ := .int) 0 .int 10 rfl (by decide) rfl (fun _ => rfl) (fun _ _ => rfl) rfl (memTB [.arrayClass .int] [117] rfl (by decide +kernel) _ (List.mem_singleton.mpr rfl)) (by decide) (by decide +kernel) (by decide +kernel) (by decide +kernel) (Or.inr (by decide +kernel)) rfl rfl (by decide +kernel) (n := 2) rfl (es' := es_V_3) rfl (kc' := 2) (ks' := 20) rfl rfl ?_
  refine hO.putr (idx := 15) 0 1 2 6 [.inr (some 1), .inr none, .inr none, .inr none, .inl (0), .inr none, .inr none, .inl (0), .inl (0), .inl (0), .inl (0), .inl (0), .inr none, .inl (0), .inr none, .inl (0)] (.array .int) rfl rfl (by decide) (memTB [.fieldLink "NotWorn$Valley" 15 "NotWorn$Valley" "names" "[I"] [135] rfl (by decide +kernel) _ (List.mem_singleton.mpr rfl)) rfl rfl (by decide +kernel) (fun _ => rfl) (fun _ => rfl) (by decide) hpin (by decide +kernel) (es' := es_V_4) rfl ?_
  refine hO.al (k := 0) 0 0 rfl rfl (by decide +kernel) ?_
  refine hO.bp (n := 10) (10) (by decide) (by decide +kernel) ?_
  refine hO.newa (at_ := .int) 0 .int 10 rfl (by decide) rfl (fun _ => rfl) (fun _ _ => rfl) rfl (memTB [.arrayClass .int] [117] rfl (by decide +kernel) _ (List.mem_singleton.mpr rfl)) (by decide) (by decide +kernel) (by decide +kernel) (by decide +kernel) (Or.inr (by decide +kernel)) rfl rfl (by decide +kernel) (n := 3) rfl (es' := es_V_5) rfl (kc' := 3) (ks' := 30) rfl rfl ?_
  refine hO.putr (idx := 18) 0 2 3 6 [.inr (some 1), .inr (some 2), .inr none, .inr none, .inl (0), .inr none, .inr none, .inl (0), .inl (0), .inl (0), .inl (0), .inl (0), .inr none, .inl (0), .inr none, .inl (0)] (.array .int) rfl rfl (by decide) (memTB [.fieldLink "NotWorn$Valley" 18 "NotWorn$Valley" "births" "[I"] [137] rfl (by decide +kernel) _ (List.mem_singleton.mpr rfl)) rfl rfl (by decide +kernel) (fun _ => rfl) (fun _ => rfl) (by decide) hpin (by decide +kernel) (es' := es_V_6) rfl ?_
  refine hO.al (k := 0) 0 0 rfl rfl (by decide +kernel) ?_
  refine hO.bp (n := 10) (10) (by decide) (by decide +kernel) ?_
  refine hO.newa (at_ := .int) 0 .int 10 rfl (by decide) rfl (fun _ => rfl) (fun _ _ => rfl) rfl (memTB [.arrayClass .int] [117] rfl (by decide +kernel) _ (List.mem_singleton.mpr rfl)) (by decide) (by decide +kernel) (by decide +kernel) (by decide +kernel) (Or.inr (by decide +kernel)) rfl rfl (by decide +kernel) (n := 4) rfl (es' := es_V_7) rfl (kc' := 4) (ks' := 40) rfl rfl ?_
  refine hO.putr (idx := 21) 0 3 4 6 [.inr (some 1), .inr (some 2), .inr (some 3), .inr none, .inl (0), .inr none, .inr none, .inl (0), .inl (0), .inl (0), .inl (0), .inl (0), .inr none, .inl (0), .inr none, .inl (0)] (.array .int) rfl rfl (by decide) (memTB [.fieldLink "NotWorn$Valley" 21 "NotWorn$Valley" "deaths" "[I"] [139] rfl (by decide +kernel) _ (List.mem_singleton.mpr rfl)) rfl rfl (by decide +kernel) (fun _ => rfl) (fun _ => rfl) (by decide) hpin (by decide +kernel) (es' := es_V_8) rfl ?_
  refine hO.al (k := 0) 0 0 rfl rfl (by decide +kernel) ?_
  refine hO.bp (n := 6) (6) (by decide) (by decide +kernel) ?_
  refine hO.newa (at_ := .int) 0 .int 6 rfl (by decide) rfl (fun _ => rfl) (fun _ _ => rfl) rfl (memTB [.arrayClass .int] [117] rfl (by decide +kernel) _ (List.mem_singleton.mpr rfl)) (by decide) (by decide +kernel) (by decide +kernel) (by decide +kernel) (Or.inr (by decide +kernel)) rfl rfl (by decide +kernel) (n := 5) rfl (es' := es_V_9) rfl (kc' := 5) (ks' := 46) rfl rfl ?_
  refine hO.putr (idx := 24) 0 5 5 6 [.inr (some 1), .inr (some 2), .inr (some 3), .inr (some 4), .inl (0), .inr none, .inr none, .inl (0), .inl (0), .inl (0), .inl (0), .inl (0), .inr none, .inl (0), .inr none, .inl (0)] (.array .int) rfl rfl (by decide) (memTB [.fieldLink "NotWorn$Valley" 24 "NotWorn$Valley" "firsts" "[I"] [143] rfl (by decide +kernel) _ (List.mem_singleton.mpr rfl)) rfl rfl (by decide +kernel) (fun _ => rfl) (fun _ => rfl) (by decide) hpin (by decide +kernel) (es' := es_V_10) rfl ?_
  refine hO.al (k := 0) 0 0 rfl rfl (by decide +kernel) ?_
  refine hO.bp (n := 6) (6) (by decide) (by decide +kernel) ?_
  refine hO.newa (at_ := .int) 0 .int 6 rfl (by decide) rfl (fun _ => rfl) (fun _ _ => rfl) rfl (memTB [.arrayClass .int] [117] rfl (by decide +kernel) _ (List.mem_singleton.mpr rfl)) (by decide) (by decide +kernel) (by decide +kernel) (by decide +kernel) (Or.inr (by decide +kernel)) rfl rfl (by decide +kernel) (n := 6) rfl (es' := es_V_11) rfl (kc' := 6) (ks' := 52) rfl rfl ?_
  refine hO.putr (idx := 27) 0 6 6 6 [.inr (some 1), .inr (some 2), .inr (some 3), .inr (some 4), .inl (0), .inr (some 5), .inr none, .inl (0), .inl (0), .inl (0), .inl (0), .inl (0), .inr none, .inl (0), .inr none, .inl (0)] (.array .int) rfl rfl (by decide) (memTB [.fieldLink "NotWorn$Valley" 27 "NotWorn$Valley" "seconds" "[I"] [145] rfl (by decide +kernel) _ (List.mem_singleton.mpr rfl)) rfl rfl (by decide +kernel) (fun _ => rfl) (fun _ => rfl) (by decide) hpin (by decide +kernel) (es' := es_V_12) rfl ?_
  refine hO.al (k := 0) 0 0 rfl rfl (by decide +kernel) ?_
  refine hO.bp (n := 80) (80) (by decide) (by decide +kernel) ?_
  refine hO.puti (idx := 30) 0 8 6 (80) [.inr (some 1), .inr (some 2), .inr (some 3), .inr (some 4), .inl (0), .inr (some 5), .inr (some 6), .inl (0), .inl (0), .inl (0), .inl (0), .inl (0), .inr none, .inl (0), .inr none, .inl (0)] rfl rfl (by decide) (memTB [.fieldLink "NotWorn$Valley" 30 "NotWorn$Valley" "term" "I"] [150] rfl (by decide +kernel) _ (List.mem_singleton.mpr rfl)) rfl (by decide +kernel) (by decide) (by decide +kernel) (es' := es_V_13) rfl ?_
  refine hO.al (k := 0) 0 0 rfl rfl (by decide +kernel) ?_
  refine hO.ic (n := 1) (1) (by decide) (by decide +kernel) ?_
  refine hO.puti (idx := 34) 0 10 6 (1) [.inr (some 1), .inr (some 2), .inr (some 3), .inr (some 4), .inl (0), .inr (some 5), .inr (some 6), .inl (0), .inl (80), .inl (0), .inl (0), .inl (0), .inr none, .inl (0), .inr none, .inl (0)] rfl rfl (by decide) (memTB [.fieldLink "NotWorn$Valley" 34 "NotWorn$Valley" "z" "I"] [155] rfl (by decide +kernel) _ (List.mem_singleton.mpr rfl)) rfl (by decide +kernel) (by decide) (by decide +kernel) (es' := es_V_14) rfl ?_
  refine hO.al (k := 0) 0 0 rfl rfl (by decide +kernel) ?_
  refine hO.ic (n := 3) (3) (by decide) (by decide +kernel) ?_
  refine hO.newa (at_ := .int) 0 .int 3 rfl (by decide) rfl (fun _ => rfl) (fun _ _ => rfl) rfl (memTB [.arrayClass .int] [117] rfl (by decide +kernel) _ (List.mem_singleton.mpr rfl)) (by decide) (by decide +kernel) (by decide +kernel) (by decide +kernel) (Or.inr (by decide +kernel)) rfl rfl (by decide +kernel) (n := 7) rfl (es' := es_V_15) rfl (kc' := 7) (ks' := 55) rfl rfl ?_
  refine hO.dup _ (by decide +kernel) ?_
  refine hO.ic (n := 0) (0) (by decide) (by decide +kernel) ?_
  refine hO.ldc (k := 37) (-1000000005) (memTB [.constant "NotWorn$Valley" 37 (-1000000005)] [132] rfl (by decide +kernel) _ (List.mem_singleton.mpr rfl)) (by decide +kernel) ?_
  refine hO.iast 7 0 3 [] rfl rfl (by decide) (by decide) (by decide +kernel) (es' := es_V_16) rfl ?_
  refine hO.dup _ (by decide +kernel) ?_
  refine hO.ic (n := 1) (1) (by decide) (by decide +kernel) ?_
  refine hO.ldc (k := 37) (-1000000005) (memTB [.constant "NotWorn$Valley" 37 (-1000000005)] [132] rfl (by decide +kernel) _ (List.mem_singleton.mpr rfl)) (by decide +kernel) ?_
  refine hO.iast 7 1 3 [(0, (-1000000005))] rfl rfl (by decide) (by decide) (by decide +kernel) (es' := es_V_17) rfl ?_
  refine hO.dup _ (by decide +kernel) ?_
  refine hO.ic (n := 2) (2) (by decide) (by decide +kernel) ?_
  refine hO.ldc (k := 37) (-1000000005) (memTB [.constant "NotWorn$Valley" 37 (-1000000005)] [132] rfl (by decide +kernel) _ (List.mem_singleton.mpr rfl)) (by decide +kernel) ?_
  refine hO.iast 7 2 3 [(1, (-1000000005)), (0, (-1000000005))] rfl rfl (by decide) (by decide) (by decide +kernel) (es' := es_V_18) rfl ?_
  refine hO.putr (idx := 38) 0 12 7 6 [.inr (some 1), .inr (some 2), .inr (some 3), .inr (some 4), .inl (0), .inr (some 5), .inr (some 6), .inl (0), .inl (80), .inl (0), .inl (1), .inl (0), .inr none, .inl (0), .inr none, .inl (0)] (.array .int) rfl rfl (by decide) (memTB [.fieldLink "NotWorn$Valley" 38 "NotWorn$Valley" "counting" "[I"] [159] rfl (by decide +kernel) _ (List.mem_singleton.mpr rfl)) rfl rfl (by decide +kernel) (fun _ => rfl) (fun _ => rfl) (by decide) hpin (by decide +kernel) (es' := es_V_19) rfl ?_
  refine hO.al (k := 0) 0 0 rfl rfl (by decide +kernel) ?_
  refine hO.sp (n := 128) (128) (by decide) (by decide +kernel) ?_
  refine hO.puti (idx := 43) 0 13 6 (128) [.inr (some 1), .inr (some 2), .inr (some 3), .inr (some 4), .inl (0), .inr (some 5), .inr (some 6), .inl (0), .inl (80), .inl (0), .inl (1), .inl (0), .inr (some 7), .inl (0), .inr none, .inl (0)] rfl rfl (by decide) (memTB [.fieldLink "NotWorn$Valley" 43 "NotWorn$Valley" "nearWays" "I"] [161] rfl (by decide +kernel) _ (List.mem_singleton.mpr rfl)) rfl (by decide +kernel) (by decide) (by decide +kernel) (es' := es_V_20) rfl ?_
  refine hO.al (k := 0) 0 0 rfl rfl (by decide +kernel) ?_
  refine hO.bp (n := 10) (10) (by decide) (by decide +kernel) ?_
  refine hO.newa (at_ := .int) 0 .int 10 rfl (by decide) rfl (fun _ => rfl) (fun _ _ => rfl) rfl (memTB [.arrayClass .int] [117] rfl (by decide +kernel) _ (List.mem_singleton.mpr rfl)) (by decide) (by decide +kernel) (by decide +kernel) (by decide +kernel) (Or.inr (by decide +kernel)) rfl rfl (by decide +kernel) (n := 8) rfl (es' := es_V_21) rfl (kc' := 8) (ks' := 65) rfl rfl ?_
  refine hO.putr (idx := 46) 0 14 8 6 [.inr (some 1), .inr (some 2), .inr (some 3), .inr (some 4), .inl (0), .inr (some 5), .inr (some 6), .inl (0), .inl (80), .inl (0), .inl (1), .inl (0), .inr (some 7), .inl (128), .inr none, .inl (0)] (.array .int) rfl rfl (by decide) (memTB [.fieldLink "NotWorn$Valley" 46 "NotWorn$Valley" "held" "[I"] [162] rfl (by decide +kernel) _ (List.mem_singleton.mpr rfl)) rfl rfl (by decide +kernel) (fun _ => rfl) (fun _ => rfl) (by decide) hpin (by decide +kernel) (es' := es_V_22) rfl ?_
  exact hR 100 _ (by decide +kernel)
abbrev dE3 : En := .inl (3, [.inl (0), .inl (0), .inl (0), .inl (0), .inr none])
def df3 : List FV := [.inl (0), .inl (0), .inl (0), .inl (0), .inr none]
theorem df3_ok : ∀ (a : Nat → Nat) (j : Nat), j < 5 → defaultValue (ft3 j) = vp_V (df3.map (cFV a)) j := by
  intro a j hj
  match j, hj with
  | 0, _ => rfl
  | 1, _ => rfl
  | 2, _ => rfl
  | 3, _ => rfl
  | 4, _ => rfl
  | j + 5, hj => exact absurd hj (by omega)
theorem mc_S : MC m_S_init := ⟨memTB _ [280, 66, 281] (by decide +kernel) (by decide +kernel), ⟨by decide +kernel, ⟨by decide +kernel, by decide +kernel⟩, by decide +kernel, by decide +kernel⟩, rfl, rfl⟩
def es_S_0 : List En := [.inl (3, [.inl (0), .inl (0), .inl (0), .inl (0), .inr none])]
def es_S_1 : List En := [.inl (3, [.inl (0), .inl (0), .inl (0), .inl (0), .inr none])]
def es_S_2 : List En := [.inl (3, [.inl (0), .inl (0), .inl (0), .inl (0), .inr none]), .inl (2, [.inl (0), .inl (0), .inr none])]
def es_S_3 : List En := [.inl (3, [.inl (0), .inl (0), .inl (0), .inl (0), .inr none]), .inl (2, [.inl (-1), .inl (0), .inr (some 2)]), .inr (.inl (0, 24, []))]
def es_S_4 : List En := [.inl (3, [.inl (0), .inl (0), .inl (0), .inl (0), .inr (some 1)]), .inl (2, [.inl (-1), .inl (0), .inr (some 2)]), .inr (.inl (0, 24, []))]
abbrev es_S_end : List En := es_S_4
set_option maxRecDepth 100000 in
set_option maxHeartbeats 4000000 in
theorem k_S (l : Launch) (Δ : Dl) : Cc l Δ 2 2 27 m_S_init dE3 es_S_end := by
  refine Cc.of mc_S rfl (by decide) [some (.inr 0)] rfl fun Γ hΔ hl hpin hO hR => ?_
  show Y Γ 0 _ [] es_S_0 0 0
  refine hO.al (k := 0) 0 0 rfl rfl (by decide +kernel) ?_
  refine hO.obj (idx := 3) 0 rfl (memTB _ [282, 84, 85] (by decide +kernel) (by decide +kernel)) rfl rfl (by decide) (by decide +kernel) ?_
  refine hO.al (k := 0) 0 0 rfl rfl (by decide +kernel) ?_
  refine hO.ic (n := 0) (0) (by decide) (by decide +kernel) ?_
  refine hO.puti (idx := 9) 0 0 3 (0) [.inl (0), .inl (0), .inl (0), .inl (0), .inr none] rfl rfl (by decide) (memTB [.fieldLink "NotWorn$Slot" 9 "NotWorn$Slot" "thing" "I"] [285] rfl (by decide +kernel) _ (List.mem_singleton.mpr rfl)) rfl (by decide +kernel) (by decide) (by decide +kernel) (es' := es_S_1) rfl ?_
  refine hO.al (k := 0) 0 0 rfl rfl (by decide +kernel) ?_
  refine hO.new (idx := 15) 2 ft2 df2 rfl (memTB _ [283, 260, 65] (by decide +kernel) (by decide +kernel)) ft2_ok df2_ok rfl (by decide +kernel) (by decide +kernel) (by decide +kernel) (Or.inr (by decide +kernel)) rfl rfl (by decide +kernel) (n := 1) rfl (es' := es_S_2) rfl (kc' := 1) (ks' := 3) rfl rfl ?_
  refine hO.dup _ (by decide +kernel) ?_
  refine hO.call (idx := 17) (d' := 1) (mc := 1) (ms := 24) (n := 1) (M := m_R_init) (e0 := dE2) (es0 := es_S_1) (es1 := es_R_end) mc_R (Or.inl (by simp [nestL])) (k_R _ _) rfl (by decide +kernel) rfl (by decide +kernel) (by decide +kernel) (by decide +kernel) rfl rfl rfl rfl rfl (by decide +kernel) (es' := es_S_3) rfl (kc' := 2) (ks' := 27) rfl rfl ?_
  refine hO.putr (idx := 18) 0 4 1 3 [.inl (0), .inl (0), .inl (0), .inl (0), .inr none] (.object "NotWorn$Row") rfl rfl (by decide) (memTB [.fieldLink "NotWorn$Slot" 18 "NotWorn$Slot" "row" "LNotWorn$Row;"] [290] rfl (by decide +kernel) _ (List.mem_singleton.mpr rfl)) rfl rfl (by decide +kernel) (fun _ => rfl) (fun _ => rfl) (by decide) hpin (by decide +kernel) (es' := es_S_4) rfl ?_
  exact hR 20 _ (by decide +kernel)
abbrev dE4 : En := .inl (4, [.inr none, .inl (0), .inl (0), .inl (0), .inl (0), .inr none])
def df4 : List FV := [.inr none, .inl (0), .inl (0), .inl (0), .inl (0), .inr none]
theorem df4_ok : ∀ (a : Nat → Nat) (j : Nat), j < 6 → defaultValue (ft4 j) = vp_V (df4.map (cFV a)) j := by
  intro a j hj
  match j, hj with
  | 0, _ => rfl
  | 1, _ => rfl
  | 2, _ => rfl
  | 3, _ => rfl
  | 4, _ => rfl
  | 5, _ => rfl
  | j + 6, hj => exact absurd hj (by omega)
theorem mc_P : MC m_P_init := ⟨memTB _ [229, 64, 230] (by decide +kernel) (by decide +kernel), ⟨by decide +kernel, ⟨by decide +kernel, by decide +kernel⟩, by decide +kernel, by decide +kernel⟩, rfl, rfl⟩
def es_P_0 : List En := [.inl (4, [.inr none, .inl (0), .inl (0), .inl (0), .inl (0), .inr none])]
def es_P_1 : List En := [.inl (4, [.inr none, .inl (0), .inl (0), .inl (0), .inl (0), .inr none]), .inr (.inl (0, 96, []))]
def es_P_2 : List En := [.inl (4, [.inr (some 1), .inl (0), .inl (0), .inl (0), .inl (0), .inr none]), .inr (.inl (0, 96, []))]
def es_P_3 : List En := [.inl (4, [.inr (some 1), .inl (0), .inl (0), .inl (0), .inl (0), .inr none]), .inr (.inl (0, 96, [])), .inl (5, [.inl (0), .inl (0), .inl (0), .inr none])]
def es_P_4 : List En := [.inl (4, [.inr (some 1), .inl (0), .inl (0), .inl (0), .inl (0), .inr none]), .inr (.inl (0, 96, [])), .inl (5, [.inl (0), .inl (0), .inl (0), .inr (some 3)]), .inr (.inl (0, 96, []))]
def es_P_5 : List En := [.inl (4, [.inr (some 1), .inl (0), .inl (0), .inl (0), .inl (0), .inr (some 2)]), .inr (.inl (0, 96, [])), .inl (5, [.inl (0), .inl (0), .inl (0), .inr (some 3)]), .inr (.inl (0, 96, []))]
abbrev es_P_end : List En := es_P_5
set_option maxRecDepth 100000 in
set_option maxHeartbeats 4000000 in
theorem k_P (l : Launch) (Δ : Dl) : Cc l Δ 2 3 196 m_P_init dE4 es_P_end := by
  refine Cc.of mc_P rfl (by decide) [some (.inr 0)] rfl fun Γ hΔ hl hpin hO hR => ?_
  show Y Γ 0 _ [] es_P_0 0 0
  refine hO.al (k := 0) 0 0 rfl rfl (by decide +kernel) ?_
  refine hO.obj (idx := 3) 0 rfl (memTB _ [231, 84, 85] (by decide +kernel) (by decide +kernel)) rfl rfl (by decide) (by decide +kernel) ?_
  refine hO.al (k := 0) 0 0 rfl rfl (by decide +kernel) ?_
  refine hO.bp (n := 96) (96) (by decide) (by decide +kernel) ?_
  refine hO.newa (at_ := .int) 0 .int 96 rfl (by decide) rfl (fun _ => rfl) (fun _ _ => rfl) rfl (memTB [.arrayClass .int] [117] rfl (by decide +kernel) _ (List.mem_singleton.mpr rfl)) (by decide) (by decide +kernel) (by decide +kernel) (by decide +kernel) (Or.inr (by decide +kernel)) rfl rfl (by decide +kernel) (n := 1) rfl (es' := es_P_1) rfl (kc' := 1) (ks' := 96) rfl rfl ?_
  refine hO.putr (idx := 9) 0 0 1 4 [.inr none, .inl (0), .inl (0), .inl (0), .inl (0), .inr none] (.array .int) rfl rfl (by decide) (memTB [.fieldLink "NotWorn$Tape" 9 "NotWorn$Tape" "bytes" "[I"] [234] rfl (by decide +kernel) _ (List.mem_singleton.mpr rfl)) rfl rfl (by decide +kernel) (fun _ => rfl) (fun _ => rfl) (by decide) hpin (by decide +kernel) (es' := es_P_2) rfl ?_
  refine hO.al (k := 0) 0 0 rfl rfl (by decide +kernel) ?_
  refine hO.new (idx := 15) 5 ft5 df5 rfl (memTB _ [232, 94, 61] (by decide +kernel) (by decide +kernel)) ft5_ok df5_ok rfl (by decide +kernel) (by decide +kernel) (by decide +kernel) (Or.inr (by decide +kernel)) rfl rfl (by decide +kernel) (n := 2) rfl (es' := es_P_3) rfl (kc' := 2) (ks' := 100) rfl rfl ?_
  refine hO.dup _ (by decide +kernel) ?_
  refine hO.call (idx := 17) (d' := 1) (mc := 1) (ms := 96) (n := 2) (M := m_X_init) (e0 := dE5) (es0 := es_P_2) (es1 := es_X_end) mc_X (Or.inl (by simp [nestL])) (k_X _ _) rfl (by decide +kernel) rfl (by decide +kernel) (by decide +kernel) (by decide +kernel) rfl rfl rfl rfl rfl (by decide +kernel) (es' := es_P_4) rfl (kc' := 3) (ks' := 196) rfl rfl ?_
  refine hO.putr (idx := 18) 0 5 2 4 [.inr (some 1), .inl (0), .inl (0), .inl (0), .inl (0), .inr none] (.object "NotWorn$Text") rfl rfl (by decide) (memTB [.fieldLink "NotWorn$Tape" 18 "NotWorn$Tape" "draft" "LNotWorn$Text;"] [241] rfl (by decide +kernel) _ (List.mem_singleton.mpr rfl)) rfl rfl (by decide +kernel) (fun _ => rfl) (fun _ => rfl) (by decide) hpin (by decide +kernel) (es' := es_P_5) rfl ?_
  exact hR 23 _ (by decide +kernel)
