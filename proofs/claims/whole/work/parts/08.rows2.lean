theorem nb {a b : Nat} (h : Nat.ble a b = true) : a ≤ b := Nat.le_of_ble_eq_true h
def bi (b : Bool) : Int32 := match b with
  | true => 1
  | false => 0
theorem bi_01 (b : Bool) : bi b = 0 ∨ bi b = 1 := by cases b <;> simp [bi]
theorem bi_t : bi true = 1 := rfl
theorem bi_f : bi false = 0 := rfl
theorem bi_eq0 {b : Bool} : bi b = 0 ↔ b = false := by cases b <;> simp [bi]
theorem bi_ne0 {b : Bool} : ¬ bi b = 0 ↔ b = true := by cases b <;> simp [bi]
theorem bi_inj {a b : Bool} : bi a = bi b ↔ a = b := by cases a <;> cases b <;> simp [bi]
theorem lit_nI (n : Nat) : (OfNat.ofNat n : Int32) = nI n := rfl
/-- the two sides of a branch -/
def cnd (i : Instr) (st : List AV) : Option (Prop × Prop × List AV) := match i with
  | .ifCond c _ => match st with
    | .inl x :: r => match c with
      | .eq => some (x = 0, ¬ x = 0, r)
      | .ne => some (¬ x = 0, x = 0, r)
      | .lt => some (x < 0, ¬ x < 0, r)
      | .ge => some (0 ≤ x, ¬ 0 ≤ x, r)
      | .gt => some (0 < x, ¬ 0 < x, r)
      | .le => some (x ≤ 0, ¬ x ≤ 0, r)
    | _ => none
  | .if_icmp c _ => match st with
    | .inl y :: .inl x :: r => match c with
      | .eq => some (x = y, ¬ x = y, r)
      | .ne => some (¬ x = y, x = y, r)
      | .lt => some (x < y, ¬ x < y, r)
      | .ge => some (y ≤ x, ¬ y ≤ x, r)
      | .gt => some (y < x, ¬ y < x, r)
      | .le => some (x ≤ y, ¬ x ≤ y, r)
    | _ => none
  | _ => none
def ldk (i : Instr) : Option Nat := match i with
  | .iaload => some 0
  | .baload => some 1
  | .caload => some 2
  | _ => none
def stk (i : Instr) : Option Nat := match i with
  | .iastore => some 0
  | .bastore => some 1
  | _ => none
section Rows2
variable {Γ : Cx} {l : Launch} {θ : Th} {d : Nat} {M : MI} {pg : List Rw} {pc pc' p1 a1 a2 : Nat} {v : Int32} {L L1 : Lc} {st st1 r : List AV} {σ σ1 : Sg} {i : Instr}
theorem Md.br0 (hG : Md Γ l θ d M pg) (hq : lkp pc pg = some (i, pc', v, a1, a2)) {ct cf : Prop} (hc : cnd i st = some (ct, cf, r)) (kt : ct → X Γ a1 L r σ) (kf : cf → X Γ pc' L r σ) : X Γ pc L st σ := by
  unfold cnd at hc
  split at hc
  · split at hc
    · split at hc <;> cases hc
      · exact hG.ifeq hq kt kf
      · exact hG.ifne hq kt kf
      · exact hG.iflt hq kt kf
      · exact hG.ifge hq kt kf
      · exact hG.ifgt hq kt kf
      · exact hG.ifle hq kt kf
    · cases hc
  · split at hc
    · split at hc <;> cases hc
      · exact hG.icmpeq hq kt kf
      · exact hG.icmpne hq kt kf
      · exact hG.icmplt hq kt kf
      · exact hG.icmpge hq kt kf
      · exact hG.icmpgt hq kt kf
      · exact hG.icmple hq kt kf
    · cases hc
  · cases hc
theorem Md.br (hG : Md Γ l θ d M pg) (hL : L.length = M.2.2.1) (hr : run pg 99 pc L st σ = (p1, L1, st1, σ1)) (hq : lkp p1 pg = some (i, pc', v, a1, a2)) {ct cf : Prop} (hc : cnd i st1 = some (ct, cf, r)) (kt : ct → X Γ a1 L1 r σ1) (kf : cf → X Γ pc' L1 r σ1) : X Γ pc L st σ := hG.go 99 hL hr (hG.br0 hq hc kt kf)
theorem Md.ld (hG : Md Γ l θ d M pg) (hL : L.length = M.2.2.1) {j : Int32} {c0 kd n : Nat} {rs : List Nat} (k : Nat) (hr : run pg 99 pc L st σ = (p1, L1, .inl j :: .inr c0 :: r, σ1)) (hq : lkp p1 pg = some (i, pc', v, a1, a2)) (hi : ldk i = some kd) (hl0 : lay[c0]? = some (.inr (kd, n, rs))) (hj : j = nI k) (hk : k < n) (kk : X Γ pc' L1 (.inl (σ1 c0 k) :: r) σ1) : X Γ pc L st σ := by
  refine hG.go 99 hL hr ?_
  unfold ldk at hi
  split at hi <;> cases hi
  · exact hG.iald hq hl0 hj hk kk
  · exact hG.zald hq hl0 hj hk kk
  · exact hG.cald hq hl0 hj hk kk
theorem Md.sti (hG : Md Γ l θ d M pg) (hL : L.length = M.2.2.1) {j x : Int32} {c0 n : Nat} {rs : List Nat} (k : Nat) (hr : run pg 99 pc L st σ = (p1, L1, .inl x :: .inl j :: .inr c0 :: r, σ1)) (hq : lkp p1 pg = some (.iastore, pc', v, a1, a2)) (hl0 : lay[c0]? = some (.inr (0, n, rs))) (hj : j = nI k) (hk : k < n) (kk : X Γ pc' L1 r (up σ1 c0 k x)) : X Γ pc L st σ :=
  hG.go 99 hL hr (hG.iast hq hl0 hj hk kk)
theorem Md.stz (hG : Md Γ l θ d M pg) (hL : L.length = M.2.2.1) {j x : Int32} {c0 n : Nat} {rs : List Nat} (k : Nat) (hr : run pg 99 pc L st σ = (p1, L1, .inl x :: .inl j :: .inr c0 :: r, σ1)) (hq : lkp p1 pg = some (.bastore, pc', v, a1, a2)) (hl0 : lay[c0]? = some (.inr (1, n, rs))) (hj : j = nI k) (hk : k < n) (hx : x = 0 ∨ x = 1) (kk : X Γ pc' L1 r (up σ1 c0 k x)) : X Γ pc L st σ :=
  hG.go 99 hL hr (hG.zast hq hl0 hj hk hx kk)
theorem Md.lda (hG : Md Γ l θ d M pg) (hL : L.length = M.2.2.1) {j : Int32} {c0 kd n z : Nat} {rs : List Nat} (k : Nat) (hr : run pg 99 pc L st σ = (p1, L1, .inl j :: .inr c0 :: r, σ1)) (hq : lkp p1 pg = some (.aaload, pc', v, a1, a2)) (hl0 : lay[c0]? = some (.inr (kd, n, rs))) (hkd : kd = 3 ∨ kd = 4 ∨ kd = 5) (hj : j = nI k) (hk : k < n) (hz : rs[k]? = some z) (kk : X Γ pc' L1 (.inr z :: r) σ1) : X Γ pc L st σ :=
  hG.go 99 hL hr (hG.aald hq hl0 hkd hj hk hz kk)
theorem Md.dv (hG : Md Γ l θ d M pg) (hL : L.length = M.2.2.1) {x y : Int32} (hr : run pg 99 pc L st σ = (p1, L1, .inl y :: .inl x :: r, σ1)) (hq : lkp p1 pg = some (.idiv, pc', v, a1, a2)) (hy : ¬ y = 0) (kk : X Γ pc' L1 (.inl (x / y) :: r) σ1) : X Γ pc L st σ := hG.go 99 hL hr (hG.idiv hq hy kk)
theorem Md.rm (hG : Md Γ l θ d M pg) (hL : L.length = M.2.2.1) {x y : Int32} (hr : run pg 99 pc L st σ = (p1, L1, .inl y :: .inl x :: r, σ1)) (hq : lkp p1 pg = some (.irem, pc', v, a1, a2)) (hy : ¬ y = 0) (kk : X Γ pc' L1 (.inl (x - x / y * y) :: r) σ1) : X Γ pc L st σ := hG.go 99 hL hr (hG.irem hq hy kk)
/-- back to a loop's head -/
theorem Md.jp (hG : Md Γ l θ d M pg) (hL : L.length = M.2.2.1) {o : Int} (hr : run pg 99 pc L st σ = (p1, L1, st1, σ1)) (hq : lkp p1 pg = some (.goto o, pc', v, a1, a2)) (kk : X Γ a1 L1 st1 σ1) : X Γ pc L st σ := hG.go 99 hL hr (hG.goto hq kk)
theorem Md.rt {post : Int32 → Sg → Prop} (hG : Md Γ l θ d M pg) (hR : RtI Γ M post) (hL : L.length = M.2.2.1) {x : Int32} (hr : run pg 99 pc L st σ = (p1, L1, [.inl x], σ1)) (hq : lkp p1 pg = some (.ireturn, pc', v, a1, a2)) (hi : M.2.2.2 = some .int) (hpost : post x σ1) : X Γ pc L st σ := hG.go 99 hL hr (hG.ret hR hq hi hpost)
theorem Md.rz {post : Int32 → Sg → Prop} (hG : Md Γ l θ d M pg) (hR : RtI Γ M post) (hL : L.length = M.2.2.1) {x : Int32} (hr : run pg 99 pc L st σ = (p1, L1, [.inl x], σ1)) (hq : lkp p1 pg = some (.ireturn, pc', v, a1, a2)) (hi : M.2.2.2 = some .boolean) (hx : x = 0 ∨ x = 1) (hpost : post x σ1) : X Γ pc L st σ := hG.go 99 hL hr (hG.retz hR hq hi hx hpost)
theorem Md.rv {post : Sg → Prop} (hG : Md Γ l θ d M pg) (hR : RtV Γ M post) (hL : L.length = M.2.2.1) (hr : run pg 99 pc L st σ = (p1, L1, [], σ1)) (hq : lkp p1 pg = some (.return_, pc', v, a1, a2)) (hpost : post σ1) : X Γ pc L st σ := hG.go 99 hL hr (hG.retv hR hq hpost)
theorem Md.cV {N : MI} {n d' idx o ci : Nat} {av rest : List AV} {fds : List (Option Nat)} {post : Int32 → Sg → Prop} (hG : Md Γ l θ d M pg) (hlk : LK M.1.cls idx N.1) (hN : MV N n) (hL : L.length = M.2.2.1) (hr : run pg 99 pc L st σ = (p1, L1, st1, σ1)) (hC : Ci l θ d' N (.inr o :: av) σ1 post) (hL1 : L1.length = M.2.2.1) (hq : lkp p1 pg = some (.invokevirtual idx, pc', v, a1, a2)) (hd' : Nat.ble (d' + 1) d = true) (hn : av.length = n) (hst : st1 = av.reverse ++ .inr o :: rest) (hlo : lay[o]? = some (.inl (ci, fds))) (hcl : (classes[ci]?).map (fun q => q.1) = some N.1.cls) (hre : Nat.ble rest.length 8 = true) (kk : ∀ (x : Int32) (σ' : Sg), post x σ' → X Γ pc' L1 (.inl x :: rest) σ') : X Γ pc L st σ :=
  hG.go 99 hL hr (hG.callV hq hlk hN hC (nb hd') hn hst hlo hcl (nb hre) hL1 kk)
theorem Md.cVv {N : MI} {n d' idx o ci : Nat} {av rest : List AV} {fds : List (Option Nat)} {post : Sg → Prop} (hG : Md Γ l θ d M pg) (hlk : LK M.1.cls idx N.1) (hN : MV N n) (hL : L.length = M.2.2.1) (hr : run pg 99 pc L st σ = (p1, L1, st1, σ1)) (hC : Cv l θ d' N (.inr o :: av) σ1 post) (hL1 : L1.length = M.2.2.1) (hq : lkp p1 pg = some (.invokevirtual idx, pc', v, a1, a2)) (hd' : Nat.ble (d' + 1) d = true) (hn : av.length = n) (hst : st1 = av.reverse ++ .inr o :: rest) (hlo : lay[o]? = some (.inl (ci, fds))) (hcl : (classes[ci]?).map (fun q => q.1) = some N.1.cls) (hre : Nat.ble rest.length 8 = true) (kk : ∀ (σ' : Sg), post σ' → X Γ pc' L1 rest σ') : X Γ pc L st σ :=
  hG.go 99 hL hr (hG.callVv hq hlk hN hC (nb hd') hn hst hlo hcl (nb hre) hL1 kk)
theorem Md.cS {N : MI} {n d' idx : Nat} {av rest : List AV} {post : Int32 → Sg → Prop} (hG : Md Γ l θ d M pg) (hlk : LK M.1.cls idx N.1) (hN : MS N n) (hL : L.length = M.2.2.1) (hr : run pg 99 pc L st σ = (p1, L1, st1, σ1)) (hC : Ci l θ d' N av σ1 post) (hL1 : L1.length = M.2.2.1) (hq : lkp p1 pg = some (.invokestatic idx, pc', v, a1, a2)) (hd' : Nat.ble (d' + 1) d = true) (hn : av.length = n) (hst : st1 = av.reverse ++ rest) (hre : Nat.ble rest.length 8 = true) (kk : ∀ (x : Int32) (σ' : Sg), post x σ' → X Γ pc' L1 (.inl x :: rest) σ') : X Γ pc L st σ :=
  hG.go 99 hL hr (hG.callS hq hlk hN hC (nb hd') hn hst (nb hre) hL1 kk)
theorem Md.cSv {N : MI} {n d' idx : Nat} {av rest : List AV} {post : Sg → Prop} (hG : Md Γ l θ d M pg) (hlk : LK M.1.cls idx N.1) (hN : MS N n) (hL : L.length = M.2.2.1) (hr : run pg 99 pc L st σ = (p1, L1, st1, σ1)) (hC : Cv l θ d' N av σ1 post) (hL1 : L1.length = M.2.2.1) (hq : lkp p1 pg = some (.invokestatic idx, pc', v, a1, a2)) (hd' : Nat.ble (d' + 1) d = true) (hn : av.length = n) (hst : st1 = av.reverse ++ rest) (hre : Nat.ble rest.length 8 = true) (kk : ∀ (σ' : Sg), post σ' → X Γ pc' L1 rest σ') : X Γ pc L st σ :=
  hG.go 99 hL hr (hG.callSv hq hlk hN hC (nb hd') hn hst (nb hre) hL1 kk)
/-- a table switch: the targets are told, and looked at by the kernel -/
def tswOk (pc : Nat) (dflt lo hi : Int) (offs : Array Int) (tg : List Nat) (td : Nat) : Bool := decide ((pc : Int) + dflt = (td : Int)) && decide (offs.toList.map (fun o => (pc : Int) + o) = tg.map (fun t : Nat => (t : Int))) && decide (hi = lo + (tg.length : Int) - 1)
theorem Md.tsw (hG : Md Γ l θ d M pg) (tg : List Nat) (td : Nat) (hL : L.length = M.2.2.1) {x : Int32} {dflt lo hi : Int} {offs : Array Int} (hr : run pg 99 pc L st σ = (p1, L1, .inl x :: r, σ1)) (hq : lkp p1 pg = some (.tableswitch dflt lo hi offs, pc', v, a1, a2)) (hk : tswOk p1 dflt lo hi offs tg td = true) (kin : ∀ (k t : Nat), tg[k]? = some t → x.toInt = lo + (k : Int) → X Γ t L1 r σ1) (kout : (∀ k : Nat, k < tg.length → ¬ x.toInt = lo + (k : Int)) → X Γ td L1 r σ1) : X Γ pc L st σ := by
  refine hG.go 99 hL hr ?_
  obtain ⟨fl, ct, -, -, hd, -, -, -⟩ := okP_row hG.2.1 hq
  simp only [tswOk, Bool.and_eq_true, decide_eq_true_eq] at hk
  obtain ⟨⟨h1, h2⟩, h3⟩ := hk
  by_cases hlo : x.toInt < lo ∨ hi < x.toInt
  · have hX := kout (fun k hk h => by rcases hlo with h | h <;> omega)
    obtain ⟨θ, ⟨p, l, e, R, s, m, args, below, meth, c⟩, A, ⟨kc, ks⟩, Q⟩ := Γ
    intro H locs ls hP hS hl
    exact lv_tableOut hG.1.1 hG.1.2.1 hd hlo h1 (hX H locs ls hP hS hl)
  · have hlo1 : ¬ x.toInt < lo := fun h => hlo (Or.inl h)
    have hhi1 : ¬ hi < x.toInt := fun h => hlo (Or.inr h)
    have hkl : (x.toInt - lo).toNat < tg.length := by omega
    have ht : tg[(x.toInt - lo).toNat]? = some tg[(x.toInt - lo).toNat] := List.getElem?_eq_getElem hkl
    have hX := kin (x.toInt - lo).toNat _ ht (by omega)
    have ho : (offs.toList.map (fun o => (p1 : Int) + o))[(x.toInt - lo).toNat]? = some ((tg[(x.toInt - lo).toNat] : Nat) : Int) := by
      rw [h2, List.getElem?_map, ht]; rfl
    rw [List.getElem?_map] at ho
    cases hoo : offs.toList[(x.toInt - lo).toNat]? with
    | none => rw [hoo] at ho; cases ho
    | some off =>
      rw [hoo] at ho
      have hoff : (p1 : Int) + off = ((tg[(x.toInt - lo).toNat] : Nat) : Int) := Option.some.inj ho
      rw [Array.getElem?_toList] at hoo
      obtain ⟨θ, ⟨p, l, e, R, s, m, args, below, meth, c⟩, A, ⟨kc, ks⟩, Q⟩ := Γ
      intro H locs ls hP hS hl
      exact lv_tableIn hG.1.1 hG.1.2.1 hd hlo1 hhi1 hoo hoff (hX H locs ls hP hS hl)
end Rows2
