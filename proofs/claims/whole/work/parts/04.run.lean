/-! straight runs, by computation -/
abbrev Rw : Type := Nat × Instr × Nat × Int32 × Nat × Nat
abbrev Rq : Type := Instr × Nat × Int32 × Nat × Nat
abbrev Mst : Type := Nat × Lc × List AV × Sg
def lkp (pc : Nat) : List Rw → Option Rq
  | [] => none
  | r :: rs => match Nat.beq r.1 pc with
    | true => some r.2
    | false => lkp pc rs
theorem lkp_mem {pc : Nat} {q : Rq} : ∀ {l : List Rw}, lkp pc l = some q → (pc, q) ∈ l
  | [], h => by simp [lkp] at h
  | r :: rs, h => by
    rw [lkp] at h
    cases hb : Nat.beq r.1 pc with
    | true =>
      rw [hb] at h
      have h1 : r.1 = pc := Nat.eq_of_beq_eq_true hb
      cases h
      rw [← h1]; exact List.mem_cons_self
    | false =>
      rw [hb] at h
      exact List.mem_cons_of_mem _ (lkp_mem h)
def lenI : Instr → Nat
  | .bipush _ => 2
  | .sipush _ => 3
  | .ldc _ => 2
  | .ldc_w _ => 3
  | .iload _ => 2
  | .aload _ => 2
  | .istore _ => 2
  | .astore _ => 2
  | .iinc _ _ => 3
  | .getfield _ => 3
  | .putfield _ => 3
  | .getstatic _ => 3
  | .goto _ => 3
  | .ifCond _ _ => 3
  | .if_icmp _ _ => 3
  | .invokevirtual _ => 3
  | .invokestatic _ => 3
  | .invokespecial _ => 3
  | .tableswitch _ _ _ _ => 0
  | .lookupswitch _ _ => 0
  | .newarray _ => 2
  | .anewarray _ => 3
  | .new _ => 3
  | _ => 1
def okAux (fl : List (Nat × Nat × Nat)) (ct : List (Nat × Int32)) (r : Rw) : Bool := match r.2.1 with
  | .iconst n => decide (Int32.ofInt n = r.2.2.2.1)
  | .bipush n => decide ((Int8.ofInt n).toInt32 = r.2.2.2.1)
  | .sipush n => decide ((Int16.ofInt n).toInt32 = r.2.2.2.1)
  | .ldc k => decide (r.2.2.2.2.1 = 1) || decide ((k, r.2.2.2.1) ∈ ct)
  | .ldc_w k => decide ((k, r.2.2.2.1) ∈ ct)
  | .iinc _ n => decide (Int32.ofInt n = r.2.2.2.1)
  | .getfield k => decide ((k, r.2.2.2.2.1, r.2.2.2.2.2) ∈ fl)
  | .putfield k => decide ((k, r.2.2.2.2.1, r.2.2.2.2.2) ∈ fl)
  | .goto o => decide ((r.1 : Int) + o = (r.2.2.2.2.1 : Int))
  | .ifCond _ o => decide ((r.1 : Int) + o = (r.2.2.2.2.1 : Int))
  | .if_icmp _ o => decide ((r.1 : Int) + o = (r.2.2.2.2.1 : Int))
  | _ => true
def okR (fl : List (Nat × Nat × Nat)) (ct : List (Nat × Int32)) (b : ByteArray) (r : Rw) : Bool :=
  decide (decode b r.1 = .ok (r.2.1, r.2.2.1 - r.1)) && decide (r.1 ≤ r.2.2.1) && (decide (lenI r.2.1 = 0) || decide (r.2.2.1 = r.1 + lenI r.2.1)) && okAux fl ct r
/-- a table of rows is as the bytes say, its entries as the class file's -/
def okP (own : String) (b : ByteArray) (pg : List Rw) : Prop := ∃ (fl : List (Nat × Nat × Nat)) (ct : List (Nat × Int32)), FLok own fl ∧ CTok own ct ∧ pg.all (okR fl ct b) = true
theorem okP_row {own : String} {b : ByteArray} {pg : List Rw} (hp : okP own b pg) {pc : Nat} {q : Rq} (h : lkp pc pg = some q) :
    ∃ (fl : List (Nat × Nat × Nat)) (ct : List (Nat × Int32)), FLok own fl ∧ CTok own ct ∧ decode b pc = .ok (q.1, q.2.1 - pc) ∧ pc ≤ q.2.1 ∧ (lenI q.1 = 0 ∨ q.2.1 = pc + lenI q.1) ∧ okAux fl ct (pc, q) = true := by
  obtain ⟨fl, ct, h1, h2, h3⟩ := hp
  have h4 := List.all_eq_true.mp h3 _ (lkp_mem h)
  simp only [okR, Bool.and_eq_true, Bool.or_eq_true, decide_eq_true_eq] at h4
  exact ⟨fl, ct, h1, h2, h4.1.1.1, h4.1.1.2, h4.1.2, h4.2⟩
theorem okP_dec {own : String} {b : ByteArray} {pg : List Rw} (hp : okP own b pg) {pc pc' : Nat} {i : Instr} {v : Int32} {a1 a2 : Nat} (h : lkp pc pg = some (i, pc', v, a1, a2)) (hl : lenI i ≠ 0) :
    decode b pc = .ok (i, lenI i) ∧ pc' = pc + lenI i := by
  obtain ⟨fl, ct, -, -, h3, -, h5, -⟩ := okP_row hp h
  rcases h5 with h5 | h5
  · exact absurd h5 hl
  · dsimp only at h3 h5
    refine ⟨?_, h5⟩
    rw [h3, h5, Nat.add_sub_cancel_left]
def setK {α : Type} : Lc → Nat → Option AV → α → (Lc → α) → α
  | [], _, _, d, _ => d
  | _ :: xs, 0, v, _, K => K (v :: xs)
  | x :: xs, k + 1, v, d, K => setK xs k v d (fun r => K (x :: r))
theorem setK_eq {α : Type} : ∀ (L : Lc) (k : Nat) (v : Option AV) (d : α) (K : Lc → α), k < L.length → setK L k v d K = K (L.set k v)
  | [], _, _, _, _, h => by simp at h
  | _ :: xs, 0, v, d, K, _ => rfl
  | x :: xs, k + 1, v, d, K, h => by
    rw [setK, setK_eq xs k v d _ (by simpa using h)]
    simp
theorem setK_ge {α : Type} : ∀ (L : Lc) (k : Nat) (v : Option AV) (d : α) (K : Lc → α), L.length ≤ k → setK L k v d K = d
  | [], _, _, _, _, _ => rfl
  | _ :: xs, 0, v, d, K, h => by simp at h
  | x :: xs, k + 1, v, d, K, h => by
    rw [setK, setK_ge xs k v d _ (by simpa using h)]
def finOk (ci k : Nat) : Bool := match classes[ci]? with
  | some q => !(q.2.1 k).2.2.2 && (q.2.1 k).2.2.1 == "I" && decide (k < q.2.2)
  | none => false
def finOkT : List (Nat × List Nat) := [(0, [1, 2]), (2, [0, 1]), (3, [0, 1, 2, 3]), (4, [1, 2, 3, 4]), (5, [0, 1, 2]), (6, [4, 7, 8, 9, 10, 11, 13, 15]), (7, [10]), (8, [7, 8, 11, 12, 13, 14, 15, 16, 17, 21, 22, 24, 37])]
theorem finOkT_ok : finOkT.all (fun q => q.2.all (finOk q.1)) = true := by decide +kernel
def memN (k : Nat) : List Nat → Bool
  | [] => false
  | x :: xs => match Nat.beq x k with
    | true => true
    | false => memN k xs
theorem memN_mem {k : Nat} : ∀ {l : List Nat}, memN k l = true → k ∈ l
  | [], h => by simp [memN] at h
  | x :: xs, h => by
    rw [memN] at h
    cases hb : Nat.beq x k with
    | true => rw [← Nat.eq_of_beq_eq_true hb]; exact List.mem_cons_self
    | false => rw [hb] at h; exact List.mem_cons_of_mem _ (memN_mem h)
def putOk (ci k : Nat) : List (Nat × List Nat) → Bool
  | [] => false
  | x :: xs => match Nat.beq x.1 ci with
    | true => memN k x.2
    | false => putOk ci k xs
theorem putOk_mem {ci k : Nat} : ∀ {l : List (Nat × List Nat)}, putOk ci k l = true → ∃ q ∈ l, q.1 = ci ∧ k ∈ q.2
  | [], h => by simp [putOk] at h
  | x :: xs, h => by
    rw [putOk] at h
    cases hb : Nat.beq x.1 ci with
    | true => rw [hb] at h; exact ⟨x, List.mem_cons_self, Nat.eq_of_beq_eq_true hb, memN_mem h⟩
    | false =>
      rw [hb] at h
      obtain ⟨q, h1, h2⟩ := putOk_mem h
      exact ⟨q, List.mem_cons_of_mem _ h1, h2⟩
theorem putOk_fin {ci k : Nat} (h : putOk ci k finOkT = true) : finOk ci k = true := by
  obtain ⟨q, h1, h2, h3⟩ := putOk_mem h
  rw [← h2]
  exact List.all_eq_true.mp (List.all_eq_true.mp finOkT_ok q h1) k h3
/-- one step, where an instruction is straight -/
def stp (q : Rq) (pc : Nat) (L : Lc) (st : List AV) (σ : Sg) (d : Mst) (K : Nat → Lc → List AV → Sg → Mst) : Mst := match q with
  | (i, pc', v, a1, a2) => match i with
    | .iconst _ => K pc' L (.inl v :: st) σ
    | .bipush _ => K pc' L (.inl v :: st) σ
    | .sipush _ => K pc' L (.inl v :: st) σ
    | .ldc _ => match Nat.beq a1 1 with
      | true => d
      | false => K pc' L (.inl v :: st) σ
    | .ldc_w _ => K pc' L (.inl v :: st) σ
    | .iload_n k => match L[k.val]? with
      | some (some (.inl x)) => K pc' L (.inl x :: st) σ
      | _ => d
    | .iload k => match L[k]? with
      | some (some (.inl x)) => K pc' L (.inl x :: st) σ
      | _ => d
    | .aload_n k => match L[k.val]? with
      | some (some (.inr x)) => K pc' L (.inr x :: st) σ
      | _ => d
    | .aload k => match L[k]? with
      | some (some (.inr x)) => K pc' L (.inr x :: st) σ
      | _ => d
    | .istore_n k => match st with
      | .inl x :: r => setK L k.val (some (.inl x)) d (fun L' => K pc' L' r σ)
      | _ => d
    | .istore k => match st with
      | .inl x :: r => setK L k (some (.inl x)) d (fun L' => K pc' L' r σ)
      | _ => d
    | .astore_n k => match st with
      | .inr x :: r => setK L k.val (some (.inr x)) d (fun L' => K pc' L' r σ)
      | _ => d
    | .astore k => match st with
      | .inr x :: r => setK L k (some (.inr x)) d (fun L' => K pc' L' r σ)
      | _ => d
    | .iinc k _ => match L[k]? with
      | some (some (.inl x)) => setK L k (some (.inl (x + v))) d (fun L' => K pc' L' st σ)
      | _ => d
    | .iadd => match st with
      | .inl y :: .inl x :: r => K pc' L (.inl (x + y) :: r) σ
      | _ => d
    | .isub => match st with
      | .inl y :: .inl x :: r => K pc' L (.inl (x - y) :: r) σ
      | _ => d
    | .imul => match st with
      | .inl y :: .inl x :: r => K pc' L (.inl (x * y) :: r) σ
      | _ => d
    | .iand => match st with
      | .inl y :: .inl x :: r => K pc' L (.inl (x &&& y) :: r) σ
      | _ => d
    | .ior => match st with
      | .inl y :: .inl x :: r => K pc' L (.inl (x ||| y) :: r) σ
      | _ => d
    | .ishl => match st with
      | .inl y :: .inl x :: r => K pc' L (.inl (x <<< (y &&& 31)) :: r) σ
      | _ => d
    | .ishr => match st with
      | .inl y :: .inl x :: r => K pc' L (.inl (x >>> (y &&& 31)) :: r) σ
      | _ => d
    | .iushr => match st with
      | .inl y :: .inl x :: r => K pc' L (.inl ((x.toUInt32 >>> (y.toUInt32 &&& Int32.toUInt32 31)).toInt32) :: r) σ
      | _ => d
    | .ineg => match st with
      | .inl x :: r => K pc' L (.inl (-x) :: r) σ
      | _ => d
    | .i2s => match st with
      | .inl x :: r => K pc' L (.inl x.toInt16.toInt32 :: r) σ
      | _ => d
    | .i2c => match st with
      | .inl x :: r => K pc' L (.inl (x.toUInt32 % 65536).toInt32 :: r) σ
      | _ => d
    | .dup => match st with
      | x :: r => K pc' L (x :: x :: r) σ
      | _ => d
    | .pop => match st with
      | _ :: r => K pc' L r σ
      | _ => d
    | .dup2 => match st with
      | y :: x :: r => K pc' L (y :: x :: y :: x :: r) σ
      | _ => d
    | .goto _ => match Nat.ble a1 pc with
      | true => d
      | false => K a1 L st σ
    | .getfield _ => match st with
      | .inr c :: r => match lay[c]? with
        | some (.inl (ci, fds)) => match Nat.beq ci a1 with
          | true => match fds[a2]? with
            | some none => K pc' L (.inl (σ c a2) :: r) σ
            | some (some k) => K pc' L (.inr k :: r) σ
            | none => d
          | false => d
        | _ => d
      | _ => d
    | .putfield _ => match st with
      | .inl x :: .inr c :: r => match lay[c]? with
        | some (.inl (ci, fds)) => match Nat.beq ci a1 with
          | true => match fds[a2]? with
            | some none => match putOk a1 a2 finOkT with
              | true => K pc' L r (up σ c a2 x)
              | false => d
            | _ => d
          | false => d
        | _ => d
      | _ => d
    | .arraylength => match st with
      | .inr c :: r => match lay[c]? with
        | some (.inr (kd, n, _)) => match Nat.ble kd 5 with
          | true => K pc' L (.inl (nI n) :: r) σ
          | false => d
        | _ => d
      | _ => d
    | _ => d
def run (pg : List Rw) : Nat → Nat → Lc → List AV → Sg → Mst
  | 0, pc, L, st, σ => (pc, L, st, σ)
  | n + 1, pc, L, st, σ => match lkp pc pg with
    | none => (pc, L, st, σ)
    | some q => stp q pc L st σ (pc, L, st, σ) (fun pc' L' st' σ' => run pg n pc' L' st' σ')
def XT (Γ : Cx) (q : Mst) : Prop := match q with
  | (pc, L, st, σ) => X Γ pc L st σ
