def pm_sh (id : Nat) : Option pm_Sh := pm_SH[id]?
def pm_FA (j : Nat) : Int64 := pm_FAl.getD j 0
def pm_CH (j : Nat) : Int64 := pm_CHl.getD j 0
def pm_if1 (P : Int32 → Prop) [DecidablePred P] (t : Nat) (σ : pm_St) : Option pm_St := match σ with
  | (pc, al, .int x :: r, M) => if P x then some (t, al, r, M) else some (pc + 3, al, r, M)
  | _ => none
def pm_if2 (P : Int32 → Int32 → Prop) [∀ x y, Decidable (P x y)] (t : Nat) (σ : pm_St) : Option pm_St := match σ with
  | (pc, al, .int y :: .int x :: r, M) => if P x y then some (t, al, r, M) else some (pc + 3, al, r, M)
  | _ => none
def pm_iald (X : pm_X) (σ : pm_St) : Option pm_St := match σ with
  | (pc, al, .int i :: .ref a :: r, M) => match pm_sh a with
    | some (.inr (0, n)) => if pm_in i n then some (pc + 1, al, .int (M.1 a i.toNatClampNeg) :: r, M) else none
    | some _ => none
    | none => if a = 102 then (match X with
      | some (L, xs) => if pm_in i L then some (pc + 1, al, .int (xs i.toNatClampNeg) :: r, M) else none
      | none => none) else none
  | _ => none
def pm_zald (σ : pm_St) : Option pm_St := match σ with
  | (pc, al, .int i :: .ref a :: r, M) => match pm_sh a with
    | some (.inr (1, n)) => if pm_in i n then some (pc + 1, al, .int (M.1 a i.toNatClampNeg) :: r, M) else none
    | _ => none
  | _ => none
def pm_lald (σ : pm_St) : Option pm_St := match σ with
  | (pc, al, .int i :: .ref a :: r, M) => match pm_sh a with
    | some (.inr (2, n)) => if pm_in i n then some (pc + 1, al, .long (M.2 a i.toNatClampNeg) :: r, M) else none
    | some _ => none
    | none => if a = 100 then (if pm_in i 9 then some (pc + 1, al, .long (pm_FA i.toNatClampNeg) :: r, M) else none)
      else if a = 101 then (if pm_in i 49 then some (pc + 1, al, .long (pm_CH i.toNatClampNeg) :: r, M) else none) else none
  | _ => none
def pm_aald (σ : pm_St) : Option pm_St := match σ with
  | (pc, al, .int i :: .ref a :: r, M) => match pm_sh a with
    | some (.inr (3, n)) => if pm_in i n ∧ i.toNatClampNeg < 4 then some (pc + 1, al, .ref (pm_sheetId i.toNatClampNeg) :: r, M) else none
    | _ => none
  | _ => none
def pm_iast (σ : pm_St) : Option pm_St := match σ with
  | (pc, al, .int x :: .int i :: .ref a :: r, M) => match pm_sh a with
    | some (.inr (0, n)) => if pm_in i n then some (pc + 1, al, r, pm_sI M a i.toNatClampNeg x) else none
    | _ => none
  | _ => none
def pm_zast (σ : pm_St) : Option pm_St := match σ with
  | (pc, al, .int x :: .int i :: .ref a :: r, M) => match pm_sh a with
    | some (.inr (1, n)) => if pm_in i n ∧ (x = 0 ∨ x = 1) then some (pc + 1, al, r, pm_sI M a i.toNatClampNeg x) else none
    | _ => none
  | _ => none
def pm_last (σ : pm_St) : Option pm_St := match σ with
  | (pc, al, .long x :: .int i :: .ref a :: r, M) => match pm_sh a with
    | some (.inr (2, n)) => if pm_in i n then some (pc + 1, al, r, pm_sL M a i.toNatClampNeg x) else none
    | _ => none
  | _ => none
def pm_alen (X : pm_X) (σ : pm_St) : Option pm_St := match σ with
  | (pc, al, .ref a :: r, M) => match pm_sh a with
    | some (.inr (_, n)) => some (pc + 1, al, .int (Int32.ofNat n) :: r, M)
    | some _ => none
    | none => if a = 100 then some (pc + 1, al, .int (Int32.ofNat 9) :: r, M)
      else if a = 102 then (match X with
        | some (L, _) => some (pc + 1, al, .int (Int32.ofNat L) :: r, M)
        | none => none) else none
  | _ => none
def pm_getf (ci k : Nat) (σ : pm_St) : Option pm_St := match σ with
  | (pc, al, .ref a :: r, M) => match pm_sh a with
    | some (.inl (ci', fks)) => if ci' = ci then (match fks[k]? with
      | some (0, _) => some (pc + 3, al, .int (M.1 a k) :: r, M)
      | some (3, _) => some (pc + 3, al, .int (M.1 a k) :: r, M)
      | some (1, _) => some (pc + 3, al, .long (M.2 a k) :: r, M)
      | some (2, j) => some (pc + 3, al, .ref j :: r, M)
      | _ => none) else none
    | _ => none
  | _ => none
def pm_putf (ci k : Nat) (σ : pm_St) : Option pm_St := match σ with
  | (pc, al, .int x :: .ref a :: r, M) => match pm_sh a with
    | some (.inl (ci', fks)) => if ci' = ci then (match fks[k]? with
      | some (0, _) => some (pc + 3, al, r, pm_sI M a k x)
      | some (3, _) => if x = 0 ∨ x = 1 then some (pc + 3, al, r, pm_sI M a k x) else none
      | _ => none) else none
    | _ => none
  | (pc, al, .long x :: .ref a :: r, M) => match pm_sh a with
    | some (.inl (ci', fks)) => if ci' = ci then (match fks[k]? with
      | some (1, _) => some (pc + 3, al, r, pm_sL M a k x)
      | _ => none) else none
    | _ => none
  | _ => none
def pm_dup (σ : pm_St) : Option pm_St := match σ with
  | (pc, al, v :: r, M) => if v.category = 1 then some (pc + 1, al, v :: v :: r, M) else none
  | _ => none
def pm_pop (σ : pm_St) : Option pm_St := match σ with
  | (pc, al, v :: r, M) => if v.category = 1 then some (pc + 1, al, r, M) else none
  | _ => none
def pm_dup2 (σ : pm_St) : Option pm_St := match σ with
  | (pc, al, v :: w :: r, M) => if v.category = 1 ∧ w.category = 1 then some (pc + 1, al, v :: w :: v :: w :: r, M) else none
  | _ => none
def pm_switch (aux : List Nat) (σ : pm_St) : Option pm_St := match σ, aux with
  | (_, al, .int x :: r, M), d :: ks => some (pm_sw x d ks, al, r, M)
  | _, _ => none
def pm_copyI (σ : pm_St) : Option pm_St := match σ with
  | (pc, al, .int n :: .int dp :: .ref b :: .int sp :: .ref a :: r, M) => match pm_sh a, pm_sh b with
    | some (.inr (0, n0)), some (.inr (0, n1)) => if ¬ sp < 0 ∧ ¬ dp < 0 ∧ ¬ n < 0 ∧ sp.toNatClampNeg + n.toNatClampNeg ≤ n0 ∧ dp.toNatClampNeg + n.toNatClampNeg ≤ n1 ∧ (r.map fun v => v.category).sum ≤ 8 then some (pc + 3, al, r, pm_cI M a b sp.toNatClampNeg dp.toNatClampNeg n.toNatClampNeg) else none
    | _, _ => none
  | _ => none
def pm_copyL (σ : pm_St) : Option pm_St := match σ with
  | (pc, al, .int n :: .int dp :: .ref b :: .int sp :: .ref a :: r, M) => match pm_sh a, pm_sh b with
    | some (.inr (2, n0)), some (.inr (2, n1)) => if ¬ sp < 0 ∧ ¬ dp < 0 ∧ ¬ n < 0 ∧ sp.toNatClampNeg + n.toNatClampNeg ≤ n0 ∧ dp.toNatClampNeg + n.toNatClampNeg ≤ n1 ∧ (r.map fun v => v.category).sum ≤ 8 then some (pc + 3, al, r, pm_cL M a b sp.toNatClampNeg dp.toNatClampNeg n.toNatClampNeg) else none
    | _, _ => none
  | _ => none
def pm_abs (σ : pm_St) : Option pm_St := match σ with
  | (pc, al, .long x :: r, M) => if (r.map fun v => v.category).sum ≤ 8 then some (pc + 3, al, .long (if 0 < x then x else -x) :: r, M) else none
  | _ => none
def pm_max (σ : pm_St) : Option pm_St := match σ with
  | (pc, al, .long y :: .long x :: r, M) => if (r.map fun v => v.category).sum ≤ 8 then some (pc + 3, al, .long (if y < x then x else y) :: r, M) else none
  | _ => none
def pm_idiv (σ : pm_St) : Option pm_St := match σ with
  | (pc, al, .int y :: .int x :: r, M) => if ¬ y = 0 then some (pc + 1, al, .int (x / y) :: r, M) else none
  | _ => none
def pm_irem (σ : pm_St) : Option pm_St := match σ with
  | (pc, al, .int y :: .int x :: r, M) => if ¬ y = 0 then some (pc + 1, al, .int (x - x / y * y) :: r, M) else none
  | _ => none
def pm_ldiv (σ : pm_St) : Option pm_St := match σ with
  | (pc, al, .long y :: .long x :: r, M) => if ¬ y = 0 then some (pc + 1, al, .long (x / y) :: r, M) else none
  | _ => none
def pm_lrem (σ : pm_St) : Option pm_St := match σ with
  | (pc, al, .long y :: .long x :: r, M) => if ¬ y = 0 then some (pc + 1, al, .long (x - x / y * y) :: r, M) else none
  | _ => none
def pm_lshl (σ : pm_St) : Option pm_St := match σ with
  | (pc, al, .int y :: .long x :: r, M) => some (pc + 1, al, .long (x <<< (y.toInt64 &&& 63)) :: r, M)
  | _ => none
def pm_lcmp (σ : pm_St) : Option pm_St := match σ with
  | (pc, al, .long y :: .long x :: r, M) => some (pc + 1, al, .int (lg_cmp x y) :: r, M)
  | _ => none
def pm_iincr (i : Nat) (v : Value) (σ : pm_St) : Option pm_St := match σ with
  | (pc, al, st, M) => match v, al.getD i none with
    | .int d, some (.int x) => some (pc + 3, pm_st1 al i (.int (x + d)), st, M)
    | _, _ => none
def pm_ex (X : pm_X) (e : pm_E) (σ : pm_St) : Option pm_St := match e.1 with
  | .iconst _ => pm_push e.2.2.2 1 σ
  | .bipush _ => pm_push e.2.2.2 2 σ
  | .sipush _ => pm_push e.2.2.2 3 σ
  | .lconst _ => pm_push e.2.2.2 1 σ
  | .ldc _ => pm_push e.2.2.2 2 σ
  | .ldc_w _ => pm_push e.2.2.2 3 σ
  | .ldc2_w _ => pm_push e.2.2.2 3 σ
  | .iload_n k => pm_ldI k 1 σ
  | .iload k => pm_ldI k 2 σ
  | .lload_n k => pm_ldL k 1 σ
  | .lload k => pm_ldL k 2 σ
  | .aload_n k => pm_ldA k 1 σ
  | .aload k => pm_ldA k 2 σ
  | .istore_n k => pm_soI k 1 σ
  | .istore k => pm_soI k 2 σ
  | .lstore_n k => pm_soL k 1 σ
  | .lstore k => pm_soL k 2 σ
  | .astore_n k => pm_soA k 1 σ
  | .astore k => pm_soA k 2 σ
  | .iinc i _ => pm_iincr i e.2.2.2 σ
  | .iadd => pm_bI (fun x y => x + y) σ
  | .isub => pm_bI (fun x y => x - y) σ
  | .imul => pm_bI (fun x y => x * y) σ
  | .iand => pm_bI (fun x y => x &&& y) σ
  | .ior => pm_bI (fun x y => x ||| y) σ
  | .ixor => pm_bI (fun x y => x ^^^ y) σ
  | .ishl => pm_bI (fun x y => x <<< (y &&& 31)) σ
  | .ishr => pm_bI (fun x y => x >>> (y &&& 31)) σ
  | .iushr => pm_bI (fun x y => (x.toUInt32 >>> (y.toUInt32 &&& Int32.toUInt32 31)).toInt32) σ
  | .idiv => pm_idiv σ
  | .irem => pm_irem σ
  | .ineg => pm_uI (fun x => .int (-x)) σ
  | .i2l => pm_uI (fun x => .long x.toInt64) σ
  | .i2s => pm_uI (fun x => .int x.toInt16.toInt32) σ
  | .ladd => pm_bL (fun x y => x + y) σ
  | .lsub => pm_bL (fun x y => x - y) σ
  | .lmul => pm_bL (fun x y => x * y) σ
  | .land => pm_bL (fun x y => x &&& y) σ
  | .lor => pm_bL (fun x y => x ||| y) σ
  | .ldiv => pm_ldiv σ
  | .lrem => pm_lrem σ
  | .lneg => pm_uL (fun x => .long (-x)) σ
  | .l2i => pm_uL (fun x => .int x.toInt32) σ
  | .lshl => pm_lshl σ
  | .lcmp => pm_lcmp σ
  | .dup => pm_dup σ
  | .pop => pm_pop σ
  | .dup2 => pm_dup2 σ
  | .ifCond .eq _ => pm_if1 (fun x => x = 0) (e.2.2.1.headD 0) σ
  | .ifCond .ne _ => pm_if1 (fun x => ¬ x = 0) (e.2.2.1.headD 0) σ
  | .ifCond .lt _ => pm_if1 (fun x => x < 0) (e.2.2.1.headD 0) σ
  | .ifCond .ge _ => pm_if1 (fun x => 0 ≤ x) (e.2.2.1.headD 0) σ
  | .ifCond .gt _ => pm_if1 (fun x => 0 < x) (e.2.2.1.headD 0) σ
  | .ifCond .le _ => pm_if1 (fun x => x ≤ 0) (e.2.2.1.headD 0) σ
  | .if_icmp .eq _ => pm_if2 (fun x y => x = y) (e.2.2.1.headD 0) σ
  | .if_icmp .ne _ => pm_if2 (fun x y => ¬ x = y) (e.2.2.1.headD 0) σ
  | .if_icmp .lt _ => pm_if2 (fun x y => x < y) (e.2.2.1.headD 0) σ
  | .if_icmp .ge _ => pm_if2 (fun x y => y ≤ x) (e.2.2.1.headD 0) σ
  | .if_icmp .gt _ => pm_if2 (fun x y => y < x) (e.2.2.1.headD 0) σ
  | .if_icmp .le _ => pm_if2 (fun x y => x ≤ y) (e.2.2.1.headD 0) σ
  | .goto _ => (match σ with
    | (_, al, st, M) => some (e.2.2.1.headD 0, al, st, M))
  | .tableswitch _ _ _ _ => pm_switch e.2.2.1 σ
  | .lookupswitch _ _ => pm_switch e.2.2.1 σ
  | .iaload => pm_iald X σ
  | .baload => pm_zald σ
  | .laload => pm_lald σ
  | .aaload => pm_aald σ
  | .iastore => pm_iast σ
  | .bastore => pm_zast σ
  | .lastore => pm_last σ
  | .arraylength => pm_alen X σ
  | .getfield _ => (match e.2.2.1 with
    | ci :: k :: _ => pm_getf ci k σ
    | _ => none)
  | .putfield _ => (match e.2.2.1 with
    | ci :: k :: _ => pm_putf ci k σ
    | _ => none)
  | .getstatic _ => (match e.2.2.1 with
    | a :: _ => pm_push (.ref a) 3 σ
    | _ => none)
  | .invokestatic _ => (match e.2.2.1 with
    | [1000, 0, _, _, _, _] => pm_copyI σ
    | [1000, 2, _, _, _, _] => pm_copyL σ
    | [1001, _, _, _, _, _] => pm_abs σ
    | [1002, _, _, _, _, _] => pm_max σ
    | _ => none)
  | _ => none
def pm_step (X : pm_X) (T : pm_Tb) (σ : pm_St) : Option pm_St := match σ with
  | (pc, al, st, M) => match pm_lk T pc with
    | some e => pm_ex X e (pc, al, st, M)
    | none => none
def pm_run (X : pm_X) (T : pm_Tb) : Nat → pm_St → Option pm_St
  | 0, σ => some σ
  | k + 1, σ => match pm_step X T σ with
    | some σ' => pm_run X T k σ'
    | none => none
def pm_callee (e : pm_E) : Option (Nat × Nat) := match e.1, e.2.2.1 with
  | .invokevirtual _, m :: n :: _ => some (m, n)
  | .invokestatic _, m :: n :: _ => some (m, n)
  | _, _ => none
def pm_me (mid : Nat) : pm_Me := pm_MT.getD mid (⟨"", "", ""⟩, ⟨#[]⟩, 0, none, false, 0)
def pm_tb (mid : Nat) : pm_Tb := pm_TT.getD mid []
/-- the object that a method is called on is of the method's class -/
def pm_rc (m : Nat) (as : List Value) : Bool := match (pm_me m).2.2.2.2.1 with
  | true => true
  | false => match as with
    | .ref a :: _ => match pm_sh a with
      | some (.inl (c, _)) => c == (pm_me m).2.2.2.2.2
      | _ => false
    | _ => false
def pm_Stp (X : pm_X) (C : pm_CR) (T : pm_Tb) (σ σ' : pm_St) : Prop :=
  pm_step X T σ = some σ' ∨
  (σ.1 = σ'.1 ∧ σ.2.2 = σ'.2.2 ∧ ∀ i v, σ'.2.1.getD i none = some v → σ.2.1.getD i none = some v) ∨
  ∃ e m n as rest v M, pm_lk T σ.1 = some e ∧ pm_callee e = some (m, n) ∧ as.length = n ∧ σ.2.2.1 = as.reverse ++ rest ∧ (rest.map fun v => v.category).sum ≤ 8 ∧ pm_rc m as = true ∧ C m as σ.2.2.2 v M ∧ σ' = (σ.1 + 3, σ.2.1, v.toList ++ rest, M)
def pm_Rch (X : pm_X) (C : pm_CR) (T : pm_Tb) : Nat → pm_St → pm_St → Prop
  | 0, σ, σ' => σ = σ'
  | n + 1, σ, σ' => ∃ τ, pm_Stp X C T σ τ ∧ pm_Rch X C T n τ σ'
def pm_RetE (e : pm_E) (ret : Option FieldType) (st : List Value) (v : Option Value) : Prop := match e.1 with
  | .ireturn => ∃ x : Int32, st = [.int x] ∧ v = some (.int x) ∧ (ret = some .int ∨ (ret = some .boolean ∧ (x = 0 ∨ x = 1)))
  | .lreturn => ∃ x : Int64, st = [.long x] ∧ v = some (.long x) ∧ ret = some .long
  | .return_ => st = [] ∧ v = none ∧ ret = none
  | _ => False
def pm_Ret (T : pm_Tb) (ret : Option FieldType) (σ : pm_St) (v : Option Value) (M : pm_M) : Prop := ∃ e, pm_lk T σ.1 = some e ∧ σ.2.2.2 = M ∧ pm_RetE e ret σ.2.2.1 v
def pm_en (n : Nat) (as : List Value) : pm_L := (as.flatMap fun v => if v.category = 2 then [some v, none] else [some v]) ++ List.replicate (n - (as.flatMap fun v => if v.category = 2 then [some v, (none : Option Value)] else [some v]).length) none
def pm_Ev : Nat → pm_CR
  | 0 => fun _ _ _ _ _ => False
  | d + 1 => fun mid as M v M' => (pm_en (pm_me mid).2.2.1 as).length = (pm_me mid).2.2.1 ∧ ∃ n σ, pm_Rch none (pm_Ev d) (pm_tb mid) n (0, pm_en (pm_me mid).2.2.1 as, [], M) σ ∧ pm_Ret (pm_tb mid) (pm_me mid).2.2.2.1 σ v M'
