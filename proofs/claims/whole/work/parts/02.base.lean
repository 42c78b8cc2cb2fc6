/-! THE SMALL MACHINE: the same instructions over a picture of the cells by numbers (a cell's number, not its address) -/
abbrev pm_M : Type := (Nat → Nat → Int32) × (Nat → Nat → Int64)
abbrev pm_L : Type := List (Option Value)
abbrev pm_St : Type := Nat × pm_L × List Value × pm_M
abbrev pm_Sh : Type := (Nat × List (Nat × Nat)) ⊕ (Nat × Nat)
abbrev pm_E : Type := Instr × Nat × List Nat × Value
abbrev pm_Tb : Type := List (List (Nat × pm_E))
abbrev pm_Me : Type := MethodName × ByteArray × Nat × Option FieldType × Bool × Nat
abbrev pm_X : Type := Option (Nat × (Nat → Int32))
abbrev pm_CR : Type := Nat → List Value → pm_M → Option Value → pm_M → Prop
def pm_sI (M : pm_M) (a k : Nat) (v : Int32) : pm_M := (fun b j => if b = a then (if j = k then v else M.1 b j) else M.1 b j, M.2)
def pm_sL (M : pm_M) (a k : Nat) (v : Int64) : pm_M := (M.1, fun b j => if b = a then (if j = k then v else M.2 b j) else M.2 b j)
def pm_cI (M : pm_M) (a b sp dp n : Nat) : pm_M := (fun x j => if x = b then va_cpy (M.1 a) (M.1 b) sp dp n j else M.1 x j, M.2)
def pm_cL (M : pm_M) (a b sp dp n : Nat) : pm_M := (M.1, fun x j => if x = b then va_cpy (M.2 a) (M.2 b) sp dp n j else M.2 x j)
abbrev pm_in (i : Int32) (n : Nat) : Prop := ¬ i < 0 ∧ i.toNatClampNeg < n
def pm_clr (al : pm_L) (i : Nat) : pm_L := match i with
  | 0 => al
  | j + 1 => match al.getD j none with
    | some v => if v.category = 2 then al.set j none else al
    | none => al
def pm_st1 (al : pm_L) (i : Nat) (v : Value) : pm_L := (pm_clr al i).set i (some v)
def pm_st2 (al : pm_L) (i : Nat) (v : Value) : pm_L := ((pm_clr al i).set i (some v)).set (i + 1) none
def pm_lk (T : pm_Tb) (pc : Nat) : Option pm_E := match T[pc / 16]? with
  | some l => l.lookup pc
  | none => none
def pm_sw (x : Int32) (d : Nat) : List Nat → Nat
  | k :: t :: r => if x = Int32.ofNat k then t else pm_sw x d r
  | _ => d
def pm_push (v : Value) (n : Nat) (σ : pm_St) : Option pm_St := match σ with
  | (pc, al, st, M) => some (pc + n, al, v :: st, M)
def pm_bI (f : Int32 → Int32 → Int32) (σ : pm_St) : Option pm_St := match σ with
  | (pc, al, .int y :: .int x :: r, M) => some (pc + 1, al, .int (f x y) :: r, M)
  | _ => none
def pm_bL (f : Int64 → Int64 → Int64) (σ : pm_St) : Option pm_St := match σ with
  | (pc, al, .long y :: .long x :: r, M) => some (pc + 1, al, .long (f x y) :: r, M)
  | _ => none
def pm_uI (f : Int32 → Value) (σ : pm_St) : Option pm_St := match σ with
  | (pc, al, .int x :: r, M) => some (pc + 1, al, f x :: r, M)
  | _ => none
def pm_uL (f : Int64 → Value) (σ : pm_St) : Option pm_St := match σ with
  | (pc, al, .long x :: r, M) => some (pc + 1, al, f x :: r, M)
  | _ => none
def pm_ldI (i n : Nat) (σ : pm_St) : Option pm_St := match σ with
  | (pc, al, st, M) => match al.getD i none with
    | some (.int x) => some (pc + n, al, .int x :: st, M)
    | _ => none
def pm_ldL (i n : Nat) (σ : pm_St) : Option pm_St := match σ with
  | (pc, al, st, M) => match al.getD i none with
    | some (.long x) => some (pc + n, al, .long x :: st, M)
    | _ => none
def pm_ldA (i n : Nat) (σ : pm_St) : Option pm_St := match σ with
  | (pc, al, st, M) => match al.getD i none with
    | some (.ref x) => some (pc + n, al, .ref x :: st, M)
    | _ => none
def pm_soI (i n : Nat) (σ : pm_St) : Option pm_St := match σ with
  | (pc, al, .int x :: r, M) => some (pc + n, pm_st1 al i (.int x), r, M)
  | _ => none
def pm_soL (i n : Nat) (σ : pm_St) : Option pm_St := match σ with
  | (pc, al, .long x :: r, M) => some (pc + n, pm_st2 al i (.long x), r, M)
  | _ => none
def pm_soA (i n : Nat) (σ : pm_St) : Option pm_St := match σ with
  | (pc, al, .ref x :: r, M) => some (pc + n, pm_st1 al i (.ref x), r, M)
  | _ => none
