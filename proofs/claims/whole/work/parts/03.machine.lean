/-! THE CLEAN MACHINE: a cell is a number (0..3: the three tables and the script; 4 + i: the i-th cell made), memory is two functions -/
abbrev QL : Type := List (Option Value)
abbrev QM : Type := (Nat → Nat → Int32) × (Nat → Nat → Int64)
abbrev QCell : Type := Nat × Nat × List (Option Nat)
abbrev QG : Type := List QCell
abbrev QX : Type := (Nat → Nat) × (Nat → Nat → Int32)
abbrev QC : Type := Nat → List Value → QM → Option (Option Value × QM)
abbrev QE : Type 1 := QG → QX → QC → (Rt : Type) → (Nat → QL → List Value → QM → Option Rt) → (Option Value → QM → Option Rt) → QL → List Value → QM → Option Rt
def q_get : QL → Nat → Option Value
  | [], _ => none
  | a :: _, 0 => a
  | _ :: t, i + 1 => q_get t i
def q_keep (a : Option Value) : Option Value := match a with
  | some (.long _) => none
  | some (.double _) => none
  | a => a
def q_put {β : Type} : QL → Nat → Value → (QL → β) → β
  | [], _, _, f => f []
  | _ :: t, 0, v, f => f (some v :: t)
  | a :: t, 1, v, f => q_put t 0 v (fun t' => f (q_keep a :: t'))
  | a :: t, i + 2, v, f => q_put t (i + 1) v (fun t' => f (a :: t'))
def q_clr {β : Type} : QL → Nat → (QL → β) → β
  | [], _, f => f []
  | _ :: t, 0, f => f (none :: t)
  | a :: t, i + 1, f => q_clr t i (fun t' => f (a :: t'))
def q_nth : List (Option Nat) → Nat → Option Nat
  | [], _ => none
  | a :: _, 0 => a
  | _ :: t, i + 1 => q_nth t i
def q_lk : QG → Nat → Option QCell
  | [], _ => none
  | a :: _, 0 => some a
  | _ :: t, i + 1 => q_lk t i
def q_cell (G : QG) (X : QX) : Nat → Option QCell
  | 0 => some (14, X.1 0, [])
  | 1 => some (14, X.1 1, [])
  | 2 => some (14, X.1 2, [])
  | 3 => some (14, X.1 3, [])
  | a + 4 => q_lk G a
def q_up {α : Type} (h : Nat → Nat → α) (a k : Nat) (v : α) : Nat → Nat → α := fun a' k' => if a' = a ∧ k' = k then v else h a' k'
def q_uc {α : Type} (h : Nat → Nat → α) (a : Nat) (f : Nat → α) : Nat → Nat → α := fun a' k' => if a' = a then f k' else h a' k'
def q_cat : List Value → Nat
  | [] => 0
  | .long _ :: t => q_cat t + 2
  | .double _ :: t => q_cat t + 2
  | _ :: t => q_cat t + 1
/-- what a call brings back, by its kind -/
def q_bv {Rt : Type} (x : Option (Option Value × QM)) (f : QM → Option Rt) : Option Rt := match x with
  | some (none, M) => f M
  | _ => none
def q_bi {Rt : Type} (x : Option (Option Value × QM)) (f : Int32 → QM → Option Rt) : Option Rt := match x with
  | some (some (.int v), M) => f v M
  | _ => none
def q_bl {Rt : Type} (x : Option (Option Value × QM)) (f : Int64 → QM → Option Rt) : Option Rt := match x with
  | some (some (.long v), M) => f v M
  | _ => none
def q_br {Rt : Type} (x : Option (Option Value × QM)) (f : Nat → QM → Option Rt) (g : QM → Option Rt) : Option Rt := match x with
  | some (some (.ref v), M) => f v M
  | some (some .null, M) => g M
  | _ => none
def q_bo {Rt : Type} (x : Option Nat) (f : Nat → Option Rt) : Option Rt := match x with
  | some b => f b
  | none => none
/-! the instructions; the first number is where the next one stands -/
def qi_const (t : Nat) (v : Value) : QE := fun _ _ _ _ nx _ L S M => nx t L (v :: S) M
def qi_iload (t i : Nat) : QE := fun _ _ _ _ nx _ L S M => match q_get L i with
  | some (.int x) => nx t L (.int x :: S) M
  | _ => none
def qi_lload (t i : Nat) : QE := fun _ _ _ _ nx _ L S M => match q_get L i with
  | some (.long x) => nx t L (.long x :: S) M
  | _ => none
def qi_aload (t i : Nat) : QE := fun _ _ _ _ nx _ L S M => match q_get L i with
  | some (.ref x) => nx t L (.ref x :: S) M
  | some .null => nx t L (.null :: S) M
  | _ => none
def qi_istore (t i : Nat) : QE := fun _ _ _ _ nx _ L S M => match S with
  | .int x :: S => q_put L i (.int x) (fun L => nx t L S M)
  | _ => none
def qi_lstore (t i : Nat) : QE := fun _ _ _ _ nx _ L S M => match S with
  | .long x :: S => q_put L i (.long x) (fun L => q_clr L (i + 1) (fun L => nx t L S M))
  | _ => none
def qi_astore (t i : Nat) : QE := fun _ _ _ _ nx _ L S M => match S with
  | .ref x :: S => q_put L i (.ref x) (fun L => nx t L S M)
  | .null :: S => q_put L i .null (fun L => nx t L S M)
  | _ => none
def qi_iinc (t i : Nat) (n : Int32) : QE := fun _ _ _ _ nx _ L S M => match q_get L i with
  | some (.int x) => q_put L i (.int (x + n)) (fun L => nx t L S M)
  | _ => none
def qi_bin (t : Nat) (f : Int32 → Int32 → Int32) : QE := fun _ _ _ _ nx _ L S M => match S with
  | .int y :: .int x :: S => nx t L (.int (f x y) :: S) M
  | _ => none
def qi_div (t : Nat) (f : Int32 → Int32 → Int32) : QE := fun _ _ _ _ nx _ L S M => match S with
  | .int y :: .int x :: S => if y = 0 then none else nx t L (.int (f x y) :: S) M
  | _ => none
def qi_un (t : Nat) (f : Int32 → Int32) : QE := fun _ _ _ _ nx _ L S M => match S with
  | .int x :: S => nx t L (.int (f x) :: S) M
  | _ => none
def qi_lbin (t : Nat) (f : Int64 → Int64 → Int64) : QE := fun _ _ _ _ nx _ L S M => match S with
  | .long y :: .long x :: S => nx t L (.long (f x y) :: S) M
  | _ => none
def qi_lsh (t : Nat) (f : Int64 → Int32 → Int64) : QE := fun _ _ _ _ nx _ L S M => match S with
  | .int y :: .long x :: S => nx t L (.long (f x y) :: S) M
  | _ => none
def qi_i2l (t : Nat) : QE := fun _ _ _ _ nx _ L S M => match S with
  | .int x :: S => nx t L (.long x.toInt64 :: S) M
  | _ => none
def qi_l2i (t : Nat) : QE := fun _ _ _ _ nx _ L S M => match S with
  | .long x :: S => nx t L (.int x.toInt32 :: S) M
  | _ => none
def qi_lcmp (t : Nat) : QE := fun _ _ _ _ nx _ L S M => match S with
  | .long y :: .long x :: S => nx t L (.int (lg_cmp x y) :: S) M
  | _ => none
def q_one (v : Value) : Bool := match v with
  | .int _ => true
  | .ref _ => true
  | .null => true
  | _ => false
def qi_pop (t : Nat) : QE := fun _ _ _ _ nx _ L S M => match S with
  | v :: S => cond (q_one v) (nx t L S M) none
  | _ => none
def qi_dup (t : Nat) : QE := fun _ _ _ _ nx _ L S M => match S with
  | v :: S => cond (q_one v) (nx t L (v :: v :: S) M) none
  | _ => none
def qi_dupx1 (t : Nat) : QE := fun _ _ _ _ nx _ L S M => match S with
  | v :: w :: S => cond (q_one v && q_one w) (nx t L (v :: w :: v :: S) M) none
  | _ => none
def qi_dup2 (t : Nat) : QE := fun _ _ _ _ nx _ L S M => match S with
  | v :: w :: S => cond (q_one v && q_one w) (nx t L (v :: w :: v :: w :: S) M) none
  | _ => none
def qi_goto (t : Nat) : QE := fun _ _ _ _ nx _ L S M => nx t L S M
def qi_ifEq (a b : Nat) : QE := fun _ _ _ _ nx _ L S M => match S with
  | .int y :: .int x :: S => if x = y then nx a L S M else nx b L S M
  | _ => none
def qi_ifLt (a b : Nat) : QE := fun _ _ _ _ nx _ L S M => match S with
  | .int y :: .int x :: S => if x < y then nx a L S M else nx b L S M
  | _ => none
def qi_ifLe (a b : Nat) : QE := fun _ _ _ _ nx _ L S M => match S with
  | .int y :: .int x :: S => if x ≤ y then nx a L S M else nx b L S M
  | _ => none
def qi_ifGe (a b : Nat) : QE := fun _ _ _ _ nx _ L S M => match S with
  | .int y :: .int x :: S => if y ≤ x then nx a L S M else nx b L S M
  | _ => none
def qi_ifGt (a b : Nat) : QE := fun _ _ _ _ nx _ L S M => match S with
  | .int y :: .int x :: S => if y < x then nx a L S M else nx b L S M
  | _ => none
def qi_zEq (a b : Nat) : QE := fun _ _ _ _ nx _ L S M => match S with
  | .int x :: S => if x = 0 then nx a L S M else nx b L S M
  | _ => none
def qi_zLt (a b : Nat) : QE := fun _ _ _ _ nx _ L S M => match S with
  | .int x :: S => if x < 0 then nx a L S M else nx b L S M
  | _ => none
def qi_zLe (a b : Nat) : QE := fun _ _ _ _ nx _ L S M => match S with
  | .int x :: S => if x ≤ 0 then nx a L S M else nx b L S M
  | _ => none
def qi_zGe (a b : Nat) : QE := fun _ _ _ _ nx _ L S M => match S with
  | .int x :: S => if 0 ≤ x then nx a L S M else nx b L S M
  | _ => none
def qi_zGt (a b : Nat) : QE := fun _ _ _ _ nx _ L S M => match S with
  | .int x :: S => if 0 < x then nx a L S M else nx b L S M
  | _ => none
def qi_null (a b : Nat) : QE := fun _ _ _ _ nx _ L S M => match S with
  | .ref _ :: S => nx b L S M
  | .null :: S => nx a L S M
  | _ => none
def q_sw {β : Type} (f : Nat → β) (x : Int32) : List (Int32 × Nat) → Nat → β
  | [], d => f d
  | (k, t) :: r, d => if x = k then f t else q_sw f x r d
def qi_sw (ks : List (Int32 × Nat)) (d : Nat) : QE := fun _ _ _ _ nx _ L S M => match S with
  | .int x :: S => q_sw (fun t => nx t L S M) x ks d
  | _ => none
def qi_static (t j : Nat) : QE := fun _ _ _ _ nx _ L S M => nx t L (.ref j :: S) M
/-! a cell of the class; a class's reference; an array's place: as tests that a known address passes -/
def q_atO {β : Type} (G : QG) (X : QX) (a ci : Nat) (o : Option β) : Option β := match q_cell G X a with
  | some (kd, _, _) => cond (kd == ci) o none
  | none => none
def q_atA {β : Type} (G : QG) (X : QX) (a ci k : Nat) (f : Nat → Option β) : Option β := match q_cell G X a with
  | some (kd, _, rs) => cond (kd == ci) (q_bo (q_nth rs k) f) none
  | none => none
def q_arO {β : Type} (G : QG) (X : QX) (a : Nat) (i : Int32) (ci : Nat) (o : Option β) : Option β := match q_cell G X a with
  | some (kd, n, _) => if i < 0 ∨ n ≤ i.toNatClampNeg then none else cond (kd == ci) o none
  | none => none
def q_arI {β : Type} (G : QG) (X : QX) (M : QM) (a : Nat) (i : Int32) (f : Int32 → Option β) : Option β := match q_cell G X a with
  | some (kd, n, _) => if i < 0 ∨ n ≤ i.toNatClampNeg then none else cond (kd == 10) (f (M.1 a i.toNatClampNeg)) (cond (kd == 14 && Nat.ble a 3) (f (X.2 a i.toNatClampNeg)) none)
  | none => none
def q_arA {β : Type} (G : QG) (X : QX) (a : Nat) (i : Int32) (f : Nat → Option β) : Option β := match q_cell G X a with
  | some (kd, n, rs) => if i < 0 ∨ n ≤ i.toNatClampNeg then none else cond (kd == 13) (q_bo (q_nth rs i.toNatClampNeg) f) none
  | none => none
def q_len {β : Type} (G : QG) (X : QX) (a : Nat) (f : Nat → Option β) : Option β := match q_cell G X a with
  | some (kd, n, _) => cond (Nat.ble 10 kd) (f n) none
  | none => none
def qi_getI (t ci k : Nat) : QE := fun G X _ _ nx _ L S M => match S with
  | .ref a :: S => q_atO G X a ci (nx t L (.int (M.1 a k) :: S) M)
  | _ => none
def qi_getA (t ci k : Nat) : QE := fun G X _ _ nx _ L S M => match S with
  | .ref a :: S => q_atA G X a ci k (fun b => nx t L (.ref b :: S) M)
  | _ => none
def qi_putI (t ci k : Nat) : QE := fun G X _ _ nx _ L S M => match S with
  | .int v :: .ref a :: S => q_atO G X a ci (nx t L S (q_up M.1 a k v, M.2))
  | _ => none
def qi_putZ (t ci k : Nat) : QE := fun G X _ _ nx _ L S M => match S with
  | .int v :: .ref a :: S => q_atO G X a ci (if v = 0 ∨ v = 1 then nx t L S (q_up M.1 a k v, M.2) else none)
  | _ => none
def qi_iald (t : Nat) : QE := fun G X _ _ nx _ L S M => match S with
  | .int i :: .ref a :: S => q_arI G X M a i (fun v => nx t L (.int v :: S) M)
  | _ => none
def qi_iast (t : Nat) : QE := fun G X _ _ nx _ L S M => match S with
  | .int v :: .int i :: .ref a :: S => q_arO G X a i 10 (nx t L S (q_up M.1 a i.toNatClampNeg v, M.2))
  | _ => none
def qi_lald (t : Nat) : QE := fun G X _ _ nx _ L S M => match S with
  | .int i :: .ref a :: S => q_arO G X a i 11 (nx t L (.long (M.2 a i.toNatClampNeg) :: S) M)
  | _ => none
def qi_last (t : Nat) : QE := fun G X _ _ nx _ L S M => match S with
  | .long v :: .int i :: .ref a :: S => q_arO G X a i 11 (nx t L S (M.1, q_up M.2 a i.toNatClampNeg v))
  | _ => none
def qi_zald (t : Nat) : QE := fun G X _ _ nx _ L S M => match S with
  | .int i :: .ref a :: S => q_arO G X a i 12 (nx t L (.int (M.1 a i.toNatClampNeg) :: S) M)
  | _ => none
def qi_zast (t : Nat) : QE := fun G X _ _ nx _ L S M => match S with
  | .int v :: .int i :: .ref a :: S => q_arO G X a i 12 (nx t L S (q_up M.1 a i.toNatClampNeg (vp_nar .boolean v), M.2))
  | _ => none
def qi_aald (t : Nat) : QE := fun G X _ _ nx _ L S M => match S with
  | .int i :: .ref a :: S => q_arA G X a i (fun b => nx t L (.ref b :: S) M)
  | _ => none
def qi_alen (t : Nat) : QE := fun G X _ _ nx _ L S M => match S with
  | .ref a :: S => q_len G X a (fun n => nx t L (.int (Int32.ofNat n) :: S) M)
  | _ => none
def q_cpy {β : Type} (G : QG) (X : QX) (M : QM) (a0 : Nat) (sp : Int32) (a : Nat) (dp n : Int32) (f : QM → Option β) : Option β := match q_cell G X a0, q_cell G X a with
  | some (k0, n0, _), some (k1, n1, _) =>
      if sp < 0 ∨ dp < 0 ∨ n < 0 ∨ n0 < sp.toNatClampNeg + n.toNatClampNeg ∨ n1 < dp.toNatClampNeg + n.toNatClampNeg then none else
        cond (k0 == 10 && k1 == 10) (f (q_uc M.1 a (va_cpy (M.1 a0) (M.1 a) sp.toNatClampNeg dp.toNatClampNeg n.toNatClampNeg), M.2))
          (cond (k0 == 11 && k1 == 11) (f (M.1, q_uc M.2 a (va_cpy (M.2 a0) (M.2 a) sp.toNatClampNeg dp.toNatClampNeg n.toNatClampNeg))) none)
  | _, _ => none
def qi_copy (t : Nat) : QE := fun G X _ _ nx _ L S M => match S with
  | .int n :: .int dp :: .ref a :: .int sp :: .ref a0 :: S => cond (Nat.ble (q_cat S) 8) (q_cpy G X M a0 sp a dp n (fun M => nx t L S M)) none
  | _ => none
def q_pop {β : Type} : Nat → List Value → List Value → (List Value → List Value → Option β) → Option β
  | 0, S, acc, f => f acc S
  | n + 1, v :: S, acc, f => q_pop n S (v :: acc) f
  | _ + 1, [], _, _ => none
/-- the receiver, where there is one, is of the class -/
def q_rc {β : Type} (G : QG) (X : QX) (ci : Option Nat) (as : List Value) (o : Option β) : Option β := match ci with
  | none => o
  | some ci => (match as with
    | .ref a :: _ => (match q_cell G X a with
      | some (kd, _, _) => cond (kd == ci) o none
      | none => none)
    | _ => none)
def qi_callv (t k n : Nat) (ci : Option Nat) : QE := fun G X C _ nx _ L S M => q_pop n S [] (fun as S => cond (Nat.ble (q_cat S) 8) (q_rc G X ci as (q_bv (C k as M) (fun M => nx t L S M))) none)
def qi_calli (t k n : Nat) (ci : Option Nat) : QE := fun G X C _ nx _ L S M => q_pop n S [] (fun as S => cond (Nat.ble (q_cat S) 8) (q_rc G X ci as (q_bi (C k as M) (fun v M => nx t L (.int v :: S) M))) none)
def qi_calll (t k n : Nat) (ci : Option Nat) : QE := fun G X C _ nx _ L S M => q_pop n S [] (fun as S => cond (Nat.ble (q_cat S) 8) (q_rc G X ci as (q_bl (C k as M) (fun v M => nx t L (.long v :: S) M))) none)
def qi_callr (t k n : Nat) (ci : Option Nat) : QE := fun G X C _ nx _ L S M => q_pop n S [] (fun as S => cond (Nat.ble (q_cat S) 8) (q_rc G X ci as (q_br (C k as M) (fun v M => nx t L (.ref v :: S) M) (fun M => nx t L (.null :: S) M))) none)
def qi_objInit (t : Nat) : QE := fun _ _ _ _ nx _ L S M => match S with
  | .ref _ :: S => cond (Nat.ble (q_cat S) 8) (nx t L S M) none
  | _ => none
def qi_iret : QE := fun _ _ _ _ _ rt _ S M => match S with
  | [.int x] => rt (some (.int x)) M
  | _ => none
def qi_zret : QE := fun _ _ _ _ _ rt _ S M => match S with
  | [.int x] => if x = 0 ∨ x = 1 then rt (some (.int x)) M else none
  | _ => none
def qi_lret : QE := fun _ _ _ _ _ rt _ S M => match S with
  | [.long x] => rt (some (.long x)) M
  | _ => none
def qi_aret : QE := fun _ _ _ _ _ rt _ S M => match S with
  | [.ref x] => rt (some (.ref x)) M
  | [.null] => rt (some .null) M
  | _ => none
def qi_vret : QE := fun _ _ _ _ _ rt _ S M => match S with
  | [] => rt none M
  | _ => none
/-! a frame's run: between cut places a run of fewer than 400 instructions -/
def q_mask : List Bool → QL → QL
  | true :: b, a :: t => a :: q_mask b t
  | false :: b, _ :: t => none :: q_mask b t
  | _, _ => []
def q_in (G : QG) (X : QX) (C : QC) (cd : Nat → Option QE) (ct : Nat → Option (List Bool)) (K : Nat → QL → List Value → QM → Option (Option Value × QM)) : Nat → Nat → QL → List Value → QM → Option (Option Value × QM)
  | 0, _, _, _, _ => none
  | f + 1, pc, L, S, M => match cd pc with
    | none => none
    | some e => e G X C (Option Value × QM) (fun pc' L' S' M' => match ct pc' with
      | none => q_in G X C cd ct K f pc' L' S' M'
      | some b => K pc' (q_mask b L') S' M') (fun v M' => some (v, M')) L S M
def q_out (G : QG) (X : QX) (C : QC) (cd : Nat → Option QE) (ct : Nat → Option (List Bool)) : Nat → Nat → QL → List Value → QM → Option (Option Value × QM)
  | 0, _, _, _, _ => none
  | n + 1, pc, L, S, M => q_in G X C cd ct (q_out G X C cd ct n) 400 pc L S M
def q_args : List Value → QL
  | [] => []
  | .long x :: t => some (.long x) :: none :: q_args t
  | .double x :: t => some (.double x) :: none :: q_args t
  | v :: t => some v :: q_args t
def q_entry (nL : Nat) (as : List Value) : QL := q_args as ++ List.replicate (nL - (q_args as).length) none
/-- a program: for each method its name, bytes, locals, what it returns; its code; its cut places -/
abbrev QP : Type := Nat → MethodName × ByteArray × Nat × Option FieldType
def qN : Nat := 1000000
def q_call (P : QP) (cd : Nat → Nat → Option QE) (ct : Nat → Nat → Option (List Bool)) (G : QG) (X : QX) : Nat → QC
  | 0 => fun _ _ _ => none
  | d + 1 => fun k as M => cond (Nat.ble (q_args as).length (P k).2.2.1) (q_out G X (q_call P cd ct G X d) (cd k) (ct k) qN 0 (q_entry (P k).2.2.1 as) [] M) none
