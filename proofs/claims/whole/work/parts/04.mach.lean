/-! ===== THE ABSTRACT MACHINE ===== -/
/-- a cell: an array (kind: 0 int, 1 long, 2 byte, 3 boolean, 4 char, 5 Part[], 6 Note[], 7 String[]; length, contents), or an object (class, fields) -/
abbrev jm_AE : Type := (Nat × vp_A) ⊕ (Nat × List Value)
/-- a heap: the next address, the slots used, the cells; addresses below 128 are constants -/
abbrev jm_H : Type := Nat × Nat × (Nat → Option jm_AE)
/-- an end: an answer, or what was thrown (0 IllegalState, 1 IllegalArgument, 2 IndexOutOfBounds) -/
abbrev jm_R : Type := (Option Value ⊕ Nat) × jm_H
/-- a frame: pc, locals, stack -/
abbrev jm_C : Type := Nat × List (Option Value) × List Value
abbrev jm_S : Type := (jm_C × jm_H) ⊕ jm_R
def jm_set (h : jm_H) (a : Nat) (e : jm_AE) : jm_H := (h.1, h.2.1, fun x => if x = a then some e else h.2.2 x)
def jm_push (h : jm_H) (e : jm_AE) (n : Nat) : jm_H := (h.1 + 1, h.2.1 + n, fun x => if x = h.1 then some e else h.2.2 x)
def jm_gap (h : jm_H) : jm_H := (h.1 + 1, h.2.1 + 6, h.2.2)
/-- locals -/
def jm_dm : Option Value → Option Value
  | some (.long _) => none
  | some (.double _) => none
  | a => a
def jm_st1 : List (Option Value) → Nat → Value → List (Option Value)
  | [], _, _ => []
  | _ :: l, 0, v => some v :: l
  | a :: l, 1, v => jm_dm a :: jm_st1 l 0 v
  | a :: l, i + 2, v => a :: jm_st1 l (i + 1) v
def jm_st2 : List (Option Value) → Nat → Value → List (Option Value)
  | [], _, _ => []
  | [_], 0, _ => [none]
  | _ :: _ :: l, 0, v => some v :: none :: l
  | a :: l, 1, v => jm_dm a :: jm_st2 l 0 v
  | a :: l, i + 2, v => a :: jm_st2 l (i + 1) v
def jm_ent : List Value → List (Option Value)
  | [] => []
  | .long x :: l => some (.long x) :: none :: jm_ent l
  | .double x :: l => some (.double x) :: none :: jm_ent l
  | v :: l => some v :: jm_ent l
def jm_pad (l : List (Option Value)) (n : Nat) : List (Option Value) := l ++ List.replicate (n - l.length) none
def jm_ld (l : List (Option Value)) (i : Nat) : Option Value := match l[i]? with
  | some (some v) => some v
  | _ => none
/-- pools -/
def jm_mp (c i : Nat) : Option (Nat × jm_M) := ((jm_mpl c).find? (fun q => q.1 == i)).map (fun q => q.2)
def jm_fp (c i : Nat) : Option (Nat × Nat × Nat × Nat) := ((jm_fpl c).find? (fun q => q.1 == i)).map (fun q => q.2)
def jm_np (c i : Nat) : Option (Nat × Nat) := ((jm_npl c).find? (fun q => q.1 == i)).map (fun q => q.2)
def jm_lp (c i : Nat) : Option Int64 := ((jm_lpl c).find? (fun q => q.1 == i)).map (fun q => q.2)
def jm_sp (c i : Nat) : Option Nat := ((jm_spl c).find? (fun q => q.1 == i)).map (fun q => q.2)
/-- the kinds of values: 0 int, 1 long, 2 reference, 4 boolean -/
def jm_tk : Nat → Value → Bool
  | 0, .int _ => true
  | 1, .long _ => true
  | 2, .ref _ => true
  | 4, .int x => decide (x = 0) || decide (x = 1)
  | _, _ => false
/-- a final field -/
def jm_fin (ci k : Nat) : Bool := match vwCl[ci]? with
  | some q => (q.2.1 k).2.2.2
  | none => true
def jm_nx (pc : Nat) (l : List (Option Value)) (st : List Value) (h : jm_H) : Option jm_S := some (.inl ((pc, l, st), h))
/-- a jump -/
def jm_jp (pc : Nat) (off : Int) (l : List (Option Value)) (st : List Value) (h : jm_H) : Option jm_S := if 0 ≤ (pc : Int) + off then jm_nx ((pc : Int) + off).toNat l st h else none
def jm_cc (op : Jvm.ClassFile.Cond) (x y : Int32) : Bool := match op with
  | .eq => decide (x = y)
  | .ne => decide (¬ x = y)
  | .lt => decide (x < y)
  | .ge => decide (x ≥ y)
  | .gt => decide (x > y)
  | .le => decide (x ≤ y)
def jm_cat (st : List Value) : Nat := (st.map fun v => v.category).sum
/-- reading a field: class, field, kind of value -/
def jm_gf (h : jm_H) (a ci k t : Nat) : Option Value := match h.2.2 a with
  | some (.inr (c, fs)) => if c = ci then (match fs[k]? with
    | some v => if jm_tk t v then some v else none
    | none => none) else none
  | _ => none
def jm_pf (h : jm_H) (a ci k t : Nat) (v : Value) : Option jm_H := if 128 ≤ a then (match h.2.2 a with
  | some (.inr (c, fs)) => if c = ci ∧ k < fs.length ∧ jm_tk t v = true then some (jm_set h a (.inr (c, fs.set k v))) else none
  | _ => none) else none
/-- within an array -/
def jm_ix (i : Int32) (n : Nat) : Bool := !(decide (i < 0) || decide (n ≤ i.toNatClampNeg))
def jm_ty : Nat → FieldType := fun t => match t with
  | 0 => .int
  | 1 => .long
  | 2 => .byte
  | 3 => .boolean
  | 4 => .char
  | 5 => .object "MaskPlays$Part"
  | 6 => .object "MaskPlays$Note"
  | _ => .object "java/lang/String"
def jm_len (h : jm_H) (a : Nat) : Option Nat := match h.2.2 a with
  | some (.inl (t, n, _)) => if t ≤ 6 ∨ a < 128 then some n else none
  | _ => none
def jm_ali (h : jm_H) (a t : Nat) (i : Int32) : Option Int32 := match h.2.2 a with
  | some (.inl (t', n, .inl f)) => if t' = t ∧ jm_ix i n = true then some (f i.toNatClampNeg) else none
  | _ => none
def jm_all (h : jm_H) (a : Nat) (i : Int32) : Option Int64 := match h.2.2 a with
  | some (.inl (1, n, .inr (.inl f))) => if jm_ix i n = true then some (f i.toNatClampNeg) else none
  | _ => none
def jm_alr (h : jm_H) (a : Nat) (i : Int32) : Option Nat := match h.2.2 a with
  | some (.inl (t, n, .inr (.inr (.inr (.inr f))))) => if jm_ix i n = true ∧ 5 ≤ t ∧ t ≤ 7 then (match f i.toNatClampNeg with
    | some b => if (128 ≤ a ∧ t ≤ 6 ∧ 128 ≤ b) ∨ (a < 128 ∧ t = 7 ∧ b < 128) then some b else none
    | none => none) else none
  | _ => none
def jm_asi (h : jm_H) (a t : Nat) (i x : Int32) : Option jm_H := match h.2.2 a with
  | some (.inl (t', n, .inl f)) => if 128 ≤ a ∧ t' = t ∧ jm_ix i n = true then some (jm_set h a (.inl (t', n, .inl (upd f i.toNatClampNeg (vp_nar (jm_ty t) x))))) else none
  | _ => none
def jm_asl (h : jm_H) (a : Nat) (i : Int32) (x : Int64) : Option jm_H := match h.2.2 a with
  | some (.inl (1, n, .inr (.inl f))) => if 128 ≤ a ∧ jm_ix i n = true then some (jm_set h a (.inl (1, n, .inr (.inl (vp_updL f i.toNatClampNeg x))))) else none
  | _ => none
/-- the class whose objects an array of a kind holds -/
def jm_ec : Nat → Nat := fun t => match t with
  | 5 => 3
  | _ => 2
def jm_asr (h : jm_H) (a : Nat) (i : Int32) (b : Nat) : Option jm_H := match h.2.2 a, h.2.2 b with
  | some (.inl (t, n, .inr (.inr (.inr (.inr f))))), some (.inr (c, _)) => if 128 ≤ a ∧ 128 ≤ b ∧ jm_ix i n = true ∧ (t = 5 ∨ t = 6) ∧ c = jm_ec t then some (jm_set h a (.inl (t, n, .inr (.inr (.inr (.inr (va_up f i.toNatClampNeg (some b)))))))) else none
  | _, _ => none
def jm_ak : ArrayType → Option Nat := fun t => match t with
  | .int => some 0
  | .long => some 1
  | .byte => some 2
  | .boolean => some 3
  | .char => some 4
  | _ => none
def jm_zero (t : Nat) : (Nat → Int32) ⊕ (Nat → Int64) ⊕ (Nat → UInt32) ⊕ (Nat → UInt64) ⊕ (Nat → Option Nat) := match t with
  | 1 => .inr (.inl fun _ => 0)
  | 0 => .inl fun _ => 0
  | 2 => .inl fun _ => 0
  | 3 => .inl fun _ => 0
  | 4 => .inl fun _ => 0
  | _ => .inr (.inr (.inr (.inr fun _ => none)))
def jm_newa (h : jm_H) (t : Nat) (n : Int32) : Option jm_H := if ¬ n < 0 ∧ n.toNatClampNeg ≤ 1000000 then some (jm_push h (.inl (t, n.toNatClampNeg, jm_zero t)) n.toNatClampNeg) else none
/-- the fields of a new object -/
def jm_nf : Nat → Option (List Value) := fun c => match c with
  | 0 => some [.int 0, .int 0, .int 0, .int 0, .null, .null, .null, .null, .null, .null, .null, .null]
  | 1 => some [.null, .null, .int 0]
  | 2 => some [.int 0, .int 0, .int 0, .int 0]
  | 3 => some [.int 0, .null, .null, .null, .null]
  | 4 => some [.int 0, .int 0, .null, .null, .null, .null, .null, .null]
  | 5 => some [.int 0, .int 0, .null, .null, .null, .null, .null, .int 0, .null, .int 0, .int 0, .int 0, .int 0, .int 0]
  | 6 => some [.null, .null, .int 0, .int 0, .null, .int 0]
  | 7 => some [.null, .int 0]
  | 8 => some [.int 0, .null, .null, .null, .int 0]
  | 9 => some [.null, .null, .null, .null, .null, .null, .int 0, .null, .int 0]
  | 10 => some [.null, .int 0, .int 0, .null, .null, .null, .null, .null, .null, .null, .null, .null, .null, .null]
  | 11 => some [.null, .null, .null, .null, .null, .null, .int 0, .null, .int 0, .null, .null, .null, .int 0, .null, .null, .null, .null, .null, .null, .null, .int 0, .null]
  | 12 => some [.int 0, .null, .int 0, .int 0, .null, .int 0, .int 0, .int 0, .null, .null, .null, .null, .null, .null, .int 0, .int 0, .int 0, .int 0, .null, .int 0, .null, .null, .null, .null, .int 0, .null, .null, .null, .int 0, .int 0, .long 0]
  | _ => none
def jm_cpy (h : jm_H) (a0 : Nat) (sp : Int32) (a : Nat) (dp n : Int32) : Option jm_H := if 128 ≤ a0 ∧ 128 ≤ a ∧ ¬ sp < 0 ∧ ¬ dp < 0 ∧ ¬ n < 0 then (match h.2.2 a0, h.2.2 a with
  | some (.inl (0, n0, .inl f)), some (.inl (0, n1, .inl g)) => if sp.toNatClampNeg + n.toNatClampNeg ≤ n0 ∧ dp.toNatClampNeg + n.toNatClampNeg ≤ n1 then some (jm_set h a (.inl (0, n1, .inl (va_cpy f g sp.toNatClampNeg dp.toNatClampNeg n.toNatClampNeg)))) else none
  | some (.inl (1, n0, .inr (.inl f))), some (.inl (1, n1, .inr (.inl g))) => if sp.toNatClampNeg + n.toNatClampNeg ≤ n0 ∧ dp.toNatClampNeg + n.toNatClampNeg ≤ n1 then some (jm_set h a (.inl (1, n1, .inr (.inl (va_cpy f g sp.toNatClampNeg dp.toNatClampNeg n.toNatClampNeg))))) else none
  | _, _ => none) else none
/-- statics that are read -/
def jm_gs : Nat → Nat → Option Value := fun c i => if c = 14 ∧ i = 38 then some (.int 1) else if c = 14 ∧ i = 1053 then some (.ref 81) else if c = 13 ∧ i = 313 then some (.ref 80) else none
/-- the handler of what was thrown -/
def jm_hd (cno : Nat) : List (Nat × Nat × Nat × Nat) → Nat → Nat → Option Nat
  | [], _, _ => none
  | (s, e, t, k) :: l, pc, x => if s ≤ pc ∧ pc < e then (match jm_np cno k with
    | some (y, _) => if y = 100 + x then some t else if 100 ≤ y then jm_hd cno l pc x else none
    | none => none) else jm_hd cno l pc x
def jm_un : List (Option Value) → Nat → List (Option Value)
  | [], _ => []
  | _ :: l, 0 => none :: l
  | a :: l, 1 => jm_dm a :: jm_un l 0
  | a :: l, i + 2 => a :: jm_un l (i + 1)
/-- where a thing was thrown by the call at pc -/
def jm_ex (m : jm_M) (pc : Nat) (l : List (Option Value)) (x : Nat) (h : jm_H) : Option jm_S :=
  if m.2.2.2.2.1 = [] then some (.inr (.inr x, h)) else match jm_hd m.2.2.2.2.2.1 m.2.2.2.2.1 pc x with
    | some t => (match decode m.2.1 t with
      | .ok (.astore_n k, 1) => if (k : Nat) < l.length then jm_nx (t + 1) (jm_un l k) [] h else none
      | .ok (.astore k, 2) => if k < l.length then jm_nx (t + 2) (jm_un l k) [] h else none
      | _ => none)
    | none => none
def jm_ret (m : jm_M) (pc : Nat) (l : List (Option Value)) (rest : List Value) (r : Option jm_R) : Option jm_S := match r with
  | some (.inl v, h) => jm_nx (pc + 3) l (v.toList ++ rest) h
  | some (.inr x, h) => jm_ex m pc l x h
  | none => none
/-- the class of vwCl (90: String) of a class's number -/
def jm_c2i : Nat → Nat := fun n => match n with
  | 11 => 10
  | 12 => 11
  | 13 => 12
  | 14 => 90
  | n => n
/-- an object of a class -/
def jm_ob (h : jm_H) (a cn : Nat) : Bool := match h.2.2 a with
  | some (.inr (ci, _)) => decide (ci = jm_c2i cn)
  | _ => false
/-- a call of an object's own method -/
def jm_cv (call : jm_M → List Value → jm_H → Option jm_R) (m : jm_M) (y : jm_M) (pc : Nat) (l : List (Option Value)) (st : List Value) (h : jm_H) : Option jm_S :=
  let n := y.2.2.2.2.2.2.2
  if n ≤ st.length then (match st.drop n with
    | .ref b :: rest => if jm_cat rest ≤ 8 ∧ jm_ob h b y.2.2.2.2.2.1 = true then jm_ret m pc l rest (call y (.ref b :: (st.take n).reverse) h) else none
    | _ => none) else none
/-- a call of a constructor, which throws nothing -/
def jm_ci (call : jm_M → List Value → jm_H → Option jm_R) (y : jm_M) (pc : Nat) (l : List (Option Value)) (st : List Value) (h : jm_H) : Option jm_S :=
  let n := y.2.2.2.2.2.2.2
  if n ≤ st.length then (match st.drop n with
    | .ref b :: rest => if jm_cat rest ≤ 8 ∧ 128 ≤ b then (match call y (.ref b :: (st.take n).reverse) h with
      | some (.inl v, h') => jm_nx (pc + 3) l (v.toList ++ rest) h'
      | _ => none) else none
    | _ => none) else none
def jm_cs (call : jm_M → List Value → jm_H → Option jm_R) (m : jm_M) (y : jm_M) (pc : Nat) (l : List (Option Value)) (st : List Value) (h : jm_H) : Option jm_S :=
  let n := y.2.2.2.2.2.2.2
  if n ≤ st.length ∧ jm_cat (st.drop n) ≤ 8 then jm_ret m pc l (st.drop n) (call y (st.take n).reverse h) else none
def jm_ic : Nat → Nat := fun x => match x with
  | 0 => 95
  | 1 => 106
  | _ => 164
/-- 'throw new E("..")' -/
def jm_thr (m : jm_M) (pc : Nat) (x : Nat) (st : List Value) (h : jm_H) : Option jm_S :=
  if m.2.2.2.2.1 = [] ∧ m.2.2.2.2.2.1 = 11 ∧ x ≤ 2 ∧ jm_cat st ≤ 8 then (match decode m.2.1 (pc + 3), decode m.2.1 (pc + 4) with
    | .ok (.dup, 1), .ok (.ldc k, 2) => (match jm_sp 11 k, decode m.2.1 (pc + 6), decode m.2.1 (pc + 9) with
      | some _, .ok (.invokespecial j, 3), .ok (.athrow, 1) => if j = jm_ic x then some (.inr (.inr x, jm_gap h)) else none
      | _, _, _ => none)
    | .ok (.dup, 1), .ok (.ldc_w k, 3) => (match jm_sp 11 k, decode m.2.1 (pc + 7), decode m.2.1 (pc + 10) with
      | some _, .ok (.invokespecial j, 3), .ok (.athrow, 1) => if j = jm_ic x then some (.inr (.inr x, jm_gap h)) else none
      | _, _, _ => none)
    | _, _ => none) else none
/-- one instruction -/
def jm_op (call : jm_M → List Value → jm_H → Option jm_R) (m : jm_M) (i : Instr) (n pc : Nat) (l : List (Option Value)) (st : List Value) (h : jm_H) : Option jm_S := match i with
  | .iconst k => if n = 1 then jm_nx (pc + 1) l (.int (Int32.ofInt k) :: st) h else none
  | .bipush k => if n = 2 then jm_nx (pc + 2) l (.int (Int8.ofInt k).toInt32 :: st) h else none
  | .sipush k => if n = 3 then jm_nx (pc + 3) l (.int (Int16.ofInt k).toInt32 :: st) h else none
  | .lconst k => if n = 1 then jm_nx (pc + 1) l (.long (Int64.ofNat (k : Nat)) :: st) h else none
  | .dconst k => if n = 1 ∧ k = 0 then jm_nx (pc + 1) l (.double FP.dconst0 :: st) h else none
  | .ldc k => if n = 2 then (match jm_sp m.2.2.2.2.2.1 k with | some j => jm_nx (pc + 2) l (.ref j :: st) h | none => none) else none
  | .ldc2_w k => if n = 3 then (match jm_lp m.2.2.2.2.2.1 k with | some v => jm_nx (pc + 3) l (.long v :: st) h | none => none) else none
  | .iload_n k => if n = 1 then (match jm_ld l k with | some (.int x) => jm_nx (pc + 1) l (.int x :: st) h | _ => none) else none
  | .iload k => if n = 2 then (match jm_ld l k with | some (.int x) => jm_nx (pc + 2) l (.int x :: st) h | _ => none) else none
  | .lload_n k => if n = 1 then (match jm_ld l k with | some (.long x) => jm_nx (pc + 1) l (.long x :: st) h | _ => none) else none
  | .lload k => if n = 2 then (match jm_ld l k with | some (.long x) => jm_nx (pc + 2) l (.long x :: st) h | _ => none) else none
  | .dload k => if n = 2 then (match jm_ld l k with | some (.double x) => jm_nx (pc + 2) l (.double x :: st) h | _ => none) else none
  | .aload_n k => if n = 1 then (match jm_ld l k with | some (.ref x) => jm_nx (pc + 1) l (.ref x :: st) h | _ => none) else none
  | .aload k => if n = 2 then (match jm_ld l k with | some (.ref x) => jm_nx (pc + 2) l (.ref x :: st) h | _ => none) else none
  | .istore_n k => if n = 1 ∧ (k : Nat) < l.length then (match st with | .int x :: r => jm_nx (pc + 1) (jm_st1 l k (.int x)) r h | _ => none) else none
  | .istore k => if n = 2 ∧ k < l.length then (match st with | .int x :: r => jm_nx (pc + 2) (jm_st1 l k (.int x)) r h | _ => none) else none
  | .astore_n k => if n = 1 ∧ (k : Nat) < l.length then (match st with | .ref x :: r => jm_nx (pc + 1) (jm_st1 l k (.ref x)) r h | _ => none) else none
  | .astore k => if n = 2 ∧ k < l.length then (match st with | .ref x :: r => jm_nx (pc + 2) (jm_st1 l k (.ref x)) r h | _ => none) else none
  | .lstore_n k => if n = 1 ∧ (k : Nat) + 1 < l.length then (match st with | .long x :: r => jm_nx (pc + 1) (jm_st2 l k (.long x)) r h | _ => none) else none
  | .lstore k => if n = 2 ∧ k + 1 < l.length then (match st with | .long x :: r => jm_nx (pc + 2) (jm_st2 l k (.long x)) r h | _ => none) else none
  | .dstore k => if n = 2 ∧ k + 1 < l.length then (match st with | .double x :: r => jm_nx (pc + 2) (jm_st2 l k (.double x)) r h | _ => none) else none
  | .iinc k d => if n = 3 ∧ k < l.length then (match jm_ld l k with | some (.int x) => jm_nx (pc + 3) (jm_st1 l k (.int (x + Int32.ofInt d))) st h | _ => none) else none
  | .iadd => if n = 1 then (match st with | .int y :: .int x :: r => jm_nx (pc + 1) l (.int (x + y) :: r) h | _ => none) else none
  | .isub => if n = 1 then (match st with | .int y :: .int x :: r => jm_nx (pc + 1) l (.int (x - y) :: r) h | _ => none) else none
  | .imul => if n = 1 then (match st with | .int y :: .int x :: r => jm_nx (pc + 1) l (.int (x * y) :: r) h | _ => none) else none
  | .iand => if n = 1 then (match st with | .int y :: .int x :: r => jm_nx (pc + 1) l (.int (x &&& y) :: r) h | _ => none) else none
  | .ior => if n = 1 then (match st with | .int y :: .int x :: r => jm_nx (pc + 1) l (.int (x ||| y) :: r) h | _ => none) else none
  | .ishr => if n = 1 then (match st with | .int y :: .int x :: r => jm_nx (pc + 1) l (.int (x >>> (y &&& 31)) :: r) h | _ => none) else none
  | .idiv => if n = 1 then (match st with | .int y :: .int x :: r => if y = 0 then none else jm_nx (pc + 1) l (.int (x / y) :: r) h | _ => none) else none
  | .irem => if n = 1 then (match st with | .int y :: .int x :: r => if y = 0 then none else jm_nx (pc + 1) l (.int (x - x / y * y) :: r) h | _ => none) else none
  | .ineg => if n = 1 then (match st with | .int x :: r => jm_nx (pc + 1) l (.int (-x) :: r) h | _ => none) else none
  | .i2l => if n = 1 then (match st with | .int x :: r => jm_nx (pc + 1) l (.long x.toInt64 :: r) h | _ => none) else none
  | .i2b => if n = 1 then (match st with | .int x :: r => jm_nx (pc + 1) l (.int x.toInt8.toInt32 :: r) h | _ => none) else none
  | .i2c => if n = 1 then (match st with | .int x :: r => jm_nx (pc + 1) l (.int (x.toUInt32 % 65536).toInt32 :: r) h | _ => none) else none
  | .i2d => if n = 1 then (match st with | .int x :: r => jm_nx (pc + 1) l (.double (FP.i2d x) :: r) h | _ => none) else none
  | .l2i => if n = 1 then (match st with | .long x :: r => jm_nx (pc + 1) l (.int x.toInt32 :: r) h | _ => none) else none
  | .lneg => if n = 1 then (match st with | .long x :: r => jm_nx (pc + 1) l (.long (-x) :: r) h | _ => none) else none
  | .ladd => if n = 1 then (match st with | .long y :: .long x :: r => jm_nx (pc + 1) l (.long (x + y) :: r) h | _ => none) else none
  | .lsub => if n = 1 then (match st with | .long y :: .long x :: r => jm_nx (pc + 1) l (.long (x - y) :: r) h | _ => none) else none
  | .lmul => if n = 1 then (match st with | .long y :: .long x :: r => jm_nx (pc + 1) l (.long (x * y) :: r) h | _ => none) else none
  | .lor => if n = 1 then (match st with | .long y :: .long x :: r => jm_nx (pc + 1) l (.long (x ||| y) :: r) h | _ => none) else none
  | .ldiv => if n = 1 then (match st with | .long y :: .long x :: r => if y = 0 then none else jm_nx (pc + 1) l (.long (x / y) :: r) h | _ => none) else none
  | .lrem => if n = 1 then (match st with | .long y :: .long x :: r => if y = 0 then none else jm_nx (pc + 1) l (.long (x - x / y * y) :: r) h | _ => none) else none
  | .lshl => if n = 1 then (match st with | .int y :: .long x :: r => jm_nx (pc + 1) l (.long (x <<< (y.toInt64 &&& 63)) :: r) h | _ => none) else none
  | .lshr => if n = 1 then (match st with | .int y :: .long x :: r => jm_nx (pc + 1) l (.long (x >>> (y.toInt64 &&& 63)) :: r) h | _ => none) else none
  | .lushr => if n = 1 then (match st with | .int y :: .long x :: r => jm_nx (pc + 1) l (.long (x.toUInt64 >>> (y.toInt64.toUInt64 &&& Int64.toUInt64 63)).toInt64 :: r) h | _ => none) else none
  | .lcmp => if n = 1 then (match st with | .long y :: .long x :: r => jm_nx (pc + 1) l (.int (lg_cmp x y) :: r) h | _ => none) else none
  | .ddiv => if n = 1 then (match st with | .double y :: .double x :: r => if FP.ddiv x y &&& 0x7fffffffffffffff ≤ 0x7ff0000000000000 then jm_nx (pc + 1) l (.double (FP.ddiv x y) :: r) h else none | _ => none) else none
  | .dcmp op => if n = 1 then (match st with | .double y :: .double x :: r => jm_nx (pc + 1) l (.int (Op.cmpValue (FP.dcmp x y) op) :: r) h | _ => none) else none
  | .dup => if n = 1 then (match st with | v :: r => if v.category = 1 then jm_nx (pc + 1) l (v :: v :: r) h else none | _ => none) else none
  | .dup2 => if n = 1 then (match st with | v :: w :: r => if v.category = 1 ∧ w.category = 1 then jm_nx (pc + 1) l (v :: w :: v :: w :: r) h else none | _ => none) else none
  | .pop => if n = 1 then (match st with | v :: r => if v.category = 1 then jm_nx (pc + 1) l r h else none | _ => none) else none
  | .ifCond op off => if n = 3 then (match st with | .int x :: r => if jm_cc op x 0 = true then jm_jp pc off l r h else jm_nx (pc + 3) l r h | _ => none) else none
  | .if_icmp op off => if n = 3 then (match st with | .int y :: .int x :: r => if jm_cc op x y = true then jm_jp pc off l r h else jm_nx (pc + 3) l r h | _ => none) else none
  | .goto off => if n = 3 then jm_jp pc off l st h else none
  | .tableswitch d lo hi offs => (match st with | .int x :: r => if x.toInt < lo ∨ hi < x.toInt then jm_jp pc d l r h else (match offs[(x.toInt - lo).toNat]? with | some off => jm_jp pc off l r h | none => none) | _ => none)
  | .lookupswitch d ps => (match st with | .int x :: r => if (ps.toList.zip (ps.toList.drop 1)).all (fun (a, next) => a.1 < next.1) = true then jm_jp pc (Op.lookupswitch.offset ps.toList d x.toInt) l r h else none | _ => none)
  | .getfield k => if n = 3 then (match jm_fp m.2.2.2.2.2.1 k, st with
    | some (ci, f, t, _), .ref a :: r => (match jm_gf h a ci f t with | some v => jm_nx (pc + 3) l (v :: r) h | none => none)
    | _, _ => none) else none
  | .putfield k => if n = 3 then (match jm_fp m.2.2.2.2.2.1 k, st with
    | some (ci, f, t, o), v :: .ref a :: r => if jm_fin ci f = false ∨ (o = 2 ∧ m.2.2.2.2.2.2.1 = 2) then (match jm_pf h a ci f t v with | some h' => jm_nx (pc + 3) l r h' | none => none) else none
    | _, _ => none) else none
  | .getstatic k => if n = 3 then (match jm_gs m.2.2.2.2.2.1 k with | some v => jm_nx (pc + 3) l (v :: st) h | none => none) else none
  | .arraylength => if n = 1 then (match st with | .ref a :: r => (match jm_len h a with | some k => jm_nx (pc + 1) l (.int (Int32.ofNat k) :: r) h | none => none) | _ => none) else none
  | .iaload => if n = 1 then (match st with | .int i :: .ref a :: r => (match jm_ali h a 0 i with | some x => jm_nx (pc + 1) l (.int x :: r) h | none => none) | _ => none) else none
  | .baload => if n = 1 then (match st with | .int i :: .ref a :: r => (match jm_ali h a 2 i with | some x => jm_nx (pc + 1) l (.int x :: r) h | none => (match jm_ali h a 3 i with | some x => jm_nx (pc + 1) l (.int x :: r) h | none => none)) | _ => none) else none
  | .caload => if n = 1 then (match st with | .int i :: .ref a :: r => (match jm_ali h a 4 i with | some x => jm_nx (pc + 1) l (.int x :: r) h | none => none) | _ => none) else none
  | .laload => if n = 1 then (match st with | .int i :: .ref a :: r => (match jm_all h a i with | some x => jm_nx (pc + 1) l (.long x :: r) h | none => none) | _ => none) else none
  | .aaload => if n = 1 then (match st with | .int i :: .ref a :: r => (match jm_alr h a i with | some x => jm_nx (pc + 1) l (.ref x :: r) h | none => none) | _ => none) else none
  | .iastore => if n = 1 then (match st with | .int x :: .int i :: .ref a :: r => (match jm_asi h a 0 i x with | some h' => jm_nx (pc + 1) l r h' | none => none) | _ => none) else none
  | .bastore => if n = 1 then (match st with | .int x :: .int i :: .ref a :: r => (match jm_asi h a 2 i x with | some h' => jm_nx (pc + 1) l r h' | none => (match jm_asi h a 3 i x with | some h' => jm_nx (pc + 1) l r h' | none => none)) | _ => none) else none
  | .castore => if n = 1 then (match st with | .int x :: .int i :: .ref a :: r => (match jm_asi h a 4 i x with | some h' => jm_nx (pc + 1) l r h' | none => none) | _ => none) else none
  | .lastore => if n = 1 then (match st with | .long x :: .int i :: .ref a :: r => (match jm_asl h a i x with | some h' => jm_nx (pc + 1) l r h' | none => none) | _ => none) else none
  | .aastore => if n = 1 then (match st with | .ref x :: .int i :: .ref a :: r => (match jm_asr h a i x with | some h' => jm_nx (pc + 1) l r h' | none => none) | _ => none) else none
  | .newarray t => if n = 2 then (match jm_ak t, st with
    | some k, .int x :: r => (match jm_newa h k x with | some h' => jm_nx (pc + 2) l (.ref h.1 :: r) h' | none => none)
    | _, _ => none) else none
  | .anewarray k => if n = 3 then (match jm_np m.2.2.2.2.2.1 k, st with
    | some (_, t), .int x :: r => if t = 5 ∨ t = 6 then (match jm_newa h t x with | some h' => jm_nx (pc + 3) l (.ref h.1 :: r) h' | none => none) else none
    | _, _ => none) else none
  | .new k => if n = 3 then (match jm_np m.2.2.2.2.2.1 k with
    | some (c, _) => if c < 100 then (match jm_nf c with | some fs => jm_nx (pc + 3) l (.ref h.1 :: st) (jm_push h (.inr (c, fs)) fs.length) | none => none) else jm_thr m pc (c - 100) st h
    | none => none) else none
  | .invokevirtual k => if n = 3 then (match jm_mp m.2.2.2.2.2.1 k with | some (0, y) => jm_cv call m y pc l st h | _ => none) else none
  | .invokestatic k => if n = 3 then (match jm_mp m.2.2.2.2.2.1 k, st with
    | some (1, y), st => jm_cs call m y pc l st h
    | some (4, y), st => jm_cs call m y pc l st h
    | some (11, _), .int y :: .int x :: r => if jm_cat r ≤ 8 then jm_nx (pc + 3) l (.int (if x < y then y else x) :: r) h else none
    | some (12, _), .int y :: .int x :: r => if jm_cat r ≤ 8 then jm_nx (pc + 3) l (.int (if y < x then y else x) :: r) h else none
    | some (13, _), .int k :: .int dp :: .ref a :: .int sp :: .ref a0 :: r => if jm_cat r ≤ 8 then (match jm_cpy h a0 sp a dp k with | some h' => jm_nx (pc + 3) l r h' | none => none) else none
    | _, _ => none) else none
  | .invokespecial k => if n = 3 then (match jm_mp m.2.2.2.2.2.1 k with
    | some (2, y) => jm_ci call y pc l st h
    | some (3, y) => jm_ci call y pc l st h
    | some (10, _) => (match st with | .ref a :: r => if jm_cat r ≤ 8 ∧ 128 ≤ a then jm_nx (pc + 3) l r h else none | _ => none)
    | _ => none) else none
  | .ireturn => if n = 1 then (match m.2.2.2.1, st with | some ty, [.int x] => if narrow ty (.int x) = .int x then some (.inr (.inl (some (.int x)), h)) else none | _, _ => none) else none
  | .lreturn => if n = 1 ∧ m.2.2.2.1 = some .long then (match st with | [.long x] => some (.inr (.inl (some (.long x)), h)) | _ => none) else none
  | .dreturn => if n = 1 ∧ m.2.2.2.1 = some .double then (match st with | [.double x] => some (.inr (.inl (some (.double x)), h)) | _ => none) else none
  | .areturn => if n = 1 then (match m.2.2.2.1, st with | some ty, [.ref x] => if ty.isReference = true then some (.inr (.inl (some (.ref x)), h)) else none | _, _ => none) else none
  | .return_ => if n = 1 ∧ m.2.2.2.1 = none ∧ st = [] then some (.inr (.inl none, h)) else none
  | _ => none
def jm_step (call : jm_M → List Value → jm_H → Option jm_R) (m : jm_M) (c : jm_C) (h : jm_H) : Option jm_S := match decode m.2.1 c.1 with
  | .ok (i, n) => jm_op call m i n c.1 c.2.1 c.2.2 h
  | .error _ => none
/-- a body, with fuel -/
def jm_loop (call : jm_M → List Value → jm_H → Option jm_R) (m : jm_M) : Nat → jm_C → jm_H → Option jm_R
  | 0, _, _ => none
  | n + 1, c, h => match jm_step call m c h with
    | none => none
    | some (.inl q) => jm_loop call m n q.1 q.2
    | some (.inr r) => some r
def jm_start (m : jm_M) (args : List Value) : jm_C := (0, jm_pad (jm_ent args) m.2.2.1, [])
/-- a call, of at most d calls deep, each body with fuel F -/
def jm_run (F : Nat) : Nat → jm_M → List Value → jm_H → Option jm_R
  | 0, _, _, _ => none
  | d + 1, m, args, h => if (jm_ent args).length ≤ m.2.2.1 then jm_loop (jm_run F d) m F (jm_start m args) h else none
