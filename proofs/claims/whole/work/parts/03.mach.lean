/-! ===== THE PURE MACHINE: values with logical references (0 the script, k + 1 the k-th made cell), a heap as shapes and contents ===== -/
abbrev pj_C : Type := (FieldType × Nat) ⊕ (Nat × List Value)
abbrev pj_H : Type := List pj_C × (Nat → Nat → Int32) × (Nat → Nat → Int64)
abbrev pj_L : Type := List (Option Value)
def pj_find {α : Type} (k : Nat) : List (Nat × α) → Option α
  | [] => none
  | q :: t => if q.1 = k then some q.2 else pj_find k t
theorem pj_find_mem {α : Type} {k : Nat} {v : α} : ∀ {l : List (Nat × α)}, pj_find k l = some v → (k, v) ∈ l
  | [], h => by simp [pj_find] at h
  | q :: t, h => by
    unfold pj_find at h
    split at h
    · rename_i e
      cases h
      rw [← e]
      exact List.mem_cons_self
    · exact List.mem_cons_of_mem _ (pj_find_mem h)
def pj_lk {α : Type} (own i : Nat) (l : List (Nat × α)) : Option α := if i < 1000 then pj_find (own * 1000 + i) l else none
theorem pj_lk_mem {α : Type} {own i : Nat} {v : α} {l : List (Nat × α)} (h : pj_lk own i l = some v) : (own * 1000 + i, v) ∈ l ∧ (own * 1000 + i) / 1000 = own ∧ (own * 1000 + i) % 1000 = i := by
  unfold pj_lk at h
  split at h
  · exact ⟨pj_find_mem h, by omega, by omega⟩
  · cases h
/-! locals -/
def pj_get (ls : pj_L) (i : Nat) : Option Value := match ls[i]? with
  | some (some v) => some v
  | _ => none
def pj_isL (ls : pj_L) (i : Nat) : Bool := match i with
  | 0 => false
  | j + 1 => match pj_get ls j with
    | some v => v.category == 2
    | none => false
def pj_set (ls : pj_L) (i : Nat) (v : Value) : Option pj_L := if i < ls.length ∧ pj_isL ls i = false then some (ls.set i (some v)) else none
def pj_set2 (ls : pj_L) (i : Nat) (v : Value) : Option pj_L := if i + 1 < ls.length ∧ pj_isL ls i = false then some ((ls.set i (some v)).set (i + 1) none) else none
/-! instructions of stack and locals -/
def pj_ii (f : Int32 → Int32 → Int32) (len : Nat) (ls : pj_L) (st : List Value) : Option (pj_L × List Value) := match st with
  | .int y :: .int x :: r => if len = 1 then some (ls, .int (f x y) :: r) else none
  | _ => none
def pj_id (f : Int32 → Int32 → Int32) (len : Nat) (ls : pj_L) (st : List Value) : Option (pj_L × List Value) := match st with
  | .int y :: .int x :: r => if len = 1 ∧ ¬ y = 0 then some (ls, .int (f x y) :: r) else none
  | _ => none
def pj_ll (f : Int64 → Int64 → Int64) (len : Nat) (ls : pj_L) (st : List Value) : Option (pj_L × List Value) := match st with
  | .long y :: .long x :: r => if len = 1 then some (ls, .long (f x y) :: r) else none
  | _ => none
def pj_ld (f : Int64 → Int64 → Int64) (len : Nat) (ls : pj_L) (st : List Value) : Option (pj_L × List Value) := match st with
  | .long y :: .long x :: r => if len = 1 ∧ ¬ y = 0 then some (ls, .long (f x y) :: r) else none
  | _ => none
def pj_li (f : Int64 → Int32 → Int64) (len : Nat) (ls : pj_L) (st : List Value) : Option (pj_L × List Value) := match st with
  | .int y :: .long x :: r => if len = 1 then some (ls, .long (f x y) :: r) else none
  | _ => none
def pj_iload (i n len : Nat) (ls : pj_L) (st : List Value) : Option (pj_L × List Value) := match pj_get ls i with
  | some (.int x) => if len = n then some (ls, .int x :: st) else none
  | _ => none
def pj_lload (i n len : Nat) (ls : pj_L) (st : List Value) : Option (pj_L × List Value) := match pj_get ls i with
  | some (.long x) => if len = n then some (ls, .long x :: st) else none
  | _ => none
def pj_aload (i n len : Nat) (ls : pj_L) (st : List Value) : Option (pj_L × List Value) := match pj_get ls i with
  | some (.ref x) => if len = n then some (ls, .ref x :: st) else none
  | _ => none
def pj_istore (i n len : Nat) (ls : pj_L) (st : List Value) : Option (pj_L × List Value) := match st with
  | .int x :: r => match pj_set ls i (.int x) with
    | some l => if len = n then some (l, r) else none
    | none => none
  | _ => none
def pj_lstore (i n len : Nat) (ls : pj_L) (st : List Value) : Option (pj_L × List Value) := match st with
  | .long x :: r => match pj_set2 ls i (.long x) with
    | some l => if len = n then some (l, r) else none
    | none => none
  | _ => none
def pj_astore (i n len : Nat) (ls : pj_L) (st : List Value) : Option (pj_L × List Value) := match st with
  | .ref x :: r => match pj_set ls i (.ref x) with
    | some l => if len = n then some (l, r) else none
    | none => none
  | _ => none
def pj_iinc (i : Nat) (n : Int) (len : Nat) (ls : pj_L) (st : List Value) : Option (pj_L × List Value) := match pj_get ls i with
  | some (.int x) => match pj_set ls i (.int (x + Int32.ofInt n)) with
    | some l => if len = 3 then some (l, st) else none
    | none => none
  | _ => none
def pj_un (f : Value → Option Value) (len : Nat) (ls : pj_L) (st : List Value) : Option (pj_L × List Value) := match st with
  | v :: r => match f v with
    | some w => if len = 1 then some (ls, w :: r) else none
    | none => none
  | _ => none
def pj_dup (len : Nat) (ls : pj_L) (st : List Value) : Option (pj_L × List Value) := match st with
  | v :: r => if len = 1 ∧ v.category = 1 then some (ls, v :: v :: r) else none
  | _ => none
def pj_pop (len : Nat) (ls : pj_L) (st : List Value) : Option (pj_L × List Value) := match st with
  | v :: r => if len = 1 ∧ v.category = 1 then some (ls, r) else none
  | _ => none
def pj_dup2 (len : Nat) (ls : pj_L) (st : List Value) : Option (pj_L × List Value) := match st with
  | v :: w :: r => if len = 1 ∧ v.category = 1 ∧ w.category = 1 then some (ls, v :: w :: v :: w :: r) else if len = 1 ∧ v.category = 2 then some (ls, v :: v :: w :: r) else none
  | [v] => if len = 1 ∧ v.category = 2 then some (ls, [v, v]) else none
  | _ => none
def pj_lcmp (len : Nat) (ls : pj_L) (st : List Value) : Option (pj_L × List Value) := match st with
  | .long y :: .long x :: r => if len = 1 then some (ls, .int (lg_cmp x y) :: r) else none
  | _ => none
def pj_push (v : Value) (n len : Nat) (ls : pj_L) (st : List Value) : Option (pj_L × List Value) := if len = n then some (ls, v :: st) else none
def pj_cI (own i n len : Nat) (ls : pj_L) (st : List Value) : Option (pj_L × List Value) := match pj_lk own i pj_ci with
  | some q => pj_push (.int q.1) n len ls st
  | none => none
def pj_cJ (own i n len : Nat) (ls : pj_L) (st : List Value) : Option (pj_L × List Value) := match pj_lk own i pj_cj with
  | some q => pj_push (.long q.1) n len ls st
  | none => none
def pj_op (own : Nat) (ins : Instr) (len : Nat) (ls : pj_L) (st : List Value) : Option (pj_L × List Value) := match ins with
  | .iconst n => pj_push (.int (Int32.ofInt n)) 1 len ls st
  | .bipush n => pj_push (.int (Int8.ofInt n).toInt32) 2 len ls st
  | .sipush n => pj_push (.int (Int16.ofInt n).toInt32) 3 len ls st
  | .lconst n => pj_push (.long (Int64.ofNat n.val)) 1 len ls st
  | .ldc i => pj_cI own i 2 len ls st
  | .ldc_w i => pj_cI own i 3 len ls st
  | .ldc2_w i => pj_cJ own i 3 len ls st
  | .iload_n i => pj_iload i.val 1 len ls st
  | .iload i => pj_iload i 2 len ls st
  | .lload_n i => pj_lload i.val 1 len ls st
  | .lload i => pj_lload i 2 len ls st
  | .aload_n i => pj_aload i.val 1 len ls st
  | .aload i => pj_aload i 2 len ls st
  | .istore_n i => pj_istore i.val 1 len ls st
  | .istore i => pj_istore i 2 len ls st
  | .lstore_n i => pj_lstore i.val 1 len ls st
  | .lstore i => pj_lstore i 2 len ls st
  | .astore_n i => pj_astore i.val 1 len ls st
  | .astore i => pj_astore i 2 len ls st
  | .iinc i n => pj_iinc i n len ls st
  | .iadd => pj_ii (fun x y => x + y) len ls st
  | .isub => pj_ii (fun x y => x - y) len ls st
  | .imul => pj_ii (fun x y => x * y) len ls st
  | .iand => pj_ii (fun x y => x &&& y) len ls st
  | .ior => pj_ii (fun x y => x ||| y) len ls st
  | .ixor => pj_ii (fun x y => x ^^^ y) len ls st
  | .ishl => pj_ii (fun x y => x <<< (y &&& 31)) len ls st
  | .ishr => pj_ii (fun x y => x >>> (y &&& 31)) len ls st
  | .iushr => pj_ii (fun x y => (x.toUInt32 >>> (y.toUInt32 &&& Int32.toUInt32 31)).toInt32) len ls st
  | .idiv => pj_id (fun x y => x / y) len ls st
  | .irem => pj_id (fun x y => x - x / y * y) len ls st
  | .ineg => pj_un (fun v => match v with | .int x => some (.int (-x)) | _ => none) len ls st
  | .ladd => pj_ll (fun x y => x + y) len ls st
  | .lsub => pj_ll (fun x y => x - y) len ls st
  | .lmul => pj_ll (fun x y => x * y) len ls st
  | .land => pj_ll (fun x y => x &&& y) len ls st
  | .lor => pj_ll (fun x y => x ||| y) len ls st
  | .lxor => pj_ll (fun x y => x ^^^ y) len ls st
  | .ldiv => pj_ld (fun x y => x / y) len ls st
  | .lrem => pj_ld (fun x y => x - x / y * y) len ls st
  | .lshl => pj_li (fun x y => x <<< (y.toInt64 &&& 63)) len ls st
  | .lushr => pj_li (fun x y => (x.toUInt64 >>> (y.toInt64.toUInt64 &&& Int64.toUInt64 63)).toInt64) len ls st
  | .i2l => pj_un (fun v => match v with | .int x => some (.long x.toInt64) | _ => none) len ls st
  | .l2i => pj_un (fun v => match v with | .long x => some (.int x.toInt32) | _ => none) len ls st
  | .lcmp => pj_lcmp len ls st
  | .dup => pj_dup len ls st
  | .dup2 => pj_dup2 len ls st
  | .pop => pj_pop len ls st
  | _ => none
/-! jumps -/
def pj_tgt (pc : Nat) (off : Int) : Option Nat := if 0 ≤ (pc : Int) + off then some ((pc : Int) + off).toNat else none
theorem pj_tgt_ok {pc : Nat} {off : Int} {t : Nat} (h : pj_tgt pc off = some t) : (pc : Int) + off = (t : Int) := by
  unfold pj_tgt at h
  split at h
  · cases h; omega
  · cases h
def pj_cond (cd : Jvm.ClassFile.Cond) (x y : Int32) : Bool := match cd with
  | .eq => decide (x = y)
  | .ne => decide (¬ x = y)
  | .lt => decide (x < y)
  | .ge => decide (y ≤ x)
  | .gt => decide (y < x)
  | .le => decide (x ≤ y)
def pj_br (b : Bool) (pc : Nat) (off : Int) (r : List Value) : Option (Nat × List Value) := match pj_tgt pc off with
  | some t => some (if b = true then t else pc + 3, r)
  | none => none
def pj_jmp (ins : Instr) (len pc : Nat) (st : List Value) : Option (Nat × List Value) := match ins with
  | .goto off => if len = 3 then (match pj_tgt pc off with | some t => some (t, st) | none => none) else none
  | .ifCond cd off => match st with
    | .int x :: r => if len = 3 then pj_br (pj_cond cd x 0) pc off r else none
    | _ => none
  | .if_icmp cd off => match st with
    | .int y :: .int x :: r => if len = 3 then pj_br (pj_cond cd x y) pc off r else none
    | _ => none
  | .tableswitch dflt lo hi offs => match st with
    | .int x :: r => if x.toInt < lo ∨ hi < x.toInt then (match pj_tgt pc dflt with | some t => some (t, r) | none => none) else (match offs[(x.toInt - lo).toNat]? with
      | some o => (match pj_tgt pc o with | some t => some (t, r) | none => none)
      | none => none)
    | _ => none
  | .lookupswitch dflt ps => match st with
    | .int x :: r => if (ps.toList.zip (ps.toList.drop 1)).all (fun (a, next) => a.1 < next.1) = true then (match pj_tgt pc (Op.lookupswitch.offset ps.toList dflt x.toInt) with | some t => some (t, r) | none => none) else none
    | _ => none
  | _ => none
/-! heap -/
def pj_up (f : Nat → Nat → Int32) (k j : Nat) (x : Int32) : Nat → Nat → Int32 := fun a => if a = k then upd (f k) j x else f a
def pj_uL (f : Nat → Nat → Int64) (k j : Nat) (x : Int64) : Nat → Nat → Int64 := fun a => if a = k then vp_updL (f k) j x else f a
def pj_row {α : Type} (f : Nat → Nat → α) (k : Nat) (g : Nat → α) : Nat → Nat → α := fun a => if a = k then g else f a
def pj_fv (h : pj_H) (k j : Nat) (v : Value) : Value := match v with
  | .int _ => .int (h.2.1 k j)
  | .long _ => .long (h.2.2 k j)
  | v => v
def pj_fs (h : pj_H) (k : Nat) (fs : List Value) : List Value := fs.mapIdx (fun j v => pj_fv h k j v)
def pj_fin (ci j : Nat) : Bool := match vwCl[ci]? with
  | some r => (r.2.1 j).2.2.2
  | none => true
def pj_decl (ci j : Nat) : String := match vwCl[ci]? with
  | some r => (r.2.1 j).1
  | none => ""
def pj_getf (own idx len : Nat) (st : List Value) (h : pj_H) : Option (List Value × pj_H) := match st with
  | .ref (k + 1) :: r => match pj_lk own idx pj_fl with
    | some f => match h.1[k + 1]? with
      | some (.inr o) => match o.2[f.2.1]? with
        | some t => if len = 3 ∧ o.1 = f.1 then some (pj_fv h (k + 1) f.2.1 t :: r, h) else none
        | none => none
      | _ => none
    | none => none
  | _ => none
/-- the heap behind a putfield -/
def pj_puth (h : pj_H) (k j ci : Nat) (fs : List Value) (t v : Value) : Option pj_H := match t, v with
  | .int _, .int x => some (h.1, pj_up h.2.1 k j x, h.2.2)
  | .long _, .long x => some (h.1, h.2.1, pj_uL h.2.2 k j x)
  | .null, .ref a => some (h.1.set k (.inr (ci, fs.set j (.ref a))), h.2.1, h.2.2)
  | _, _ => none
def pj_putf (own : Nat) (nm : String) (idx len : Nat) (st : List Value) (h : pj_H) : Option (List Value × pj_H) := match st with
  | v :: .ref (k + 1) :: r => match pj_lk own idx pj_fl with
    | some f => match h.1[k + 1]? with
      | some (.inr o) => match o.2[f.2.1]? with
        | some t => if len = 3 ∧ o.1 = f.1 ∧ fits (pj_ty f.1 f.2.1) v = true ∧ narrow (pj_ty f.1 f.2.1) v = v ∧ (pj_fin f.1 f.2.1 = true → nm = "<init>" ∧ f.2.2.1 = 0 ∧ pj_decl f.1 f.2.1 = pj_cn own) then (match pj_puth h (k + 1) f.2.1 o.1 o.2 t v with | some h2 => some (r, h2) | none => none) else none
        | none => none
      | _ => none
    | none => none
  | _ => none
def pj_al (ty : FieldType) (len : Nat) (st : List Value) (h : pj_H) : Option (List Value × pj_H) := match st with
  | .int i :: .ref k :: r => match h.1[k]? with
    | some (.inl a) => if len = 1 ∧ a.1 = ty ∧ (k = 0 → ty = .int) ∧ ¬ (i < 0 ∨ a.2 ≤ i.toNatClampNeg) then some ((if ty = .long then .long (h.2.2 k i.toNatClampNeg) else .int (h.2.1 k i.toNatClampNeg)) :: r, h) else none
    | _ => none
  | _ => none
def pj_as (ty : FieldType) (len : Nat) (st : List Value) (h : pj_H) : Option (List Value × pj_H) := match st with
  | v :: .int i :: .ref (k + 1) :: r => match h.1[k + 1]? with
    | some (.inl a) => if len = 1 ∧ a.1 = ty ∧ ¬ (i < 0 ∨ a.2 ≤ i.toNatClampNeg) then (match v with
      | .int x => if ty = .int ∨ (ty = .boolean ∧ (x = 0 ∨ x = 1)) then some (r, h.1, pj_up h.2.1 (k + 1) i.toNatClampNeg x, h.2.2) else none
      | .long x => if ty = .long then some (r, h.1, h.2.1, pj_uL h.2.2 (k + 1) i.toNatClampNeg x) else none
      | _ => none) else none
    | _ => none
  | _ => none
def pj_alen (len : Nat) (st : List Value) (h : pj_H) : Option (List Value × pj_H) := match st with
  | .ref k :: r => match h.1[k]? with
    | some (.inl a) => if len = 1 then some (.int (Int32.ofNat a.2) :: r, h) else none
    | _ => none
  | _ => none
/-- what is there without bytecode, or taken as known: Object's constructor, arraycopy of ints, max, min -/
def pj_bi (rk own idx len : Nat) (st : List Value) (h : pj_H) : Option (List Value × pj_H) := match pj_lk own idx pj_ml with
  | some f => if f.2.2.2.2.1 = 3 then (match st with
      | .ref _ :: r => if len = 3 ∧ 1 ≤ rk ∧ (r.map fun v => v.category).sum ≤ 8 then some (r, h) else none
      | _ => none)
    else if f.2.2.2.2.1 = 4 then (match st with
      | .int n :: .int dp :: .ref (d + 1) :: .int sp :: .ref (s + 1) :: r => (match h.1[s + 1]?, h.1[d + 1]? with
        | some (.inl a), some (.inl b) => if len = 3 ∧ 1 ≤ rk ∧ (r.map fun v => v.category).sum ≤ 8 ∧ a.1 = .int ∧ b.1 = .int ∧ ¬ sp < 0 ∧ ¬ dp < 0 ∧ ¬ n < 0 ∧ sp.toNatClampNeg + n.toNatClampNeg ≤ a.2 ∧ dp.toNatClampNeg + n.toNatClampNeg ≤ b.2 then some (r, h.1, pj_row h.2.1 (d + 1) (va_cpy (h.2.1 (s + 1)) (h.2.1 (d + 1)) sp.toNatClampNeg dp.toNatClampNeg n.toNatClampNeg), h.2.2) else none
        | _, _ => none)
      | _ => none)
    else if f.2.2.2.2.1 = 5 then (match st with
      | .int y :: .int x :: r => if len = 3 ∧ 1 ≤ rk ∧ (r.map fun v => v.category).sum ≤ 8 then some (.int (if x < y then y else x) :: r, h) else none
      | _ => none)
    else if f.2.2.2.2.1 = 6 then (match st with
      | .int y :: .int x :: r => if len = 3 ∧ 1 ≤ rk ∧ (r.map fun v => v.category).sum ≤ 8 then some (.int (if y < x then y else x) :: r, h) else none
      | _ => none)
    else none
  | none => none
/-- by invokespecial Object's constructor alone, by invokestatic the others -/
def pj_bs (rk own idx len : Nat) (st : List Value) (h : pj_H) : Option (List Value × pj_H) := match pj_lk own idx pj_ml with
  | some f => if f.2.2.2.2.1 = 3 then pj_bi rk own idx len st h else none
  | none => none
def pj_bt (rk own idx len : Nat) (st : List Value) (h : pj_H) : Option (List Value × pj_H) := match pj_lk own idx pj_ml with
  | some f => if f.2.2.2.2.1 = 3 then none else pj_bi rk own idx len st h
  | none => none
def pj_mem (q : pj_M) (ins : Instr) (len : Nat) (st : List Value) (h : pj_H) : Option (List Value × pj_H) := match ins with
  | .getfield idx => pj_getf q.2.2.2.2.2.1 idx len st h
  | .putfield idx => pj_putf q.2.2.2.2.2.1 q.1.name idx len st h
  | .iaload => pj_al .int len st h
  | .laload => pj_al .long len st h
  | .baload => pj_al .boolean len st h
  | .iastore => pj_as .int len st h
  | .lastore => pj_as .long len st h
  | .bastore => pj_as .boolean len st h
  | .arraylength => pj_alen len st h
  | .invokespecial idx => pj_bs q.2.2.2.2.1 q.2.2.2.2.2.1 idx len st h
  | .invokestatic idx => pj_bt q.2.2.2.2.1 q.2.2.2.2.2.1 idx len st h
  | _ => none
def pj_tm (ci n : Nat) : List Value := (List.range n).map (fun j => defaultValue (pj_ty ci j))
def pj_born (h : pj_H) (q : pj_C) : pj_H := (h.1 ++ [q], pj_row h.2.1 h.1.length (fun _ => 0), pj_row h.2.2 h.1.length (fun _ => 0))
def pj_aty (t : ArrayType) : Option FieldType := match t with
  | .int => some .int
  | .long => some .long
  | .boolean => some .boolean
  | _ => none
def pj_new (own : Nat) (ins : Instr) (len : Nat) (st : List Value) (h : pj_H) : Option (List Value × pj_H) := match ins with
  | .new idx => match pj_lk own idx pj_cl with
    | some f => match vwCl[f.1]? with
      | some r => if len = 3 ∧ h.1 ≠ [] then some (.ref h.1.length :: st, pj_born h (.inr (f.1, pj_tm f.1 r.2.2))) else none
      | none => none
    | none => none
  | .newarray t => match pj_aty t, st with
    | some ty, .int n :: r => if len = 2 ∧ h.1 ≠ [] ∧ ¬ n < 0 ∧ n.toNatClampNeg * componentBytes ty ≤ 536870912 then some (.ref h.1.length :: r, pj_born h (.inl (ty, n.toNatClampNeg))) else none
    | _, _ => none
  | _ => none
/-! calls and returns -/
def pj_ret (rt : Option FieldType) (ins : Instr) (len : Nat) (st : List Value) : Option (Option Value) := match ins with
  | .ireturn => match st with
    | [.int v] => if len = 1 ∧ (rt = some .int ∨ (rt = some .boolean ∧ (v = 0 ∨ v = 1))) then some (some (.int v)) else none
    | _ => none
  | .lreturn => match st with
    | [.long v] => if len = 1 ∧ rt = some .long then some (some (.long v)) else none
    | _ => none
  | .return_ => match st with
    | [] => if len = 1 ∧ rt = none then some none else none
    | _ => none
  | _ => none
def pj_fl1 (as : List Value) : pj_L := as.flatMap (fun v => if v.category = 2 then [some v, none] else [some v])
def pj_ent (as : List Value) (n : Nat) : pj_L := pj_fl1 as ++ List.replicate (n - (pj_fl1 as).length) none
def pj_c2 (own : Nat) : Option Nat := match own with
  | 0 => some 0
  | 1 => some 1
  | 2 => some 2
  | 3 => some 3
  | 4 => some 4
  | 5 => some 5
  | 10 => some 6
  | 11 => some 7
  | _ => none
def pj_rc (h : pj_H) (k own : Nat) : Bool := match h.1[k]? with
  | some (.inr o) => decide (pj_c2 own = some o.1)
  | _ => false
/-- the method called, its arguments, what is left on the stack -/
def pj_iv (q : pj_M) (kind idx len : Nat) (st : List Value) (h : pj_H) : Option (pj_M × List Value × List Value) := match pj_lk q.2.2.2.2.2.1 idx pj_ml with
  | some f => match pj_ms[f.1]? with
    | some y => if len = 3 ∧ f.2.2.2.2.1 = kind ∧ f.2.1 ≤ st.length ∧ y.2.2.2.2.1 < q.2.2.2.2.1 then (if kind = 0 then (if (pj_fl1 (st.take f.2.1).reverse).length ≤ y.2.2.1 ∧ ((st.drop f.2.1).map fun v => v.category).sum ≤ 8 then some (y, (st.take f.2.1).reverse, st.drop f.2.1) else none)
        else (match st.drop f.2.1 with
          | .ref (k + 1) :: r => if (pj_fl1 (.ref (k + 1) :: (st.take f.2.1).reverse)).length ≤ y.2.2.1 ∧ (r.map fun v => v.category).sum ≤ 8 ∧ (kind = 1 → pj_rc h (k + 1) y.2.2.2.2.2.1 = true) ∧ (kind = 2 → y.2.2.2.1 = none) then some (y, .ref (k + 1) :: (st.take f.2.1).reverse, r) else none
          | _ => none)) else none
    | none => none
  | none => none
def pj_inv (q : pj_M) (ins : Instr) (len : Nat) (st : List Value) (h : pj_H) : Option (pj_M × List Value × List Value) := match ins with
  | .invokestatic idx => pj_iv q 0 idx len st h
  | .invokevirtual idx => pj_iv q 1 idx len st h
  | .invokespecial idx => pj_iv q 2 idx len st h
  | _ => none
def pj_go : Nat → pj_M → Nat → pj_L → List Value → pj_H → Option (Option Value × pj_H)
  | 0, _, _, _, _, _ => none
  | n + 1, q, pc, ls, st, h => match pj_find pc q.2.2.2.2.2.2 with
    | none => none
    | some il => match pj_op q.2.2.2.2.2.1 il.1 il.2 ls st with
      | some a => pj_go n q (pc + il.2) a.1 a.2 h
      | none => match pj_jmp il.1 il.2 pc st with
        | some a => pj_go n q a.1 ls a.2 h
        | none => match pj_mem q il.1 il.2 st h with
          | some a => pj_go n q (pc + il.2) ls a.1 a.2
          | none => match pj_new q.2.2.2.2.2.1 il.1 il.2 st h with
            | some a => pj_go n q (pc + il.2) ls a.1 a.2
            | none => match pj_ret q.2.2.2.1 il.1 il.2 st with
              | some v => some (v, h)
              | none => match pj_inv q il.1 il.2 st h with
                | some a => match pj_go n a.1 0 (pj_ent a.2.1 a.1.2.2.1) [] h with
                  | some o => pj_go n q (pc + 3) ls (o.1.toList ++ a.2.2) o.2
                  | none => none
                | none => none
