/-! instructions that touch locals and stack alone -/
def e_pure (i : Instr) (sw : List (Int32 × Nat)) (r1 : Nat) (L : List (Option Value)) (st : List Value) : Option (List (Option Value) × List Value) :=
  match i with
  | .iconst _ | .bipush _ | .sipush _ | .ldc _ => match sw with
    | [(v, _)] => some (L, .int v :: st)
    | _ => none
  | .lconst c => some (L, .long (Int64.ofNat (c : Nat)) :: st)
  | .ldc2_w _ => some (L, .long (Int64.ofNat r1) :: st)
  | .iload k => match e_get L k with
    | some (.int x) => some (L, .int x :: st)
    | _ => none
  | .iload_n k => match e_get L (k : Nat) with
    | some (.int x) => some (L, .int x :: st)
    | _ => none
  | .aload k => match e_get L k with
    | some (.ref x) => some (L, .ref x :: st)
    | _ => none
  | .aload_n k => match e_get L (k : Nat) with
    | some (.ref x) => some (L, .ref x :: st)
    | _ => none
  | .lload k => match e_get L k with
    | some (.long x) => some (L, .long x :: st)
    | _ => none
  | .lload_n k => match e_get L (k : Nat) with
    | some (.long x) => some (L, .long x :: st)
    | _ => none
  | .istore k => match st with
    | .int x :: st' => (e_st1 L k (.int x)).map (fun L' => (L', st'))
    | _ => none
  | .istore_n k => match st with
    | .int x :: st' => (e_st1 L (k : Nat) (.int x)).map (fun L' => (L', st'))
    | _ => none
  | .astore_n k => match st with
    | .ref x :: st' => (e_st1 L (k : Nat) (.ref x)).map (fun L' => (L', st'))
    | _ => none
  | .astore k => match st with
    | .ref x :: st' => (e_st1 L k (.ref x)).map (fun L' => (L', st'))
    | _ => none
  | .lstore k => match st with
    | .long x :: st' => (e_st2 L k (.long x)).map (fun L' => (L', st'))
    | _ => none
  | .lstore_n k => match st with
    | .long x :: st' => (e_st2 L (k : Nat) (.long x)).map (fun L' => (L', st'))
    | _ => none
  | .iinc k _ => match sw with
    | [(v, _)] => match e_get L k with
      | some (.int x) => (e_st1 L k (.int (x + v))).map (fun L' => (L', st))
      | _ => none
    | _ => none
  | .iadd => match st with
    | .int y :: .int x :: st' => some (L, .int (x + y) :: st')
    | _ => none
  | .isub => match st with
    | .int y :: .int x :: st' => some (L, .int (x - y) :: st')
    | _ => none
  | .imul => match st with
    | .int y :: .int x :: st' => some (L, .int (x * y) :: st')
    | _ => none
  | .iand => match st with
    | .int y :: .int x :: st' => some (L, .int (x &&& y) :: st')
    | _ => none
  | .ior => match st with
    | .int y :: .int x :: st' => some (L, .int (x ||| y) :: st')
    | _ => none
  | .ineg => match st with
    | .int x :: st' => some (L, .int (-x) :: st')
    | _ => none
  | .ishl => match st with
    | .int y :: .int x :: st' => some (L, .int (x <<< (y &&& 31)) :: st')
    | _ => none
  | .ishr => match st with
    | .int y :: .int x :: st' => some (L, .int (x >>> (y &&& 31)) :: st')
    | _ => none
  | .ladd => match st with
    | .long y :: .long x :: st' => some (L, .long (x + y) :: st')
    | _ => none
  | .lsub => match st with
    | .long y :: .long x :: st' => some (L, .long (x - y) :: st')
    | _ => none
  | .lmul => match st with
    | .long y :: .long x :: st' => some (L, .long (x * y) :: st')
    | _ => none
  | .land => match st with
    | .long y :: .long x :: st' => some (L, .long (x &&& y) :: st')
    | _ => none
  | .lor => match st with
    | .long y :: .long x :: st' => some (L, .long (x ||| y) :: st')
    | _ => none
  | .lshl => match st with
    | .int y :: .long x :: st' => some (L, .long (x <<< (y.toInt64 &&& 63)) :: st')
    | _ => none
  | .lushr => match st with
    | .int y :: .long x :: st' => some (L, .long (x.toUInt64 >>> (y.toInt64.toUInt64 &&& Int64.toUInt64 63)).toInt64 :: st')
    | _ => none
  | .l2i => match st with
    | .long x :: st' => some (L, .int x.toInt32 :: st')
    | _ => none
  | .i2l => match st with
    | .int x :: st' => some (L, .long x.toInt64 :: st')
    | _ => none
  | .lcmp => match st with
    | .long y :: .long x :: st' => some (L, .int (lg_cmp x y) :: st')
    | _ => none
  | .dup => match st with
    | v :: st' => bif Nat.beq v.category 1 then some (L, v :: v :: st') else none
    | _ => none
  | .dup2 => match st with
    | a :: b :: st' => bif Nat.beq a.category 1 && Nat.beq b.category 1 then some (L, a :: b :: a :: b :: st') else none
    | _ => none
  | .pop => match st with
    | v :: st' => bif Nat.beq v.category 1 then some (L, st') else none
    | _ => none
  | _ => none
/-- the lengths of the instructions that go on behind themselves -/
def e_len : Instr → Nat
  | .bipush _ | .iload _ | .aload _ | .lload _ | .istore _ | .astore _ | .lstore _ | .ldc _ | .newarray _ => 2
  | .sipush _ | .ldc2_w _ | .iinc _ _ | .goto _ | .if_icmp _ _ | .ifCond _ _ | .ifnull _ | .getfield _ | .putfield _ | .invokestatic _ | .invokevirtual _ | .invokespecial _ | .new _ | .anewarray _ => 3
  | _ => 1
/-- what constants an instruction means -/
def e_swOk (i : Instr) (sw : List (Int32 × Nat)) : Bool :=
  match i with
  | .iconst n => match sw with
    | [(v, _)] => decide (Int32.ofInt n = v)
    | _ => false
  | .bipush n => match sw with
    | [(v, _)] => decide ((Int8.ofInt n).toInt32 = v)
    | _ => false
  | .sipush n => match sw with
    | [(v, _)] => decide ((Int16.ofInt n).toInt32 = v)
    | _ => false
  | .iinc _ n => match sw with
    | [(v, _)] => decide (Int32.ofInt n = v)
    | _ => false
  | _ => true
def e_link (y r1 x : Nat) (nest : Bool) : Cond := bif nest then .methodLinkNest (mNm y).cls x (mNm r1) "PuppetTurns" else .methodLink (mNm y).cls x (mNm r1)
/-- the tables' words that an instruction needs -/
def e_need (y : Nat) (i : Instr) (r1 r2 : Nat) (nest : Bool) (sw : List (Int32 × Nat)) : List Cond :=
  match i with
  | .getfield x | .putfield x => [bif nest then .fieldLinkNest (mNm y).cls x ((e_ct r1).2.1 r2).1 ((e_ct r1).2.1 r2).2.1 ((e_ct r1).2.1 r2).2.2.1 "PuppetTurns" else .fieldLink (mNm y).cls x ((e_ct r1).2.1 r2).1 ((e_ct r1).2.1 r2).2.1 ((e_ct r1).2.1 r2).2.2.1]
  | .invokestatic x => bif Nat.beq r1 1001 then [.methodLink (mNm y).cls x arraycopyName, .native arraycopyName, .static arraycopyName, .initialized "java/lang/System"] else [e_link y r1 x nest, .initialized (mNm r1).cls, .code (mNm r1) (mBy r1) (mML r1) (mRet r1), .static (mNm r1)]
  | .invokevirtual x => [e_link y r1 x nest, .initialized (mNm r1).cls, .code (mNm r1) (mBy r1) (mML r1) (mRet r1), .instanceMethod (mNm r1), .selects (mNm r1).cls (mNm r1) (mNm r1)]
  | .invokespecial x => bif Nat.beq r1 1000 then [.methodLink (mNm y).cls x objectInit, .instanceMethod objectInit, .code objectInit ⟨#[0xb1]⟩ 1 none] else [e_link y r1 x nest, .initialized (mNm r1).cls, .code (mNm r1) (mBy r1) (mML r1) (mRet r1), .instanceMethod (mNm r1)]
  | .new x => [.classLink (mNm y).cls x (e_ct r1).1, .instantiable (e_ct r1).1 (e_ct r1).2.2.1, .initialized (e_ct r1).1]
  | .newarray _ => [.arrayClass .int]
  | .anewarray x => [.classLink (mNm y).cls x "PuppetTurns$Scene", .arrayOver (.object "PuppetTurns$Scene")]
  | .ldc x => match sw with
    | [(v, _)] => [.constant (mNm y).cls x v]
    | _ => []
  | .ldc2_w x => [.constantLong (mNm y).cls x (Int64.ofNat r1)]
  | _ => []
def e_callOk (y r1 n : Nat) : Bool :=
  decide ((mNm r1).cls ≠ "java/lang/invoke/MethodHandle") && decide ((mNm r1).cls ≠ "java/lang/invoke/VarHandle") && decide ((parseMethodDescriptor (mNm r1).desc).map (fun d => d.parameters.length) = some n)
    && Nat.ble ((mRm r1).frames + 1) (mRm y).frames && Nat.ble (8 + (mML r1 + 11) + (mRm r1).locals) (mRm y).locals && Nat.blt (mCi r1) 1000
def e_swT (pc : Nat) (lo hi : Int) (offs : Array Int) (sw : List (Int32 × Nat)) : Bool :=
  sw.all (fun q => decide (¬ q.1.toInt < lo) && decide (¬ hi < q.1.toInt) && decide (offs[(q.1.toInt - lo).toNat]? = some ((q.2 : Int) - pc)))
    && (List.range (hi + 1 - lo).toNat).all (fun j => sw.any (fun q => decide (q.1.toInt = lo + j)))
def e_swL (pc : Nat) (dflt : Int) (ps : Array (Int × Int)) (sw : List (Int32 × Nat)) : Bool :=
  sw.all (fun q => decide (Op.lookupswitch.offset ps.toList dflt q.1.toInt = (q.2 : Int) - pc)) && ps.toList.all (fun a => sw.any (fun q => decide (q.1.toInt = a.1)))
    && (ps.toList.zip (ps.toList.drop 1)).all (fun (a, next) => a.1 < next.1)
/-- what else must hold of an instruction: a program decides it -/
def e_okB (y pc : Nat) (o : XO) : Bool :=
  decide (decode (mBy y) pc = .ok (o.1, o.2.1)) && e_swOk o.1 o.2.2.2.2.2.2 &&
  match o with
  | (i, len, r1, r2, nest, _, sw) => match i with
    | .tableswitch dflt lo hi offs => decide ((pc : Int) + dflt = (r1 : Int)) && e_swT pc lo hi offs sw
    | .lookupswitch dflt ps => decide ((pc : Int) + dflt = (r1 : Int)) && e_swL pc dflt ps sw
    | .goto off => Nat.beq len 3 && decide ((pc : Int) + off = (r1 : Int))
    | .if_icmp _ off => Nat.beq len 3 && decide ((pc : Int) + off = (r1 : Int))
    | .ifCond _ off => Nat.beq len 3 && decide ((pc : Int) + off = (r1 : Int))
    | .getfield _ => Nat.beq len 3 && (Nat.blt r1 12 && Nat.blt r2 (e_ct r1).2.2.1)
    | .putfield _ => Nat.beq len 3 && (Nat.blt r1 12 && Nat.blt r2 (e_ct r1).2.2.1 && decide (((e_ct r1).2.1 r2).2.2.2 = false ∨ ((mNm y).name = "<init>" ∧ ((e_ct r1).2.1 r2).1 = (mNm y).cls ∧ nest = false)))
    | .invokestatic _ => Nat.beq len 3 && (bif Nat.beq r1 1001 then (Nat.ble 1 (mRm y).frames && Nat.ble (8 + (nativeFrameWords "java/lang/System" "arraycopy" 5 + 11)) (mRm y).locals && !nest) else e_callOk y r1 r2)
    | .invokevirtual _ => Nat.beq len 3 && (e_callOk y r1 r2 && Nat.blt (mCi r1) 12 && decide ((e_ct (mCi r1)).1 = (mNm r1).cls))
    | .invokespecial _ => Nat.beq len 3 && (bif Nat.beq r1 1000 then (Nat.ble 1 (mRm y).frames && Nat.ble 20 (mRm y).locals && !nest) else (e_callOk y r1 r2 && decide ((mNm r1).name = "<init>") && decide (mRet r1 = none)))
    | .new _ => Nat.beq len 3 && Nat.blt r1 12
    | i => Nat.beq len (e_len i)
/-! the tables' words stay true -/
def e_wmB (w : Cond) : Bool := goodWord w || match w with
  | .fieldLinkNest _ _ _ _ _ _ => true
  | .methodLinkNest _ _ _ _ => true
  | .arrayOver (.object _) => true
  | _ => false
/-- the words that a method may take along -/
def e_WS : List Cond := lw_tbl.filter e_wmB
def OkM (y : Nat) : Prop := ∀ q ∈ mOps y, (e_okB y q.1 q.2 && (e_need y q.2.1 q.2.2.2.1 q.2.2.2.2.1 q.2.2.2.2.2.1 q.2.2.2.2.2.2.2).all e_wmB && decide (e_need y q.2.1 q.2.2.2.1 q.2.2.2.2.1 q.2.2.2.2.2.1 q.2.2.2.2.2.2.2 = q.2.2.2.2.2.2.1.filterMap (fun i => lw_tbl[i]?))) = true
theorem okm_of {y : Nat} (h : (mOps y).all (fun q => e_okB y q.1 q.2 && (e_need y q.2.1 q.2.2.2.1 q.2.2.2.2.1 q.2.2.2.2.2.1 q.2.2.2.2.2.2.2).all e_wmB && decide (e_need y q.2.1 q.2.2.2.1 q.2.2.2.2.1 q.2.2.2.2.2.1 q.2.2.2.2.2.2.2 = q.2.2.2.2.2.2.1.filterMap (fun i => lw_tbl[i]?))) = true) : OkM y := List.all_eq_true.mp h
theorem okm_at {y pc : Nat} {i : Instr} {len r1 r2 : Nat} {nest : Bool} {hh : List Nat} {sw : List (Int32 × Nat)} (h : OkM y) (ho : e_op y pc = some (i, len, r1, r2, nest, hh, sw)) :
    e_okB y pc (i, len, r1, r2, nest, hh, sw) = true ∧ ∀ w ∈ e_need y i r1 r2 nest sw, w ∈ e_WS := by
  have h1 := h _ (e_find_mem ho)
  rw [Bool.and_eq_true, Bool.and_eq_true] at h1
  refine ⟨h1.1.1, fun w hw => ?_⟩
  have h2 := of_decide_eq_true h1.2
  dsimp only at h2
  have h3 := List.all_eq_true.mp h1.1.2 w hw
  refine List.mem_filter.mpr ⟨?_, h3⟩
  rw [h2] at hw
  obtain ⟨j, -, hj⟩ := List.mem_filterMap.mp hw
  exact List.mem_of_getElem? hj
theorem okb_dec {y pc : Nat} {o : XO} (h : e_okB y pc o = true) : decode (mBy y) pc = .ok (o.1, o.2.1) ∧ e_swOk o.1 o.2.2.2.2.2.2 = true := by
  unfold e_okB at h
  simp only [Bool.and_eq_true] at h
  exact ⟨of_decide_eq_true h.1.1, h.1.2⟩
