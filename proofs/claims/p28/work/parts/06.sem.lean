/-! objects by number: what is read and written -/
def g_get (σ : Sg) (o c k : Nat) : Option Value := bif Nat.blt o σ.1.1 && Nat.beq (σ.1.2 o).1 c then some (bif e_isI (e_fty c k) then .int (σ.2.2.1 o k) else va_rf (σ.2.1 o k)) else none
def g_put (σ : Sg) (o c k : Nat) (v : Value) : Option Sg := bif Nat.blt o σ.1.1 && Nat.beq (σ.1.2 o).1 c then (match v with
  | .int x => bif e_isI (e_fty c k) then some (σ.1, σ.2.1, u2 σ.2.2.1 o k x, σ.2.2.2) else none
  | .ref j => bif e_isI (e_fty c k) then none else some (σ.1, u2 σ.2.1 o k (some j), σ.2.2)
  | _ => none) else none
def g_len (σ : Sg) (a : Nat) : Option Nat := bif Nat.blt a σ.1.1 && (Nat.beq (σ.1.2 a).1 100 && Nat.blt (σ.1.2 a).2 2147483648) then some (σ.1.2 a).2 else none
def g_wr (σ : Sg) (a : Nat) (f : Nat → Int32) : Sg := (σ.1, σ.2.1, σ.2.2.1, u1 σ.2.2.2 a f)
def g_rget (σ : Sg) (a j : Nat) : Option Value := bif Nat.blt a σ.1.1 && (Nat.beq (σ.1.2 a).1 101 && (Nat.blt j (σ.1.2 a).2 && Nat.blt (σ.1.2 a).2 2147483648)) then some (va_rf (σ.2.1 a j)) else none
def g_rlen (σ : Sg) (a : Nat) : Option Nat := bif Nat.blt a σ.1.1 && Nat.beq (σ.1.2 a).1 101 then some (σ.1.2 a).2 else none
def g_rput (σ : Sg) (a j : Nat) (v : Value) : Option Sg := bif Nat.blt a σ.1.1 && (Nat.beq (σ.1.2 a).1 101 && (Nat.blt j (σ.1.2 a).2 && Nat.blt (σ.1.2 a).2 2147483648)) then (match v with
  | .ref o => bif Nat.blt o σ.1.1 && Nat.beq (σ.1.2 o).1 5 then some (σ.1, u2 σ.2.1 a j (some o), σ.2.2) else none
  | _ => none) else none
def g_new (σ : Sg) (c : Nat) : Option (Nat × Sg) := bif Nat.blt c 12 then some (σ.1.1, ((σ.1.1 + 1, u1 σ.1.2 σ.1.1 (c, 0)), u1 σ.2.1 σ.1.1 (fun _ => none), u1 σ.2.2.1 σ.1.1 (fun _ => 0), σ.2.2.2)) else none
def g_newI (σ : Sg) (n : Nat) : Option (Nat × Sg) := some (σ.1.1, ((σ.1.1 + 1, u1 σ.1.2 σ.1.1 (100, n)), σ.2.1, σ.2.2.1, u1 σ.2.2.2 σ.1.1 (fun _ => 0)))
def g_newR (σ : Sg) (n : Nat) : Option (Nat × Sg) := some (σ.1.1, ((σ.1.1 + 1, u1 σ.1.2 σ.1.1 (101, n)), u1 σ.2.1 σ.1.1 (fun _ => none), σ.2.2.1, σ.2.2.2))
/-! another face of the same: how it is held, and its reads and writes -/
abbrev e_IT (η : Type) : Type := (η → Sg) × (η → Nat → Nat → Nat → Option Value) × (η → Nat → Nat → Nat → Value → Option η) × (η → Nat → Option Nat) × (η → Nat → Nat → Int32) × (η → Nat → (Nat → Int32) → η) × (η → Nat → Nat → Option Value) × (η → Nat → Nat → Value → Option η) × (η → Nat → Option (Nat × η)) × (η → Nat → Option (Nat × η)) × (η → Nat → Option (Nat × η))
def e_IOk {η : Type} (I : e_IT η) : Prop :=
  (∀ h o c k v, I.2.1 h o c k = some v → g_get (I.1 h) o c k = some v) ∧
  (∀ h o c k v h', I.2.2.1 h o c k v = some h' → g_put (I.1 h) o c k v = some (I.1 h')) ∧
  (∀ h a n, I.2.2.2.1 h a = some n → g_len (I.1 h) a = some n) ∧
  (∀ h a j, (I.1 h).2.2.2 a j = I.2.2.2.2.1 h a j) ∧
  (∀ h a f, I.1 (I.2.2.2.2.2.1 h a f) = g_wr (I.1 h) a f) ∧
  (∀ h a j v, I.2.2.2.2.2.2.1 h a j = some v → g_rget (I.1 h) a j = some v) ∧
  (∀ h a j v h', I.2.2.2.2.2.2.2.1 h a j v = some h' → g_rput (I.1 h) a j v = some (I.1 h')) ∧
  (∀ h c r, I.2.2.2.2.2.2.2.2.1 h c = some r → g_new (I.1 h) c = some (r.1, I.1 r.2)) ∧
  (∀ h c r, I.2.2.2.2.2.2.2.2.2.1 h c = some r → g_newI (I.1 h) c = some (r.1, I.1 r.2)) ∧
  (∀ h c r, I.2.2.2.2.2.2.2.2.2.2 h c = some r → g_newR (I.1 h) c = some (r.1, I.1 r.2))
/-- the general face -/
def e_IG : e_IT Sg := (id, g_get, g_put, g_len, fun σ a j => σ.2.2.2 a j, g_wr, g_rget, g_rput, g_new, g_newI, g_newR)
theorem e_IG_ok : e_IOk e_IG := by
  refine ⟨fun _ _ _ _ _ h => h, fun _ _ _ _ _ _ h => h, fun _ _ _ h => h, fun _ _ _ => rfl, fun _ _ _ => rfl, fun _ _ _ _ h => h, fun _ _ _ _ _ h => h, ?_, ?_, ?_⟩
  · intro h c r hr; exact hr
  · intro h c r hr; exact hr
  · intro h c r hr; exact hr
/-! what a method's contract says -/
def mWs (y : Nat) : List Cond := Cond.code (mNm y) (mBy y) (mML y) (mRet y) :: e_WS
def e_Pc (D : va_G) (b : Nat) (cI cS : ClassId) (H0 : Heap) (σ : Sg) (as : List Value) : Array Value → State → Prop := va_Pc (as.map (e_v b)) (fun U => e_Sim D b cI cS H0 σ U.heap ∧ va_K D e_cls (e_tys cI cS) U)
def e_Qc (D : va_G) (b : Nat) (cI cS : ClassId) (H0 : Heap) (Q : Option Value → Sg → Prop) : Array Value → State → Outcome → State → Prop := fun _ _ oc t => ∃ (r : Option Value) (σ : Sg), oc = .returned (r.map (e_v b)) ∧ Q r σ ∧ e_Sim D b cI cS H0 σ t.heap
def e_Call (y : Nat) (as : List Value) (σ : Sg) (Q : Option Value → Sg → Prop) : Prop :=
  ∀ (l : Launch) (D : va_G) (b : Nat) (cI cS : ClassId) (H0 : Heap), Met l (mNm y) (mWs y) (mRm y) (e_Pc D b cI cS H0 σ as) (e_Qc D b cI cS H0 Q) (mRm y).cells (mRm y).slots (fun q => b ≤ q)
def e_CallI {η : Type} (I : e_IT η) (y : Nat) (as : List Value) (h : η) (Q : Option Value → η → Prop) : Prop := e_Call y as (I.1 h) (fun r σ => ∃ h', σ = I.1 h' ∧ Q r h')
def e_rI : Option Value → Instr
  | none => .return_
  | some (.int _) => .ireturn
  | some (.long _) => .lreturn
  | some _ => .areturn
def e_rOk : Option FieldType → Option Value → Prop
  | none, none => True
  | some .int, some (.int _) => True
  | some .boolean, some (.int v) => v = 0 ∨ v = 1
  | some .long, some (.long _) => True
  | some (.object _), some (.ref _) => True
  | _, _ => False
def e_Ret (p : Program) (l : Launch) (e : Env) (R : Room) (s : State) (m : MethodId) (args : Array Value) (below : List Frame) (meth : Method) (c : Code) (D : va_G) (b : Nat) (cI cS : ClassId) (H0 : Heap) (Z : State → Prop) (y : Nat) (Q : Option Value → Sg → Prop) : Prop :=
  ∀ (r : Option Value) (σ : Sg) (H : Heap) (locs : List Loc) (cells slots pc : Nat) (ls : Array Slot), Q r σ → e_Sim D b cI cS H0 σ H → (∀ q ∈ locs, b ≤ q.base) → cells ≤ R.cells → slots ≤ R.slots → decode (mBy y) pc = .ok (e_rI r, 1) → e_rOk (mRet y) r → W p l e R s m args below meth c H locs cells slots Z (F0 m pc ls (r.toList.map (e_v b)))
/-- the law's script, as it lies -/
def e_Scr (b : Nat) (H0 : Heap) (s : State) (args : Array Value) : Prop := ∃ (sA n : Nat) (xs : Nat → Int32), args = #[.ref sA] ∧ sA < b ∧ n ≤ 260 ∧ va_X sA n xs s H0
def e_x0 (y : Nat) (args : Array Value) : Option Nat := bif Nat.beq y y_L_law then (match (args[0]? : Option Value) with
  | some (.ref a) => some a
  | _ => none) else none
theorem e_x0_no {y : Nat} {args : Array Value} (h : Nat.beq y y_L_law = false) : e_x0 y args = none := by unfold e_x0; rw [h]; rfl
def e_Cx (p : Program) (l : Launch) (e : Env) (R : Room) (s : State) (m : MethodId) (args : Array Value) (below : List Frame) (meth : Method) (c : Code) (D : va_G) (b : Nat) (cI cS : ClassId) (H0 : Heap) (Z : State → Prop) (y : Nat) (Q : Option Value → Sg → Prop) : Prop :=
  p.tables.exec = Jvm.exec ∧ c.code = mBy y ∧ c.maxLocals = mML y ∧ s.vm.findClass (mNm y).cls = some m.cls ∧ (∀ w ∈ e_WS, w.before args s = true) ∧ va_K D e_cls (e_tys cI cS) s ∧ (mRm y).frames ≤ R.frames ∧ (mRm y).locals ≤ R.locals ∧ meth.name = (mNm y).name ∧ e_Ret p l e R s m args below meth c D b cI cS H0 Z y Q ∧ (Nat.beq y y_L_law = true → e_Scr b H0 s args)
def e_Run (y pc : Nat) (L : List (Option Value)) (st : List Value) (B : Nat × Nat) (σ : Sg) (Q : Option Value → Sg → Prop) : Prop :=
  ∀ (p : Program) (l : Launch) (e : Env) (R : Room) (s : State) (m : MethodId) (args : Array Value) (below : List Frame) (meth : Method) (c : Code) (D : va_G) (b : Nat) (cI cS : ClassId) (H0 : Heap) (Z : State → Prop), e_Cx p l e R s m args below meth c D b cI cS H0 Z y Q →
    ∀ (H : Heap) (locs : List Loc) (cells slots : Nat) (ls : Array Slot), e_Sim D b cI cS H0 σ H → (∀ q ∈ locs, b ≤ q.base) → cells + B.1 ≤ R.cells → slots + B.2 ≤ R.slots → e_LH b (e_x0 y args) ls (mML y) L →
      W p l e R s m args below meth c H locs cells slots Z (F0 m pc ls (st.map (e_v b)))
def e_RunI {η : Type} (I : e_IT η) (y pc : Nat) (L : List (Option Value)) (st : List Value) (B : Nat × Nat) (h : η) (Q : Option Value → η → Prop) : Prop := e_Run y pc L st B (I.1 h) (fun r σ => ∃ h', σ = I.1 h' ∧ Q r h')
/-! weakest preconditions, by computation -/
def e_cat : List Value → Nat
  | [] => 0
  | v :: r => v.category + e_cat r
def e_sw : List (Int32 × Nat) → Nat → Int32 → (Nat → Prop) → Prop
  | [], d, _, k => k d
  | (v, t) :: r, d, x, k => if x = v then k t else e_sw r d x k
def e_isO (σ : Sg) (ci : Nat) : List Value → Nat → Bool
  | .ref o :: _, 0 => Nat.blt o σ.1.1 && Nat.beq (σ.1.2 o).1 ci
  | _ :: r, n + 1 => e_isO σ ci r n
  | _, _ => false
def e_isP {η : Type} (I : e_IT η) (h : η) (ci : Nat) : List Value → Nat → Bool
  | .ref o :: _, 0 => (I.2.1 h o ci 0).isSome
  | _ :: r, n + 1 => e_isP I h ci r n
  | _, _ => false
/-- r1: the method; n: how many values it takes from the stack; virt: the last of them is the object that it is called on -/
def e_call {η : Type} (I : e_IT η) (r1 n : Nat) (virt : Bool) (pc : Nat) (L : List (Option Value)) (st : List Value) (B : Nat × Nat) (h : η) (K : Nat → List (Option Value) → List Value → Nat × Nat → η → Prop) : Prop :=
  bif Nat.ble n st.length && (Nat.ble (e_cat (st.drop n)) 8 && (Nat.ble (mRm r1).cells B.1 && (Nat.ble (mRm r1).slots B.2 && (!virt || e_isP I h (mCi r1) st (n - 1)))))
  then (bif Nat.beq (mRm r1).cells 0 && Nat.beq (mRm r1).slots 0 then e_CallI I r1 (st.take n).reverse h (fun r h' => K (pc + 3) L (r.toList ++ st.drop n) B h') else e_CallI I r1 (st.take n).reverse h (fun r h' => K (pc + 3) L (r.toList ++ st.drop n) (B.1 - (mRm r1).cells, B.2 - (mRm r1).slots) h')) else False
/-- a list is worked out before one goes on with it -/
def e_force : List (Option Value) → (List (Option Value) → Prop) → Prop
  | [], K => K []
  | a :: r, K => e_force r (fun r' => K (a :: r'))
theorem e_force_eq : ∀ (L : List (Option Value)) (K : List (Option Value) → Prop), e_force L K = K L
  | [], _ => rfl
  | a :: r, K => e_force_eq r (fun r' => K (a :: r'))
def e_isSt : Instr → Bool
  | .istore _ | .istore_n _ | .astore _ | .astore_n _ | .lstore _ | .lstore_n _ | .iinc _ _ => true
  | _ => false
def e_cpy (f g : Nat → Int32) (n : Nat) : Nat → Int32 := fun k => if k < n then f k else g k
def e_k {η : Type} (I : e_IT η) (y : Nat) (i : Instr) (len r1 r2 : Nat) (sw : List (Int32 × Nat)) (pc : Nat) (L : List (Option Value)) (st : List Value) (B : Nat × Nat) (h : η) (Q : Option Value → η → Prop) (K : Nat → List (Option Value) → List Value → Nat × Nat → η → Prop) : Prop :=
  match i with
  | .goto _ => K r1 L st B h
  | .if_icmp .eq _ => match st with
    | .int b :: .int a :: st' => if a = b then K r1 L st' B h else K (pc + 3) L st' B h
    | _ => False
  | .if_icmp .ne _ => match st with
    | .int b :: .int a :: st' => if a = b then K (pc + 3) L st' B h else K r1 L st' B h
    | _ => False
  | .if_icmp .lt _ => match st with
    | .int b :: .int a :: st' => if a < b then K r1 L st' B h else K (pc + 3) L st' B h
    | _ => False
  | .if_icmp .ge _ => match st with
    | .int b :: .int a :: st' => if b ≤ a then K r1 L st' B h else K (pc + 3) L st' B h
    | _ => False
  | .if_icmp .gt _ => match st with
    | .int b :: .int a :: st' => if b < a then K r1 L st' B h else K (pc + 3) L st' B h
    | _ => False
  | .if_icmp .le _ => match st with
    | .int b :: .int a :: st' => if a ≤ b then K r1 L st' B h else K (pc + 3) L st' B h
    | _ => False
  | .ifCond .eq _ => match st with
    | .int a :: st' => if a = 0 then K r1 L st' B h else K (pc + 3) L st' B h
    | _ => False
  | .ifCond .ne _ => match st with
    | .int a :: st' => if a = 0 then K (pc + 3) L st' B h else K r1 L st' B h
    | _ => False
  | .ifCond .lt _ => match st with
    | .int a :: st' => if a < 0 then K r1 L st' B h else K (pc + 3) L st' B h
    | _ => False
  | .ifCond .ge _ => match st with
    | .int a :: st' => if 0 ≤ a then K r1 L st' B h else K (pc + 3) L st' B h
    | _ => False
  | .ifCond .gt _ => match st with
    | .int a :: st' => if 0 < a then K r1 L st' B h else K (pc + 3) L st' B h
    | _ => False
  | .ifCond .le _ => match st with
    | .int a :: st' => if a ≤ 0 then K r1 L st' B h else K (pc + 3) L st' B h
    | _ => False
  | .ifnull _ => match st with
    | .ref _ :: st' => K (pc + 3) L st' B h
    | _ => False
  | .tableswitch _ _ _ _ => match st with
    | .int x :: st' => e_sw sw r1 x (fun t => K t L st' B h)
    | _ => False
  | .lookupswitch _ _ => match st with
    | .int x :: st' => e_sw sw r1 x (fun t => K t L st' B h)
    | _ => False
  | .idiv => match st with
    | .int b :: .int a :: st' => ¬ b = 0 ∧ K (pc + 1) L (.int (a / b) :: st') B h
    | _ => False
  | .irem => match st with
    | .int b :: .int a :: st' => ¬ b = 0 ∧ K (pc + 1) L (.int (a - a / b * b) :: st') B h
    | _ => False
  | .getfield _ => match st with
    | .ref o :: st' => match I.2.1 h o r1 r2 with
      | some v => K (pc + 3) L (v :: st') B h
      | none => False
    | _ => False
  | .putfield _ => match st with
    | v :: .ref o :: st' => match I.2.2.1 h o r1 r2 v with
      | some h' => match e_fty r1 r2 with
        | .boolean => (v = .int 0 ∨ v = .int 1) ∧ K (pc + 3) L st' B h'
        | _ => K (pc + 3) L st' B h'
      | none => False
    | _ => False
  | .arraylength => match st with
    | .ref a :: st' => match I.2.2.2.1 h a with
      | some n => K (pc + 1) L (.int (nI n) :: st') B h
      | none => match I.2.2.2.2.2.2.1 h a 0 with
        | some _ => K (pc + 1) L (.int (nI ((I.1 h).1.2 a).2) :: st') B h
        | none => False
    | _ => False
  | .iaload => match st with
    | .int i :: .ref a :: st' => match I.2.2.2.1 h a with
      | some n => ∃ j : Nat, i = nI j ∧ j < n ∧ K (pc + 1) L (.int (I.2.2.2.2.1 h a j) :: st') B h
      | none => False
    | _ => False
  | .iastore => match st with
    | .int x :: .int i :: .ref a :: st' => match I.2.2.2.1 h a with
      | some n => ∃ j : Nat, i = nI j ∧ j < n ∧ K (pc + 1) L st' B (I.2.2.2.2.2.1 h a (u1 (I.2.2.2.2.1 h a) j x))
      | none => False
    | _ => False
  | .aaload => match st with
    | .int i :: .ref a :: st' => ∃ j : Nat, i = nI j ∧ (match I.2.2.2.2.2.2.1 h a j with
      | some v => K (pc + 1) L (v :: st') B h
      | none => False)
    | _ => False
  | .aastore => match st with
    | v :: .int i :: .ref a :: st' => ∃ j : Nat, i = nI j ∧ (match I.2.2.2.2.2.2.2.1 h a j v with
      | some h' => K (pc + 1) L st' B h'
      | none => False)
    | _ => False
  | .new _ => match I.2.2.2.2.2.2.2.2.1 h r1 with
    | some (o, h') => bif Nat.ble 1 B.1 && Nat.ble (e_ct r1).2.2.1 B.2 then K (pc + 3) L (.ref o :: st) (B.1 - 1, B.2 - (e_ct r1).2.2.1) h' else False
    | none => False
  | .newarray .int => match st with
    | .int i :: st' => ∃ n : Nat, i = nI n ∧ (match I.2.2.2.2.2.2.2.2.2.1 h n with
      | some (o, h') => bif Nat.ble 1 B.1 && (Nat.ble n B.2 && Nat.blt n 100000) then K (pc + 2) L (.ref o :: st') (B.1 - 1, B.2 - n) h' else False
      | none => False)
    | _ => False
  | .anewarray _ => match st with
    | .int i :: st' => ∃ n : Nat, i = nI n ∧ (match I.2.2.2.2.2.2.2.2.2.2 h n with
      | some (o, h') => bif Nat.ble 1 B.1 && (Nat.ble n B.2 && Nat.blt n 100000) then K (pc + 3) L (.ref o :: st') (B.1 - 1, B.2 - n) h' else False
      | none => False)
    | _ => False
  | .ireturn => match st with
    | [.int v] => match mRet y with
      | some .int => Q (some (.int v)) h
      | some .boolean => (v = 0 ∨ v = 1) ∧ Q (some (.int v)) h
      | _ => False
    | _ => False
  | .lreturn => match st with
    | [.long v] => match mRet y with
      | some .long => Q (some (.long v)) h
      | _ => False
    | _ => False
  | .areturn => match st with
    | [.ref v] => match mRet y with
      | some (.object _) => Q (some (.ref v)) h
      | _ => False
    | _ => False
  | .return_ => match st with
    | [] => match mRet y with
      | none => Q none h
      | _ => False
    | _ => False
  | .invokestatic _ => bif Nat.beq r1 1001 then (match st with
      | .int n :: .int dp :: .ref a :: .int sp :: .ref a0 :: st' => match I.2.2.2.1 h a, I.2.2.2.1 h a0 with
        | some n1, some n0 => ∃ j : Nat, n = nI j ∧ j ≤ n1 ∧ j ≤ n0 ∧ sp = 0 ∧ dp = 0 ∧ a ≠ a0 ∧ e_cat st' ≤ 8 ∧ K (pc + 3) L st' B (I.2.2.2.2.2.1 h a (e_cpy (I.2.2.2.2.1 h a0) (I.2.2.2.2.1 h a) j))
        | _, _ => False
      | _ => False) else e_call I r1 r2 false pc L st B h K
  | .invokevirtual _ => e_call I r1 (r2 + 1) true pc L st B h K
  | .invokespecial _ => bif Nat.beq r1 1000 then (match st with
      | .ref _ :: st' => bif Nat.ble (e_cat st') 8 then K (pc + 3) L st' B h else False
      | _ => False) else e_call I r1 (r2 + 1) true pc L st B h K
  | i => match e_pure i sw r1 L st with
    | some (L', st') => bif e_isSt i then e_force L' (fun L'' => K (pc + len) L'' st' B h) else K (pc + len) L' st' B h
    | none => False
def e_wp {η : Type} (I : e_IT η) (y : Nat) (Q : Option Value → η → Prop) : Nat → Nat → List (Option Value) → List Value → Nat × Nat → η → Prop
  | 0, pc, L, st, B, h => e_RunI I y pc L st B h Q
  | n + 1, pc, L, st, B, h => match e_op y pc with
    | some (i, len, r1, r2, _, _, sw) => e_k I y i len r1 r2 sw pc L st B h Q (e_wp I y Q n)
    | none => False
