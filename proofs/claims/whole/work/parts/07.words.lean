/-! Words for what instructions compute; stores by their parts. -/
def shl (x y : Int32) : Int32 := x <<< (y &&& 31)
def shr (x y : Int32) : Int32 := x >>> (y &&& 31)
def ushr (x y : Int32) : Int32 := (x.toUInt32 >>> (y.toUInt32 &&& Int32.toUInt32 31)).toInt32
def lshl (x : Int64) (y : Int32) : Int64 := x <<< (y.toInt64 &&& 63)
def irm (x y : Int32) : Int32 := x - x / y * y
def lrm (x y : Int64) : Int64 := x - x / y * y
def imin (x y : Int32) : Int32 := if y < x then y else x
def imax (x y : Int32) : Int32 := if x < y then y else x
def upI (F : Nat → Nat → Int32) (a j : Nat) (v : Int32) : Nat → Nat → Int32 := va_up F a (upd (F a) j v)
def upJ (F : Nat → Nat → Int64) (a j : Nat) (v : Int64) : Nat → Nat → Int64 := va_up F a (vp_updL (F a) j v)
def upR (F : Nat → Nat → Option Nat) (a j : Nat) (v : Option Nat) : Nat → Nat → Option Nat := va_up F a (va_up (F a) j v)
def cpIf (F : Nat → Nat → Int32) (a b sp dp n : Nat) : Nat → Nat → Int32 := va_up F b (va_cpy (F a) (F b) sp dp n)
def cpJf (F : Nat → Nat → Int64) (a b sp dp n : Nat) : Nat → Nat → Int64 := va_up F b (va_cpy (F a) (F b) sp dp n)
def wI (S : St) (F : Nat → Nat → Int32) : St := (S.1, S.2.1, F, S.2.2.2.1, S.2.2.2.2)
def wA (S : St) (F : Nat → Nat → Int32) (J : Nat → Nat → Int64) (R : Nat → Nat → Option Nat) : St := (S.1, S.2.1, F, J, R)
def sCh (i : Nat) (j : Int32) : Int32 := (sByt.getD i []).getD j.toNatClampNeg 0
theorem i_ne {x k : Int32} (h : ¬ x = k) : x.toInt ≠ k.toInt := fun e => h (Int32.toInt_inj.mp e)
abbrev Wm (G : GG) (p : Program) (l : Launch) (e : Env) (R : Room) (s : State) (m : MethodId) (args : Array Value) (below : List Frame) (meth : Method) (c : Code) (S : St) (QQ : Option Value → St → Prop) (mc ms : Nat) (H : Heap) (locs : List Loc) (cells slots : Nat) (g : JFrame) : Prop :=
  W p l e R s m args below meth c H locs cells slots (MQ below (Qd G S s.heap.size QQ) args s mc ms (FA S s.heap.size)) g
