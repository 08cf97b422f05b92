/-! named values, Math, the text constant as functions -/
/-- a value is named -/
def lt {α β : Type} (v : α) (k : α → Option β) : Option β := k v
theorem okp_lt {α β : Type} {v : α} {k : α → Option β} {K : β → Prop} (h : okp (lt v k) K) : okp (k v) K := h
def imax (a b : Int) : Int := if a < b then b else a
def imin (a b : Int) : Int := if b < a then b else a
def iabs (a : Int) : Int := if 0 ≤ a then a else w32 (0 - a)
def tx8 (i : Int) : Int := if i = 0 then 104 else if i = 1 then 99 else if i = 2 then 110 else if i = 3 then 111 else if i = 4 then 119 else if i = 5 then 103 else if i = 6 then 116 else 121
/-- a receiver of class String outside -/
def oClO (own : String) (idx : Nat) (y : oMI) (np : Nat) : Prop := oLk own idx y ∧ Cond.instanceMethod y.1 ∈ oT ∧ Cond.selects y.1.cls y.1 y.1 ∈ oT ∧ oCo y np ∧ y.1.cls = "java/lang/String"
