/-! named values, Math, the text constant as functions -/
/-- a value is named -/
def lt {α β : Type} (v : α) (k : α → Option β) : Option β := k v
theorem okp_lt {α β : Type} {v : α} {k : α → Option β} {K : β → Prop} (h : okp (lt v k) K) : okp (k v) K := h
def imax (a b : Int) : Int := if a < b then b else a
def imin (a b : Int) : Int := if b < a then b else a
def iabs (a : Int) : Int := if 0 ≤ a then a else w32 (0 - a)
/-- where a letter stands in the text constant (by hand) -/
def p_JS_indexOf (f : Nat) (c : Int) (M : oM) : Option (Int × oM) := some ((if c = 104 then 0 else if c = 99 then 1 else if c = 110 then 2 else if c = 111 then 3 else if c = 119 then 4 else if c = 103 then 5 else if c = 116 then 6 else if c = 121 then 7 else -1), M)
