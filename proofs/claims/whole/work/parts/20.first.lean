/-- the memory at the law's entry: the script alone -/
def hm0 (xs : Nat → Int32) (L : Nat) : zM := (fun c _ f => if c = 19 then xs f else 0, fun _ _ _ => 0, fun _ _ _ => none, fun c => if c = 19 then 1 else 0, fun _ _ => 0, 0, 0, L)
