/-- the disk as it is at first -/
def am_dk (n k : Nat) : Int32 := if k = 0 then nI 7177 else if k = 1 then nI n else if k = 2048 then nI 1 else if k = 2064 then nI 2 else if k = 2065 then nI 1 else nI 0
/-- A NEW OBJECT of the class and one of the reference, of n nodes -/
def am_fr (n : Nat) : am_I := fun i j k => match j with
  | 1 => am_dk n k
  | 5 => (-1)
  | 10 => nI 1
  | 40 => if k = 0 then nI i else if k = 5 then nI 1 else if k = 6 then nI 1 else nI 0
  | 44 => if k = 0 then nI (1 + 24 * i) else nI 0
  | 51 => (-1)
  | 60 => if k = 1 then nI n else nI 0
  | 64 => am_dk n k
  | 65 => if k < n then nI 1 else nI 0
  | 66 => if k < n then nI 1 else nI 0
  | 78 => (-1)
  | 95 => (-1)
  | 107 => nI 1
  | _ => nI 0
