/-! ===== cases: seed, wipe, tear, spring, status .. ===== -/
theorem tell0 (t : Nat → Int32) : f_X7_tell (-1000001 : Int32) t = some ((-1000001 : Int32), upd t 0 (t 0 + 1)) := tell_e 0 (by decide) t
theorem tell1 (t : Nat → Int32) : f_X7_tell (-1000002 : Int32) t = some ((-1000002 : Int32), upd t 1 (t 1 + 1)) := tell_e 1 (by decide) t
theorem tell2 (t : Nat → Int32) : f_X7_tell (-1000003 : Int32) t = some ((-1000003 : Int32), upd t 2 (t 2 + 1)) := tell_e 2 (by decide) t
theorem tell3 (t : Nat → Int32) : f_X7_tell (-1000004 : Int32) t = some ((-1000004 : Int32), upd t 3 (t 3 + 1)) := tell_e 3 (by decide) t
theorem tell4 (t : Nat → Int32) : f_X7_tell (-1000005 : Int32) t = some ((-1000005 : Int32), upd t 4 (t 4 + 1)) := tell_e 4 (by decide) t
theorem tell5 (t : Nat → Int32) : f_X7_tell (-1000006 : Int32) t = some ((-1000006 : Int32), upd t 5 (t 5 + 1)) := tell_e 5 (by decide) t
theorem tell6 (t : Nat → Int32) : f_X7_tell (-1000007 : Int32) t = some ((-1000007 : Int32), upd t 6 (t 6 + 1)) := tell_e 6 (by decide) t
