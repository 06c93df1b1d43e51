/-! the reference: its constructor -/
def rat4 : Nat → Int32 := upd (upd (upd (upd (fun _ => 0) 0 (nI 1)) 1 (nI 1)) 2 (nI 1)) 3 (nI 1)
def S0M : sM := (fun _ => 0, fun i => if i = 13 then rat4 else fun _ => 0)
def GM (cI cZ : ClassId) (ad : Nat → Nat) : Nat → va_E := fM cI cZ ad S0M
