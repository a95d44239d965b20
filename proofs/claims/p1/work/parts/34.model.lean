/-! THE REFERENCE: its picture -/
abbrev MdI : Type := Int32 × Int32 × Int32 × Int32 × Int32 × Int32 × Int32 × Int32 × Int32 × Int32 × Int32 × Int32 × Int32 × Bool × Int32
abbrev MdO : Type := (Nat → Int32) × (Nat → Int32) × (Nat → Int32) × (Nat → Int32) × (Nat → Int32) × (Nat → Int32)
abbrev MdS : Type := (Nat → Int32) × (Nat → Int32) × (Nat → Bool) × (Nat → Bool) × (Nat → Int32) × (Nat → Int32) × (Nat → Int32) × (Nat → Int32)
abbrev MdR : Type := (Nat → Int32) × (Nat → Int32) × (Nat → Int32) × (Nat → Int32) × (Nat → Bool)
abbrev MdW : Type := (Nat → Int32) × (Nat → Int32) × (Nat → Int32) × (Nat → Int32) × (Nat → Int32) × (Nat → Int64) × (Nat → Int32) × (Nat → Int32) × (Nat → Bool) × (Nat → Bool) × (Nat → Int32) × (Nat → Int64) × (Nat → Int32) × (Nat → Int32)
abbrev MdE : Type := (Nat → Int64) × (Nat → Int32) × (Nat → Int64)
/-- the reference's fields and arrays -/
abbrev Md : Type := MdI × MdO × MdS × MdR × MdW × MdE
def Md.nop (s : Md) : Int32 := s.1.1
def Md.nsr (s : Md) : Int32 := s.1.2.1
def Md.nrow (s : Md) : Int32 := s.1.2.2.1
def Md.nwin (s : Md) : Int32 := s.1.2.2.2.1
def Md.nres (s : Md) : Int32 := s.1.2.2.2.2.1
def Md.ever (s : Md) : Int32 := s.1.2.2.2.2.2.1
def Md.nas (s : Md) : Int32 := s.1.2.2.2.2.2.2.1
def Md.bnd (s : Md) : Int32 := s.1.2.2.2.2.2.2.2.1
def Md.rul (s : Md) : Int32 := s.1.2.2.2.2.2.2.2.2.1
def Md.drp (s : Md) : Int32 := s.1.2.2.2.2.2.2.2.2.2.1
def Md.fB (s : Md) : Int32 := s.1.2.2.2.2.2.2.2.2.2.2.1
def Md.fE (s : Md) : Int32 := s.1.2.2.2.2.2.2.2.2.2.2.2.1
def Md.jn (s : Md) : Int32 := s.1.2.2.2.2.2.2.2.2.2.2.2.2.1
def Md.jT (s : Md) : Bool := s.1.2.2.2.2.2.2.2.2.2.2.2.2.2.1
def Md.nps (s : Md) : Int32 := s.1.2.2.2.2.2.2.2.2.2.2.2.2.2.2
def Md.u_nop (s : Md) (v : Int32) : Md := ((v, s.1.2.1, s.1.2.2.1, s.1.2.2.2.1, s.1.2.2.2.2.1, s.1.2.2.2.2.2.1, s.1.2.2.2.2.2.2.1, s.1.2.2.2.2.2.2.2.1, s.1.2.2.2.2.2.2.2.2.1, s.1.2.2.2.2.2.2.2.2.2.1, s.1.2.2.2.2.2.2.2.2.2.2.1, s.1.2.2.2.2.2.2.2.2.2.2.2.1, s.1.2.2.2.2.2.2.2.2.2.2.2.2.1, s.1.2.2.2.2.2.2.2.2.2.2.2.2.2.1, s.1.2.2.2.2.2.2.2.2.2.2.2.2.2.2), s.2.1, s.2.2.1, s.2.2.2.1, s.2.2.2.2.1, s.2.2.2.2.2)
def Md.u_nsr (s : Md) (v : Int32) : Md := ((s.1.1, v, s.1.2.2.1, s.1.2.2.2.1, s.1.2.2.2.2.1, s.1.2.2.2.2.2.1, s.1.2.2.2.2.2.2.1, s.1.2.2.2.2.2.2.2.1, s.1.2.2.2.2.2.2.2.2.1, s.1.2.2.2.2.2.2.2.2.2.1, s.1.2.2.2.2.2.2.2.2.2.2.1, s.1.2.2.2.2.2.2.2.2.2.2.2.1, s.1.2.2.2.2.2.2.2.2.2.2.2.2.1, s.1.2.2.2.2.2.2.2.2.2.2.2.2.2.1, s.1.2.2.2.2.2.2.2.2.2.2.2.2.2.2), s.2.1, s.2.2.1, s.2.2.2.1, s.2.2.2.2.1, s.2.2.2.2.2)
def Md.u_nrow (s : Md) (v : Int32) : Md := ((s.1.1, s.1.2.1, v, s.1.2.2.2.1, s.1.2.2.2.2.1, s.1.2.2.2.2.2.1, s.1.2.2.2.2.2.2.1, s.1.2.2.2.2.2.2.2.1, s.1.2.2.2.2.2.2.2.2.1, s.1.2.2.2.2.2.2.2.2.2.1, s.1.2.2.2.2.2.2.2.2.2.2.1, s.1.2.2.2.2.2.2.2.2.2.2.2.1, s.1.2.2.2.2.2.2.2.2.2.2.2.2.1, s.1.2.2.2.2.2.2.2.2.2.2.2.2.2.1, s.1.2.2.2.2.2.2.2.2.2.2.2.2.2.2), s.2.1, s.2.2.1, s.2.2.2.1, s.2.2.2.2.1, s.2.2.2.2.2)
def Md.u_nwin (s : Md) (v : Int32) : Md := ((s.1.1, s.1.2.1, s.1.2.2.1, v, s.1.2.2.2.2.1, s.1.2.2.2.2.2.1, s.1.2.2.2.2.2.2.1, s.1.2.2.2.2.2.2.2.1, s.1.2.2.2.2.2.2.2.2.1, s.1.2.2.2.2.2.2.2.2.2.1, s.1.2.2.2.2.2.2.2.2.2.2.1, s.1.2.2.2.2.2.2.2.2.2.2.2.1, s.1.2.2.2.2.2.2.2.2.2.2.2.2.1, s.1.2.2.2.2.2.2.2.2.2.2.2.2.2.1, s.1.2.2.2.2.2.2.2.2.2.2.2.2.2.2), s.2.1, s.2.2.1, s.2.2.2.1, s.2.2.2.2.1, s.2.2.2.2.2)
def Md.u_nres (s : Md) (v : Int32) : Md := ((s.1.1, s.1.2.1, s.1.2.2.1, s.1.2.2.2.1, v, s.1.2.2.2.2.2.1, s.1.2.2.2.2.2.2.1, s.1.2.2.2.2.2.2.2.1, s.1.2.2.2.2.2.2.2.2.1, s.1.2.2.2.2.2.2.2.2.2.1, s.1.2.2.2.2.2.2.2.2.2.2.1, s.1.2.2.2.2.2.2.2.2.2.2.2.1, s.1.2.2.2.2.2.2.2.2.2.2.2.2.1, s.1.2.2.2.2.2.2.2.2.2.2.2.2.2.1, s.1.2.2.2.2.2.2.2.2.2.2.2.2.2.2), s.2.1, s.2.2.1, s.2.2.2.1, s.2.2.2.2.1, s.2.2.2.2.2)
def Md.u_ever (s : Md) (v : Int32) : Md := ((s.1.1, s.1.2.1, s.1.2.2.1, s.1.2.2.2.1, s.1.2.2.2.2.1, v, s.1.2.2.2.2.2.2.1, s.1.2.2.2.2.2.2.2.1, s.1.2.2.2.2.2.2.2.2.1, s.1.2.2.2.2.2.2.2.2.2.1, s.1.2.2.2.2.2.2.2.2.2.2.1, s.1.2.2.2.2.2.2.2.2.2.2.2.1, s.1.2.2.2.2.2.2.2.2.2.2.2.2.1, s.1.2.2.2.2.2.2.2.2.2.2.2.2.2.1, s.1.2.2.2.2.2.2.2.2.2.2.2.2.2.2), s.2.1, s.2.2.1, s.2.2.2.1, s.2.2.2.2.1, s.2.2.2.2.2)
def Md.u_nas (s : Md) (v : Int32) : Md := ((s.1.1, s.1.2.1, s.1.2.2.1, s.1.2.2.2.1, s.1.2.2.2.2.1, s.1.2.2.2.2.2.1, v, s.1.2.2.2.2.2.2.2.1, s.1.2.2.2.2.2.2.2.2.1, s.1.2.2.2.2.2.2.2.2.2.1, s.1.2.2.2.2.2.2.2.2.2.2.1, s.1.2.2.2.2.2.2.2.2.2.2.2.1, s.1.2.2.2.2.2.2.2.2.2.2.2.2.1, s.1.2.2.2.2.2.2.2.2.2.2.2.2.2.1, s.1.2.2.2.2.2.2.2.2.2.2.2.2.2.2), s.2.1, s.2.2.1, s.2.2.2.1, s.2.2.2.2.1, s.2.2.2.2.2)
def Md.u_bnd (s : Md) (v : Int32) : Md := ((s.1.1, s.1.2.1, s.1.2.2.1, s.1.2.2.2.1, s.1.2.2.2.2.1, s.1.2.2.2.2.2.1, s.1.2.2.2.2.2.2.1, v, s.1.2.2.2.2.2.2.2.2.1, s.1.2.2.2.2.2.2.2.2.2.1, s.1.2.2.2.2.2.2.2.2.2.2.1, s.1.2.2.2.2.2.2.2.2.2.2.2.1, s.1.2.2.2.2.2.2.2.2.2.2.2.2.1, s.1.2.2.2.2.2.2.2.2.2.2.2.2.2.1, s.1.2.2.2.2.2.2.2.2.2.2.2.2.2.2), s.2.1, s.2.2.1, s.2.2.2.1, s.2.2.2.2.1, s.2.2.2.2.2)
def Md.u_rul (s : Md) (v : Int32) : Md := ((s.1.1, s.1.2.1, s.1.2.2.1, s.1.2.2.2.1, s.1.2.2.2.2.1, s.1.2.2.2.2.2.1, s.1.2.2.2.2.2.2.1, s.1.2.2.2.2.2.2.2.1, v, s.1.2.2.2.2.2.2.2.2.2.1, s.1.2.2.2.2.2.2.2.2.2.2.1, s.1.2.2.2.2.2.2.2.2.2.2.2.1, s.1.2.2.2.2.2.2.2.2.2.2.2.2.1, s.1.2.2.2.2.2.2.2.2.2.2.2.2.2.1, s.1.2.2.2.2.2.2.2.2.2.2.2.2.2.2), s.2.1, s.2.2.1, s.2.2.2.1, s.2.2.2.2.1, s.2.2.2.2.2)
def Md.u_drp (s : Md) (v : Int32) : Md := ((s.1.1, s.1.2.1, s.1.2.2.1, s.1.2.2.2.1, s.1.2.2.2.2.1, s.1.2.2.2.2.2.1, s.1.2.2.2.2.2.2.1, s.1.2.2.2.2.2.2.2.1, s.1.2.2.2.2.2.2.2.2.1, v, s.1.2.2.2.2.2.2.2.2.2.2.1, s.1.2.2.2.2.2.2.2.2.2.2.2.1, s.1.2.2.2.2.2.2.2.2.2.2.2.2.1, s.1.2.2.2.2.2.2.2.2.2.2.2.2.2.1, s.1.2.2.2.2.2.2.2.2.2.2.2.2.2.2), s.2.1, s.2.2.1, s.2.2.2.1, s.2.2.2.2.1, s.2.2.2.2.2)
def Md.u_fB (s : Md) (v : Int32) : Md := ((s.1.1, s.1.2.1, s.1.2.2.1, s.1.2.2.2.1, s.1.2.2.2.2.1, s.1.2.2.2.2.2.1, s.1.2.2.2.2.2.2.1, s.1.2.2.2.2.2.2.2.1, s.1.2.2.2.2.2.2.2.2.1, s.1.2.2.2.2.2.2.2.2.2.1, v, s.1.2.2.2.2.2.2.2.2.2.2.2.1, s.1.2.2.2.2.2.2.2.2.2.2.2.2.1, s.1.2.2.2.2.2.2.2.2.2.2.2.2.2.1, s.1.2.2.2.2.2.2.2.2.2.2.2.2.2.2), s.2.1, s.2.2.1, s.2.2.2.1, s.2.2.2.2.1, s.2.2.2.2.2)
def Md.u_fE (s : Md) (v : Int32) : Md := ((s.1.1, s.1.2.1, s.1.2.2.1, s.1.2.2.2.1, s.1.2.2.2.2.1, s.1.2.2.2.2.2.1, s.1.2.2.2.2.2.2.1, s.1.2.2.2.2.2.2.2.1, s.1.2.2.2.2.2.2.2.2.1, s.1.2.2.2.2.2.2.2.2.2.1, s.1.2.2.2.2.2.2.2.2.2.2.1, v, s.1.2.2.2.2.2.2.2.2.2.2.2.2.1, s.1.2.2.2.2.2.2.2.2.2.2.2.2.2.1, s.1.2.2.2.2.2.2.2.2.2.2.2.2.2.2), s.2.1, s.2.2.1, s.2.2.2.1, s.2.2.2.2.1, s.2.2.2.2.2)
def Md.u_jn (s : Md) (v : Int32) : Md := ((s.1.1, s.1.2.1, s.1.2.2.1, s.1.2.2.2.1, s.1.2.2.2.2.1, s.1.2.2.2.2.2.1, s.1.2.2.2.2.2.2.1, s.1.2.2.2.2.2.2.2.1, s.1.2.2.2.2.2.2.2.2.1, s.1.2.2.2.2.2.2.2.2.2.1, s.1.2.2.2.2.2.2.2.2.2.2.1, s.1.2.2.2.2.2.2.2.2.2.2.2.1, v, s.1.2.2.2.2.2.2.2.2.2.2.2.2.2.1, s.1.2.2.2.2.2.2.2.2.2.2.2.2.2.2), s.2.1, s.2.2.1, s.2.2.2.1, s.2.2.2.2.1, s.2.2.2.2.2)
def Md.u_jT (s : Md) (v : Bool) : Md := ((s.1.1, s.1.2.1, s.1.2.2.1, s.1.2.2.2.1, s.1.2.2.2.2.1, s.1.2.2.2.2.2.1, s.1.2.2.2.2.2.2.1, s.1.2.2.2.2.2.2.2.1, s.1.2.2.2.2.2.2.2.2.1, s.1.2.2.2.2.2.2.2.2.2.1, s.1.2.2.2.2.2.2.2.2.2.2.1, s.1.2.2.2.2.2.2.2.2.2.2.2.1, s.1.2.2.2.2.2.2.2.2.2.2.2.2.1, v, s.1.2.2.2.2.2.2.2.2.2.2.2.2.2.2), s.2.1, s.2.2.1, s.2.2.2.1, s.2.2.2.2.1, s.2.2.2.2.2)
def Md.u_nps (s : Md) (v : Int32) : Md := ((s.1.1, s.1.2.1, s.1.2.2.1, s.1.2.2.2.1, s.1.2.2.2.2.1, s.1.2.2.2.2.2.1, s.1.2.2.2.2.2.2.1, s.1.2.2.2.2.2.2.2.1, s.1.2.2.2.2.2.2.2.2.1, s.1.2.2.2.2.2.2.2.2.2.1, s.1.2.2.2.2.2.2.2.2.2.2.1, s.1.2.2.2.2.2.2.2.2.2.2.2.1, s.1.2.2.2.2.2.2.2.2.2.2.2.2.1, s.1.2.2.2.2.2.2.2.2.2.2.2.2.2.1, v), s.2.1, s.2.2.1, s.2.2.2.1, s.2.2.2.2.1, s.2.2.2.2.2)
def Md.oKind (s : Md) : (Nat → Int32) := s.2.1.1
def Md.oSize (s : Md) : (Nat → Int32) := s.2.1.2.1
def Md.oStep (s : Md) : (Nat → Int32) := s.2.1.2.2.1
def Md.oLt (s : Md) : (Nat → Int32) := s.2.1.2.2.2.1
def Md.oRule (s : Md) : (Nat → Int32) := s.2.1.2.2.2.2.1
def Md.oMark (s : Md) : (Nat → Int32) := s.2.1.2.2.2.2.2
def Md.u_oKind (s : Md) (v : (Nat → Int32)) : Md := (s.1, (v, s.2.1.2.1, s.2.1.2.2.1, s.2.1.2.2.2.1, s.2.1.2.2.2.2.1, s.2.1.2.2.2.2.2), s.2.2.1, s.2.2.2.1, s.2.2.2.2.1, s.2.2.2.2.2)
def Md.u_oSize (s : Md) (v : (Nat → Int32)) : Md := (s.1, (s.2.1.1, v, s.2.1.2.2.1, s.2.1.2.2.2.1, s.2.1.2.2.2.2.1, s.2.1.2.2.2.2.2), s.2.2.1, s.2.2.2.1, s.2.2.2.2.1, s.2.2.2.2.2)
def Md.u_oStep (s : Md) (v : (Nat → Int32)) : Md := (s.1, (s.2.1.1, s.2.1.2.1, v, s.2.1.2.2.2.1, s.2.1.2.2.2.2.1, s.2.1.2.2.2.2.2), s.2.2.1, s.2.2.2.1, s.2.2.2.2.1, s.2.2.2.2.2)
def Md.u_oLt (s : Md) (v : (Nat → Int32)) : Md := (s.1, (s.2.1.1, s.2.1.2.1, s.2.1.2.2.1, v, s.2.1.2.2.2.2.1, s.2.1.2.2.2.2.2), s.2.2.1, s.2.2.2.1, s.2.2.2.2.1, s.2.2.2.2.2)
def Md.u_oRule (s : Md) (v : (Nat → Int32)) : Md := (s.1, (s.2.1.1, s.2.1.2.1, s.2.1.2.2.1, s.2.1.2.2.2.1, v, s.2.1.2.2.2.2.2), s.2.2.1, s.2.2.2.1, s.2.2.2.2.1, s.2.2.2.2.2)
def Md.u_oMark (s : Md) (v : (Nat → Int32)) : Md := (s.1, (s.2.1.1, s.2.1.2.1, s.2.1.2.2.1, s.2.1.2.2.2.1, s.2.1.2.2.2.2.1, v), s.2.2.1, s.2.2.2.1, s.2.2.2.2.1, s.2.2.2.2.2)
def Md.sOp (s : Md) : (Nat → Int32) := s.2.2.1.1
def Md.sProm (s : Md) : (Nat → Int32) := s.2.2.1.2.1
def Md.sEnd (s : Md) : (Nat → Bool) := s.2.2.1.2.2.1
def Md.sStop (s : Md) : (Nat → Bool) := s.2.2.1.2.2.2.1
def Md.sUsed (s : Md) : (Nat → Int32) := s.2.2.1.2.2.2.2.1
def Md.sAside (s : Md) : (Nat → Int32) := s.2.2.1.2.2.2.2.2.1
def Md.sBrok (s : Md) : (Nat → Int32) := s.2.2.1.2.2.2.2.2.2.1
def Md.sFirst (s : Md) : (Nat → Int32) := s.2.2.1.2.2.2.2.2.2.2
def Md.u_sOp (s : Md) (v : (Nat → Int32)) : Md := (s.1, s.2.1, (v, s.2.2.1.2.1, s.2.2.1.2.2.1, s.2.2.1.2.2.2.1, s.2.2.1.2.2.2.2.1, s.2.2.1.2.2.2.2.2.1, s.2.2.1.2.2.2.2.2.2.1, s.2.2.1.2.2.2.2.2.2.2), s.2.2.2.1, s.2.2.2.2.1, s.2.2.2.2.2)
def Md.u_sProm (s : Md) (v : (Nat → Int32)) : Md := (s.1, s.2.1, (s.2.2.1.1, v, s.2.2.1.2.2.1, s.2.2.1.2.2.2.1, s.2.2.1.2.2.2.2.1, s.2.2.1.2.2.2.2.2.1, s.2.2.1.2.2.2.2.2.2.1, s.2.2.1.2.2.2.2.2.2.2), s.2.2.2.1, s.2.2.2.2.1, s.2.2.2.2.2)
def Md.u_sEnd (s : Md) (v : (Nat → Bool)) : Md := (s.1, s.2.1, (s.2.2.1.1, s.2.2.1.2.1, v, s.2.2.1.2.2.2.1, s.2.2.1.2.2.2.2.1, s.2.2.1.2.2.2.2.2.1, s.2.2.1.2.2.2.2.2.2.1, s.2.2.1.2.2.2.2.2.2.2), s.2.2.2.1, s.2.2.2.2.1, s.2.2.2.2.2)
def Md.u_sStop (s : Md) (v : (Nat → Bool)) : Md := (s.1, s.2.1, (s.2.2.1.1, s.2.2.1.2.1, s.2.2.1.2.2.1, v, s.2.2.1.2.2.2.2.1, s.2.2.1.2.2.2.2.2.1, s.2.2.1.2.2.2.2.2.2.1, s.2.2.1.2.2.2.2.2.2.2), s.2.2.2.1, s.2.2.2.2.1, s.2.2.2.2.2)
def Md.u_sUsed (s : Md) (v : (Nat → Int32)) : Md := (s.1, s.2.1, (s.2.2.1.1, s.2.2.1.2.1, s.2.2.1.2.2.1, s.2.2.1.2.2.2.1, v, s.2.2.1.2.2.2.2.2.1, s.2.2.1.2.2.2.2.2.2.1, s.2.2.1.2.2.2.2.2.2.2), s.2.2.2.1, s.2.2.2.2.1, s.2.2.2.2.2)
def Md.u_sAside (s : Md) (v : (Nat → Int32)) : Md := (s.1, s.2.1, (s.2.2.1.1, s.2.2.1.2.1, s.2.2.1.2.2.1, s.2.2.1.2.2.2.1, s.2.2.1.2.2.2.2.1, v, s.2.2.1.2.2.2.2.2.2.1, s.2.2.1.2.2.2.2.2.2.2), s.2.2.2.1, s.2.2.2.2.1, s.2.2.2.2.2)
def Md.u_sBrok (s : Md) (v : (Nat → Int32)) : Md := (s.1, s.2.1, (s.2.2.1.1, s.2.2.1.2.1, s.2.2.1.2.2.1, s.2.2.1.2.2.2.1, s.2.2.1.2.2.2.2.1, s.2.2.1.2.2.2.2.2.1, v, s.2.2.1.2.2.2.2.2.2.2), s.2.2.2.1, s.2.2.2.2.1, s.2.2.2.2.2)
def Md.u_sFirst (s : Md) (v : (Nat → Int32)) : Md := (s.1, s.2.1, (s.2.2.1.1, s.2.2.1.2.1, s.2.2.1.2.2.1, s.2.2.1.2.2.2.1, s.2.2.1.2.2.2.2.1, s.2.2.1.2.2.2.2.2.1, s.2.2.1.2.2.2.2.2.2.1, v), s.2.2.2.1, s.2.2.2.2.1, s.2.2.2.2.2)
def Md.rSrc (s : Md) : (Nat → Int32) := s.2.2.2.1.1
def Md.rKey (s : Md) : (Nat → Int32) := s.2.2.2.1.2.1
def Md.rTime (s : Md) : (Nat → Int32) := s.2.2.2.1.2.2.1
def Md.rV (s : Md) : (Nat → Int32) := s.2.2.2.1.2.2.2.1
def Md.rUsed (s : Md) : (Nat → Bool) := s.2.2.2.1.2.2.2.2
def Md.u_rSrc (s : Md) (v : (Nat → Int32)) : Md := (s.1, s.2.1, s.2.2.1, (v, s.2.2.2.1.2.1, s.2.2.2.1.2.2.1, s.2.2.2.1.2.2.2.1, s.2.2.2.1.2.2.2.2), s.2.2.2.2.1, s.2.2.2.2.2)
def Md.u_rKey (s : Md) (v : (Nat → Int32)) : Md := (s.1, s.2.1, s.2.2.1, (s.2.2.2.1.1, v, s.2.2.2.1.2.2.1, s.2.2.2.1.2.2.2.1, s.2.2.2.1.2.2.2.2), s.2.2.2.2.1, s.2.2.2.2.2)
def Md.u_rTime (s : Md) (v : (Nat → Int32)) : Md := (s.1, s.2.1, s.2.2.1, (s.2.2.2.1.1, s.2.2.2.1.2.1, v, s.2.2.2.1.2.2.2.1, s.2.2.2.1.2.2.2.2), s.2.2.2.2.1, s.2.2.2.2.2)
def Md.u_rV (s : Md) (v : (Nat → Int32)) : Md := (s.1, s.2.1, s.2.2.1, (s.2.2.2.1.1, s.2.2.2.1.2.1, s.2.2.2.1.2.2.1, v, s.2.2.2.1.2.2.2.2), s.2.2.2.2.1, s.2.2.2.2.2)
def Md.u_rUsed (s : Md) (v : (Nat → Bool)) : Md := (s.1, s.2.1, s.2.2.1, (s.2.2.2.1.1, s.2.2.2.1.2.1, s.2.2.2.1.2.2.1, s.2.2.2.1.2.2.2.1, v), s.2.2.2.2.1, s.2.2.2.2.2)
def Md.wOp (s : Md) : (Nat → Int32) := s.2.2.2.2.1.1
def Md.wKey (s : Md) : (Nat → Int32) := s.2.2.2.2.1.2.1
def Md.wBeg (s : Md) : (Nat → Int32) := s.2.2.2.2.1.2.2.1
def Md.wEnd (s : Md) : (Nat → Int32) := s.2.2.2.2.1.2.2.2.1
def Md.wMany (s : Md) : (Nat → Int32) := s.2.2.2.2.1.2.2.2.2.1
def Md.wSum (s : Md) : (Nat → Int64) := s.2.2.2.2.1.2.2.2.2.2.1
def Md.wLeast (s : Md) : (Nat → Int32) := s.2.2.2.2.1.2.2.2.2.2.2.1
def Md.wMost (s : Md) : (Nat → Int32) := s.2.2.2.2.1.2.2.2.2.2.2.2.1
def Md.wTold (s : Md) : (Nat → Bool) := s.2.2.2.2.1.2.2.2.2.2.2.2.2.1
def Md.wCame (s : Md) : (Nat → Bool) := s.2.2.2.2.1.2.2.2.2.2.2.2.2.2.1
def Md.tMany (s : Md) : (Nat → Int32) := s.2.2.2.2.1.2.2.2.2.2.2.2.2.2.2.1
def Md.tSum (s : Md) : (Nat → Int64) := s.2.2.2.2.1.2.2.2.2.2.2.2.2.2.2.2.1
def Md.tLeast (s : Md) : (Nat → Int32) := s.2.2.2.2.1.2.2.2.2.2.2.2.2.2.2.2.2.1
def Md.tMost (s : Md) : (Nat → Int32) := s.2.2.2.2.1.2.2.2.2.2.2.2.2.2.2.2.2.2
def Md.u_wOp (s : Md) (v : (Nat → Int32)) : Md := (s.1, s.2.1, s.2.2.1, s.2.2.2.1, (v, s.2.2.2.2.1.2.1, s.2.2.2.2.1.2.2.1, s.2.2.2.2.1.2.2.2.1, s.2.2.2.2.1.2.2.2.2.1, s.2.2.2.2.1.2.2.2.2.2.1, s.2.2.2.2.1.2.2.2.2.2.2.1, s.2.2.2.2.1.2.2.2.2.2.2.2.1, s.2.2.2.2.1.2.2.2.2.2.2.2.2.1, s.2.2.2.2.1.2.2.2.2.2.2.2.2.2.1, s.2.2.2.2.1.2.2.2.2.2.2.2.2.2.2.1, s.2.2.2.2.1.2.2.2.2.2.2.2.2.2.2.2.1, s.2.2.2.2.1.2.2.2.2.2.2.2.2.2.2.2.2.1, s.2.2.2.2.1.2.2.2.2.2.2.2.2.2.2.2.2.2), s.2.2.2.2.2)
def Md.u_wKey (s : Md) (v : (Nat → Int32)) : Md := (s.1, s.2.1, s.2.2.1, s.2.2.2.1, (s.2.2.2.2.1.1, v, s.2.2.2.2.1.2.2.1, s.2.2.2.2.1.2.2.2.1, s.2.2.2.2.1.2.2.2.2.1, s.2.2.2.2.1.2.2.2.2.2.1, s.2.2.2.2.1.2.2.2.2.2.2.1, s.2.2.2.2.1.2.2.2.2.2.2.2.1, s.2.2.2.2.1.2.2.2.2.2.2.2.2.1, s.2.2.2.2.1.2.2.2.2.2.2.2.2.2.1, s.2.2.2.2.1.2.2.2.2.2.2.2.2.2.2.1, s.2.2.2.2.1.2.2.2.2.2.2.2.2.2.2.2.1, s.2.2.2.2.1.2.2.2.2.2.2.2.2.2.2.2.2.1, s.2.2.2.2.1.2.2.2.2.2.2.2.2.2.2.2.2.2), s.2.2.2.2.2)
def Md.u_wBeg (s : Md) (v : (Nat → Int32)) : Md := (s.1, s.2.1, s.2.2.1, s.2.2.2.1, (s.2.2.2.2.1.1, s.2.2.2.2.1.2.1, v, s.2.2.2.2.1.2.2.2.1, s.2.2.2.2.1.2.2.2.2.1, s.2.2.2.2.1.2.2.2.2.2.1, s.2.2.2.2.1.2.2.2.2.2.2.1, s.2.2.2.2.1.2.2.2.2.2.2.2.1, s.2.2.2.2.1.2.2.2.2.2.2.2.2.1, s.2.2.2.2.1.2.2.2.2.2.2.2.2.2.1, s.2.2.2.2.1.2.2.2.2.2.2.2.2.2.2.1, s.2.2.2.2.1.2.2.2.2.2.2.2.2.2.2.2.1, s.2.2.2.2.1.2.2.2.2.2.2.2.2.2.2.2.2.1, s.2.2.2.2.1.2.2.2.2.2.2.2.2.2.2.2.2.2), s.2.2.2.2.2)
def Md.u_wEnd (s : Md) (v : (Nat → Int32)) : Md := (s.1, s.2.1, s.2.2.1, s.2.2.2.1, (s.2.2.2.2.1.1, s.2.2.2.2.1.2.1, s.2.2.2.2.1.2.2.1, v, s.2.2.2.2.1.2.2.2.2.1, s.2.2.2.2.1.2.2.2.2.2.1, s.2.2.2.2.1.2.2.2.2.2.2.1, s.2.2.2.2.1.2.2.2.2.2.2.2.1, s.2.2.2.2.1.2.2.2.2.2.2.2.2.1, s.2.2.2.2.1.2.2.2.2.2.2.2.2.2.1, s.2.2.2.2.1.2.2.2.2.2.2.2.2.2.2.1, s.2.2.2.2.1.2.2.2.2.2.2.2.2.2.2.2.1, s.2.2.2.2.1.2.2.2.2.2.2.2.2.2.2.2.2.1, s.2.2.2.2.1.2.2.2.2.2.2.2.2.2.2.2.2.2), s.2.2.2.2.2)
def Md.u_wMany (s : Md) (v : (Nat → Int32)) : Md := (s.1, s.2.1, s.2.2.1, s.2.2.2.1, (s.2.2.2.2.1.1, s.2.2.2.2.1.2.1, s.2.2.2.2.1.2.2.1, s.2.2.2.2.1.2.2.2.1, v, s.2.2.2.2.1.2.2.2.2.2.1, s.2.2.2.2.1.2.2.2.2.2.2.1, s.2.2.2.2.1.2.2.2.2.2.2.2.1, s.2.2.2.2.1.2.2.2.2.2.2.2.2.1, s.2.2.2.2.1.2.2.2.2.2.2.2.2.2.1, s.2.2.2.2.1.2.2.2.2.2.2.2.2.2.2.1, s.2.2.2.2.1.2.2.2.2.2.2.2.2.2.2.2.1, s.2.2.2.2.1.2.2.2.2.2.2.2.2.2.2.2.2.1, s.2.2.2.2.1.2.2.2.2.2.2.2.2.2.2.2.2.2), s.2.2.2.2.2)
def Md.u_wSum (s : Md) (v : (Nat → Int64)) : Md := (s.1, s.2.1, s.2.2.1, s.2.2.2.1, (s.2.2.2.2.1.1, s.2.2.2.2.1.2.1, s.2.2.2.2.1.2.2.1, s.2.2.2.2.1.2.2.2.1, s.2.2.2.2.1.2.2.2.2.1, v, s.2.2.2.2.1.2.2.2.2.2.2.1, s.2.2.2.2.1.2.2.2.2.2.2.2.1, s.2.2.2.2.1.2.2.2.2.2.2.2.2.1, s.2.2.2.2.1.2.2.2.2.2.2.2.2.2.1, s.2.2.2.2.1.2.2.2.2.2.2.2.2.2.2.1, s.2.2.2.2.1.2.2.2.2.2.2.2.2.2.2.2.1, s.2.2.2.2.1.2.2.2.2.2.2.2.2.2.2.2.2.1, s.2.2.2.2.1.2.2.2.2.2.2.2.2.2.2.2.2.2), s.2.2.2.2.2)
def Md.u_wLeast (s : Md) (v : (Nat → Int32)) : Md := (s.1, s.2.1, s.2.2.1, s.2.2.2.1, (s.2.2.2.2.1.1, s.2.2.2.2.1.2.1, s.2.2.2.2.1.2.2.1, s.2.2.2.2.1.2.2.2.1, s.2.2.2.2.1.2.2.2.2.1, s.2.2.2.2.1.2.2.2.2.2.1, v, s.2.2.2.2.1.2.2.2.2.2.2.2.1, s.2.2.2.2.1.2.2.2.2.2.2.2.2.1, s.2.2.2.2.1.2.2.2.2.2.2.2.2.2.1, s.2.2.2.2.1.2.2.2.2.2.2.2.2.2.2.1, s.2.2.2.2.1.2.2.2.2.2.2.2.2.2.2.2.1, s.2.2.2.2.1.2.2.2.2.2.2.2.2.2.2.2.2.1, s.2.2.2.2.1.2.2.2.2.2.2.2.2.2.2.2.2.2), s.2.2.2.2.2)
def Md.u_wMost (s : Md) (v : (Nat → Int32)) : Md := (s.1, s.2.1, s.2.2.1, s.2.2.2.1, (s.2.2.2.2.1.1, s.2.2.2.2.1.2.1, s.2.2.2.2.1.2.2.1, s.2.2.2.2.1.2.2.2.1, s.2.2.2.2.1.2.2.2.2.1, s.2.2.2.2.1.2.2.2.2.2.1, s.2.2.2.2.1.2.2.2.2.2.2.1, v, s.2.2.2.2.1.2.2.2.2.2.2.2.2.1, s.2.2.2.2.1.2.2.2.2.2.2.2.2.2.1, s.2.2.2.2.1.2.2.2.2.2.2.2.2.2.2.1, s.2.2.2.2.1.2.2.2.2.2.2.2.2.2.2.2.1, s.2.2.2.2.1.2.2.2.2.2.2.2.2.2.2.2.2.1, s.2.2.2.2.1.2.2.2.2.2.2.2.2.2.2.2.2.2), s.2.2.2.2.2)
def Md.u_wTold (s : Md) (v : (Nat → Bool)) : Md := (s.1, s.2.1, s.2.2.1, s.2.2.2.1, (s.2.2.2.2.1.1, s.2.2.2.2.1.2.1, s.2.2.2.2.1.2.2.1, s.2.2.2.2.1.2.2.2.1, s.2.2.2.2.1.2.2.2.2.1, s.2.2.2.2.1.2.2.2.2.2.1, s.2.2.2.2.1.2.2.2.2.2.2.1, s.2.2.2.2.1.2.2.2.2.2.2.2.1, v, s.2.2.2.2.1.2.2.2.2.2.2.2.2.2.1, s.2.2.2.2.1.2.2.2.2.2.2.2.2.2.2.1, s.2.2.2.2.1.2.2.2.2.2.2.2.2.2.2.2.1, s.2.2.2.2.1.2.2.2.2.2.2.2.2.2.2.2.2.1, s.2.2.2.2.1.2.2.2.2.2.2.2.2.2.2.2.2.2), s.2.2.2.2.2)
def Md.u_wCame (s : Md) (v : (Nat → Bool)) : Md := (s.1, s.2.1, s.2.2.1, s.2.2.2.1, (s.2.2.2.2.1.1, s.2.2.2.2.1.2.1, s.2.2.2.2.1.2.2.1, s.2.2.2.2.1.2.2.2.1, s.2.2.2.2.1.2.2.2.2.1, s.2.2.2.2.1.2.2.2.2.2.1, s.2.2.2.2.1.2.2.2.2.2.2.1, s.2.2.2.2.1.2.2.2.2.2.2.2.1, s.2.2.2.2.1.2.2.2.2.2.2.2.2.1, v, s.2.2.2.2.1.2.2.2.2.2.2.2.2.2.2.1, s.2.2.2.2.1.2.2.2.2.2.2.2.2.2.2.2.1, s.2.2.2.2.1.2.2.2.2.2.2.2.2.2.2.2.2.1, s.2.2.2.2.1.2.2.2.2.2.2.2.2.2.2.2.2.2), s.2.2.2.2.2)
def Md.u_tMany (s : Md) (v : (Nat → Int32)) : Md := (s.1, s.2.1, s.2.2.1, s.2.2.2.1, (s.2.2.2.2.1.1, s.2.2.2.2.1.2.1, s.2.2.2.2.1.2.2.1, s.2.2.2.2.1.2.2.2.1, s.2.2.2.2.1.2.2.2.2.1, s.2.2.2.2.1.2.2.2.2.2.1, s.2.2.2.2.1.2.2.2.2.2.2.1, s.2.2.2.2.1.2.2.2.2.2.2.2.1, s.2.2.2.2.1.2.2.2.2.2.2.2.2.1, s.2.2.2.2.1.2.2.2.2.2.2.2.2.2.1, v, s.2.2.2.2.1.2.2.2.2.2.2.2.2.2.2.2.1, s.2.2.2.2.1.2.2.2.2.2.2.2.2.2.2.2.2.1, s.2.2.2.2.1.2.2.2.2.2.2.2.2.2.2.2.2.2), s.2.2.2.2.2)
def Md.u_tSum (s : Md) (v : (Nat → Int64)) : Md := (s.1, s.2.1, s.2.2.1, s.2.2.2.1, (s.2.2.2.2.1.1, s.2.2.2.2.1.2.1, s.2.2.2.2.1.2.2.1, s.2.2.2.2.1.2.2.2.1, s.2.2.2.2.1.2.2.2.2.1, s.2.2.2.2.1.2.2.2.2.2.1, s.2.2.2.2.1.2.2.2.2.2.2.1, s.2.2.2.2.1.2.2.2.2.2.2.2.1, s.2.2.2.2.1.2.2.2.2.2.2.2.2.1, s.2.2.2.2.1.2.2.2.2.2.2.2.2.2.1, s.2.2.2.2.1.2.2.2.2.2.2.2.2.2.2.1, v, s.2.2.2.2.1.2.2.2.2.2.2.2.2.2.2.2.2.1, s.2.2.2.2.1.2.2.2.2.2.2.2.2.2.2.2.2.2), s.2.2.2.2.2)
def Md.u_tLeast (s : Md) (v : (Nat → Int32)) : Md := (s.1, s.2.1, s.2.2.1, s.2.2.2.1, (s.2.2.2.2.1.1, s.2.2.2.2.1.2.1, s.2.2.2.2.1.2.2.1, s.2.2.2.2.1.2.2.2.1, s.2.2.2.2.1.2.2.2.2.1, s.2.2.2.2.1.2.2.2.2.2.1, s.2.2.2.2.1.2.2.2.2.2.2.1, s.2.2.2.2.1.2.2.2.2.2.2.2.1, s.2.2.2.2.1.2.2.2.2.2.2.2.2.1, s.2.2.2.2.1.2.2.2.2.2.2.2.2.2.1, s.2.2.2.2.1.2.2.2.2.2.2.2.2.2.2.1, s.2.2.2.2.1.2.2.2.2.2.2.2.2.2.2.2.1, v, s.2.2.2.2.1.2.2.2.2.2.2.2.2.2.2.2.2.2), s.2.2.2.2.2)
def Md.u_tMost (s : Md) (v : (Nat → Int32)) : Md := (s.1, s.2.1, s.2.2.1, s.2.2.2.1, (s.2.2.2.2.1.1, s.2.2.2.2.1.2.1, s.2.2.2.2.1.2.2.1, s.2.2.2.2.1.2.2.2.1, s.2.2.2.2.1.2.2.2.2.1, s.2.2.2.2.1.2.2.2.2.2.1, s.2.2.2.2.1.2.2.2.2.2.2.1, s.2.2.2.2.1.2.2.2.2.2.2.2.1, s.2.2.2.2.1.2.2.2.2.2.2.2.2.1, s.2.2.2.2.1.2.2.2.2.2.2.2.2.2.1, s.2.2.2.2.1.2.2.2.2.2.2.2.2.2.2.1, s.2.2.2.2.1.2.2.2.2.2.2.2.2.2.2.2.1, s.2.2.2.2.1.2.2.2.2.2.2.2.2.2.2.2.2.1, v), s.2.2.2.2.2)
def Md.eRow (s : Md) : (Nat → Int64) := s.2.2.2.2.2.1
def Md.aRow (s : Md) : (Nat → Int32) := s.2.2.2.2.2.2.1
def Md.pRow (s : Md) : (Nat → Int64) := s.2.2.2.2.2.2.2
def Md.u_eRow (s : Md) (v : (Nat → Int64)) : Md := (s.1, s.2.1, s.2.2.1, s.2.2.2.1, s.2.2.2.2.1, (v, s.2.2.2.2.2.2.1, s.2.2.2.2.2.2.2))
def Md.u_aRow (s : Md) (v : (Nat → Int32)) : Md := (s.1, s.2.1, s.2.2.1, s.2.2.2.1, s.2.2.2.2.1, (s.2.2.2.2.2.1, v, s.2.2.2.2.2.2.2))
def Md.u_pRow (s : Md) (v : (Nat → Int64)) : Md := (s.1, s.2.1, s.2.2.1, s.2.2.2.1, s.2.2.2.2.1, (s.2.2.2.2.2.1, s.2.2.2.2.2.2.1, v))
def md (y : Nat) (s : Md) : List rv_E := [.inl (k_Model, [.int s.nop, .ref (y + 1), .ref (y + 2), .ref (y + 3), .ref (y + 4), .ref (y + 5), .ref (y + 6), .int s.nsr, .ref (y + 7), .ref (y + 8), .ref (y + 9), .ref (y + 10), .ref (y + 11), .ref (y + 12), .ref (y + 13), .ref (y + 14), .int s.nrow, .ref (y + 15), .ref (y + 16), .ref (y + 17), .ref (y + 18), .ref (y + 19), .int s.nwin, .ref (y + 20), .ref (y + 21), .ref (y + 22), .ref (y + 23), .ref (y + 24), .ref (y + 25), .ref (y + 26), .ref (y + 27), .ref (y + 28), .ref (y + 29), .ref (y + 30), .ref (y + 31), .ref (y + 32), .ref (y + 33), .int s.nres, .int s.ever, .ref (y + 34), .int s.nas, .ref (y + 35), .int s.bnd, .int s.rul, .int s.drp, .int s.fB, .int s.fE, .int s.jn, .int (rv_b s.jT), .int s.nps, .ref (y + 36)]), rv_aI 5 s.oKind, rv_aI 5 s.oSize, rv_aI 5 s.oStep, rv_aI 5 s.oLt, rv_aI 5 s.oRule, rv_aI 5 s.oMark, rv_aI 10 s.sOp, rv_aI 10 s.sProm, rv_aZ 10 s.sEnd, rv_aZ 10 s.sStop, rv_aI 10 s.sUsed, rv_aI 10 s.sAside, rv_aI 10 s.sBrok, rv_aI 10 s.sFirst, rv_aI 300 s.rSrc, rv_aI 300 s.rKey, rv_aI 300 s.rTime, rv_aI 300 s.rV, rv_aZ 300 s.rUsed, rv_aI 120 s.wOp, rv_aI 120 s.wKey, rv_aI 120 s.wBeg, rv_aI 120 s.wEnd, rv_aI 120 s.wMany, rv_aJ 120 s.wSum, rv_aI 120 s.wLeast, rv_aI 120 s.wMost, rv_aZ 120 s.wTold, rv_aZ 120 s.wCame, rv_aI 120 s.tMany, rv_aJ 120 s.tSum, rv_aI 120 s.tLeast, rv_aI 120 s.tMost, rv_aJ 3600 s.eRow, rv_aI 505 s.aRow, rv_aJ 16800 s.pRow]
def mdS (y q : Nat) : Prop := y ≤ q ∧ q < y + 37
/-- from σ0 on only the reference's cells have changed, and they are L -/
def MI (σ0 σ : rv_S) (y : Nat) (L : List rv_E) : Prop := σ.1 = σ0.1 ∧ (∀ i c, rv_nth L i = some c → σ.2 (y + i) = some c) ∧ rv_only (mdS y) σ0.2 σ.2
theorem nth_set {α : Type} : ∀ (L : List α) (J i : Nat) (c c' : α), rv_nth (L.set J c) i = some c' → (i = J ∧ c' = c) ∨ (i ≠ J ∧ rv_nth L i = some c')
  | [], J, i, c, c', h => by cases J <;> cases h
  | a :: L, 0, 0, c, c', h => Or.inl ⟨rfl, (Option.some.inj h).symm⟩
  | a :: L, 0, i + 1, c, c', h => Or.inr ⟨by omega, h⟩
  | a :: L, J + 1, 0, c, c', h => Or.inr ⟨by omega, h⟩
  | a :: L, J + 1, i + 1, c, c', h => by
    rcases nth_set L J i c c' h with ⟨h1, h2⟩ | ⟨h1, h2⟩
    · exact Or.inl ⟨by omega, h2⟩
    · exact Or.inr ⟨by omega, h2⟩
theorem MI.at {σ0 σ : rv_S} {y : Nat} {L : List rv_E} (h : MI σ0 σ y L) (i : Nat) {c : rv_E} (hc : rv_nth L i = some c) : σ.2 (y + i) = some c := h.2.1 i c hc
theorem MI.up {σ0 σ : rv_S} {y : Nat} {L : List rv_E} (h : MI σ0 σ y L) (J : Nat) (hJ : J < 37) (c : rv_E) : MI σ0 (σ.1, rv_up σ.2 (y + J) c) y (L.set J c) := by
  refine ⟨h.1, fun i c' hc => ?_, h.2.2.tr (rv_only.up ⟨by omega, by omega⟩)⟩
  rcases nth_set L J i c c' hc with ⟨h1, h2⟩ | ⟨h1, h2⟩
  · subst h1; subst h2; exact rv_up_s
  · exact (rv_up_n (by omega)).trans (h.2.1 i c' h2)
theorem MI.ld {G : rv_G} {M : rv_M} {mc ms : Nat} {Rt : Option Value → rv_S → Prop} {stops : List Nat} {K : Nat → rv_L → List Value → rv_S → Nat → Nat → Prop} {k pc : Nat} {ls : rv_L} {st : List Value} {ce sl : Nat} {σ0 σ : rv_S} {y : Nat} {L : List rv_E} (h : MI σ0 σ y L) (J : Nat) {n : Nat} {f : Nat → Int32} (hJ : rv_nth L J = some (rv_aI n f)) {vi : Int32} {w : Nat} (ei : vi = nI w) (hw : w < n) (next : rv_bx G M mc ms Rt stops K k pc ls (.int (f w) :: st) σ ce sl) (hn : n < 2147483648 := by decide) : ∃ (n : Nat) (f : Nat → Int32), (σ.2 (y + J) = some (rv_aI n f) ∨ σ.2 (y + J) = some (rv_aT n f)) ∧ vp_in vi n ∧ rv_bx G M mc ms Rt stops K k pc ls (.int (f vi.toNatClampNeg) :: st) σ ce sl :=
  ⟨n, f, Or.inl (h.at J hJ), by rw [ei]; exact vp_in_nI hw (by omega), by rw [ei, nI_clamp (by omega)]; exact next⟩
theorem MI.ldJ {G : rv_G} {M : rv_M} {mc ms : Nat} {Rt : Option Value → rv_S → Prop} {stops : List Nat} {K : Nat → rv_L → List Value → rv_S → Nat → Nat → Prop} {k pc : Nat} {ls : rv_L} {st : List Value} {ce sl : Nat} {σ0 σ : rv_S} {y : Nat} {L : List rv_E} (h : MI σ0 σ y L) (J : Nat) {n : Nat} {f : Nat → Int64} (hJ : rv_nth L J = some (rv_aJ n f)) {vi : Int32} {w : Nat} (ei : vi = nI w) (hw : w < n) (next : rv_bx G M mc ms Rt stops K k pc ls (.long (f w) :: st) σ ce sl) (hn : n < 2147483648 := by decide) : ∃ (n : Nat) (f : Nat → Int64), σ.2 (y + J) = some (rv_aJ n f) ∧ vp_in vi n ∧ rv_bx G M mc ms Rt stops K k pc ls (.long (f vi.toNatClampNeg) :: st) σ ce sl :=
  ⟨n, f, h.at J hJ, by rw [ei]; exact vp_in_nI hw (by omega), by rw [ei, nI_clamp (by omega)]; exact next⟩
theorem MI.ldZ {G : rv_G} {M : rv_M} {mc ms : Nat} {Rt : Option Value → rv_S → Prop} {stops : List Nat} {K : Nat → rv_L → List Value → rv_S → Nat → Nat → Prop} {k pc : Nat} {ls : rv_L} {st : List Value} {ce sl : Nat} {σ0 σ : rv_S} {y : Nat} {L : List rv_E} (h : MI σ0 σ y L) (J : Nat) {n : Nat} {f : Nat → Bool} (hJ : rv_nth L J = some (rv_aZ n f)) {vi : Int32} {w : Nat} (ei : vi = nI w) (hw : w < n) (next : rv_bx G M mc ms Rt stops K k pc ls (.int (rv_b (f w)) :: st) σ ce sl) (hn : n < 2147483648 := by decide) : ∃ (n : Nat) (f : Nat → Bool), σ.2 (y + J) = some (rv_aZ n f) ∧ vp_in vi n ∧ rv_bx G M mc ms Rt stops K k pc ls (.int (rv_b (f vi.toNatClampNeg)) :: st) σ ce sl :=
  ⟨n, f, h.at J hJ, by rw [ei]; exact vp_in_nI hw (by omega), by rw [ei, nI_clamp (by omega)]; exact next⟩
theorem MI.st {G : rv_G} {M : rv_M} {mc ms : Nat} {Rt : Option Value → rv_S → Prop} {stops : List Nat} {K : Nat → rv_L → List Value → rv_S → Nat → Nat → Prop} {k pc : Nat} {ls : rv_L} {st : List Value} {ce sl : Nat} {σ0 σ : rv_S} {y : Nat} {L : List rv_E} (h : MI σ0 σ y L) (J : Nat) {n : Nat} {f : Nat → Int32} (hJ : rv_nth L J = some (rv_aI n f)) {vi : Int32} {w : Nat} (ei : vi = nI w) (hw : w < n) {v : Int32} (next : ∀ σ', MI σ0 σ' y (L.set J (rv_aI n (upd f w v))) → rv_bx G M mc ms Rt stops K k pc ls st σ' ce sl) (hJ2 : J < 37 := by decide) (hn : n < 2147483648 := by decide) : ∃ (n : Nat) (f : Nat → Int32), σ.2 (y + J) = some (rv_aI n f) ∧ vp_in vi n ∧ rv_bx G M mc ms Rt stops K k pc ls st (σ.1, rv_up σ.2 (y + J) (rv_aI n (upd f vi.toNatClampNeg v))) ce sl :=
  ⟨n, f, h.at J hJ, by rw [ei]; exact vp_in_nI hw (by omega), by rw [ei, nI_clamp (by omega)]; exact next _ (h.up J hJ2 _)⟩
theorem MI.stJ {G : rv_G} {M : rv_M} {mc ms : Nat} {Rt : Option Value → rv_S → Prop} {stops : List Nat} {K : Nat → rv_L → List Value → rv_S → Nat → Nat → Prop} {k pc : Nat} {ls : rv_L} {st : List Value} {ce sl : Nat} {σ0 σ : rv_S} {y : Nat} {L : List rv_E} (h : MI σ0 σ y L) (J : Nat) {n : Nat} {f : Nat → Int64} (hJ : rv_nth L J = some (rv_aJ n f)) {vi : Int32} {w : Nat} (ei : vi = nI w) (hw : w < n) {v : Int64} (next : ∀ σ', MI σ0 σ' y (L.set J (rv_aJ n (vp_updL f w v))) → rv_bx G M mc ms Rt stops K k pc ls st σ' ce sl) (hJ2 : J < 37 := by decide) (hn : n < 2147483648 := by decide) : ∃ (n : Nat) (f : Nat → Int64), σ.2 (y + J) = some (rv_aJ n f) ∧ vp_in vi n ∧ rv_bx G M mc ms Rt stops K k pc ls st (σ.1, rv_up σ.2 (y + J) (rv_aJ n (vp_updL f vi.toNatClampNeg v))) ce sl :=
  ⟨n, f, h.at J hJ, by rw [ei]; exact vp_in_nI hw (by omega), by rw [ei, nI_clamp (by omega)]; exact next _ (h.up J hJ2 _)⟩
theorem MI.stZ {G : rv_G} {M : rv_M} {mc ms : Nat} {Rt : Option Value → rv_S → Prop} {stops : List Nat} {K : Nat → rv_L → List Value → rv_S → Nat → Nat → Prop} {k pc : Nat} {ls : rv_L} {st : List Value} {ce sl : Nat} {σ0 σ : rv_S} {y : Nat} {L : List rv_E} (h : MI σ0 σ y L) (J : Nat) {n : Nat} {f : Nat → Bool} (hJ : rv_nth L J = some (rv_aZ n f)) {vi : Int32} {w : Nat} (ei : vi = nI w) (hw : w < n) (b : Bool) {v : Int32} (hv : v = rv_b b) (next : ∀ σ', MI σ0 σ' y (L.set J (rv_aZ n (va_up f w b))) → rv_bx G M mc ms Rt stops K k pc ls st σ' ce sl) (hJ2 : J < 37 := by decide) (hn : n < 2147483648 := by decide) : ∃ (n : Nat) (f : Nat → Bool) (b : Bool), σ.2 (y + J) = some (rv_aZ n f) ∧ v = rv_b b ∧ vp_in vi n ∧ rv_bx G M mc ms Rt stops K k pc ls st (σ.1, rv_up σ.2 (y + J) (rv_aZ n (va_up f vi.toNatClampNeg b))) ce sl :=
  ⟨n, f, b, h.at J hJ, hv, by rw [ei]; exact vp_in_nI hw (by omega), by rw [ei, nI_clamp (by omega)]; exact next _ (h.up J hJ2 _)⟩
theorem MI.put {G : rv_G} {M : rv_M} {mc ms : Nat} {Rt : Option Value → rv_S → Prop} {stops : List Nat} {K : Nat → rv_L → List Value → rv_S → Nat → Nat → Prop} {k pc : Nat} {ls : rv_L} {st : List Value} {ce sl : Nat} {σ0 σ : rv_S} {y : Nat} {L : List rv_E} (h : MI σ0 σ y L) {a b : Nat} {fs : List Value} (hJ : rv_nth L 0 = some (.inl (a, fs))) {w : Value} (hf : rv_fit (rv_ty a b) w) (next : ∀ σ', MI σ0 σ' y (L.set 0 (.inl (a, fs.set b w))) → rv_bx G M mc ms Rt stops K k pc ls st σ' ce sl) : ∃ fs : List Value, σ.2 y = some (.inl (a, fs)) ∧ rv_fit (rv_ty a b) w ∧ rv_bx G M mc ms Rt stops K k pc ls st (σ.1, rv_up σ.2 y (.inl (a, fs.set b w))) ce sl :=
  ⟨fs, h.at 0 hJ, hf, next _ (h.up 0 (by decide) _)⟩
/-- the reference's window w -/
def mw (s : Md) (w : Nat) : Wd := ((s.wOp w, s.wKey w, s.wBeg w, s.wEnd w), (s.wTold w, s.wCame w), (s.wMany w, s.wSum w, s.wLeast w, s.wMost w), (s.tMany w, s.tSum w, s.tLeast w, s.tMost w))
set_option maxRecDepth 100000 in
theorem rt_in {G : rv_G} {σ : rv_S} (n a b : Int32) : rv_Ct G i_Model_in 0 0 [.int n, .int a, .int b] σ (fun r σ' => r = some (.int (rv_b (rv_in n a b))) ∧ σ' = σ) := by
  refine rv_ct (M := m_Model_in) rfl (by decide) rfl rfl ?_
  refine rv_V.run rv_gd_Model_in [] 400 ?_
  refine And.intro (fun c1 => ?_) (fun c1 => ?_)
  · refine And.intro (Or.inl rfl) ⟨?_, rfl⟩
    rw [show rv_in n a b = false from decide_eq_false (fun z => Int32.not_le.mpr c1 z.1)]; rfl
  · refine And.intro (fun c2 => ?_) (fun c2 => ?_)
    · refine And.intro (Or.inl rfl) ⟨?_, rfl⟩
      rw [show rv_in n a b = false from decide_eq_false (fun z => Int32.not_le.mpr c2 z.2)]; rfl
    · refine And.intro (Or.inr rfl) ⟨?_, rfl⟩
      rw [show rv_in n a b = true from decide_eq_true ⟨Int32.not_lt.mp c1, Int32.not_lt.mp c2⟩]; rfl
set_option maxRecDepth 100000 in
theorem rt_isClosed {G : rv_G} {σ0 σ : rv_S} {y o : Nat} {s : Md} {vo : Int32} (h : MI σ0 σ y (md y s)) (eo : vo = nI o) (ho : o < 5) (e : Int32) : rv_Ct G i_Model_isClosed 0 0 [.ref y, .int vo, .int e] σ (fun r σ' => r = some (.int (rv_b (decide (e + s.oLt o ≤ s.oMark o)))) ∧ σ' = σ) := by
  refine rv_ct (M := m_Model_isClosed) rfl (by decide) rfl rfl ?_
  refine rv_V.run rv_gd_Model_isClosed [] 400 ?_
  refine Exists.intro _ (And.intro (h.at 0 rfl) ?_)
  refine h.ld 4 rfl eo ho ?_
  refine Exists.intro _ (And.intro (h.at 0 rfl) ?_)
  refine h.ld 6 rfl eo ho ?_
  refine And.intro (fun c1 => ?_) (fun c1 => ?_)
  · refine And.intro (Or.inl rfl) ⟨?_, rfl⟩
    rw [decide_eq_false (Int32.not_le.mpr c1)]; rfl
  · refine And.intro (Or.inr rfl) ⟨?_, rfl⟩
    rw [decide_eq_true (Int32.not_lt.mp c1)]; rfl
