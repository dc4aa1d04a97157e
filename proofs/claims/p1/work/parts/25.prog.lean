noncomputable def PROG : Nat → Option (Nat × (Nat → Option XK)) := fun k => (cond (Nat.beq k 0) (some ((xMT 0).2.2.1, T_0)) none)
theorem PROG_ok : xPrg xTs xNW xMT xcl xtf PROG := (xPrg_leaf ST_0)
