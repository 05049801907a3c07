/-! the cells of the class and of the reference -/
abbrev xC (o a1 a2 a3 a4 : Nat) (c1 c2 c3 c4 : ClassId) (v h w y z c : Int32) (f1 f2 f3 : Nat → Int32) (f4 : Nat → Int64) : va_W := [(o, .inr (0, [.int v, .int h, .int w, .int y, .int z, .int c, .ref a1, .ref a2, .ref a3, .ref a4])), (a1, .inl (c1, 400, .inl f1)), (a2, .inl (c2, 400, .inl f2)), (a3, .inl (c3, 400, .inl f3)), (a4, .inl (c4, 400, .inr (.inl f4)))]
abbrev xT (c1 c2 c3 c4 : ClassId) : List (ClassId × FieldType) := [(c1, .int), (c2, .int), (c3, .int), (c4, .long)]
abbrev mC (o b1 b2 b3 : Nat) (e1 e2 e3 : ClassId) (v c y z f k : Int32) (g1 g2 g3 : Nat → Int32) : va_W := [(o, .inr (1, [.int v, .ref b1, .ref b2, .ref b3, .int c, .int y, .int z, .int f, .int k])), (b1, .inl (e1, 16, .inl g1)), (b2, .inl (e2, 400, .inl g2)), (b3, .inl (e3, 400, .inl g3))]
abbrev mT (e1 e2 e3 : ClassId) : List (ClassId × FieldType) := [(e1, .boolean), (e2, .int), (e3, .int)]
def twv : Nat → Value := fun j => .long (cs_tw j)
abbrev rX (tt : Nat) (B : State → Prop) : State → Prop := rT RX0 "TAILS_WITH" "[J" tt 6 twv B
abbrev wX (tt : Nat) (ws : va_W) (sz : Nat) (B : State → Prop) : State → Prop := wT RX0 "TAILS_WITH" "[J" tt 6 twv ws sz B
