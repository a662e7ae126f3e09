/-! methods that throw: what is said of them where they answer -/
def xL (Q : Option am_v → am_H → Prop) (h : am_H) : Int32 ⊕ Nat → Prop
  | .inl v => Q (some (am_i v)) h
  | .inr _ => False
