/-! text: the call -/
theorem c_text {L : Nat} {xs : Nat → Int32} {E : zEv2} {s t n z : Nat} {J : zzJ} (I : zInv L xs E s t n z J) : zAns L xs F_X6_text F_X7_text J := by
  sorry
