section LAWC
variable {C : zX} {E : zE} {b L o j k n e : Nat} {xs : Nat → Int32} {q : Nat → Nat} {s : Nat → Int32} {a : Nat → Nat → Int32} {g : Nat → Option Nat} {vt vd : Value} {mq : Nat → Nat} {ms : Nat → Int32} {ma : Nat → Nat → Int32} {sl : Int64} {vr : Value} {rs : Nat → Nat → Nat} {ss : Nat → Nat → Int32} {ca : Nat → Nat → Nat → Int32} {f : Nat → Int64}
theorem c_led (h : zLaw C E b L o j k n xs) (H : zGC j e s a g ms ma rs ss ca) : J C k n (WX E q s a g vt vd ++ (IM E rs ss ca e ++ (WM E mq ms ma sl vr ++ zO E o f))) [(0, .ref b), (1, .ref (q 0)), (2, .ref (mq 0)), (3, .ref o), (4, .int (nI (6 * j)))] 1498 [] := by
  sorry
theorem cn_led (h : zLaw C E b L o j k n xs) (he : e = 0) (H : zGN s a g ms ma rs) : J C k n (WX E q s a g vt vd ++ (IM E rs ss ca e ++ (WN E mq ms ma sl vr ++ zO E o f))) [(0, .ref b), (1, .ref (q 0)), (2, .ref (mq 0)), (3, .ref o), (4, .int (nI (6 * j)))] 1498 [] := by
  sorry
end LAWC
