theorem vi_3 {f f1 f2 f3 : Nat → V3} {a : Nat} (e1 : f1 = va_up f a (1, (f a).2.1, (f a).2.2)) (e2 : f2 = va_up f1 a ((f1 a).1, 0, (f1 a).2.2)) (e3 : f3 = va_up f2 a ((f2 a).1, (f2 a).2.1, 0)) : f3 = va_up f a (1, 0, 0) := by
  subst e1; subst e2; subst e3
  funext b
  by_cases h : b = a <;> simp [va_up, h]
