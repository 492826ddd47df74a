theorem AK_ex {K K1 K2 : Nat → Int32} {N N1 N2 : Nat → Int64} {E E1 E2 : Nat → Int32} {i j : Nat} {ka kb : Int32} {na nb : Int64} {ea eb : Int32} (h : AK K N E) (va : VK ka na ea) (vb : VK kb nb eb)
    (e1 : K1 = upd K i kb) (e2 : N1 = vp_updL N i nb) (e3 : E1 = upd E i eb) (e4 : K2 = upd K1 j ka) (e5 : N2 = vp_updL N1 j na) (e6 : E2 = upd E1 j ea) : AK K2 N2 E2 :=
  AK_put (AK_put h ⟨e1, e2, e3⟩ vb) ⟨e4, e5, e6⟩ va
theorem nb_l {x : Int32} (c : x = 0 ∨ x = 1) : narrow .boolean (.int x) = .int x := by rcases c with rfl | rfl <;> rfl
