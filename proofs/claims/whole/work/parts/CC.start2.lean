/-! the reference is made -/
set_option maxRecDepth 20000 in
set_option maxHeartbeats 8000000 in
theorem i_M {Q : st_S → Prop} (hQ : Q (tS 91 (kA0.map shK ++ (0, 16 + 10) :: kC0) (lA0.map shK ++ lC0) (rA0.map shR ++ rC0) (iA0.map shI ++ iC0))) : wp_X11_init 65 (tS 66 ((65, 32 + 11) :: (0, 16 + 10) :: kC0) ((65, 0) :: lC0) rC0 iC0) Q := by
  try delta wp_X11_init
  refine a_new (m := 67) rfl (by decide +kernel) ?_
  refine ⟨by decide +kernel, ?_⟩
  refine a_R ?_
  refine a_new (m := 68) rfl (by decide +kernel) ?_
  refine ⟨by decide +kernel, ?_⟩
  refine a_R ?_
  refine a_new (m := 69) rfl (by decide +kernel) ?_
  refine ⟨by decide +kernel, ?_⟩
  refine a_R ?_
  refine a_new (m := 70) rfl (by decide +kernel) ?_
  refine ⟨by decide +kernel, ?_⟩
  refine a_R ?_
  refine a_new (m := 71) rfl (by decide +kernel) ?_
  refine ⟨by decide +kernel, ?_⟩
  refine a_R ?_
  refine a_new (m := 72) rfl (by decide +kernel) ?_
  refine ⟨⟨by decide, by decide +kernel⟩, ?_⟩
  refine a_I (v' := 116) (by decide +kernel) ?_
  refine ⟨⟨by decide, by decide +kernel⟩, ?_⟩
  refine a_I (v' := 97) (by decide +kernel) ?_
  refine ⟨⟨by decide, by decide +kernel⟩, ?_⟩
  refine a_I (v' := 107) (by decide +kernel) ?_
  refine ⟨⟨by decide, by decide +kernel⟩, ?_⟩
  refine a_I (v' := 101) (by decide +kernel) ?_
  refine ⟨⟨by decide, by decide +kernel⟩, ?_⟩
  refine a_I (v' := 115) (by decide +kernel) ?_
  refine ⟨⟨by decide, by decide +kernel⟩, ?_⟩
  refine a_I (v' := 32) (by decide +kernel) ?_
  refine ⟨⟨by decide, by decide +kernel⟩, ?_⟩
  refine a_I (v' := 99) (by decide +kernel) ?_
  refine ⟨⟨by decide, by decide +kernel⟩, ?_⟩
  refine a_I (v' := 111) (by decide +kernel) ?_
  refine ⟨⟨by decide, by decide +kernel⟩, ?_⟩
  refine a_I (v' := 115) (by decide +kernel) ?_
  refine ⟨⟨by decide, by decide +kernel⟩, ?_⟩
  refine a_I (v' := 116) (by decide +kernel) ?_
  refine ⟨⟨by decide, by decide +kernel⟩, ?_⟩
  refine a_I (v' := 115) (by decide +kernel) ?_
  refine ⟨⟨by decide, by decide +kernel⟩, ?_⟩
  refine a_I (v' := 32) (by decide +kernel) ?_
  refine ⟨⟨by decide, by decide +kernel⟩, ?_⟩
  refine a_I (v' := 108) (by decide +kernel) ?_
  refine ⟨⟨by decide, by decide +kernel⟩, ?_⟩
  refine a_I (v' := 111) (by decide +kernel) ?_
  refine ⟨⟨by decide, by decide +kernel⟩, ?_⟩
  refine a_I (v' := 100) (by decide +kernel) ?_
  refine ⟨⟨by decide, by decide +kernel⟩, ?_⟩
  refine a_I (v' := 103) (by decide +kernel) ?_
  refine ⟨⟨by decide, by decide +kernel⟩, ?_⟩
  refine a_I (v' := 101) (by decide +kernel) ?_
  refine ⟨⟨by decide, by decide +kernel⟩, ?_⟩
  refine a_I (v' := 115) (by decide +kernel) ?_
  refine ⟨⟨by decide, by decide +kernel⟩, ?_⟩
  refine a_I (v' := 32) (by decide +kernel) ?_
  refine ⟨⟨by decide, by decide +kernel⟩, ?_⟩
  refine a_I (v' := 115) (by decide +kernel) ?_
  refine ⟨⟨by decide, by decide +kernel⟩, ?_⟩
  refine a_I (v' := 112) (by decide +kernel) ?_
  refine ⟨⟨by decide, by decide +kernel⟩, ?_⟩
  refine a_I (v' := 111) (by decide +kernel) ?_
  refine ⟨⟨by decide, by decide +kernel⟩, ?_⟩
  refine a_I (v' := 105) (by decide +kernel) ?_
  refine ⟨⟨by decide, by decide +kernel⟩, ?_⟩
  refine a_I (v' := 108) (by decide +kernel) ?_
  refine ⟨⟨by decide, by decide +kernel⟩, ?_⟩
  refine a_I (v' := 115) (by decide +kernel) ?_
  refine ⟨⟨by decide, by decide +kernel⟩, ?_⟩
  refine a_I (v' := 32) (by decide +kernel) ?_
  refine ⟨⟨by decide, by decide +kernel⟩, ?_⟩
  refine a_I (v' := 98) (by decide +kernel) ?_
  refine ⟨⟨by decide, by decide +kernel⟩, ?_⟩
  refine a_I (v' := 97) (by decide +kernel) ?_
  refine ⟨⟨by decide, by decide +kernel⟩, ?_⟩
  refine a_I (v' := 114) (by decide +kernel) ?_
  refine ⟨⟨by decide, by decide +kernel⟩, ?_⟩
  refine a_I (v' := 115) (by decide +kernel) ?_
  refine ⟨⟨by decide, by decide +kernel⟩, ?_⟩
  refine a_I (v' := 32) (by decide +kernel) ?_
  refine ⟨⟨by decide, by decide +kernel⟩, ?_⟩
  refine a_I (v' := 105) (by decide +kernel) ?_
  refine ⟨⟨by decide, by decide +kernel⟩, ?_⟩
  refine a_I (v' := 102) (by decide +kernel) ?_
  refine ⟨⟨by decide, by decide +kernel⟩, ?_⟩
  refine a_I (v' := 32) (by decide +kernel) ?_
  refine ⟨⟨by decide, by decide +kernel⟩, ?_⟩
  refine a_I (v' := 111) (by decide +kernel) ?_
  refine ⟨⟨by decide, by decide +kernel⟩, ?_⟩
  refine a_I (v' := 114) (by decide +kernel) ?_
  refine ⟨⟨by decide, by decide +kernel⟩, ?_⟩
  refine a_I (v' := 32) (by decide +kernel) ?_
  refine ⟨⟨by decide, by decide +kernel⟩, ?_⟩
  refine a_I (v' := 97) (by decide +kernel) ?_
  refine ⟨⟨by decide, by decide +kernel⟩, ?_⟩
  refine a_I (v' := 110) (by decide +kernel) ?_
  refine ⟨⟨by decide, by decide +kernel⟩, ?_⟩
  refine a_I (v' := 100) (by decide +kernel) ?_
  refine ⟨⟨by decide, by decide +kernel⟩, ?_⟩
  refine a_I (v' := 32) (by decide +kernel) ?_
  refine ⟨⟨by decide, by decide +kernel⟩, ?_⟩
  refine a_I (v' := 110) (by decide +kernel) ?_
  refine ⟨⟨by decide, by decide +kernel⟩, ?_⟩
  refine a_I (v' := 111) (by decide +kernel) ?_
  refine ⟨⟨by decide, by decide +kernel⟩, ?_⟩
  refine a_I (v' := 116) (by decide +kernel) ?_
  refine ⟨⟨by decide, by decide +kernel⟩, ?_⟩
  refine a_I (v' := 32) (by decide +kernel) ?_
  refine ⟨⟨by decide, by decide +kernel⟩, ?_⟩
  refine a_I (v' := 112) (by decide +kernel) ?_
  refine ⟨⟨by decide, by decide +kernel⟩, ?_⟩
  refine a_I (v' := 101) (by decide +kernel) ?_
  refine ⟨⟨by decide, by decide +kernel⟩, ?_⟩
  refine a_I (v' := 114) (by decide +kernel) ?_
  refine ⟨⟨by decide, by decide +kernel⟩, ?_⟩
  refine a_I (v' := 115) (by decide +kernel) ?_
  refine ⟨⟨by decide, by decide +kernel⟩, ?_⟩
  refine a_I (v' := 111) (by decide +kernel) ?_
  refine ⟨⟨by decide, by decide +kernel⟩, ?_⟩
  refine a_I (v' := 110) (by decide +kernel) ?_
  refine ⟨⟨by decide, by decide +kernel⟩, ?_⟩
  refine a_I (v' := 32) (by decide +kernel) ?_
  refine ⟨⟨by decide, by decide +kernel⟩, ?_⟩
  refine a_I (v' := 114) (by decide +kernel) ?_
  refine ⟨⟨by decide, by decide +kernel⟩, ?_⟩
  refine a_I (v' := 111) (by decide +kernel) ?_
  refine ⟨⟨by decide, by decide +kernel⟩, ?_⟩
  refine a_I (v' := 97) (by decide +kernel) ?_
  refine ⟨⟨by decide, by decide +kernel⟩, ?_⟩
  refine a_I (v' := 100) (by decide +kernel) ?_
  refine ⟨⟨by decide, by decide +kernel⟩, ?_⟩
  refine a_I (v' := 32) (by decide +kernel) ?_
  refine ⟨⟨by decide, by decide +kernel⟩, ?_⟩
  refine a_I (v' := 108) (by decide +kernel) ?_
  refine ⟨⟨by decide, by decide +kernel⟩, ?_⟩
  refine a_I (v' := 97) (by decide +kernel) ?_
  refine ⟨⟨by decide, by decide +kernel⟩, ?_⟩
  refine a_I (v' := 110) (by decide +kernel) ?_
  refine ⟨⟨by decide, by decide +kernel⟩, ?_⟩
  refine a_I (v' := 100) (by decide +kernel) ?_
  refine ⟨⟨by decide, by decide +kernel⟩, ?_⟩
  refine a_I (v' := 32) (by decide +kernel) ?_
  refine ⟨⟨by decide, by decide +kernel⟩, ?_⟩
  refine a_I (v' := 104) (by decide +kernel) ?_
  refine ⟨⟨by decide, by decide +kernel⟩, ?_⟩
  refine a_I (v' := 101) (by decide +kernel) ?_
  refine ⟨⟨by decide, by decide +kernel⟩, ?_⟩
  refine a_I (v' := 97) (by decide +kernel) ?_
  refine ⟨⟨by decide, by decide +kernel⟩, ?_⟩
  refine a_I (v' := 114) (by decide +kernel) ?_
  refine ⟨⟨by decide, by decide +kernel⟩, ?_⟩
  refine a_I (v' := 100) (by decide +kernel) ?_
  refine ⟨⟨by decide, by decide +kernel⟩, ?_⟩
  refine a_I (v' := 32) (by decide +kernel) ?_
  refine ⟨⟨by decide, by decide +kernel⟩, ?_⟩
  refine a_I (v' := 111) (by decide +kernel) ?_
  refine ⟨⟨by decide, by decide +kernel⟩, ?_⟩
  refine a_I (v' := 116) (by decide +kernel) ?_
  refine ⟨⟨by decide, by decide +kernel⟩, ?_⟩
  refine a_I (v' := 104) (by decide +kernel) ?_
  refine ⟨⟨by decide, by decide +kernel⟩, ?_⟩
  refine a_I (v' := 101) (by decide +kernel) ?_
  refine ⟨⟨by decide, by decide +kernel⟩, ?_⟩
  refine a_I (v' := 114) (by decide +kernel) ?_
  refine ⟨⟨by decide, by decide +kernel⟩, ?_⟩
  refine a_I (v' := 32) (by decide +kernel) ?_
  refine ⟨⟨by decide, by decide +kernel⟩, ?_⟩
  refine a_I (v' := 116) (by decide +kernel) ?_
  refine ⟨⟨by decide, by decide +kernel⟩, ?_⟩
  refine a_I (v' := 104) (by decide +kernel) ?_
  refine ⟨⟨by decide, by decide +kernel⟩, ?_⟩
  refine a_I (v' := 101) (by decide +kernel) ?_
  refine ⟨⟨by decide, by decide +kernel⟩, ?_⟩
  refine a_I (v' := 105) (by decide +kernel) ?_
  refine ⟨⟨by decide, by decide +kernel⟩, ?_⟩
  refine a_I (v' := 114) (by decide +kernel) ?_
  refine ⟨⟨by decide, by decide +kernel⟩, ?_⟩
  refine a_I (v' := 115) (by decide +kernel) ?_
  refine ⟨⟨by decide, by decide +kernel⟩, ?_⟩
  refine a_I (v' := 32) (by decide +kernel) ?_
  refine ⟨⟨by decide, by decide +kernel⟩, ?_⟩
  refine a_I (v' := 102) (by decide +kernel) ?_
  refine ⟨⟨by decide, by decide +kernel⟩, ?_⟩
  refine a_I (v' := 97) (by decide +kernel) ?_
  refine ⟨⟨by decide, by decide +kernel⟩, ?_⟩
  refine a_I (v' := 114) (by decide +kernel) ?_
  refine ⟨⟨by decide, by decide +kernel⟩, ?_⟩
  refine a_I (v' := 32) (by decide +kernel) ?_
  refine ⟨⟨by decide, by decide +kernel⟩, ?_⟩
  refine a_I (v' := 102) (by decide +kernel) ?_
  refine ⟨⟨by decide, by decide +kernel⟩, ?_⟩
  refine a_I (v' := 111) (by decide +kernel) ?_
  refine ⟨⟨by decide, by decide +kernel⟩, ?_⟩
  refine a_I (v' := 103) (by decide +kernel) ?_
  refine ⟨⟨by decide, by decide +kernel⟩, ?_⟩
  refine a_I (v' := 32) (by decide +kernel) ?_
  refine ⟨⟨by decide, by decide +kernel⟩, ?_⟩
  refine a_I (v' := 109) (by decide +kernel) ?_
  refine ⟨⟨by decide, by decide +kernel⟩, ?_⟩
  refine a_I (v' := 111) (by decide +kernel) ?_
  refine ⟨⟨by decide, by decide +kernel⟩, ?_⟩
  refine a_I (v' := 111) (by decide +kernel) ?_
  refine ⟨⟨by decide, by decide +kernel⟩, ?_⟩
  refine a_I (v' := 100) (by decide +kernel) ?_
  refine ⟨⟨by decide, by decide +kernel⟩, ?_⟩
  refine a_I (v' := 32) (by decide +kernel) ?_
  refine ⟨⟨by decide, by decide +kernel⟩, ?_⟩
  refine a_I (v' := 100) (by decide +kernel) ?_
  refine ⟨⟨by decide, by decide +kernel⟩, ?_⟩
  refine a_I (v' := 97) (by decide +kernel) ?_
  refine ⟨⟨by decide, by decide +kernel⟩, ?_⟩
  refine a_I (v' := 121) (by decide +kernel) ?_
  refine ⟨⟨by decide, by decide +kernel⟩, ?_⟩
  refine a_I (v' := 32) (by decide +kernel) ?_
  refine ⟨⟨by decide, by decide +kernel⟩, ?_⟩
  refine a_I (v' := 108) (by decide +kernel) ?_
  refine ⟨⟨by decide, by decide +kernel⟩, ?_⟩
  refine a_I (v' := 105) (by decide +kernel) ?_
  refine ⟨⟨by decide, by decide +kernel⟩, ?_⟩
  refine a_I (v' := 116) (by decide +kernel) ?_
  refine ⟨⟨by decide, by decide +kernel⟩, ?_⟩
  refine a_I (v' := 32) (by decide +kernel) ?_
  refine ⟨⟨by decide, by decide +kernel⟩, ?_⟩
  refine a_I (v' := 110) (by decide +kernel) ?_
  refine ⟨⟨by decide, by decide +kernel⟩, ?_⟩
  refine a_I (v' := 105) (by decide +kernel) ?_
  refine ⟨⟨by decide, by decide +kernel⟩, ?_⟩
  refine a_I (v' := 103) (by decide +kernel) ?_
  refine ⟨⟨by decide, by decide +kernel⟩, ?_⟩
  refine a_I (v' := 104) (by decide +kernel) ?_
  refine ⟨⟨by decide, by decide +kernel⟩, ?_⟩
  refine a_I (v' := 116) (by decide +kernel) ?_
  refine ⟨⟨by decide, by decide +kernel⟩, ?_⟩
  refine a_I (v' := 115) (by decide +kernel) ?_
  refine ⟨⟨by decide, by decide +kernel⟩, ?_⟩
  refine a_I (v' := 32) (by decide +kernel) ?_
  refine ⟨⟨by decide, by decide +kernel⟩, ?_⟩
  refine a_I (v' := 100) (by decide +kernel) ?_
  refine ⟨⟨by decide, by decide +kernel⟩, ?_⟩
  refine a_I (v' := 111) (by decide +kernel) ?_
  refine ⟨⟨by decide, by decide +kernel⟩, ?_⟩
  refine a_I (v' := 110) (by decide +kernel) ?_
  refine ⟨⟨by decide, by decide +kernel⟩, ?_⟩
  refine a_I (v' := 101) (by decide +kernel) ?_
  refine ⟨⟨by decide, by decide +kernel⟩, ?_⟩
  refine a_I (v' := 32) (by decide +kernel) ?_
  refine ⟨⟨by decide, by decide +kernel⟩, ?_⟩
  refine a_I (v' := 115) (by decide +kernel) ?_
  refine ⟨⟨by decide, by decide +kernel⟩, ?_⟩
  refine a_I (v' := 112) (by decide +kernel) ?_
  refine ⟨⟨by decide, by decide +kernel⟩, ?_⟩
  refine a_I (v' := 101) (by decide +kernel) ?_
  refine ⟨⟨by decide, by decide +kernel⟩, ?_⟩
  refine a_I (v' := 110) (by decide +kernel) ?_
  refine ⟨⟨by decide, by decide +kernel⟩, ?_⟩
  refine a_I (v' := 116) (by decide +kernel) ?_
  refine ⟨⟨by decide, by decide +kernel⟩, ?_⟩
  refine a_I (v' := 32) (by decide +kernel) ?_
  refine ⟨⟨by decide, by decide +kernel⟩, ?_⟩
  refine a_I (v' := 119) (by decide +kernel) ?_
  refine ⟨⟨by decide, by decide +kernel⟩, ?_⟩
  refine a_I (v' := 111) (by decide +kernel) ?_
  refine ⟨⟨by decide, by decide +kernel⟩, ?_⟩
  refine a_I (v' := 114) (by decide +kernel) ?_
  refine ⟨⟨by decide, by decide +kernel⟩, ?_⟩
  refine a_I (v' := 116) (by decide +kernel) ?_
  refine ⟨⟨by decide, by decide +kernel⟩, ?_⟩
  refine a_I (v' := 104) (by decide +kernel) ?_
  refine ⟨⟨by decide, by decide +kernel⟩, ?_⟩
  refine a_I (v' := 32) (by decide +kernel) ?_
  refine ⟨⟨by decide, by decide +kernel⟩, ?_⟩
  refine a_I (v' := 104) (by decide +kernel) ?_
  refine ⟨⟨by decide, by decide +kernel⟩, ?_⟩
  refine a_I (v' := 101) (by decide +kernel) ?_
  refine ⟨⟨by decide, by decide +kernel⟩, ?_⟩
  refine a_I (v' := 114) (by decide +kernel) ?_
  refine ⟨⟨by decide, by decide +kernel⟩, ?_⟩
  refine a_I (v' := 101) (by decide +kernel) ?_
  refine ⟨⟨by decide, by decide +kernel⟩, ?_⟩
  refine a_I (v' := 32) (by decide +kernel) ?_
  refine ⟨⟨by decide, by decide +kernel⟩, ?_⟩
  refine a_I (v' := 115) (by decide +kernel) ?_
  refine ⟨⟨by decide, by decide +kernel⟩, ?_⟩
  refine a_I (v' := 101) (by decide +kernel) ?_
  refine ⟨⟨by decide, by decide +kernel⟩, ?_⟩
  refine a_I (v' := 110) (by decide +kernel) ?_
  refine ⟨⟨by decide, by decide +kernel⟩, ?_⟩
  refine a_I (v' := 100) (by decide +kernel) ?_
  refine ⟨⟨by decide, by decide +kernel⟩, ?_⟩
  refine a_I (v' := 32) (by decide +kernel) ?_
  refine ⟨⟨by decide, by decide +kernel⟩, ?_⟩
  refine a_I (v' := 108) (by decide +kernel) ?_
  refine ⟨⟨by decide, by decide +kernel⟩, ?_⟩
  refine a_I (v' := 105) (by decide +kernel) ?_
  refine ⟨⟨by decide, by decide +kernel⟩, ?_⟩
  refine a_I (v' := 103) (by decide +kernel) ?_
  refine ⟨⟨by decide, by decide +kernel⟩, ?_⟩
  refine a_I (v' := 104) (by decide +kernel) ?_
  refine ⟨⟨by decide, by decide +kernel⟩, ?_⟩
  refine a_I (v' := 116) (by decide +kernel) ?_
  refine ⟨⟨by decide, by decide +kernel⟩, ?_⟩
  refine a_I (v' := 32) (by decide +kernel) ?_
  refine ⟨⟨by decide, by decide +kernel⟩, ?_⟩
  refine a_I (v' := 100) (by decide +kernel) ?_
  refine ⟨⟨by decide, by decide +kernel⟩, ?_⟩
  refine a_I (v' := 97) (by decide +kernel) ?_
  refine ⟨⟨by decide, by decide +kernel⟩, ?_⟩
  refine a_I (v' := 114) (by decide +kernel) ?_
  refine ⟨⟨by decide, by decide +kernel⟩, ?_⟩
  refine a_I (v' := 107) (by decide +kernel) ?_
  refine ⟨⟨by decide, by decide +kernel⟩, ?_⟩
  refine a_I (v' := 32) (by decide +kernel) ?_
  refine ⟨⟨by decide, by decide +kernel⟩, ?_⟩
  refine a_I (v' := 116) (by decide +kernel) ?_
  refine ⟨⟨by decide, by decide +kernel⟩, ?_⟩
  refine a_I (v' := 105) (by decide +kernel) ?_
  refine ⟨⟨by decide, by decide +kernel⟩, ?_⟩
  refine a_I (v' := 109) (by decide +kernel) ?_
  refine ⟨⟨by decide, by decide +kernel⟩, ?_⟩
  refine a_I (v' := 101) (by decide +kernel) ?_
  refine ⟨⟨by decide, by decide +kernel⟩, ?_⟩
  refine a_I (v' := 115) (by decide +kernel) ?_
  refine ⟨⟨by decide, by decide +kernel⟩, ?_⟩
  refine a_I (v' := 32) (by decide +kernel) ?_
  refine ⟨by decide +kernel, ?_⟩
  refine a_R ?_
  refine a_new (m := 73) rfl (by decide +kernel) ?_
  refine ⟨by decide +kernel, ?_⟩
  refine a_R ?_
  refine a_new (m := 74) rfl (by decide +kernel) ?_
  refine ⟨by decide +kernel, ?_⟩
  refine a_R ?_
  refine a_I (v' := -1) rfl ?_
  refine a_new (m := 75) rfl (by decide +kernel) ?_
  refine ⟨by decide +kernel, ?_⟩
  refine a_R ?_
  refine a_new (m := 76) rfl (by decide +kernel) ?_
  refine ⟨by decide +kernel, ?_⟩
  refine a_R ?_
  refine a_new (m := 77) rfl (by decide +kernel) ?_
  refine ⟨by decide +kernel, ?_⟩
  refine a_R ?_
  refine a_new (m := 78) rfl (by decide +kernel) ?_
  refine ⟨by decide +kernel, ?_⟩
  refine a_R ?_
  refine a_new (m := 79) rfl (by decide +kernel) ?_
  refine ⟨by decide +kernel, ?_⟩
  refine a_R ?_
  refine a_new (m := 80) rfl (by decide +kernel) ?_
  refine ⟨by decide +kernel, ?_⟩
  refine a_R ?_
  refine a_new (m := 81) rfl (by decide +kernel) ?_
  refine ⟨by decide +kernel, ?_⟩
  refine a_R ?_
  refine a_new (m := 82) rfl (by decide +kernel) ?_
  refine ⟨by decide +kernel, ?_⟩
  refine a_R ?_
  refine a_new (m := 83) rfl (by decide +kernel) ?_
  refine ⟨by decide +kernel, ?_⟩
  refine a_R ?_
  refine a_new (m := 84) rfl (by decide +kernel) ?_
  refine ⟨by decide +kernel, ?_⟩
  refine a_R ?_
  refine a_new (m := 85) rfl (by decide +kernel) ?_
  refine ⟨by decide +kernel, ?_⟩
  refine a_R ?_
  refine a_new (m := 86) rfl (by decide +kernel) ?_
  refine ⟨by decide +kernel, ?_⟩
  refine a_R ?_
  refine a_new (m := 87) rfl (by decide +kernel) ?_
  refine ⟨by decide +kernel, ?_⟩
  refine a_R ?_
  refine a_new (m := 88) rfl (by decide +kernel) ?_
  refine ⟨by decide +kernel, ?_⟩
  refine a_R ?_
  refine a_new (m := 89) rfl (by decide +kernel) ?_
  refine ⟨by decide +kernel, ?_⟩
  refine a_R ?_
  refine a_new (m := 90) rfl (by decide +kernel) ?_
  refine ⟨by decide +kernel, ?_⟩
  refine a_R ?_
  refine a_I (v' := -1) rfl ?_
  refine a_new (m := 91) rfl (by decide +kernel) ?_
  refine ⟨by decide +kernel, ?_⟩
  refine a_R ?_
  refine ⟨67, by decide +kernel, by decide +kernel, ⟨by decide, by decide +kernel⟩, ?_⟩
  refine a_I (v' := 3) rfl ?_
  refine ⟨67, by decide +kernel, by decide +kernel, ⟨by decide, by decide +kernel⟩, ?_⟩
  refine a_I (v' := -1) rfl ?_
  exact hQ
