/-! the reference's day -/
set_option maxRecDepth 1000000 in
theorem kx_157 : okX 0 20000 10 157 [.inr (.inl (some 54))] 233 (T_0 l_112) (.inl none) 233 (T_0 l_157) = true := by decide +kernel
