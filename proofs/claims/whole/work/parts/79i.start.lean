/-! ===== the start: the class ===== -/
def z0 : Nat → Int32 := fun _ => 0
/-- the class, made -/
def cH0 : zH := [.inr (11, [zr (some 1), zr (some 2), zr (some 13), zr (some 18), zi 0, zr (some 19)]), .inr (5, [zr (some 2), zr (some 4), zi 0, zi 0, zi 0, zi 0, zi (-1)]), .inr (10, [zr (some 3), zi 0]), .inl (1, 1000, .inl z0),
  .inr (6, [zi 0, zr (some 5), zr (some 6), zr (some 7), zi 0, zr (some 8), zr (some 9), zr (some 10), zi 0, zr (some 11), zr (some 12)]), .inl (0, 4, .inl z0), .inl (0, 48, .inl z0), .inl (0, 48, .inl z0), .inl (0, 4, .inl z0), .inl (0, 4, .inl z0), .inl (0, 4, .inl z0), .inl (0, 6, .inl z0), .inl (0, 3, .inl f8m),
  .inr (4, [zr (some 14), zr (some 15), zr (some 16), zi 0, zr (some 17)]), .inl (0, 6, .inl z0), .inl (0, 6, .inl z0), .inl (0, 6, .inl z0), .inl (0, 6, .inl z0), .inl (5, 4, .inr (fun _ => none)),
  .inr (9, [zr none, zr (some 20), zr (some 21), zr (some 23), zi 0]), .inl (4, 16, .inr (fun _ => none)), .inr (1, [zr (some 22)]), .inl (0, 0, .inl z0), .inr (2, [zr (some 24), zr (some 25), zr (some 26)]), .inl (0, 0, .inl z0), .inl (0, 0, .inl z0), .inl (0, 0, .inl z0)]
theorem c_new (N : Nat) : f_X11_init N 0 [.inr (11, [zr none, zr none, zr none, zr none, zi 0, zr none])] = some cH0 := rfl
