theorem dX2_keep_0 : decode cX2_keep 0 = .ok (.aload_n 0, 1) := by decide +kernel
theorem dX2_keep_1 : decode cX2_keep 1 = .ok (.iconst 1, 1) := by decide +kernel
theorem dX2_keep_2 : decode cX2_keep 2 = .ok (.putfield 7, 3) := by decide +kernel
theorem dX2_keep_5 : decode cX2_keep 5 = .ok (.aload_n 0, 1) := by decide +kernel
theorem dX2_keep_6 : decode cX2_keep 6 = .ok (.iload_n 1, 1) := by decide +kernel
theorem dX2_keep_7 : decode cX2_keep 7 = .ok (.putfield 13, 3) := by decide +kernel
theorem dX2_keep_10 : decode cX2_keep 10 = .ok (.aload_n 0, 1) := by decide +kernel
theorem dX2_keep_11 : decode cX2_keep 11 = .ok (.iload_n 2, 1) := by decide +kernel
theorem dX2_keep_12 : decode cX2_keep 12 = .ok (.putfield 17, 3) := by decide +kernel
theorem dX2_keep_15 : decode cX2_keep 15 = .ok (.return_, 1) := by decide +kernel
def pX2_keep (b : Nat) (x1 : Int32) (x2 : Int32) (M : Mm) : Mm :=
bnd (mset M b 0 1) fun M1 =>
bnd (mset M1 b 1 x1) fun M3 =>
bnd (mset M3 b 2 x2) fun M5 =>
M5
abbrev zX2_keep : Zx := (cX2_keep, RX2, 3, 0, none)
set_option maxRecDepth 100000 in
set_option maxHeartbeats 4000000 in
theorem tX2_keep {l : Launch} {Y : Sx} {M : Mm} {b : Nat} {x1 : Int32} {x2 : Int32} {q : Mm} (h_b : isFound Y b) (h : pX2_keep b x1 x2 M = q) : Ct l Y yX2_keep cX2_keep 3 none 0 [.ref (adr Y b), .int x1, .int x2] M none q := by
  refine Ct.of (by decide) rfl (lv := [(0, .ref (adr Y b)), (1, .int x1), (2, .int x2)]) rfl ?_
  intro K hkl C
  change Cx K zX2_keep Y at C
  subst hkl
  unfold pX2_keep at h
  show Wp K zX2_keep Y (Qm K Y none q) M 0 [(0, .ref (adr Y b)), (1, .int x1), (2, .int x2)] []
  refine w_aload_n C (pc := 0) dX2_keep_0 0 rfl ?_
  refine w_iconst C (pc := 1) dX2_keep_1 (v := 1) (by decide) ?_
  obtain ⟨M1, e2, h⟩ := bn h
  refine w_putZ C (pc := 2) dX2_keep_2 fp_X2_7 h_b rfl (by decide) ?_
  rw [e2]
  refine w_aload_n C (pc := 5) dX2_keep_5 0 rfl ?_
  refine w_iload_n C (pc := 6) dX2_keep_6 1 rfl ?_
  obtain ⟨M3, e4, h⟩ := bn h
  refine w_putI C (pc := 7) dX2_keep_7 fp_X2_13 h_b rfl ?_
  rw [e4]
  refine w_aload_n C (pc := 10) dX2_keep_10 0 rfl ?_
  refine w_iload_n C (pc := 11) dX2_keep_11 2 rfl ?_
  obtain ⟨M5, e6, h⟩ := bn h
  refine w_putI C (pc := 12) dX2_keep_12 fp_X2_17 h_b rfl ?_
  rw [e6]
  exact w_retV C (pc := 15) dX2_keep_15 rfl h
