/-! ===== LEVEL 2: J0 ===== -/
/-! java/lang/String length ()I -/
def tJ0_length_8abf5 : List (Nat × Instr × Nat) := [(0, .aload_n 0, 1), (1, .getfield 9, 3), (4, .arraylength, 1), (5, .aload_n 0, 1), (6, .invokevirtual 335, 3), (9, .ishr, 1), (10, .ireturn, 1)]
set_option maxRecDepth 100000 in
theorem qJ0_length_8abf5 : ∀ q ∈ tJ0_length_8abf5, decode cJ0_length_8abf5 q.1 = .ok (q.2.1, q.2.2) := by decide +kernel
theorem gJ0_length_8abf5 {d : Nat} {p0 : Nat} {h : jm_H} {r : jm_R} (H : ((jr_R h p0 90 0 2).bind fun a1 => (jm_len h a1).bind fun n3 => jm_O h p0 14 (jc_I (jm_D d mJ0_coder_7d493 [.ref p0] h) (fun x7 h5 => some (.inl (some (.int ((Int32.ofNat n3) >>> (x7 &&& 31)))), h5)) jx)) = some r) : jm_D (d + 1) mJ0_length_8abf5 [.ref p0] h = some r := by
  rw [jm_D_body (Nat.le_of_ble_eq_true rfl)]
  show jm_B d mJ0_length_8abf5 (0, [some (.ref p0)], []) h = some r
  refine Eq.trans (jb_nx (i := .aload_n 0) (n := 1) (q := (1, [some (.ref p0)], [.ref p0])) (jq qJ0_length_8abf5 0 rfl) rfl) ?_
  obtain ⟨a1, e2, H⟩ := jbd H
  refine Eq.trans (jb_nx (i := .getfield 9) (n := 3) (q := (4, [some (.ref p0)], [.ref a1])) (jq qJ0_length_8abf5 1 rfl) (jo_gf rfl (jr_R_inv e2))) ?_
  obtain ⟨n3, e4, H⟩ := jbd H
  refine Eq.trans (jb_nx (i := .arraylength) (n := 1) (q := (5, [some (.ref p0)], [.int (Int32.ofNat n3)])) (jq qJ0_length_8abf5 2 rfl) (jo_len e4)) ?_
  refine Eq.trans (jb_nx (i := .aload_n 0) (n := 1) (q := (6, [some (.ref p0)], [.ref p0, .int (Int32.ofNat n3)])) (jq qJ0_length_8abf5 3 rfl) rfl) ?_
  obtain ⟨b8, H⟩ := jm_O_inv H
  rcases jcI H with ⟨x7, h5, r6, H⟩ | ⟨w9, h10, r6, H⟩
  · refine Eq.trans (jb_nx (i := .invokevirtual 335) (n := 3) (q := (9, [some (.ref p0)], [.int x7, .int (Int32.ofNat n3)])) (jq qJ0_length_8abf5 4 rfl) (jo_cv (y := mJ0_coder_7d493) rfl (Nat.le_of_ble_eq_true rfl) rfl (Nat.le_of_ble_eq_true rfl) b8 rfl r6 jo_ret)) ?_
    refine Eq.trans (jb_nx (i := .ishr) (n := 1) (q := (10, [some (.ref p0)], [.int ((Int32.ofNat n3) >>> (x7 &&& 31))])) (jq qJ0_length_8abf5 5 rfl) rfl) ?_
    exact Eq.trans (jb_rt (i := .ireturn) (n := 1) (jq qJ0_length_8abf5 6 rfl) (jo_iret rfl rfl)) H
  · exact Eq.trans (jb_rt (i := .invokevirtual 335) (n := 3) (jq qJ0_length_8abf5 4 rfl) (jo_cv (y := mJ0_coder_7d493) rfl (Nat.le_of_ble_eq_true rfl) rfl (Nat.le_of_ble_eq_true rfl) b8 rfl r6 (jo_exn rfl))) H
/-! java/lang/String coder ()B -/
def tJ0_coder_7d493 : List (Nat × Instr × Nat) := [(0, .getstatic 38, 3), (3, .ifCond .eq 10, 3), (6, .aload_n 0, 1), (7, .getfield 15, 3), (10, .goto 4, 3), (13, .iconst 1, 1), (14, .ireturn, 1)]
set_option maxRecDepth 100000 in
theorem qJ0_coder_7d493 : ∀ q ∈ tJ0_coder_7d493, decode cJ0_coder_7d493 q.1 = .ok (q.2.1, q.2.2) := by decide +kernel
theorem gJ0_coder_7d493 {d : Nat} {p0 : Nat} {h : jm_H} {r : jm_R} (H : ((jr_I h p0 90 1 0).bind fun x2 => jm_Y .byte x2 (some (.inl (some (.int x2)), h))) = some r) : jm_D (d + 1) mJ0_coder_7d493 [.ref p0] h = some r := by
  rw [jm_D_body (Nat.le_of_ble_eq_true rfl)]
  show jm_B d mJ0_coder_7d493 (0, [some (.ref p0)], []) h = some r
  refine Eq.trans (jb_nx (i := .getstatic 38) (n := 3) (q := (3, [some (.ref p0)], [.int 1])) (jq qJ0_coder_7d493 0 rfl) rfl) ?_
  refine Eq.trans (jb_nx (i := .ifCond .eq 10) (n := 3) (q := (6, [some (.ref p0)], [])) (jq qJ0_coder_7d493 1 rfl) (jo_ifF (by decide))) ?_
  refine Eq.trans (jb_nx (i := .aload_n 0) (n := 1) (q := (7, [some (.ref p0)], [.ref p0])) (jq qJ0_coder_7d493 2 rfl) rfl) ?_
  obtain ⟨x2, e3, H⟩ := jbd H
  refine Eq.trans (jb_nx (i := .getfield 15) (n := 3) (q := (10, [some (.ref p0)], [.int x2])) (jq qJ0_coder_7d493 3 rfl) (jo_gf rfl (jr_I_inv e3))) ?_
  refine Eq.trans (jb_nx (i := .goto 4) (n := 3) (q := (14, [some (.ref p0)], [.int x2])) (jq qJ0_coder_7d493 4 rfl) rfl) ?_
  obtain ⟨u4, H⟩ := jm_Y_inv H
  exact Eq.trans (jb_rt (i := .ireturn) (n := 1) (jq qJ0_coder_7d493 6 rfl) (jo_iret rfl u4)) H
/-! java/lang/String charAt (I)C -/
def tJ0_charAt_5068e : List (Nat × Instr × Nat) := [(0, .aload_n 0, 1), (1, .invokevirtual 492, 3), (4, .ifCond .eq 12, 3), (7, .aload_n 0, 1), (8, .getfield 9, 3), (11, .iload_n 1, 1), (12, .invokestatic 495, 3), (15, .ireturn, 1), (16, .aload_n 0, 1), (17, .getfield 9, 3), (20, .iload_n 1, 1), (21, .invokestatic 498, 3), (24, .ireturn, 1)]
set_option maxRecDepth 100000 in
theorem qJ0_charAt_5068e : ∀ q ∈ tJ0_charAt_5068e, decode cJ0_charAt_5068e q.1 = .ok (q.2.1, q.2.2) := by decide +kernel
theorem gJ0_charAt_5068e {d : Nat} {p0 : Nat} {i1 : Int32} {h : jm_H} {r : jm_R} (H : (jm_O h p0 14 (jc_I (jm_D d mJ0_isLatin1_aae02 [.ref p0] h) (fun x3 h1 => (if x3 = 0 then (jr_R h1 p0 90 0 2).bind fun a5 => (none : Option jm_R) else (jr_R h1 p0 90 0 2).bind fun a7 => jc_I (jm_D d mJ1_charAt_3b067 [.ref a7, .int i1] h1) (fun x11 h9 => jm_Y .char x11 (some (.inl (some (.int x11)), h9))) jx)) jx)) = some r) : jm_D (d + 1) mJ0_charAt_5068e [.ref p0, .int i1] h = some r := by
  rw [jm_D_body (Nat.le_of_ble_eq_true rfl)]
  show jm_B d mJ0_charAt_5068e (0, [some (.ref p0), some (.int i1)], []) h = some r
  refine Eq.trans (jb_nx (i := .aload_n 0) (n := 1) (q := (1, [some (.ref p0), some (.int i1)], [.ref p0])) (jq qJ0_charAt_5068e 0 rfl) rfl) ?_
  obtain ⟨b15, H⟩ := jm_O_inv H
  rcases jcI H with ⟨x3, h1, r2, H⟩ | ⟨w16, h17, r2, H⟩
  · refine Eq.trans (jb_nx (i := .invokevirtual 492) (n := 3) (q := (4, [some (.ref p0), some (.int i1)], [.int x3])) (jq qJ0_charAt_5068e 1 rfl) (jo_cv (y := mJ0_isLatin1_aae02) rfl (Nat.le_of_ble_eq_true rfl) rfl (Nat.le_of_ble_eq_true rfl) b15 rfl r2 jo_ret)) ?_
    by_cases c4 : x3 = 0
    · rw [if_pos c4] at H
      refine Eq.trans (jb_nx (i := .ifCond .eq 12) (n := 3) (q := (16, [some (.ref p0), some (.int i1)], [])) (jq qJ0_charAt_5068e 2 rfl) (jo_ifT (jz_eqT c4) rfl)) ?_
      refine Eq.trans (jb_nx (i := .aload_n 0) (n := 1) (q := (17, [some (.ref p0), some (.int i1)], [.ref p0])) (jq qJ0_charAt_5068e 8 rfl) rfl) ?_
      obtain ⟨a5, e6, H⟩ := jbd H
      refine Eq.trans (jb_nx (i := .getfield 9) (n := 3) (q := (20, [some (.ref p0), some (.int i1)], [.ref a5])) (jq qJ0_charAt_5068e 9 rfl) (jo_gf rfl (jr_R_inv e6))) ?_
      refine Eq.trans (jb_nx (i := .iload_n 1) (n := 1) (q := (21, [some (.ref p0), some (.int i1)], [.int i1, .ref a5])) (jq qJ0_charAt_5068e 10 rfl) rfl) ?_
      cases H
    · rw [if_neg c4] at H
      refine Eq.trans (jb_nx (i := .ifCond .eq 12) (n := 3) (q := (7, [some (.ref p0), some (.int i1)], [])) (jq qJ0_charAt_5068e 2 rfl) (jo_ifF (jz_eqF c4))) ?_
      refine Eq.trans (jb_nx (i := .aload_n 0) (n := 1) (q := (8, [some (.ref p0), some (.int i1)], [.ref p0])) (jq qJ0_charAt_5068e 3 rfl) rfl) ?_
      obtain ⟨a7, e8, H⟩ := jbd H
      refine Eq.trans (jb_nx (i := .getfield 9) (n := 3) (q := (11, [some (.ref p0), some (.int i1)], [.ref a7])) (jq qJ0_charAt_5068e 4 rfl) (jo_gf rfl (jr_R_inv e8))) ?_
      refine Eq.trans (jb_nx (i := .iload_n 1) (n := 1) (q := (12, [some (.ref p0), some (.int i1)], [.int i1, .ref a7])) (jq qJ0_charAt_5068e 5 rfl) rfl) ?_
      rcases jcI H with ⟨x11, h9, r10, H⟩ | ⟨w13, h14, r10, H⟩
      · refine Eq.trans (jb_nx (i := .invokestatic 495) (n := 3) (q := (15, [some (.ref p0), some (.int i1)], [.int x11])) (jq qJ0_charAt_5068e 6 rfl) (jo_cs (y := mJ1_charAt_3b067) (w := 1) (by decide) rfl (Nat.le_of_ble_eq_true rfl) rfl (Nat.le_of_ble_eq_true rfl) rfl r10 jo_ret)) ?_
        obtain ⟨u12, H⟩ := jm_Y_inv H
        exact Eq.trans (jb_rt (i := .ireturn) (n := 1) (jq qJ0_charAt_5068e 7 rfl) (jo_iret rfl u12)) H
      · exact Eq.trans (jb_rt (i := .invokestatic 495) (n := 3) (jq qJ0_charAt_5068e 6 rfl) (jo_cs (y := mJ1_charAt_3b067) (w := 1) (by decide) rfl (Nat.le_of_ble_eq_true rfl) rfl (Nat.le_of_ble_eq_true rfl) rfl r10 (jo_exn rfl))) H
  · exact Eq.trans (jb_rt (i := .invokevirtual 492) (n := 3) (jq qJ0_charAt_5068e 1 rfl) (jo_cv (y := mJ0_isLatin1_aae02) rfl (Nat.le_of_ble_eq_true rfl) rfl (Nat.le_of_ble_eq_true rfl) b15 rfl r2 (jo_exn rfl))) H
/-! java/lang/String isLatin1 ()Z -/
def tJ0_isLatin1_aae02 : List (Nat × Instr × Nat) := [(0, .getstatic 38, 3), (3, .ifCond .eq 14, 3), (6, .aload_n 0, 1), (7, .getfield 15, 3), (10, .ifCond .ne 7, 3), (13, .iconst 1, 1), (14, .goto 4, 3), (17, .iconst 0, 1), (18, .ireturn, 1)]
set_option maxRecDepth 100000 in
theorem qJ0_isLatin1_aae02 : ∀ q ∈ tJ0_isLatin1_aae02, decode cJ0_isLatin1_aae02 q.1 = .ok (q.2.1, q.2.2) := by decide +kernel
theorem gJ0_isLatin1_aae02 {d : Nat} {p0 : Nat} {h : jm_H} {r : jm_R} (H : ((jr_I h p0 90 1 0).bind fun x2 => (if x2 = 0 then some (.inl (some (.int 1)), h) else some (.inl (some (.int 0)), h))) = some r) : jm_D (d + 1) mJ0_isLatin1_aae02 [.ref p0] h = some r := by
  rw [jm_D_body (Nat.le_of_ble_eq_true rfl)]
  show jm_B d mJ0_isLatin1_aae02 (0, [some (.ref p0)], []) h = some r
  refine Eq.trans (jb_nx (i := .getstatic 38) (n := 3) (q := (3, [some (.ref p0)], [.int 1])) (jq qJ0_isLatin1_aae02 0 rfl) rfl) ?_
  refine Eq.trans (jb_nx (i := .ifCond .eq 14) (n := 3) (q := (6, [some (.ref p0)], [])) (jq qJ0_isLatin1_aae02 1 rfl) (jo_ifF (by decide))) ?_
  refine Eq.trans (jb_nx (i := .aload_n 0) (n := 1) (q := (7, [some (.ref p0)], [.ref p0])) (jq qJ0_isLatin1_aae02 2 rfl) rfl) ?_
  obtain ⟨x2, e3, H⟩ := jbd H
  refine Eq.trans (jb_nx (i := .getfield 15) (n := 3) (q := (10, [some (.ref p0)], [.int x2])) (jq qJ0_isLatin1_aae02 3 rfl) (jo_gf rfl (jr_I_inv e3))) ?_
  by_cases c4 : x2 = 0
  · rw [if_pos c4] at H
    refine Eq.trans (jb_nx (i := .ifCond .ne 7) (n := 3) (q := (13, [some (.ref p0)], [])) (jq qJ0_isLatin1_aae02 4 rfl) (jo_ifF (jz_neF c4))) ?_
    refine Eq.trans (jb_nx (i := .iconst 1) (n := 1) (q := (14, [some (.ref p0)], [.int 1])) (jq qJ0_isLatin1_aae02 5 rfl) rfl) ?_
    refine Eq.trans (jb_nx (i := .goto 4) (n := 3) (q := (18, [some (.ref p0)], [.int 1])) (jq qJ0_isLatin1_aae02 6 rfl) rfl) ?_
    exact Eq.trans (jb_rt (i := .ireturn) (n := 1) (jq qJ0_isLatin1_aae02 8 rfl) (jo_iret rfl (by decide))) H
  · rw [if_neg c4] at H
    refine Eq.trans (jb_nx (i := .ifCond .ne 7) (n := 3) (q := (17, [some (.ref p0)], [])) (jq qJ0_isLatin1_aae02 4 rfl) (jo_ifT (jz_neT c4) rfl)) ?_
    refine Eq.trans (jb_nx (i := .iconst 0) (n := 1) (q := (18, [some (.ref p0)], [.int 0])) (jq qJ0_isLatin1_aae02 7 rfl) rfl) ?_
    exact Eq.trans (jb_rt (i := .ireturn) (n := 1) (jq qJ0_isLatin1_aae02 8 rfl) (jo_iret rfl (by decide))) H
/-! java/lang/String checkIndex (II)V -/
def tJ0_checkIndex_df160 : List (Nat × Instr × Nat) := [(0, .iload_n 0, 1), (1, .iload_n 1, 1), (2, .getstatic 1053, 3), (5, .invokestatic 1059, 3), (8, .pop, 1), (9, .return_, 1)]
set_option maxRecDepth 100000 in
theorem qJ0_checkIndex_df160 : ∀ q ∈ tJ0_checkIndex_df160, decode cJ0_checkIndex_df160 q.1 = .ok (q.2.1, q.2.2) := by decide +kernel
theorem gJ0_checkIndex_df160 {d : Nat} {i0 : Int32} {i1 : Int32} {h : jm_H} {r : jm_R} (H : (jc_I (jm_D d mJ3_checkIndex_8e157 [.int i0, .int i1, .ref 81] h) (fun x3 h1 => some (.inl none, h1)) jx) = some r) : jm_D (d + 1) mJ0_checkIndex_df160 [.int i0, .int i1] h = some r := by
  rw [jm_D_body (Nat.le_of_ble_eq_true rfl)]
  show jm_B d mJ0_checkIndex_df160 (0, [some (.int i0), some (.int i1)], []) h = some r
  refine Eq.trans (jb_nx (i := .iload_n 0) (n := 1) (q := (1, [some (.int i0), some (.int i1)], [.int i0])) (jq qJ0_checkIndex_df160 0 rfl) rfl) ?_
  refine Eq.trans (jb_nx (i := .iload_n 1) (n := 1) (q := (2, [some (.int i0), some (.int i1)], [.int i1, .int i0])) (jq qJ0_checkIndex_df160 1 rfl) rfl) ?_
  refine Eq.trans (jb_nx (i := .getstatic 1053) (n := 3) (q := (5, [some (.int i0), some (.int i1)], [.ref 81, .int i1, .int i0])) (jq qJ0_checkIndex_df160 2 rfl) rfl) ?_
  rcases jcI H with ⟨x3, h1, r2, H⟩ | ⟨w4, h5, r2, H⟩
  · refine Eq.trans (jb_nx (i := .invokestatic 1059) (n := 3) (q := (8, [some (.int i0), some (.int i1)], [.int x3])) (jq qJ0_checkIndex_df160 3 rfl) (jo_cs (y := mJ3_checkIndex_8e157) (w := 1) (by decide) rfl (Nat.le_of_ble_eq_true rfl) rfl (Nat.le_of_ble_eq_true rfl) rfl r2 jo_ret)) ?_
    refine Eq.trans (jb_nx (i := .pop) (n := 1) (q := (9, [some (.int i0), some (.int i1)], [])) (jq qJ0_checkIndex_df160 4 rfl) rfl) ?_
    exact Eq.trans (jb_rt (i := .return_) (n := 1) (jq qJ0_checkIndex_df160 5 rfl) rfl) H
  · exact Eq.trans (jb_rt (i := .invokestatic 1059) (n := 3) (jq qJ0_checkIndex_df160 3 rfl) (jo_cs (y := mJ3_checkIndex_8e157) (w := 1) (by decide) rfl (Nat.le_of_ble_eq_true rfl) rfl (Nat.le_of_ble_eq_true rfl) rfl r2 (jo_exn rfl))) H
/-! java/lang/String indexOf (I)I -/
def tJ0_indexOf_0f7a4 : List (Nat × Instr × Nat) := [(0, .aload_n 0, 1), (1, .iload_n 1, 1), (2, .iconst 0, 1), (3, .invokevirtual 633, 3), (6, .ireturn, 1)]
set_option maxRecDepth 100000 in
theorem qJ0_indexOf_0f7a4 : ∀ q ∈ tJ0_indexOf_0f7a4, decode cJ0_indexOf_0f7a4 q.1 = .ok (q.2.1, q.2.2) := by decide +kernel
theorem gJ0_indexOf_0f7a4 {d : Nat} {p0 : Nat} {i1 : Int32} {h : jm_H} {r : jm_R} (H : (jm_O h p0 14 (jc_I (jm_D d mJ0_indexOf_7cf53 [.ref p0, .int i1, .int 0] h) (fun x3 h1 => some (.inl (some (.int x3)), h1)) jx)) = some r) : jm_D (d + 1) mJ0_indexOf_0f7a4 [.ref p0, .int i1] h = some r := by
  rw [jm_D_body (Nat.le_of_ble_eq_true rfl)]
  show jm_B d mJ0_indexOf_0f7a4 (0, [some (.ref p0), some (.int i1)], []) h = some r
  refine Eq.trans (jb_nx (i := .aload_n 0) (n := 1) (q := (1, [some (.ref p0), some (.int i1)], [.ref p0])) (jq qJ0_indexOf_0f7a4 0 rfl) rfl) ?_
  refine Eq.trans (jb_nx (i := .iload_n 1) (n := 1) (q := (2, [some (.ref p0), some (.int i1)], [.int i1, .ref p0])) (jq qJ0_indexOf_0f7a4 1 rfl) rfl) ?_
  refine Eq.trans (jb_nx (i := .iconst 0) (n := 1) (q := (3, [some (.ref p0), some (.int i1)], [.int 0, .int i1, .ref p0])) (jq qJ0_indexOf_0f7a4 2 rfl) rfl) ?_
  obtain ⟨b4, H⟩ := jm_O_inv H
  rcases jcI H with ⟨x3, h1, r2, H⟩ | ⟨w5, h6, r2, H⟩
  · refine Eq.trans (jb_nx (i := .invokevirtual 633) (n := 3) (q := (6, [some (.ref p0), some (.int i1)], [.int x3])) (jq qJ0_indexOf_0f7a4 3 rfl) (jo_cv (y := mJ0_indexOf_7cf53) rfl (Nat.le_of_ble_eq_true rfl) rfl (Nat.le_of_ble_eq_true rfl) b4 rfl r2 jo_ret)) ?_
    exact Eq.trans (jb_rt (i := .ireturn) (n := 1) (jq qJ0_indexOf_0f7a4 4 rfl) (jo_iret rfl rfl)) H
  · exact Eq.trans (jb_rt (i := .invokevirtual 633) (n := 3) (jq qJ0_indexOf_0f7a4 3 rfl) (jo_cv (y := mJ0_indexOf_7cf53) rfl (Nat.le_of_ble_eq_true rfl) rfl (Nat.le_of_ble_eq_true rfl) b4 rfl r2 (jo_exn rfl))) H
/-! java/lang/String indexOf (II)I -/
def tJ0_indexOf_7cf53 : List (Nat × Instr × Nat) := [(0, .aload_n 0, 1), (1, .invokevirtual 492, 3), (4, .ifCond .eq 19, 3), (7, .aload_n 0, 1), (8, .getfield 9, 3), (11, .iload_n 1, 1), (12, .iload_n 2, 1), (13, .aload_n 0, 1), (14, .invokevirtual 505, 3), (17, .invokestatic 637, 3), (20, .goto 16, 3), (23, .aload_n 0, 1), (24, .getfield 9, 3), (27, .iload_n 1, 1), (28, .iload_n 2, 1), (29, .aload_n 0, 1), (30, .invokevirtual 505, 3), (33, .invokestatic 640, 3), (36, .ireturn, 1)]
set_option maxRecDepth 100000 in
theorem qJ0_indexOf_7cf53 : ∀ q ∈ tJ0_indexOf_7cf53, decode cJ0_indexOf_7cf53 q.1 = .ok (q.2.1, q.2.2) := by decide +kernel
theorem gJ0_indexOf_7cf53 {d : Nat} {p0 : Nat} {i1 : Int32} {i2 : Int32} {h : jm_H} {r : jm_R} (H : (jm_O h p0 14 (jc_I (jm_D d mJ0_isLatin1_aae02 [.ref p0] h) (fun x3 h1 => (if x3 = 0 then (jr_R h1 p0 90 0 2).bind fun a5 => jm_O h1 p0 14 (jc_I (jm_D d mJ0_length_8abf5 [.ref p0] h1) (fun x9 h7 => (none : Option jm_R)) jx) else (jr_R h1 p0 90 0 2).bind fun a13 => jm_O h1 p0 14 (jc_I (jm_D d mJ0_length_8abf5 [.ref p0] h1) (fun x17 h15 => jc_I (jm_D d mJ1_indexOf_4cfef [.ref a13, .int i1, .int i2, .int x17] h15) (fun x20 h18 => some (.inl (some (.int x20)), h18)) jx) jx))) jx)) = some r) : jm_D (d + 1) mJ0_indexOf_7cf53 [.ref p0, .int i1, .int i2] h = some r := by
  rw [jm_D_body (Nat.le_of_ble_eq_true rfl)]
  show jm_B d mJ0_indexOf_7cf53 (0, [some (.ref p0), some (.int i1), some (.int i2)], []) h = some r
  refine Eq.trans (jb_nx (i := .aload_n 0) (n := 1) (q := (1, [some (.ref p0), some (.int i1), some (.int i2)], [.ref p0])) (jq qJ0_indexOf_7cf53 0 rfl) rfl) ?_
  obtain ⟨b26, H⟩ := jm_O_inv H
  rcases jcI H with ⟨x3, h1, r2, H⟩ | ⟨w27, h28, r2, H⟩
  · refine Eq.trans (jb_nx (i := .invokevirtual 492) (n := 3) (q := (4, [some (.ref p0), some (.int i1), some (.int i2)], [.int x3])) (jq qJ0_indexOf_7cf53 1 rfl) (jo_cv (y := mJ0_isLatin1_aae02) rfl (Nat.le_of_ble_eq_true rfl) rfl (Nat.le_of_ble_eq_true rfl) b26 rfl r2 jo_ret)) ?_
    by_cases c4 : x3 = 0
    · rw [if_pos c4] at H
      refine Eq.trans (jb_nx (i := .ifCond .eq 19) (n := 3) (q := (23, [some (.ref p0), some (.int i1), some (.int i2)], [])) (jq qJ0_indexOf_7cf53 2 rfl) (jo_ifT (jz_eqT c4) rfl)) ?_
      refine Eq.trans (jb_nx (i := .aload_n 0) (n := 1) (q := (24, [some (.ref p0), some (.int i1), some (.int i2)], [.ref p0])) (jq qJ0_indexOf_7cf53 11 rfl) rfl) ?_
      obtain ⟨a5, e6, H⟩ := jbd H
      refine Eq.trans (jb_nx (i := .getfield 9) (n := 3) (q := (27, [some (.ref p0), some (.int i1), some (.int i2)], [.ref a5])) (jq qJ0_indexOf_7cf53 12 rfl) (jo_gf rfl (jr_R_inv e6))) ?_
      refine Eq.trans (jb_nx (i := .iload_n 1) (n := 1) (q := (28, [some (.ref p0), some (.int i1), some (.int i2)], [.int i1, .ref a5])) (jq qJ0_indexOf_7cf53 13 rfl) rfl) ?_
      refine Eq.trans (jb_nx (i := .iload_n 2) (n := 1) (q := (29, [some (.ref p0), some (.int i1), some (.int i2)], [.int i2, .int i1, .ref a5])) (jq qJ0_indexOf_7cf53 14 rfl) rfl) ?_
      refine Eq.trans (jb_nx (i := .aload_n 0) (n := 1) (q := (30, [some (.ref p0), some (.int i1), some (.int i2)], [.ref p0, .int i2, .int i1, .ref a5])) (jq qJ0_indexOf_7cf53 15 rfl) rfl) ?_
      obtain ⟨b10, H⟩ := jm_O_inv H
      rcases jcI H with ⟨x9, h7, r8, H⟩ | ⟨w11, h12, r8, H⟩
      · refine Eq.trans (jb_nx (i := .invokevirtual 505) (n := 3) (q := (33, [some (.ref p0), some (.int i1), some (.int i2)], [.int x9, .int i2, .int i1, .ref a5])) (jq qJ0_indexOf_7cf53 16 rfl) (jo_cv (y := mJ0_length_8abf5) rfl (Nat.le_of_ble_eq_true rfl) rfl (Nat.le_of_ble_eq_true rfl) b10 rfl r8 jo_ret)) ?_
        cases H
      · exact Eq.trans (jb_rt (i := .invokevirtual 505) (n := 3) (jq qJ0_indexOf_7cf53 16 rfl) (jo_cv (y := mJ0_length_8abf5) rfl (Nat.le_of_ble_eq_true rfl) rfl (Nat.le_of_ble_eq_true rfl) b10 rfl r8 (jo_exn rfl))) H
    · rw [if_neg c4] at H
      refine Eq.trans (jb_nx (i := .ifCond .eq 19) (n := 3) (q := (7, [some (.ref p0), some (.int i1), some (.int i2)], [])) (jq qJ0_indexOf_7cf53 2 rfl) (jo_ifF (jz_eqF c4))) ?_
      refine Eq.trans (jb_nx (i := .aload_n 0) (n := 1) (q := (8, [some (.ref p0), some (.int i1), some (.int i2)], [.ref p0])) (jq qJ0_indexOf_7cf53 3 rfl) rfl) ?_
      obtain ⟨a13, e14, H⟩ := jbd H
      refine Eq.trans (jb_nx (i := .getfield 9) (n := 3) (q := (11, [some (.ref p0), some (.int i1), some (.int i2)], [.ref a13])) (jq qJ0_indexOf_7cf53 4 rfl) (jo_gf rfl (jr_R_inv e14))) ?_
      refine Eq.trans (jb_nx (i := .iload_n 1) (n := 1) (q := (12, [some (.ref p0), some (.int i1), some (.int i2)], [.int i1, .ref a13])) (jq qJ0_indexOf_7cf53 5 rfl) rfl) ?_
      refine Eq.trans (jb_nx (i := .iload_n 2) (n := 1) (q := (13, [some (.ref p0), some (.int i1), some (.int i2)], [.int i2, .int i1, .ref a13])) (jq qJ0_indexOf_7cf53 6 rfl) rfl) ?_
      refine Eq.trans (jb_nx (i := .aload_n 0) (n := 1) (q := (14, [some (.ref p0), some (.int i1), some (.int i2)], [.ref p0, .int i2, .int i1, .ref a13])) (jq qJ0_indexOf_7cf53 7 rfl) rfl) ?_
      obtain ⟨b23, H⟩ := jm_O_inv H
      rcases jcI H with ⟨x17, h15, r16, H⟩ | ⟨w24, h25, r16, H⟩
      · refine Eq.trans (jb_nx (i := .invokevirtual 505) (n := 3) (q := (17, [some (.ref p0), some (.int i1), some (.int i2)], [.int x17, .int i2, .int i1, .ref a13])) (jq qJ0_indexOf_7cf53 8 rfl) (jo_cv (y := mJ0_length_8abf5) rfl (Nat.le_of_ble_eq_true rfl) rfl (Nat.le_of_ble_eq_true rfl) b23 rfl r16 jo_ret)) ?_
        rcases jcI H with ⟨x20, h18, r19, H⟩ | ⟨w21, h22, r19, H⟩
        · refine Eq.trans (jb_nx (i := .invokestatic 637) (n := 3) (q := (20, [some (.ref p0), some (.int i1), some (.int i2)], [.int x20])) (jq qJ0_indexOf_7cf53 9 rfl) (jo_cs (y := mJ1_indexOf_4cfef) (w := 1) (by decide) rfl (Nat.le_of_ble_eq_true rfl) rfl (Nat.le_of_ble_eq_true rfl) rfl r19 jo_ret)) ?_
          refine Eq.trans (jb_nx (i := .goto 16) (n := 3) (q := (36, [some (.ref p0), some (.int i1), some (.int i2)], [.int x20])) (jq qJ0_indexOf_7cf53 10 rfl) rfl) ?_
          exact Eq.trans (jb_rt (i := .ireturn) (n := 1) (jq qJ0_indexOf_7cf53 18 rfl) (jo_iret rfl rfl)) H
        · exact Eq.trans (jb_rt (i := .invokestatic 637) (n := 3) (jq qJ0_indexOf_7cf53 9 rfl) (jo_cs (y := mJ1_indexOf_4cfef) (w := 1) (by decide) rfl (Nat.le_of_ble_eq_true rfl) rfl (Nat.le_of_ble_eq_true rfl) rfl r19 (jo_exn rfl))) H
      · exact Eq.trans (jb_rt (i := .invokevirtual 505) (n := 3) (jq qJ0_indexOf_7cf53 8 rfl) (jo_cv (y := mJ0_length_8abf5) rfl (Nat.le_of_ble_eq_true rfl) rfl (Nat.le_of_ble_eq_true rfl) b23 rfl r16 (jo_exn rfl))) H
  · exact Eq.trans (jb_rt (i := .invokevirtual 492) (n := 3) (jq qJ0_indexOf_7cf53 1 rfl) (jo_cv (y := mJ0_isLatin1_aae02) rfl (Nat.le_of_ble_eq_true rfl) rfl (Nat.le_of_ble_eq_true rfl) b26 rfl r2 (jo_exn rfl))) H
/-! ===== LEVEL 2: J1 ===== -/
/-! java/lang/StringLatin1 charAt ([BI)C -/
def tJ1_charAt_3b067 : List (Nat × Instr × Nat) := [(0, .iload_n 1, 1), (1, .aload_n 0, 1), (2, .arraylength, 1), (3, .invokestatic 9, 3), (6, .aload_n 0, 1), (7, .iload_n 1, 1), (8, .baload, 1), (9, .sipush 255, 3), (12, .iand, 1), (13, .i2c, 1), (14, .ireturn, 1)]
set_option maxRecDepth 100000 in
theorem qJ1_charAt_3b067 : ∀ q ∈ tJ1_charAt_3b067, decode cJ1_charAt_3b067 q.1 = .ok (q.2.1, q.2.2) := by decide +kernel
theorem gJ1_charAt_3b067 {d : Nat} {p0 : Nat} {i1 : Int32} {h : jm_H} {r : jm_R} (H : ((jm_len h p0).bind fun n1 => jc_V (jm_D d mJ0_checkIndex_df160 [.int i1, .int (Int32.ofNat n1)] h) (fun h3 => (jm_ali h3 p0 2 i1).bind fun x5 => jm_Y .char (UInt32.toInt32 (Int32.toUInt32 (x5 &&& 255) % 65536)) (some (.inl (some (.int (UInt32.toInt32 (Int32.toUInt32 (x5 &&& 255) % 65536)))), h3))) jx) = some r) : jm_D (d + 1) mJ1_charAt_3b067 [.ref p0, .int i1] h = some r := by
  rw [jm_D_body (Nat.le_of_ble_eq_true rfl)]
  show jm_B d mJ1_charAt_3b067 (0, [some (.ref p0), some (.int i1)], []) h = some r
  refine Eq.trans (jb_nx (i := .iload_n 1) (n := 1) (q := (1, [some (.ref p0), some (.int i1)], [.int i1])) (jq qJ1_charAt_3b067 0 rfl) rfl) ?_
  refine Eq.trans (jb_nx (i := .aload_n 0) (n := 1) (q := (2, [some (.ref p0), some (.int i1)], [.ref p0, .int i1])) (jq qJ1_charAt_3b067 1 rfl) rfl) ?_
  obtain ⟨n1, e2, H⟩ := jbd H
  refine Eq.trans (jb_nx (i := .arraylength) (n := 1) (q := (3, [some (.ref p0), some (.int i1)], [.int (Int32.ofNat n1), .int i1])) (jq qJ1_charAt_3b067 2 rfl) (jo_len e2)) ?_
  rcases jcV H with ⟨h3, r4, H⟩ | ⟨w8, h9, r4, H⟩
  · refine Eq.trans (jb_nx (i := .invokestatic 9) (n := 3) (q := (6, [some (.ref p0), some (.int i1)], [])) (jq qJ1_charAt_3b067 3 rfl) (jo_cs (y := mJ0_checkIndex_df160) (w := 1) (by decide) rfl (Nat.le_of_ble_eq_true rfl) rfl (Nat.le_of_ble_eq_true rfl) rfl r4 jo_ret)) ?_
    refine Eq.trans (jb_nx (i := .aload_n 0) (n := 1) (q := (7, [some (.ref p0), some (.int i1)], [.ref p0])) (jq qJ1_charAt_3b067 4 rfl) rfl) ?_
    refine Eq.trans (jb_nx (i := .iload_n 1) (n := 1) (q := (8, [some (.ref p0), some (.int i1)], [.int i1, .ref p0])) (jq qJ1_charAt_3b067 5 rfl) rfl) ?_
    obtain ⟨x5, e6, H⟩ := jbd H
    refine Eq.trans (jb_nx (i := .baload) (n := 1) (q := (9, [some (.ref p0), some (.int i1)], [.int x5])) (jq qJ1_charAt_3b067 6 rfl) (jo_bal e6)) ?_
    refine Eq.trans (jb_nx (i := .sipush 255) (n := 3) (q := (12, [some (.ref p0), some (.int i1)], [.int 255, .int x5])) (jq qJ1_charAt_3b067 7 rfl) rfl) ?_
    refine Eq.trans (jb_nx (i := .iand) (n := 1) (q := (13, [some (.ref p0), some (.int i1)], [.int (x5 &&& 255)])) (jq qJ1_charAt_3b067 8 rfl) rfl) ?_
    refine Eq.trans (jb_nx (i := .i2c) (n := 1) (q := (14, [some (.ref p0), some (.int i1)], [.int (UInt32.toInt32 (Int32.toUInt32 (x5 &&& 255) % 65536))])) (jq qJ1_charAt_3b067 9 rfl) rfl) ?_
    obtain ⟨u7, H⟩ := jm_Y_inv H
    exact Eq.trans (jb_rt (i := .ireturn) (n := 1) (jq qJ1_charAt_3b067 10 rfl) (jo_iret rfl u7)) H
  · exact Eq.trans (jb_rt (i := .invokestatic 9) (n := 3) (jq qJ1_charAt_3b067 3 rfl) (jo_cs (y := mJ0_checkIndex_df160) (w := 1) (by decide) rfl (Nat.le_of_ble_eq_true rfl) rfl (Nat.le_of_ble_eq_true rfl) rfl r4 (jo_exn rfl))) H
/-! java/lang/StringLatin1 indexOf ([BIII)I -/
def tJ1_indexOf_4cfef : List (Nat × Instr × Nat) := [(0, .iload_n 1, 1), (1, .invokestatic 88, 3), (4, .ifCond .ne 5, 3), (7, .iconst (-1), 1), (8, .ireturn, 1), (9, .iload_n 2, 1), (10, .iconst 0, 1), (11, .invokestatic 92, 3), (14, .istore_n 2, 1), (15, .iload_n 3, 1), (16, .aload_n 0, 1), (17, .arraylength, 1), (18, .invokestatic 38, 3), (21, .istore_n 3, 1), (22, .iload_n 2, 1), (23, .iload_n 3, 1), (24, .if_icmp .lt 5, 3), (27, .iconst (-1), 1), (28, .ireturn, 1), (29, .aload_n 0, 1), (30, .iload_n 1, 1), (31, .iload_n 2, 1), (32, .iload_n 3, 1), (33, .invokestatic 95, 3), (36, .ireturn, 1)]
set_option maxRecDepth 100000 in
theorem qJ1_indexOf_4cfef : ∀ q ∈ tJ1_indexOf_4cfef, decode cJ1_indexOf_4cfef q.1 = .ok (q.2.1, q.2.2) := by decide +kernel
theorem gJ1_indexOf_4cfef {d : Nat} {p0 : Nat} {i1 : Int32} {i2 : Int32} {i3 : Int32} {h : jm_H} {r : jm_R} (H : (jc_I (jm_D d mJ1_canEncode_9a6ad [.int i1] h) (fun x3 h1 => (if x3 = 0 then some (.inl (some (.int (-1))), h1) else (jm_len h1 p0).bind fun n5 => (if (if i2 < 0 then 0 else i2) < (if (Int32.ofNat n5) < i3 then (Int32.ofNat n5) else i3) then jc_I (jm_D d mJ1_indexOfChar_4cfef [.ref p0, .int i1, .int (if i2 < 0 then 0 else i2), .int (if (Int32.ofNat n5) < i3 then (Int32.ofNat n5) else i3)] h1) (fun x10 h8 => some (.inl (some (.int x10)), h8)) jx else some (.inl (some (.int (-1))), h1)))) jx) = some r) : jm_D (d + 1) mJ1_indexOf_4cfef [.ref p0, .int i1, .int i2, .int i3] h = some r := by
  rw [jm_D_body (Nat.le_of_ble_eq_true rfl)]
  show jm_B d mJ1_indexOf_4cfef (0, [some (.ref p0), some (.int i1), some (.int i2), some (.int i3)], []) h = some r
  refine Eq.trans (jb_nx (i := .iload_n 1) (n := 1) (q := (1, [some (.ref p0), some (.int i1), some (.int i2), some (.int i3)], [.int i1])) (jq qJ1_indexOf_4cfef 0 rfl) rfl) ?_
  rcases jcI H with ⟨x3, h1, r2, H⟩ | ⟨w13, h14, r2, H⟩
  · refine Eq.trans (jb_nx (i := .invokestatic 88) (n := 3) (q := (4, [some (.ref p0), some (.int i1), some (.int i2), some (.int i3)], [.int x3])) (jq qJ1_indexOf_4cfef 1 rfl) (jo_cs (y := mJ1_canEncode_9a6ad) (w := 1) (by decide) rfl (Nat.le_of_ble_eq_true rfl) rfl (Nat.le_of_ble_eq_true rfl) rfl r2 jo_ret)) ?_
    by_cases c4 : x3 = 0
    · rw [if_pos c4] at H
      refine Eq.trans (jb_nx (i := .ifCond .ne 5) (n := 3) (q := (7, [some (.ref p0), some (.int i1), some (.int i2), some (.int i3)], [])) (jq qJ1_indexOf_4cfef 2 rfl) (jo_ifF (jz_neF c4))) ?_
      refine Eq.trans (jb_nx (i := .iconst (-1)) (n := 1) (q := (8, [some (.ref p0), some (.int i1), some (.int i2), some (.int i3)], [.int (-1)])) (jq qJ1_indexOf_4cfef 3 rfl) rfl) ?_
      exact Eq.trans (jb_rt (i := .ireturn) (n := 1) (jq qJ1_indexOf_4cfef 4 rfl) (jo_iret rfl rfl)) H
    · rw [if_neg c4] at H
      refine Eq.trans (jb_nx (i := .ifCond .ne 5) (n := 3) (q := (9, [some (.ref p0), some (.int i1), some (.int i2), some (.int i3)], [])) (jq qJ1_indexOf_4cfef 2 rfl) (jo_ifT (jz_neT c4) rfl)) ?_
      refine Eq.trans (jb_nx (i := .iload_n 2) (n := 1) (q := (10, [some (.ref p0), some (.int i1), some (.int i2), some (.int i3)], [.int i2])) (jq qJ1_indexOf_4cfef 5 rfl) rfl) ?_
      refine Eq.trans (jb_nx (i := .iconst 0) (n := 1) (q := (11, [some (.ref p0), some (.int i1), some (.int i2), some (.int i3)], [.int 0, .int i2])) (jq qJ1_indexOf_4cfef 6 rfl) rfl) ?_
      refine Eq.trans (jb_nx (i := .invokestatic 92) (n := 3) (q := (14, [some (.ref p0), some (.int i1), some (.int i2), some (.int i3)], [.int (if i2 < 0 then 0 else i2)])) (jq qJ1_indexOf_4cfef 7 rfl) (jo_mx (z := mX3_clear) rfl (Nat.le_of_ble_eq_true rfl))) ?_
      refine Eq.trans (jb_nx (i := .istore_n 2) (n := 1) (q := (15, [some (.ref p0), some (.int i1), some (.int (if i2 < 0 then 0 else i2)), some (.int i3)], [])) (jq qJ1_indexOf_4cfef 8 rfl) rfl) ?_
      refine Eq.trans (jb_nx (i := .iload_n 3) (n := 1) (q := (16, [some (.ref p0), some (.int i1), some (.int (if i2 < 0 then 0 else i2)), some (.int i3)], [.int i3])) (jq qJ1_indexOf_4cfef 9 rfl) rfl) ?_
      refine Eq.trans (jb_nx (i := .aload_n 0) (n := 1) (q := (17, [some (.ref p0), some (.int i1), some (.int (if i2 < 0 then 0 else i2)), some (.int i3)], [.ref p0, .int i3])) (jq qJ1_indexOf_4cfef 10 rfl) rfl) ?_
      obtain ⟨n5, e6, H⟩ := jbd H
      refine Eq.trans (jb_nx (i := .arraylength) (n := 1) (q := (18, [some (.ref p0), some (.int i1), some (.int (if i2 < 0 then 0 else i2)), some (.int i3)], [.int (Int32.ofNat n5), .int i3])) (jq qJ1_indexOf_4cfef 11 rfl) (jo_len e6)) ?_
      refine Eq.trans (jb_nx (i := .invokestatic 38) (n := 3) (q := (21, [some (.ref p0), some (.int i1), some (.int (if i2 < 0 then 0 else i2)), some (.int i3)], [.int (if (Int32.ofNat n5) < i3 then (Int32.ofNat n5) else i3)])) (jq qJ1_indexOf_4cfef 12 rfl) (jo_mn (z := mX3_clear) rfl (Nat.le_of_ble_eq_true rfl))) ?_
      refine Eq.trans (jb_nx (i := .istore_n 3) (n := 1) (q := (22, [some (.ref p0), some (.int i1), some (.int (if i2 < 0 then 0 else i2)), some (.int (if (Int32.ofNat n5) < i3 then (Int32.ofNat n5) else i3))], [])) (jq qJ1_indexOf_4cfef 13 rfl) rfl) ?_
      refine Eq.trans (jb_nx (i := .iload_n 2) (n := 1) (q := (23, [some (.ref p0), some (.int i1), some (.int (if i2 < 0 then 0 else i2)), some (.int (if (Int32.ofNat n5) < i3 then (Int32.ofNat n5) else i3))], [.int (if i2 < 0 then 0 else i2)])) (jq qJ1_indexOf_4cfef 14 rfl) rfl) ?_
      refine Eq.trans (jb_nx (i := .iload_n 3) (n := 1) (q := (24, [some (.ref p0), some (.int i1), some (.int (if i2 < 0 then 0 else i2)), some (.int (if (Int32.ofNat n5) < i3 then (Int32.ofNat n5) else i3))], [.int (if (Int32.ofNat n5) < i3 then (Int32.ofNat n5) else i3), .int (if i2 < 0 then 0 else i2)])) (jq qJ1_indexOf_4cfef 15 rfl) rfl) ?_
      by_cases c7 : (if i2 < 0 then 0 else i2) < (if (Int32.ofNat n5) < i3 then (Int32.ofNat n5) else i3)
      · rw [if_pos c7] at H
        refine Eq.trans (jb_nx (i := .if_icmp .lt 5) (n := 3) (q := (29, [some (.ref p0), some (.int i1), some (.int (if i2 < 0 then 0 else i2)), some (.int (if (Int32.ofNat n5) < i3 then (Int32.ofNat n5) else i3))], [])) (jq qJ1_indexOf_4cfef 16 rfl) (jo_icT (jz_ltT c7) rfl)) ?_
        refine Eq.trans (jb_nx (i := .aload_n 0) (n := 1) (q := (30, [some (.ref p0), some (.int i1), some (.int (if i2 < 0 then 0 else i2)), some (.int (if (Int32.ofNat n5) < i3 then (Int32.ofNat n5) else i3))], [.ref p0])) (jq qJ1_indexOf_4cfef 19 rfl) rfl) ?_
        refine Eq.trans (jb_nx (i := .iload_n 1) (n := 1) (q := (31, [some (.ref p0), some (.int i1), some (.int (if i2 < 0 then 0 else i2)), some (.int (if (Int32.ofNat n5) < i3 then (Int32.ofNat n5) else i3))], [.int i1, .ref p0])) (jq qJ1_indexOf_4cfef 20 rfl) rfl) ?_
        refine Eq.trans (jb_nx (i := .iload_n 2) (n := 1) (q := (32, [some (.ref p0), some (.int i1), some (.int (if i2 < 0 then 0 else i2)), some (.int (if (Int32.ofNat n5) < i3 then (Int32.ofNat n5) else i3))], [.int (if i2 < 0 then 0 else i2), .int i1, .ref p0])) (jq qJ1_indexOf_4cfef 21 rfl) rfl) ?_
        refine Eq.trans (jb_nx (i := .iload_n 3) (n := 1) (q := (33, [some (.ref p0), some (.int i1), some (.int (if i2 < 0 then 0 else i2)), some (.int (if (Int32.ofNat n5) < i3 then (Int32.ofNat n5) else i3))], [.int (if (Int32.ofNat n5) < i3 then (Int32.ofNat n5) else i3), .int (if i2 < 0 then 0 else i2), .int i1, .ref p0])) (jq qJ1_indexOf_4cfef 22 rfl) rfl) ?_
        rcases jcI H with ⟨x10, h8, r9, H⟩ | ⟨w11, h12, r9, H⟩
        · refine Eq.trans (jb_nx (i := .invokestatic 95) (n := 3) (q := (36, [some (.ref p0), some (.int i1), some (.int (if i2 < 0 then 0 else i2)), some (.int (if (Int32.ofNat n5) < i3 then (Int32.ofNat n5) else i3))], [.int x10])) (jq qJ1_indexOf_4cfef 23 rfl) (jo_cs (y := mJ1_indexOfChar_4cfef) (w := 1) (by decide) rfl (Nat.le_of_ble_eq_true rfl) rfl (Nat.le_of_ble_eq_true rfl) rfl r9 jo_ret)) ?_
          exact Eq.trans (jb_rt (i := .ireturn) (n := 1) (jq qJ1_indexOf_4cfef 24 rfl) (jo_iret rfl rfl)) H
        · exact Eq.trans (jb_rt (i := .invokestatic 95) (n := 3) (jq qJ1_indexOf_4cfef 23 rfl) (jo_cs (y := mJ1_indexOfChar_4cfef) (w := 1) (by decide) rfl (Nat.le_of_ble_eq_true rfl) rfl (Nat.le_of_ble_eq_true rfl) rfl r9 (jo_exn rfl))) H
      · rw [if_neg c7] at H
        refine Eq.trans (jb_nx (i := .if_icmp .lt 5) (n := 3) (q := (27, [some (.ref p0), some (.int i1), some (.int (if i2 < 0 then 0 else i2)), some (.int (if (Int32.ofNat n5) < i3 then (Int32.ofNat n5) else i3))], [])) (jq qJ1_indexOf_4cfef 16 rfl) (jo_icF (jz_ltF c7))) ?_
        refine Eq.trans (jb_nx (i := .iconst (-1)) (n := 1) (q := (28, [some (.ref p0), some (.int i1), some (.int (if i2 < 0 then 0 else i2)), some (.int (if (Int32.ofNat n5) < i3 then (Int32.ofNat n5) else i3))], [.int (-1)])) (jq qJ1_indexOf_4cfef 17 rfl) rfl) ?_
        exact Eq.trans (jb_rt (i := .ireturn) (n := 1) (jq qJ1_indexOf_4cfef 18 rfl) (jo_iret rfl rfl)) H
  · exact Eq.trans (jb_rt (i := .invokestatic 88) (n := 3) (jq qJ1_indexOf_4cfef 1 rfl) (jo_cs (y := mJ1_canEncode_9a6ad) (w := 1) (by decide) rfl (Nat.le_of_ble_eq_true rfl) rfl (Nat.le_of_ble_eq_true rfl) rfl r2 (jo_exn rfl))) H
/-! java/lang/StringLatin1 canEncode (I)Z -/
def tJ1_canEncode_9a6ad : List (Nat × Instr × Nat) := [(0, .iload_n 0, 1), (1, .ifCond .lt 14, 3), (4, .iload_n 0, 1), (5, .sipush 255, 3), (8, .if_icmp .gt 7, 3), (11, .iconst 1, 1), (12, .goto 4, 3), (15, .iconst 0, 1), (16, .ireturn, 1)]
set_option maxRecDepth 100000 in
theorem qJ1_canEncode_9a6ad : ∀ q ∈ tJ1_canEncode_9a6ad, decode cJ1_canEncode_9a6ad q.1 = .ok (q.2.1, q.2.2) := by decide +kernel
theorem gJ1_canEncode_9a6ad {d : Nat} {i0 : Int32} {h : jm_H} {r : jm_R} (H : ((if i0 < 0 then some (.inl (some (.int 0)), h) else (if 255 < i0 then some (.inl (some (.int 0)), h) else some (.inl (some (.int 1)), h)))) = some r) : jm_D (d + 1) mJ1_canEncode_9a6ad [.int i0] h = some r := by
  rw [jm_D_body (Nat.le_of_ble_eq_true rfl)]
  show jm_B d mJ1_canEncode_9a6ad (0, [some (.int i0)], []) h = some r
  refine Eq.trans (jb_nx (i := .iload_n 0) (n := 1) (q := (1, [some (.int i0)], [.int i0])) (jq qJ1_canEncode_9a6ad 0 rfl) rfl) ?_
  by_cases c1 : i0 < 0
  · rw [if_pos c1] at H
    refine Eq.trans (jb_nx (i := .ifCond .lt 14) (n := 3) (q := (15, [some (.int i0)], [])) (jq qJ1_canEncode_9a6ad 1 rfl) (jo_ifT (jz_ltT c1) rfl)) ?_
    refine Eq.trans (jb_nx (i := .iconst 0) (n := 1) (q := (16, [some (.int i0)], [.int 0])) (jq qJ1_canEncode_9a6ad 7 rfl) rfl) ?_
    exact Eq.trans (jb_rt (i := .ireturn) (n := 1) (jq qJ1_canEncode_9a6ad 8 rfl) (jo_iret rfl (by decide))) H
  · rw [if_neg c1] at H
    refine Eq.trans (jb_nx (i := .ifCond .lt 14) (n := 3) (q := (4, [some (.int i0)], [])) (jq qJ1_canEncode_9a6ad 1 rfl) (jo_ifF (jz_ltF c1))) ?_
    refine Eq.trans (jb_nx (i := .iload_n 0) (n := 1) (q := (5, [some (.int i0)], [.int i0])) (jq qJ1_canEncode_9a6ad 2 rfl) rfl) ?_
    refine Eq.trans (jb_nx (i := .sipush 255) (n := 3) (q := (8, [some (.int i0)], [.int 255, .int i0])) (jq qJ1_canEncode_9a6ad 3 rfl) rfl) ?_
    by_cases c2 : 255 < i0
    · rw [if_pos c2] at H
      refine Eq.trans (jb_nx (i := .if_icmp .gt 7) (n := 3) (q := (15, [some (.int i0)], [])) (jq qJ1_canEncode_9a6ad 4 rfl) (jo_icT (jz_gtT c2) rfl)) ?_
      refine Eq.trans (jb_nx (i := .iconst 0) (n := 1) (q := (16, [some (.int i0)], [.int 0])) (jq qJ1_canEncode_9a6ad 7 rfl) rfl) ?_
      exact Eq.trans (jb_rt (i := .ireturn) (n := 1) (jq qJ1_canEncode_9a6ad 8 rfl) (jo_iret rfl (by decide))) H
    · rw [if_neg c2] at H
      refine Eq.trans (jb_nx (i := .if_icmp .gt 7) (n := 3) (q := (11, [some (.int i0)], [])) (jq qJ1_canEncode_9a6ad 4 rfl) (jo_icF (jz_gtF c2))) ?_
      refine Eq.trans (jb_nx (i := .iconst 1) (n := 1) (q := (12, [some (.int i0)], [.int 1])) (jq qJ1_canEncode_9a6ad 5 rfl) rfl) ?_
      refine Eq.trans (jb_nx (i := .goto 4) (n := 3) (q := (16, [some (.int i0)], [.int 1])) (jq qJ1_canEncode_9a6ad 6 rfl) rfl) ?_
      exact Eq.trans (jb_rt (i := .ireturn) (n := 1) (jq qJ1_canEncode_9a6ad 8 rfl) (jo_iret rfl (by decide))) H
/-! java/lang/StringLatin1 indexOfChar ([BIII)I -/
def tJ1_indexOfChar_4cfef : List (Nat × Instr × Nat) := [(0, .iload_n 1, 1), (1, .i2b, 1), (2, .istore 4, 2), (4, .iload_n 2, 1), (5, .istore 5, 2), (7, .iload 5, 2), (9, .iload_n 3, 1), (10, .if_icmp .ge 21, 3), (13, .aload_n 0, 1), (14, .iload 5, 2), (16, .baload, 1), (17, .iload 4, 2), (19, .if_icmp .ne 6, 3), (22, .iload 5, 2), (24, .ireturn, 1), (25, .iinc 5 1, 3), (28, .goto (-21), 3), (31, .iconst (-1), 1), (32, .ireturn, 1)]
set_option maxRecDepth 100000 in
theorem qJ1_indexOfChar_4cfef : ∀ q ∈ tJ1_indexOfChar_4cfef, decode cJ1_indexOfChar_4cfef q.1 = .ok (q.2.1, q.2.2) := by decide +kernel
noncomputable def kJ1_indexOfChar_4cfef_7 (d : Nat) (p0 : Nat) (o1 : Option Value) (o2 : Option Value) (i3 : Int32) (i4 : Int32) (i5 : Int32) (h : jm_H) : Option jm_R := jm_B d mJ1_indexOfChar_4cfef (7, [some (.ref p0), o1, o2, some (.int i3), some (.int i4), some (.int i5)], []) h
theorem gJ1_indexOfChar_4cfef_7 {d : Nat} {p0 : Nat} {o1 : Option Value} {o2 : Option Value} {i3 : Int32} {i4 : Int32} {i5 : Int32} {h : jm_H} {r : jm_R} (H : ((if i5 < i3 then (jm_ali h p0 2 i5).bind fun x2 => (if x2 = i4 then some (.inl (some (.int i5)), h) else kJ1_indexOfChar_4cfef_7 d p0 o1 o2 i3 i4 (i5 + 1) h) else some (.inl (some (.int (-1))), h))) = some r) : kJ1_indexOfChar_4cfef_7 d p0 o1 o2 i3 i4 i5 h = some r := by
  show jm_B d mJ1_indexOfChar_4cfef (7, [some (.ref p0), o1, o2, some (.int i3), some (.int i4), some (.int i5)], []) h = some r
  refine Eq.trans (jb_nx (i := .iload 5) (n := 2) (q := (9, [some (.ref p0), o1, o2, some (.int i3), some (.int i4), some (.int i5)], [.int i5])) (jq qJ1_indexOfChar_4cfef 5 rfl) rfl) ?_
  refine Eq.trans (jb_nx (i := .iload_n 3) (n := 1) (q := (10, [some (.ref p0), o1, o2, some (.int i3), some (.int i4), some (.int i5)], [.int i3, .int i5])) (jq qJ1_indexOfChar_4cfef 6 rfl) rfl) ?_
  by_cases c1 : i5 < i3
  · rw [if_pos c1] at H
    refine Eq.trans (jb_nx (i := .if_icmp .ge 21) (n := 3) (q := (13, [some (.ref p0), o1, o2, some (.int i3), some (.int i4), some (.int i5)], [])) (jq qJ1_indexOfChar_4cfef 7 rfl) (jo_icF (jz_geF c1))) ?_
    refine Eq.trans (jb_nx (i := .aload_n 0) (n := 1) (q := (14, [some (.ref p0), o1, o2, some (.int i3), some (.int i4), some (.int i5)], [.ref p0])) (jq qJ1_indexOfChar_4cfef 8 rfl) rfl) ?_
    refine Eq.trans (jb_nx (i := .iload 5) (n := 2) (q := (16, [some (.ref p0), o1, o2, some (.int i3), some (.int i4), some (.int i5)], [.int i5, .ref p0])) (jq qJ1_indexOfChar_4cfef 9 rfl) rfl) ?_
    obtain ⟨x2, e3, H⟩ := jbd H
    refine Eq.trans (jb_nx (i := .baload) (n := 1) (q := (17, [some (.ref p0), o1, o2, some (.int i3), some (.int i4), some (.int i5)], [.int x2])) (jq qJ1_indexOfChar_4cfef 10 rfl) (jo_bal e3)) ?_
    refine Eq.trans (jb_nx (i := .iload 4) (n := 2) (q := (19, [some (.ref p0), o1, o2, some (.int i3), some (.int i4), some (.int i5)], [.int i4, .int x2])) (jq qJ1_indexOfChar_4cfef 11 rfl) rfl) ?_
    by_cases c4 : x2 = i4
    · rw [if_pos c4] at H
      refine Eq.trans (jb_nx (i := .if_icmp .ne 6) (n := 3) (q := (22, [some (.ref p0), o1, o2, some (.int i3), some (.int i4), some (.int i5)], [])) (jq qJ1_indexOfChar_4cfef 12 rfl) (jo_icF (jz_neF c4))) ?_
      refine Eq.trans (jb_nx (i := .iload 5) (n := 2) (q := (24, [some (.ref p0), o1, o2, some (.int i3), some (.int i4), some (.int i5)], [.int i5])) (jq qJ1_indexOfChar_4cfef 13 rfl) rfl) ?_
      exact Eq.trans (jb_rt (i := .ireturn) (n := 1) (jq qJ1_indexOfChar_4cfef 14 rfl) (jo_iret rfl rfl)) H
    · rw [if_neg c4] at H
      refine Eq.trans (jb_nx (i := .if_icmp .ne 6) (n := 3) (q := (25, [some (.ref p0), o1, o2, some (.int i3), some (.int i4), some (.int i5)], [])) (jq qJ1_indexOfChar_4cfef 12 rfl) (jo_icT (jz_neT c4) rfl)) ?_
      refine Eq.trans (jb_nx (i := .iinc 5 1) (n := 3) (q := (28, [some (.ref p0), o1, o2, some (.int i3), some (.int i4), some (.int (i5 + 1))], [])) (jq qJ1_indexOfChar_4cfef 15 rfl) rfl) ?_
      refine Eq.trans (jb_nx (i := .goto (-21)) (n := 3) (q := (7, [some (.ref p0), o1, o2, some (.int i3), some (.int i4), some (.int (i5 + 1))], [])) (jq qJ1_indexOfChar_4cfef 16 rfl) rfl) ?_
      exact H
  · rw [if_neg c1] at H
    refine Eq.trans (jb_nx (i := .if_icmp .ge 21) (n := 3) (q := (31, [some (.ref p0), o1, o2, some (.int i3), some (.int i4), some (.int i5)], [])) (jq qJ1_indexOfChar_4cfef 7 rfl) (jo_icT (jz_geT c1) rfl)) ?_
    refine Eq.trans (jb_nx (i := .iconst (-1)) (n := 1) (q := (32, [some (.ref p0), o1, o2, some (.int i3), some (.int i4), some (.int i5)], [.int (-1)])) (jq qJ1_indexOfChar_4cfef 17 rfl) rfl) ?_
    exact Eq.trans (jb_rt (i := .ireturn) (n := 1) (jq qJ1_indexOfChar_4cfef 18 rfl) (jo_iret rfl rfl)) H
theorem gJ1_indexOfChar_4cfef {d : Nat} {p0 : Nat} {i1 : Int32} {i2 : Int32} {i3 : Int32} {h : jm_H} {r : jm_R} (H : (kJ1_indexOfChar_4cfef_7 d p0 (some (.int i1)) (some (.int i2)) i3 (Int8.toInt32 (Int32.toInt8 i1)) i2 h) = some r) : jm_D (d + 1) mJ1_indexOfChar_4cfef [.ref p0, .int i1, .int i2, .int i3] h = some r := by
  rw [jm_D_body (Nat.le_of_ble_eq_true rfl)]
  show jm_B d mJ1_indexOfChar_4cfef (0, [some (.ref p0), some (.int i1), some (.int i2), some (.int i3), none, none], []) h = some r
  refine Eq.trans (jb_nx (i := .iload_n 1) (n := 1) (q := (1, [some (.ref p0), some (.int i1), some (.int i2), some (.int i3), none, none], [.int i1])) (jq qJ1_indexOfChar_4cfef 0 rfl) rfl) ?_
  refine Eq.trans (jb_nx (i := .i2b) (n := 1) (q := (2, [some (.ref p0), some (.int i1), some (.int i2), some (.int i3), none, none], [.int (Int8.toInt32 (Int32.toInt8 i1))])) (jq qJ1_indexOfChar_4cfef 1 rfl) rfl) ?_
  refine Eq.trans (jb_nx (i := .istore 4) (n := 2) (q := (4, [some (.ref p0), some (.int i1), some (.int i2), some (.int i3), some (.int (Int8.toInt32 (Int32.toInt8 i1))), none], [])) (jq qJ1_indexOfChar_4cfef 2 rfl) rfl) ?_
  refine Eq.trans (jb_nx (i := .iload_n 2) (n := 1) (q := (5, [some (.ref p0), some (.int i1), some (.int i2), some (.int i3), some (.int (Int8.toInt32 (Int32.toInt8 i1))), none], [.int i2])) (jq qJ1_indexOfChar_4cfef 3 rfl) rfl) ?_
  refine Eq.trans (jb_nx (i := .istore 5) (n := 2) (q := (7, [some (.ref p0), some (.int i1), some (.int i2), some (.int i3), some (.int (Int8.toInt32 (Int32.toInt8 i1))), some (.int i2)], [])) (jq qJ1_indexOfChar_4cfef 4 rfl) rfl) ?_
  exact H
/-! ===== LEVEL 2: J3 ===== -/
/-! jdk/internal/util/Preconditions checkIndex (IILjava/util/function/BiFunction;)I -/
def tJ3_checkIndex_8e157 : List (Nat × Instr × Nat) := [(0, .iload_n 0, 1), (1, .ifCond .lt 8, 3), (4, .iload_n 0, 1), (5, .iload_n 1, 1), (6, .if_icmp .lt 10, 3), (9, .aload_n 2, 1), (10, .iload_n 0, 1), (11, .iload_n 1, 1), (12, .invokestatic 95, 3), (15, .athrow, 1), (16, .iload_n 0, 1), (17, .ireturn, 1)]
set_option maxRecDepth 100000 in
theorem qJ3_checkIndex_8e157 : ∀ q ∈ tJ3_checkIndex_8e157, decode cJ3_checkIndex_8e157 q.1 = .ok (q.2.1, q.2.2) := by decide +kernel
theorem gJ3_checkIndex_8e157 {d : Nat} {i0 : Int32} {i1 : Int32} {p2 : Nat} {h : jm_H} {r : jm_R} (H : ((if i0 < 0 then (none : Option jm_R) else (if i0 < i1 then some (.inl (some (.int i0)), h) else (none : Option jm_R)))) = some r) : jm_D (d + 1) mJ3_checkIndex_8e157 [.int i0, .int i1, .ref p2] h = some r := by
  rw [jm_D_body (Nat.le_of_ble_eq_true rfl)]
  show jm_B d mJ3_checkIndex_8e157 (0, [some (.int i0), some (.int i1), some (.ref p2)], []) h = some r
  refine Eq.trans (jb_nx (i := .iload_n 0) (n := 1) (q := (1, [some (.int i0), some (.int i1), some (.ref p2)], [.int i0])) (jq qJ3_checkIndex_8e157 0 rfl) rfl) ?_
  by_cases c1 : i0 < 0
  · rw [if_pos c1] at H
    refine Eq.trans (jb_nx (i := .ifCond .lt 8) (n := 3) (q := (9, [some (.int i0), some (.int i1), some (.ref p2)], [])) (jq qJ3_checkIndex_8e157 1 rfl) (jo_ifT (jz_ltT c1) rfl)) ?_
    refine Eq.trans (jb_nx (i := .aload_n 2) (n := 1) (q := (10, [some (.int i0), some (.int i1), some (.ref p2)], [.ref p2])) (jq qJ3_checkIndex_8e157 5 rfl) rfl) ?_
    refine Eq.trans (jb_nx (i := .iload_n 0) (n := 1) (q := (11, [some (.int i0), some (.int i1), some (.ref p2)], [.int i0, .ref p2])) (jq qJ3_checkIndex_8e157 6 rfl) rfl) ?_
    refine Eq.trans (jb_nx (i := .iload_n 1) (n := 1) (q := (12, [some (.int i0), some (.int i1), some (.ref p2)], [.int i1, .int i0, .ref p2])) (jq qJ3_checkIndex_8e157 7 rfl) rfl) ?_
    cases H
  · rw [if_neg c1] at H
    refine Eq.trans (jb_nx (i := .ifCond .lt 8) (n := 3) (q := (4, [some (.int i0), some (.int i1), some (.ref p2)], [])) (jq qJ3_checkIndex_8e157 1 rfl) (jo_ifF (jz_ltF c1))) ?_
    refine Eq.trans (jb_nx (i := .iload_n 0) (n := 1) (q := (5, [some (.int i0), some (.int i1), some (.ref p2)], [.int i0])) (jq qJ3_checkIndex_8e157 2 rfl) rfl) ?_
    refine Eq.trans (jb_nx (i := .iload_n 1) (n := 1) (q := (6, [some (.int i0), some (.int i1), some (.ref p2)], [.int i1, .int i0])) (jq qJ3_checkIndex_8e157 3 rfl) rfl) ?_
    by_cases c2 : i0 < i1
    · rw [if_pos c2] at H
      refine Eq.trans (jb_nx (i := .if_icmp .lt 10) (n := 3) (q := (16, [some (.int i0), some (.int i1), some (.ref p2)], [])) (jq qJ3_checkIndex_8e157 4 rfl) (jo_icT (jz_ltT c2) rfl)) ?_
      refine Eq.trans (jb_nx (i := .iload_n 0) (n := 1) (q := (17, [some (.int i0), some (.int i1), some (.ref p2)], [.int i0])) (jq qJ3_checkIndex_8e157 10 rfl) rfl) ?_
      exact Eq.trans (jb_rt (i := .ireturn) (n := 1) (jq qJ3_checkIndex_8e157 11 rfl) (jo_iret rfl rfl)) H
    · rw [if_neg c2] at H
      refine Eq.trans (jb_nx (i := .if_icmp .lt 10) (n := 3) (q := (9, [some (.int i0), some (.int i1), some (.ref p2)], [])) (jq qJ3_checkIndex_8e157 4 rfl) (jo_icF (jz_ltF c2))) ?_
      refine Eq.trans (jb_nx (i := .aload_n 2) (n := 1) (q := (10, [some (.int i0), some (.int i1), some (.ref p2)], [.ref p2])) (jq qJ3_checkIndex_8e157 5 rfl) rfl) ?_
      refine Eq.trans (jb_nx (i := .iload_n 0) (n := 1) (q := (11, [some (.int i0), some (.int i1), some (.ref p2)], [.int i0, .ref p2])) (jq qJ3_checkIndex_8e157 6 rfl) rfl) ?_
      refine Eq.trans (jb_nx (i := .iload_n 1) (n := 1) (q := (12, [some (.int i0), some (.int i1), some (.ref p2)], [.int i1, .int i0, .ref p2])) (jq qJ3_checkIndex_8e157 7 rfl) rfl) ?_
      cases H
/-! ===== LEVEL 2: J13 ===== -/
/-! java/lang/Long signum (J)I -/
def tJ13_signum_95d88 : List (Nat × Instr × Nat) := [(0, .lload_n 0, 1), (1, .bipush 63, 2), (3, .lshr, 1), (4, .lload_n 0, 1), (5, .lneg, 1), (6, .bipush 63, 2), (8, .lushr, 1), (9, .lor, 1), (10, .l2i, 1), (11, .ireturn, 1)]
set_option maxRecDepth 100000 in
theorem qJ13_signum_95d88 : ∀ q ∈ tJ13_signum_95d88, decode cJ13_signum_95d88 q.1 = .ok (q.2.1, q.2.2) := by decide +kernel
theorem gJ13_signum_95d88 {d : Nat} {j0 : Int64} {h : jm_H} {r : jm_R} (H : (some (.inl (some (.int (Int64.toInt32 ((j0 >>> (Int32.toInt64 63 &&& 63)) ||| (UInt64.toInt64 (Int64.toUInt64 (-j0) >>> (Int64.toUInt64 (Int32.toInt64 63) &&& Int64.toUInt64 63))))))), h)) = some r) : jm_D (d + 1) mJ13_signum_95d88 [.long j0] h = some r := by
  rw [jm_D_body (Nat.le_of_ble_eq_true rfl)]
  show jm_B d mJ13_signum_95d88 (0, [some (.long j0), none], []) h = some r
  refine Eq.trans (jb_nx (i := .lload_n 0) (n := 1) (q := (1, [some (.long j0), none], [.long j0])) (jq qJ13_signum_95d88 0 rfl) rfl) ?_
  refine Eq.trans (jb_nx (i := .bipush 63) (n := 2) (q := (3, [some (.long j0), none], [.int 63, .long j0])) (jq qJ13_signum_95d88 1 rfl) rfl) ?_
  refine Eq.trans (jb_nx (i := .lshr) (n := 1) (q := (4, [some (.long j0), none], [.long (j0 >>> (Int32.toInt64 63 &&& 63))])) (jq qJ13_signum_95d88 2 rfl) rfl) ?_
  refine Eq.trans (jb_nx (i := .lload_n 0) (n := 1) (q := (5, [some (.long j0), none], [.long j0, .long (j0 >>> (Int32.toInt64 63 &&& 63))])) (jq qJ13_signum_95d88 3 rfl) rfl) ?_
  refine Eq.trans (jb_nx (i := .lneg) (n := 1) (q := (6, [some (.long j0), none], [.long (-j0), .long (j0 >>> (Int32.toInt64 63 &&& 63))])) (jq qJ13_signum_95d88 4 rfl) rfl) ?_
  refine Eq.trans (jb_nx (i := .bipush 63) (n := 2) (q := (8, [some (.long j0), none], [.int 63, .long (-j0), .long (j0 >>> (Int32.toInt64 63 &&& 63))])) (jq qJ13_signum_95d88 5 rfl) rfl) ?_
  refine Eq.trans (jb_nx (i := .lushr) (n := 1) (q := (9, [some (.long j0), none], [.long (UInt64.toInt64 (Int64.toUInt64 (-j0) >>> (Int64.toUInt64 (Int32.toInt64 63) &&& Int64.toUInt64 63))), .long (j0 >>> (Int32.toInt64 63 &&& 63))])) (jq qJ13_signum_95d88 6 rfl) rfl) ?_
  refine Eq.trans (jb_nx (i := .lor) (n := 1) (q := (10, [some (.long j0), none], [.long ((j0 >>> (Int32.toInt64 63 &&& 63)) ||| (UInt64.toInt64 (Int64.toUInt64 (-j0) >>> (Int64.toUInt64 (Int32.toInt64 63) &&& Int64.toUInt64 63))))])) (jq qJ13_signum_95d88 7 rfl) rfl) ?_
  refine Eq.trans (jb_nx (i := .l2i) (n := 1) (q := (11, [some (.long j0), none], [.int (Int64.toInt32 ((j0 >>> (Int32.toInt64 63 &&& 63)) ||| (UInt64.toInt64 (Int64.toUInt64 (-j0) >>> (Int64.toUInt64 (Int32.toInt64 63) &&& Int64.toUInt64 63)))))])) (jq qJ13_signum_95d88 8 rfl) rfl) ?_
  exact Eq.trans (jb_rt (i := .ireturn) (n := 1) (jq qJ13_signum_95d88 9 rfl) (jo_iret rfl rfl)) H
