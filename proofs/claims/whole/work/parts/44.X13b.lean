/-! ===== LEVEL 2: X13 ===== -/
/-! MaskPlaysModel isSingle (LMaskPlaysModel$Book;)Z -/
def tX13_isSingle : List (Nat × Instr × Nat) := [(0, .aload_n 1, 1), (1, .getfield 323, 3), (4, .aload_n 0, 1), (5, .getfield 329, 3), (8, .iaload, 1), (9, .lookupswitch 193 #[(13, 118), (14, 147), (15, 43), (91, 84)], 43), (52, .aload_n 0, 1), (53, .aload_n 1, 1), (54, .bipush 15, 2), (56, .invokevirtual 363, 3), (59, .ifCond .eq 11, 3), (62, .aload_n 0, 1), (63, .aload_n 1, 1), (64, .invokevirtual 381, 3), (67, .ifCond .ne 5, 3), (70, .iconst 0, 1), (71, .ireturn, 1), (72, .aload_n 0, 1), (73, .dup, 1), (74, .getfield 344, 3), (77, .iconst 1, 1), (78, .isub, 1), (79, .putfield 344, 3), (82, .aload_n 0, 1), (83, .aload_n 1, 1), (84, .bipush 15, 2), (86, .iconst 0, 1), (87, .iconst (-1), 1), (88, .invokevirtual 378, 3), (91, .iconst 1, 1), (92, .ireturn, 1), (93, .aload_n 0, 1), (94, .aload_n 1, 1), (95, .bipush 91, 2), (97, .invokevirtual 363, 3), (100, .ifCond .eq 25, 3), (103, .aload_n 0, 1), (104, .aload_n 1, 1), (105, .invokevirtual 384, 3), (108, .ifCond .eq 17, 3), (111, .aload_n 0, 1), (112, .aload_n 1, 1), (113, .bipush 93, 2), (115, .invokevirtual 369, 3), (118, .ifCond .eq 7, 3), (121, .iconst 1, 1), (122, .goto 4, 3), (125, .iconst 0, 1), (126, .ireturn, 1), (127, .aload_n 0, 1), (128, .dup, 1), (129, .getfield 329, 3), (132, .iconst 1, 1), (133, .iadd, 1), (134, .putfield 329, 3), (137, .aload_n 0, 1), (138, .aload_n 1, 1), (139, .bipush 13, 2), (141, .iconst 0, 1), (142, .aload_n 0, 1), (143, .getfield 329, 3), (146, .invokevirtual 378, 3), (149, .aload_n 0, 1), (150, .aload_n 1, 1), (151, .iconst 5, 1), (152, .invokevirtual 360, 3), (155, .ireturn, 1), (156, .aload_n 0, 1), (157, .dup, 1), (158, .getfield 329, 3), (161, .iconst 1, 1), (162, .iadd, 1), (163, .putfield 329, 3), (166, .aload_n 0, 1), (167, .aload_n 1, 1), (168, .bipush 14, 2), (170, .iconst 0, 1), (171, .aload_n 0, 1), (172, .getfield 329, 3), (175, .invokevirtual 378, 3), (178, .aload_n 0, 1), (179, .aload_n 1, 1), (180, .iconst 5, 1), (181, .invokevirtual 360, 3), (184, .ifCond .eq 16, 3), (187, .aload_n 0, 1), (188, .aload_n 1, 1), (189, .iconst 5, 1), (190, .invokevirtual 360, 3), (193, .ifCond .eq 7, 3), (196, .iconst 1, 1), (197, .goto 4, 3), (200, .iconst 0, 1), (201, .ireturn, 1), (202, .aload_n 0, 1), (203, .aload_n 1, 1), (204, .invokevirtual 387, 3), (207, .ireturn, 1)]
set_option maxRecDepth 100000 in
theorem qX13_isSingle : ∀ q ∈ tX13_isSingle, decode cX13_isSingle q.1 = .ok (q.2.1, q.2.2) := by decide +kernel
theorem gX13_isSingle {d : Nat} {p0 : Nat} {p1 : Nat} {h : jm_H} {r : jm_R} (H : ((jr_R h p1 11 0 2).bind fun a1 => (jr_I h p0 12 5 0).bind fun x3 => (jm_ali h a1 0 x3).bind fun x5 => (if x5 = 13 then (jr_I h p0 12 5 0).bind fun x8 => (jm_pf h p0 12 5 0 (.int (x8 + 1))).bind fun h10 => (jr_I h10 p0 12 5 0).bind fun x12 => jm_O h10 p0 13 (jc_V (jm_D d mX13_order [.ref p0, .ref p1, .int 13, .int 0, .int x12] h10) (fun h14 => jm_O h14 p0 13 (jc_I (jm_D d mX13_name [.ref p0, .ref p1, .int 5] h14) (fun x18 h16 => jm_Y .boolean x18 (some (.inl (some (.int x18)), h16))) jx)) jx) else (if x5 = 14 then (jr_I h p0 12 5 0).bind fun x27 => (jm_pf h p0 12 5 0 (.int (x27 + 1))).bind fun h29 => (jr_I h29 p0 12 5 0).bind fun x31 => jm_O h29 p0 13 (jc_V (jm_D d mX13_order [.ref p0, .ref p1, .int 14, .int 0, .int x31] h29) (fun h33 => jm_O h33 p0 13 (jc_I (jm_D d mX13_name [.ref p0, .ref p1, .int 5] h33) (fun x37 h35 => (if x37 = 0 then some (.inl (some (.int 0)), h35) else jm_O h35 p0 13 (jc_I (jm_D d mX13_name [.ref p0, .ref p1, .int 5] h35) (fun x41 h39 => (if x41 = 0 then some (.inl (some (.int 0)), h39) else some (.inl (some (.int 1)), h39))) jx))) jx)) jx) else (if x5 = 15 then jm_O h p0 13 (jc_I (jm_D d mX13_deeper [.ref p0, .ref p1, .int 15] h) (fun x55 h53 => (if x55 = 0 then some (.inl (some (.int 0)), h53) else jm_O h53 p0 13 (jc_I (jm_D d mX13_isSingle [.ref p0, .ref p1] h53) (fun x59 h57 => (if x59 = 0 then some (.inl (some (.int 0)), h57) else (jr_I h57 p0 12 6 0).bind fun x61 => (jm_pf h57 p0 12 6 0 (.int (x61 - 1))).bind fun h63 => jm_O h63 p0 13 (jc_V (jm_D d mX13_order [.ref p0, .ref p1, .int 15, .int 0, .int (-1)] h63) (fun h65 => some (.inl (some (.int 1)), h65)) jx))) jx))) jx) else (if x5 = 91 then jm_O h p0 13 (jc_I (jm_D d mX13_deeper [.ref p0, .ref p1, .int 91] h) (fun x79 h77 => (if x79 = 0 then some (.inl (some (.int 0)), h77) else jm_O h77 p0 13 (jc_I (jm_D d mX13_isTest [.ref p0, .ref p1] h77) (fun x83 h81 => (if x83 = 0 then some (.inl (some (.int 0)), h81) else jm_O h81 p0 13 (jc_I (jm_D d mX13_closes [.ref p0, .ref p1, .int 93] h81) (fun x87 h85 => (if x87 = 0 then some (.inl (some (.int 0)), h85) else some (.inl (some (.int 1)), h85))) jx))) jx))) jx) else jm_O h p0 13 (jc_I (jm_D d mX13_isCompare [.ref p0, .ref p1] h) (fun x100 h98 => jm_Y .boolean x100 (some (.inl (some (.int x100)), h98))) jx)))))) = some r) : jm_D (d + 1) mX13_isSingle [.ref p0, .ref p1] h = some r := by
  rw [jm_D_body (Nat.le_of_ble_eq_true rfl)]
  show jm_B d mX13_isSingle (0, [some (.ref p0), some (.ref p1)], []) h = some r
  refine Eq.trans (jb_nx (i := .aload_n 1) (n := 1) (q := (1, [some (.ref p0), some (.ref p1)], [.ref p1])) (jq qX13_isSingle 0 rfl) rfl) ?_
  obtain ⟨a1, e2, H⟩ := jbd H
  refine Eq.trans (jb_nx (i := .getfield 323) (n := 3) (q := (4, [some (.ref p0), some (.ref p1)], [.ref a1])) (jq qX13_isSingle 1 rfl) (jo_gf rfl (jr_R_inv e2))) ?_
  refine Eq.trans (jb_nx (i := .aload_n 0) (n := 1) (q := (5, [some (.ref p0), some (.ref p1)], [.ref p0, .ref a1])) (jq qX13_isSingle 2 rfl) rfl) ?_
  obtain ⟨x3, e4, H⟩ := jbd H
  refine Eq.trans (jb_nx (i := .getfield 329) (n := 3) (q := (8, [some (.ref p0), some (.ref p1)], [.int x3, .ref a1])) (jq qX13_isSingle 3 rfl) (jo_gf rfl (jr_I_inv e4))) ?_
  obtain ⟨x5, e6, H⟩ := jbd H
  refine Eq.trans (jb_nx (i := .iaload) (n := 1) (q := (9, [some (.ref p0), some (.ref p1)], [.int x5])) (jq qX13_isSingle 4 rfl) (jo_ial e6)) ?_
  by_cases c7 : x5 = 13
  · rw [if_pos c7] at H
    refine Eq.trans (jb_nx (i := .lookupswitch 193 #[(13, 118), (14, 147), (15, 43), (91, 84)]) (n := 43) (q := (127, [some (.ref p0), some (.ref p1)], [])) (jq qX13_isSingle 5 rfl) (by rw [c7]; rfl)) ?_
    refine Eq.trans (jb_nx (i := .aload_n 0) (n := 1) (q := (128, [some (.ref p0), some (.ref p1)], [.ref p0])) (jq qX13_isSingle 49 rfl) rfl) ?_
    refine Eq.trans (jb_nx (i := .dup) (n := 1) (q := (129, [some (.ref p0), some (.ref p1)], [.ref p0, .ref p0])) (jq qX13_isSingle 50 rfl) rfl) ?_
    obtain ⟨x8, e9, H⟩ := jbd H
    refine Eq.trans (jb_nx (i := .getfield 329) (n := 3) (q := (132, [some (.ref p0), some (.ref p1)], [.int x8, .ref p0])) (jq qX13_isSingle 51 rfl) (jo_gf rfl (jr_I_inv e9))) ?_
    refine Eq.trans (jb_nx (i := .iconst 1) (n := 1) (q := (133, [some (.ref p0), some (.ref p1)], [.int 1, .int x8, .ref p0])) (jq qX13_isSingle 52 rfl) rfl) ?_
    refine Eq.trans (jb_nx (i := .iadd) (n := 1) (q := (134, [some (.ref p0), some (.ref p1)], [.int (x8 + 1), .ref p0])) (jq qX13_isSingle 53 rfl) rfl) ?_
    obtain ⟨h10, e11, H⟩ := jbd H
    refine Eq.trans (jb_nx (i := .putfield 329) (n := 3) (q := (137, [some (.ref p0), some (.ref p1)], [])) (jq qX13_isSingle 54 rfl) (jo_pf rfl (Or.inl rfl) e11)) ?_
    refine Eq.trans (jb_nx (i := .aload_n 0) (n := 1) (q := (138, [some (.ref p0), some (.ref p1)], [.ref p0])) (jq qX13_isSingle 55 rfl) rfl) ?_
    refine Eq.trans (jb_nx (i := .aload_n 1) (n := 1) (q := (139, [some (.ref p0), some (.ref p1)], [.ref p1, .ref p0])) (jq qX13_isSingle 56 rfl) rfl) ?_
    refine Eq.trans (jb_nx (i := .bipush 13) (n := 2) (q := (141, [some (.ref p0), some (.ref p1)], [.int 13, .ref p1, .ref p0])) (jq qX13_isSingle 57 rfl) rfl) ?_
    refine Eq.trans (jb_nx (i := .iconst 0) (n := 1) (q := (142, [some (.ref p0), some (.ref p1)], [.int 0, .int 13, .ref p1, .ref p0])) (jq qX13_isSingle 58 rfl) rfl) ?_
    refine Eq.trans (jb_nx (i := .aload_n 0) (n := 1) (q := (143, [some (.ref p0), some (.ref p1)], [.ref p0, .int 0, .int 13, .ref p1, .ref p0])) (jq qX13_isSingle 59 rfl) rfl) ?_
    obtain ⟨x12, e13, H⟩ := jbd H
    refine Eq.trans (jb_nx (i := .getfield 329) (n := 3) (q := (146, [some (.ref p0), some (.ref p1)], [.int x12, .int 0, .int 13, .ref p1, .ref p0])) (jq qX13_isSingle 60 rfl) (jo_gf rfl (jr_I_inv e13))) ?_
    obtain ⟨b23, H⟩ := jm_O_inv H
    rcases jcV H with ⟨h14, r15, H⟩ | ⟨w24, h25, r15, H⟩
    · refine Eq.trans (jb_nx (i := .invokevirtual 378) (n := 3) (q := (149, [some (.ref p0), some (.ref p1)], [])) (jq qX13_isSingle 61 rfl) (jo_cv (y := mX13_order) rfl (Nat.le_of_ble_eq_true rfl) rfl (Nat.le_of_ble_eq_true rfl) b23 rfl r15 jo_ret)) ?_
      refine Eq.trans (jb_nx (i := .aload_n 0) (n := 1) (q := (150, [some (.ref p0), some (.ref p1)], [.ref p0])) (jq qX13_isSingle 62 rfl) rfl) ?_
      refine Eq.trans (jb_nx (i := .aload_n 1) (n := 1) (q := (151, [some (.ref p0), some (.ref p1)], [.ref p1, .ref p0])) (jq qX13_isSingle 63 rfl) rfl) ?_
      refine Eq.trans (jb_nx (i := .iconst 5) (n := 1) (q := (152, [some (.ref p0), some (.ref p1)], [.int 5, .ref p1, .ref p0])) (jq qX13_isSingle 64 rfl) rfl) ?_
      obtain ⟨b20, H⟩ := jm_O_inv H
      rcases jcI H with ⟨x18, h16, r17, H⟩ | ⟨w21, h22, r17, H⟩
      · refine Eq.trans (jb_nx (i := .invokevirtual 360) (n := 3) (q := (155, [some (.ref p0), some (.ref p1)], [.int x18])) (jq qX13_isSingle 65 rfl) (jo_cv (y := mX13_name) rfl (Nat.le_of_ble_eq_true rfl) rfl (Nat.le_of_ble_eq_true rfl) b20 rfl r17 jo_ret)) ?_
        obtain ⟨u19, H⟩ := jm_Y_inv H
        exact Eq.trans (jb_rt (i := .ireturn) (n := 1) (jq qX13_isSingle 66 rfl) (jo_iret rfl u19)) H
      · exact Eq.trans (jb_rt (i := .invokevirtual 360) (n := 3) (jq qX13_isSingle 65 rfl) (jo_cv (y := mX13_name) rfl (Nat.le_of_ble_eq_true rfl) rfl (Nat.le_of_ble_eq_true rfl) b20 rfl r17 (jo_exn rfl))) H
    · exact Eq.trans (jb_rt (i := .invokevirtual 378) (n := 3) (jq qX13_isSingle 61 rfl) (jo_cv (y := mX13_order) rfl (Nat.le_of_ble_eq_true rfl) rfl (Nat.le_of_ble_eq_true rfl) b23 rfl r15 (jo_exn rfl))) H
  · rw [if_neg c7] at H
    by_cases c26 : x5 = 14
    · rw [if_pos c26] at H
      refine Eq.trans (jb_nx (i := .lookupswitch 193 #[(13, 118), (14, 147), (15, 43), (91, 84)]) (n := 43) (q := (156, [some (.ref p0), some (.ref p1)], [])) (jq qX13_isSingle 5 rfl) (by rw [c26]; rfl)) ?_
      refine Eq.trans (jb_nx (i := .aload_n 0) (n := 1) (q := (157, [some (.ref p0), some (.ref p1)], [.ref p0])) (jq qX13_isSingle 67 rfl) rfl) ?_
      refine Eq.trans (jb_nx (i := .dup) (n := 1) (q := (158, [some (.ref p0), some (.ref p1)], [.ref p0, .ref p0])) (jq qX13_isSingle 68 rfl) rfl) ?_
      obtain ⟨x27, e28, H⟩ := jbd H
      refine Eq.trans (jb_nx (i := .getfield 329) (n := 3) (q := (161, [some (.ref p0), some (.ref p1)], [.int x27, .ref p0])) (jq qX13_isSingle 69 rfl) (jo_gf rfl (jr_I_inv e28))) ?_
      refine Eq.trans (jb_nx (i := .iconst 1) (n := 1) (q := (162, [some (.ref p0), some (.ref p1)], [.int 1, .int x27, .ref p0])) (jq qX13_isSingle 70 rfl) rfl) ?_
      refine Eq.trans (jb_nx (i := .iadd) (n := 1) (q := (163, [some (.ref p0), some (.ref p1)], [.int (x27 + 1), .ref p0])) (jq qX13_isSingle 71 rfl) rfl) ?_
      obtain ⟨h29, e30, H⟩ := jbd H
      refine Eq.trans (jb_nx (i := .putfield 329) (n := 3) (q := (166, [some (.ref p0), some (.ref p1)], [])) (jq qX13_isSingle 72 rfl) (jo_pf rfl (Or.inl rfl) e30)) ?_
      refine Eq.trans (jb_nx (i := .aload_n 0) (n := 1) (q := (167, [some (.ref p0), some (.ref p1)], [.ref p0])) (jq qX13_isSingle 73 rfl) rfl) ?_
      refine Eq.trans (jb_nx (i := .aload_n 1) (n := 1) (q := (168, [some (.ref p0), some (.ref p1)], [.ref p1, .ref p0])) (jq qX13_isSingle 74 rfl) rfl) ?_
      refine Eq.trans (jb_nx (i := .bipush 14) (n := 2) (q := (170, [some (.ref p0), some (.ref p1)], [.int 14, .ref p1, .ref p0])) (jq qX13_isSingle 75 rfl) rfl) ?_
      refine Eq.trans (jb_nx (i := .iconst 0) (n := 1) (q := (171, [some (.ref p0), some (.ref p1)], [.int 0, .int 14, .ref p1, .ref p0])) (jq qX13_isSingle 76 rfl) rfl) ?_
      refine Eq.trans (jb_nx (i := .aload_n 0) (n := 1) (q := (172, [some (.ref p0), some (.ref p1)], [.ref p0, .int 0, .int 14, .ref p1, .ref p0])) (jq qX13_isSingle 77 rfl) rfl) ?_
      obtain ⟨x31, e32, H⟩ := jbd H
      refine Eq.trans (jb_nx (i := .getfield 329) (n := 3) (q := (175, [some (.ref p0), some (.ref p1)], [.int x31, .int 0, .int 14, .ref p1, .ref p0])) (jq qX13_isSingle 78 rfl) (jo_gf rfl (jr_I_inv e32))) ?_
      obtain ⟨b49, H⟩ := jm_O_inv H
      rcases jcV H with ⟨h33, r34, H⟩ | ⟨w50, h51, r34, H⟩
      · refine Eq.trans (jb_nx (i := .invokevirtual 378) (n := 3) (q := (178, [some (.ref p0), some (.ref p1)], [])) (jq qX13_isSingle 79 rfl) (jo_cv (y := mX13_order) rfl (Nat.le_of_ble_eq_true rfl) rfl (Nat.le_of_ble_eq_true rfl) b49 rfl r34 jo_ret)) ?_
        refine Eq.trans (jb_nx (i := .aload_n 0) (n := 1) (q := (179, [some (.ref p0), some (.ref p1)], [.ref p0])) (jq qX13_isSingle 80 rfl) rfl) ?_
        refine Eq.trans (jb_nx (i := .aload_n 1) (n := 1) (q := (180, [some (.ref p0), some (.ref p1)], [.ref p1, .ref p0])) (jq qX13_isSingle 81 rfl) rfl) ?_
        refine Eq.trans (jb_nx (i := .iconst 5) (n := 1) (q := (181, [some (.ref p0), some (.ref p1)], [.int 5, .ref p1, .ref p0])) (jq qX13_isSingle 82 rfl) rfl) ?_
        obtain ⟨b46, H⟩ := jm_O_inv H
        rcases jcI H with ⟨x37, h35, r36, H⟩ | ⟨w47, h48, r36, H⟩
        · refine Eq.trans (jb_nx (i := .invokevirtual 360) (n := 3) (q := (184, [some (.ref p0), some (.ref p1)], [.int x37])) (jq qX13_isSingle 83 rfl) (jo_cv (y := mX13_name) rfl (Nat.le_of_ble_eq_true rfl) rfl (Nat.le_of_ble_eq_true rfl) b46 rfl r36 jo_ret)) ?_
          by_cases c38 : x37 = 0
          · rw [if_pos c38] at H
            refine Eq.trans (jb_nx (i := .ifCond .eq 16) (n := 3) (q := (200, [some (.ref p0), some (.ref p1)], [])) (jq qX13_isSingle 84 rfl) (jo_ifT (jz_eqT c38) rfl)) ?_
            refine Eq.trans (jb_nx (i := .iconst 0) (n := 1) (q := (201, [some (.ref p0), some (.ref p1)], [.int 0])) (jq qX13_isSingle 92 rfl) rfl) ?_
            exact Eq.trans (jb_rt (i := .ireturn) (n := 1) (jq qX13_isSingle 93 rfl) (jo_iret rfl (by decide))) H
          · rw [if_neg c38] at H
            refine Eq.trans (jb_nx (i := .ifCond .eq 16) (n := 3) (q := (187, [some (.ref p0), some (.ref p1)], [])) (jq qX13_isSingle 84 rfl) (jo_ifF (jz_eqF c38))) ?_
            refine Eq.trans (jb_nx (i := .aload_n 0) (n := 1) (q := (188, [some (.ref p0), some (.ref p1)], [.ref p0])) (jq qX13_isSingle 85 rfl) rfl) ?_
            refine Eq.trans (jb_nx (i := .aload_n 1) (n := 1) (q := (189, [some (.ref p0), some (.ref p1)], [.ref p1, .ref p0])) (jq qX13_isSingle 86 rfl) rfl) ?_
            refine Eq.trans (jb_nx (i := .iconst 5) (n := 1) (q := (190, [some (.ref p0), some (.ref p1)], [.int 5, .ref p1, .ref p0])) (jq qX13_isSingle 87 rfl) rfl) ?_
            obtain ⟨b43, H⟩ := jm_O_inv H
            rcases jcI H with ⟨x41, h39, r40, H⟩ | ⟨w44, h45, r40, H⟩
            · refine Eq.trans (jb_nx (i := .invokevirtual 360) (n := 3) (q := (193, [some (.ref p0), some (.ref p1)], [.int x41])) (jq qX13_isSingle 88 rfl) (jo_cv (y := mX13_name) rfl (Nat.le_of_ble_eq_true rfl) rfl (Nat.le_of_ble_eq_true rfl) b43 rfl r40 jo_ret)) ?_
              by_cases c42 : x41 = 0
              · rw [if_pos c42] at H
                refine Eq.trans (jb_nx (i := .ifCond .eq 7) (n := 3) (q := (200, [some (.ref p0), some (.ref p1)], [])) (jq qX13_isSingle 89 rfl) (jo_ifT (jz_eqT c42) rfl)) ?_
                refine Eq.trans (jb_nx (i := .iconst 0) (n := 1) (q := (201, [some (.ref p0), some (.ref p1)], [.int 0])) (jq qX13_isSingle 92 rfl) rfl) ?_
                exact Eq.trans (jb_rt (i := .ireturn) (n := 1) (jq qX13_isSingle 93 rfl) (jo_iret rfl (by decide))) H
              · rw [if_neg c42] at H
                refine Eq.trans (jb_nx (i := .ifCond .eq 7) (n := 3) (q := (196, [some (.ref p0), some (.ref p1)], [])) (jq qX13_isSingle 89 rfl) (jo_ifF (jz_eqF c42))) ?_
                refine Eq.trans (jb_nx (i := .iconst 1) (n := 1) (q := (197, [some (.ref p0), some (.ref p1)], [.int 1])) (jq qX13_isSingle 90 rfl) rfl) ?_
                refine Eq.trans (jb_nx (i := .goto 4) (n := 3) (q := (201, [some (.ref p0), some (.ref p1)], [.int 1])) (jq qX13_isSingle 91 rfl) rfl) ?_
                exact Eq.trans (jb_rt (i := .ireturn) (n := 1) (jq qX13_isSingle 93 rfl) (jo_iret rfl (by decide))) H
            · exact Eq.trans (jb_rt (i := .invokevirtual 360) (n := 3) (jq qX13_isSingle 88 rfl) (jo_cv (y := mX13_name) rfl (Nat.le_of_ble_eq_true rfl) rfl (Nat.le_of_ble_eq_true rfl) b43 rfl r40 (jo_exn rfl))) H
        · exact Eq.trans (jb_rt (i := .invokevirtual 360) (n := 3) (jq qX13_isSingle 83 rfl) (jo_cv (y := mX13_name) rfl (Nat.le_of_ble_eq_true rfl) rfl (Nat.le_of_ble_eq_true rfl) b46 rfl r36 (jo_exn rfl))) H
      · exact Eq.trans (jb_rt (i := .invokevirtual 378) (n := 3) (jq qX13_isSingle 79 rfl) (jo_cv (y := mX13_order) rfl (Nat.le_of_ble_eq_true rfl) rfl (Nat.le_of_ble_eq_true rfl) b49 rfl r34 (jo_exn rfl))) H
    · rw [if_neg c26] at H
      by_cases c52 : x5 = 15
      · rw [if_pos c52] at H
        refine Eq.trans (jb_nx (i := .lookupswitch 193 #[(13, 118), (14, 147), (15, 43), (91, 84)]) (n := 43) (q := (52, [some (.ref p0), some (.ref p1)], [])) (jq qX13_isSingle 5 rfl) (by rw [c52]; rfl)) ?_
        refine Eq.trans (jb_nx (i := .aload_n 0) (n := 1) (q := (53, [some (.ref p0), some (.ref p1)], [.ref p0])) (jq qX13_isSingle 6 rfl) rfl) ?_
        refine Eq.trans (jb_nx (i := .aload_n 1) (n := 1) (q := (54, [some (.ref p0), some (.ref p1)], [.ref p1, .ref p0])) (jq qX13_isSingle 7 rfl) rfl) ?_
        refine Eq.trans (jb_nx (i := .bipush 15) (n := 2) (q := (56, [some (.ref p0), some (.ref p1)], [.int 15, .ref p1, .ref p0])) (jq qX13_isSingle 8 rfl) rfl) ?_
        obtain ⟨b73, H⟩ := jm_O_inv H
        rcases jcI H with ⟨x55, h53, r54, H⟩ | ⟨w74, h75, r54, H⟩
        · refine Eq.trans (jb_nx (i := .invokevirtual 363) (n := 3) (q := (59, [some (.ref p0), some (.ref p1)], [.int x55])) (jq qX13_isSingle 9 rfl) (jo_cv (y := mX13_deeper) rfl (Nat.le_of_ble_eq_true rfl) rfl (Nat.le_of_ble_eq_true rfl) b73 rfl r54 jo_ret)) ?_
          by_cases c56 : x55 = 0
          · rw [if_pos c56] at H
            refine Eq.trans (jb_nx (i := .ifCond .eq 11) (n := 3) (q := (70, [some (.ref p0), some (.ref p1)], [])) (jq qX13_isSingle 10 rfl) (jo_ifT (jz_eqT c56) rfl)) ?_
            refine Eq.trans (jb_nx (i := .iconst 0) (n := 1) (q := (71, [some (.ref p0), some (.ref p1)], [.int 0])) (jq qX13_isSingle 15 rfl) rfl) ?_
            exact Eq.trans (jb_rt (i := .ireturn) (n := 1) (jq qX13_isSingle 16 rfl) (jo_iret rfl (by decide))) H
          · rw [if_neg c56] at H
            refine Eq.trans (jb_nx (i := .ifCond .eq 11) (n := 3) (q := (62, [some (.ref p0), some (.ref p1)], [])) (jq qX13_isSingle 10 rfl) (jo_ifF (jz_eqF c56))) ?_
            refine Eq.trans (jb_nx (i := .aload_n 0) (n := 1) (q := (63, [some (.ref p0), some (.ref p1)], [.ref p0])) (jq qX13_isSingle 11 rfl) rfl) ?_
            refine Eq.trans (jb_nx (i := .aload_n 1) (n := 1) (q := (64, [some (.ref p0), some (.ref p1)], [.ref p1, .ref p0])) (jq qX13_isSingle 12 rfl) rfl) ?_
            obtain ⟨b70, H⟩ := jm_O_inv H
            rcases jcI H with ⟨x59, h57, r58, H⟩ | ⟨w71, h72, r58, H⟩
            · refine Eq.trans (jb_nx (i := .invokevirtual 381) (n := 3) (q := (67, [some (.ref p0), some (.ref p1)], [.int x59])) (jq qX13_isSingle 13 rfl) (jo_cv (y := mX13_isSingle) rfl (Nat.le_of_ble_eq_true rfl) rfl (Nat.le_of_ble_eq_true rfl) b70 rfl r58 jo_ret)) ?_
              by_cases c60 : x59 = 0
              · rw [if_pos c60] at H
                refine Eq.trans (jb_nx (i := .ifCond .ne 5) (n := 3) (q := (70, [some (.ref p0), some (.ref p1)], [])) (jq qX13_isSingle 14 rfl) (jo_ifF (jz_neF c60))) ?_
                refine Eq.trans (jb_nx (i := .iconst 0) (n := 1) (q := (71, [some (.ref p0), some (.ref p1)], [.int 0])) (jq qX13_isSingle 15 rfl) rfl) ?_
                exact Eq.trans (jb_rt (i := .ireturn) (n := 1) (jq qX13_isSingle 16 rfl) (jo_iret rfl (by decide))) H
              · rw [if_neg c60] at H
                refine Eq.trans (jb_nx (i := .ifCond .ne 5) (n := 3) (q := (72, [some (.ref p0), some (.ref p1)], [])) (jq qX13_isSingle 14 rfl) (jo_ifT (jz_neT c60) rfl)) ?_
                refine Eq.trans (jb_nx (i := .aload_n 0) (n := 1) (q := (73, [some (.ref p0), some (.ref p1)], [.ref p0])) (jq qX13_isSingle 17 rfl) rfl) ?_
                refine Eq.trans (jb_nx (i := .dup) (n := 1) (q := (74, [some (.ref p0), some (.ref p1)], [.ref p0, .ref p0])) (jq qX13_isSingle 18 rfl) rfl) ?_
                obtain ⟨x61, e62, H⟩ := jbd H
                refine Eq.trans (jb_nx (i := .getfield 344) (n := 3) (q := (77, [some (.ref p0), some (.ref p1)], [.int x61, .ref p0])) (jq qX13_isSingle 19 rfl) (jo_gf rfl (jr_I_inv e62))) ?_
                refine Eq.trans (jb_nx (i := .iconst 1) (n := 1) (q := (78, [some (.ref p0), some (.ref p1)], [.int 1, .int x61, .ref p0])) (jq qX13_isSingle 20 rfl) rfl) ?_
                refine Eq.trans (jb_nx (i := .isub) (n := 1) (q := (79, [some (.ref p0), some (.ref p1)], [.int (x61 - 1), .ref p0])) (jq qX13_isSingle 21 rfl) rfl) ?_
                obtain ⟨h63, e64, H⟩ := jbd H
                refine Eq.trans (jb_nx (i := .putfield 344) (n := 3) (q := (82, [some (.ref p0), some (.ref p1)], [])) (jq qX13_isSingle 22 rfl) (jo_pf rfl (Or.inl rfl) e64)) ?_
                refine Eq.trans (jb_nx (i := .aload_n 0) (n := 1) (q := (83, [some (.ref p0), some (.ref p1)], [.ref p0])) (jq qX13_isSingle 23 rfl) rfl) ?_
                refine Eq.trans (jb_nx (i := .aload_n 1) (n := 1) (q := (84, [some (.ref p0), some (.ref p1)], [.ref p1, .ref p0])) (jq qX13_isSingle 24 rfl) rfl) ?_
                refine Eq.trans (jb_nx (i := .bipush 15) (n := 2) (q := (86, [some (.ref p0), some (.ref p1)], [.int 15, .ref p1, .ref p0])) (jq qX13_isSingle 25 rfl) rfl) ?_
                refine Eq.trans (jb_nx (i := .iconst 0) (n := 1) (q := (87, [some (.ref p0), some (.ref p1)], [.int 0, .int 15, .ref p1, .ref p0])) (jq qX13_isSingle 26 rfl) rfl) ?_
                refine Eq.trans (jb_nx (i := .iconst (-1)) (n := 1) (q := (88, [some (.ref p0), some (.ref p1)], [.int (-1), .int 0, .int 15, .ref p1, .ref p0])) (jq qX13_isSingle 27 rfl) rfl) ?_
                obtain ⟨b67, H⟩ := jm_O_inv H
                rcases jcV H with ⟨h65, r66, H⟩ | ⟨w68, h69, r66, H⟩
                · refine Eq.trans (jb_nx (i := .invokevirtual 378) (n := 3) (q := (91, [some (.ref p0), some (.ref p1)], [])) (jq qX13_isSingle 28 rfl) (jo_cv (y := mX13_order) rfl (Nat.le_of_ble_eq_true rfl) rfl (Nat.le_of_ble_eq_true rfl) b67 rfl r66 jo_ret)) ?_
                  refine Eq.trans (jb_nx (i := .iconst 1) (n := 1) (q := (92, [some (.ref p0), some (.ref p1)], [.int 1])) (jq qX13_isSingle 29 rfl) rfl) ?_
                  exact Eq.trans (jb_rt (i := .ireturn) (n := 1) (jq qX13_isSingle 30 rfl) (jo_iret rfl (by decide))) H
                · exact Eq.trans (jb_rt (i := .invokevirtual 378) (n := 3) (jq qX13_isSingle 28 rfl) (jo_cv (y := mX13_order) rfl (Nat.le_of_ble_eq_true rfl) rfl (Nat.le_of_ble_eq_true rfl) b67 rfl r66 (jo_exn rfl))) H
            · exact Eq.trans (jb_rt (i := .invokevirtual 381) (n := 3) (jq qX13_isSingle 13 rfl) (jo_cv (y := mX13_isSingle) rfl (Nat.le_of_ble_eq_true rfl) rfl (Nat.le_of_ble_eq_true rfl) b70 rfl r58 (jo_exn rfl))) H
        · exact Eq.trans (jb_rt (i := .invokevirtual 363) (n := 3) (jq qX13_isSingle 9 rfl) (jo_cv (y := mX13_deeper) rfl (Nat.le_of_ble_eq_true rfl) rfl (Nat.le_of_ble_eq_true rfl) b73 rfl r54 (jo_exn rfl))) H
      · rw [if_neg c52] at H
        by_cases c76 : x5 = 91
        · rw [if_pos c76] at H
          refine Eq.trans (jb_nx (i := .lookupswitch 193 #[(13, 118), (14, 147), (15, 43), (91, 84)]) (n := 43) (q := (93, [some (.ref p0), some (.ref p1)], [])) (jq qX13_isSingle 5 rfl) (by rw [c76]; rfl)) ?_
          refine Eq.trans (jb_nx (i := .aload_n 0) (n := 1) (q := (94, [some (.ref p0), some (.ref p1)], [.ref p0])) (jq qX13_isSingle 31 rfl) rfl) ?_
          refine Eq.trans (jb_nx (i := .aload_n 1) (n := 1) (q := (95, [some (.ref p0), some (.ref p1)], [.ref p1, .ref p0])) (jq qX13_isSingle 32 rfl) rfl) ?_
          refine Eq.trans (jb_nx (i := .bipush 91) (n := 2) (q := (97, [some (.ref p0), some (.ref p1)], [.int 91, .ref p1, .ref p0])) (jq qX13_isSingle 33 rfl) rfl) ?_
          obtain ⟨b95, H⟩ := jm_O_inv H
          rcases jcI H with ⟨x79, h77, r78, H⟩ | ⟨w96, h97, r78, H⟩
          · refine Eq.trans (jb_nx (i := .invokevirtual 363) (n := 3) (q := (100, [some (.ref p0), some (.ref p1)], [.int x79])) (jq qX13_isSingle 34 rfl) (jo_cv (y := mX13_deeper) rfl (Nat.le_of_ble_eq_true rfl) rfl (Nat.le_of_ble_eq_true rfl) b95 rfl r78 jo_ret)) ?_
            by_cases c80 : x79 = 0
            · rw [if_pos c80] at H
              refine Eq.trans (jb_nx (i := .ifCond .eq 25) (n := 3) (q := (125, [some (.ref p0), some (.ref p1)], [])) (jq qX13_isSingle 35 rfl) (jo_ifT (jz_eqT c80) rfl)) ?_
              refine Eq.trans (jb_nx (i := .iconst 0) (n := 1) (q := (126, [some (.ref p0), some (.ref p1)], [.int 0])) (jq qX13_isSingle 47 rfl) rfl) ?_
              exact Eq.trans (jb_rt (i := .ireturn) (n := 1) (jq qX13_isSingle 48 rfl) (jo_iret rfl (by decide))) H
            · rw [if_neg c80] at H
              refine Eq.trans (jb_nx (i := .ifCond .eq 25) (n := 3) (q := (103, [some (.ref p0), some (.ref p1)], [])) (jq qX13_isSingle 35 rfl) (jo_ifF (jz_eqF c80))) ?_
              refine Eq.trans (jb_nx (i := .aload_n 0) (n := 1) (q := (104, [some (.ref p0), some (.ref p1)], [.ref p0])) (jq qX13_isSingle 36 rfl) rfl) ?_
              refine Eq.trans (jb_nx (i := .aload_n 1) (n := 1) (q := (105, [some (.ref p0), some (.ref p1)], [.ref p1, .ref p0])) (jq qX13_isSingle 37 rfl) rfl) ?_
              obtain ⟨b92, H⟩ := jm_O_inv H
              rcases jcI H with ⟨x83, h81, r82, H⟩ | ⟨w93, h94, r82, H⟩
              · refine Eq.trans (jb_nx (i := .invokevirtual 384) (n := 3) (q := (108, [some (.ref p0), some (.ref p1)], [.int x83])) (jq qX13_isSingle 38 rfl) (jo_cv (y := mX13_isTest) rfl (Nat.le_of_ble_eq_true rfl) rfl (Nat.le_of_ble_eq_true rfl) b92 rfl r82 jo_ret)) ?_
                by_cases c84 : x83 = 0
                · rw [if_pos c84] at H
                  refine Eq.trans (jb_nx (i := .ifCond .eq 17) (n := 3) (q := (125, [some (.ref p0), some (.ref p1)], [])) (jq qX13_isSingle 39 rfl) (jo_ifT (jz_eqT c84) rfl)) ?_
                  refine Eq.trans (jb_nx (i := .iconst 0) (n := 1) (q := (126, [some (.ref p0), some (.ref p1)], [.int 0])) (jq qX13_isSingle 47 rfl) rfl) ?_
                  exact Eq.trans (jb_rt (i := .ireturn) (n := 1) (jq qX13_isSingle 48 rfl) (jo_iret rfl (by decide))) H
                · rw [if_neg c84] at H
                  refine Eq.trans (jb_nx (i := .ifCond .eq 17) (n := 3) (q := (111, [some (.ref p0), some (.ref p1)], [])) (jq qX13_isSingle 39 rfl) (jo_ifF (jz_eqF c84))) ?_
                  refine Eq.trans (jb_nx (i := .aload_n 0) (n := 1) (q := (112, [some (.ref p0), some (.ref p1)], [.ref p0])) (jq qX13_isSingle 40 rfl) rfl) ?_
                  refine Eq.trans (jb_nx (i := .aload_n 1) (n := 1) (q := (113, [some (.ref p0), some (.ref p1)], [.ref p1, .ref p0])) (jq qX13_isSingle 41 rfl) rfl) ?_
                  refine Eq.trans (jb_nx (i := .bipush 93) (n := 2) (q := (115, [some (.ref p0), some (.ref p1)], [.int 93, .ref p1, .ref p0])) (jq qX13_isSingle 42 rfl) rfl) ?_
                  obtain ⟨b89, H⟩ := jm_O_inv H
                  rcases jcI H with ⟨x87, h85, r86, H⟩ | ⟨w90, h91, r86, H⟩
                  · refine Eq.trans (jb_nx (i := .invokevirtual 369) (n := 3) (q := (118, [some (.ref p0), some (.ref p1)], [.int x87])) (jq qX13_isSingle 43 rfl) (jo_cv (y := mX13_closes) rfl (Nat.le_of_ble_eq_true rfl) rfl (Nat.le_of_ble_eq_true rfl) b89 rfl r86 jo_ret)) ?_
                    by_cases c88 : x87 = 0
                    · rw [if_pos c88] at H
                      refine Eq.trans (jb_nx (i := .ifCond .eq 7) (n := 3) (q := (125, [some (.ref p0), some (.ref p1)], [])) (jq qX13_isSingle 44 rfl) (jo_ifT (jz_eqT c88) rfl)) ?_
                      refine Eq.trans (jb_nx (i := .iconst 0) (n := 1) (q := (126, [some (.ref p0), some (.ref p1)], [.int 0])) (jq qX13_isSingle 47 rfl) rfl) ?_
                      exact Eq.trans (jb_rt (i := .ireturn) (n := 1) (jq qX13_isSingle 48 rfl) (jo_iret rfl (by decide))) H
                    · rw [if_neg c88] at H
                      refine Eq.trans (jb_nx (i := .ifCond .eq 7) (n := 3) (q := (121, [some (.ref p0), some (.ref p1)], [])) (jq qX13_isSingle 44 rfl) (jo_ifF (jz_eqF c88))) ?_
                      refine Eq.trans (jb_nx (i := .iconst 1) (n := 1) (q := (122, [some (.ref p0), some (.ref p1)], [.int 1])) (jq qX13_isSingle 45 rfl) rfl) ?_
                      refine Eq.trans (jb_nx (i := .goto 4) (n := 3) (q := (126, [some (.ref p0), some (.ref p1)], [.int 1])) (jq qX13_isSingle 46 rfl) rfl) ?_
                      exact Eq.trans (jb_rt (i := .ireturn) (n := 1) (jq qX13_isSingle 48 rfl) (jo_iret rfl (by decide))) H
                  · exact Eq.trans (jb_rt (i := .invokevirtual 369) (n := 3) (jq qX13_isSingle 43 rfl) (jo_cv (y := mX13_closes) rfl (Nat.le_of_ble_eq_true rfl) rfl (Nat.le_of_ble_eq_true rfl) b89 rfl r86 (jo_exn rfl))) H
              · exact Eq.trans (jb_rt (i := .invokevirtual 384) (n := 3) (jq qX13_isSingle 38 rfl) (jo_cv (y := mX13_isTest) rfl (Nat.le_of_ble_eq_true rfl) rfl (Nat.le_of_ble_eq_true rfl) b92 rfl r82 (jo_exn rfl))) H
          · exact Eq.trans (jb_rt (i := .invokevirtual 363) (n := 3) (jq qX13_isSingle 34 rfl) (jo_cv (y := mX13_deeper) rfl (Nat.le_of_ble_eq_true rfl) rfl (Nat.le_of_ble_eq_true rfl) b95 rfl r78 (jo_exn rfl))) H
        · rw [if_neg c76] at H
          refine Eq.trans (jb_nx (i := .lookupswitch 193 #[(13, 118), (14, 147), (15, 43), (91, 84)]) (n := 43) (q := (202, [some (.ref p0), some (.ref p1)], [])) (jq qX13_isSingle 5 rfl) (jo_lookD (by decide +kernel) (by intro p hp; simp only [List.mem_cons, List.not_mem_nil, or_false] at hp; rcases hp with rfl | rfl | rfl | rfl; { exact jz_ti rfl c7 }; { exact jz_ti rfl c26 }; { exact jz_ti rfl c52 }; { exact jz_ti rfl c76 }) rfl)) ?_
          refine Eq.trans (jb_nx (i := .aload_n 0) (n := 1) (q := (203, [some (.ref p0), some (.ref p1)], [.ref p0])) (jq qX13_isSingle 94 rfl) rfl) ?_
          refine Eq.trans (jb_nx (i := .aload_n 1) (n := 1) (q := (204, [some (.ref p0), some (.ref p1)], [.ref p1, .ref p0])) (jq qX13_isSingle 95 rfl) rfl) ?_
          obtain ⟨b102, H⟩ := jm_O_inv H
          rcases jcI H with ⟨x100, h98, r99, H⟩ | ⟨w103, h104, r99, H⟩
          · refine Eq.trans (jb_nx (i := .invokevirtual 387) (n := 3) (q := (207, [some (.ref p0), some (.ref p1)], [.int x100])) (jq qX13_isSingle 96 rfl) (jo_cv (y := mX13_isCompare) rfl (Nat.le_of_ble_eq_true rfl) rfl (Nat.le_of_ble_eq_true rfl) b102 rfl r99 jo_ret)) ?_
            obtain ⟨u101, H⟩ := jm_Y_inv H
            exact Eq.trans (jb_rt (i := .ireturn) (n := 1) (jq qX13_isSingle 97 rfl) (jo_iret rfl u101)) H
          · exact Eq.trans (jb_rt (i := .invokevirtual 387) (n := 3) (jq qX13_isSingle 96 rfl) (jo_cv (y := mX13_isCompare) rfl (Nat.le_of_ble_eq_true rfl) rfl (Nat.le_of_ble_eq_true rfl) b102 rfl r99 (jo_exn rfl))) H
/-! MaskPlaysModel order (LMaskPlaysModel$Book;III)V -/
def tX13_order : List (Nat × Instr × Nat) := [(0, .aload_n 1, 1), (1, .getfield 222, 3), (4, .aload_n 1, 1), (5, .getfield 347, 3), (8, .iload_n 2, 1), (9, .iastore, 1), (10, .aload_n 1, 1), (11, .getfield 228, 3), (14, .aload_n 1, 1), (15, .getfield 347, 3), (18, .iload_n 3, 1), (19, .iastore, 1), (20, .aload_n 1, 1), (21, .getfield 350, 3), (24, .aload_n 1, 1), (25, .getfield 347, 3), (28, .iload 4, 2), (30, .iastore, 1), (31, .aload_n 1, 1), (32, .dup, 1), (33, .getfield 347, 3), (36, .iconst 1, 1), (37, .iadd, 1), (38, .putfield 347, 3), (41, .return_, 1)]
set_option maxRecDepth 100000 in
theorem qX13_order : ∀ q ∈ tX13_order, decode cX13_order q.1 = .ok (q.2.1, q.2.2) := by decide +kernel
theorem gX13_order {d : Nat} {p0 : Nat} {p1 : Nat} {i2 : Int32} {i3 : Int32} {i4 : Int32} {h : jm_H} {r : jm_R} (H : ((jr_R h p1 11 18 2).bind fun a1 => (jr_I h p1 11 20 0).bind fun x3 => (jm_asi h a1 0 x3 i2).bind fun h5 => (jr_R h5 p1 11 19 2).bind fun a7 => (jr_I h5 p1 11 20 0).bind fun x9 => (jm_asi h5 a7 0 x9 i3).bind fun h11 => (jr_R h11 p1 11 21 2).bind fun a13 => (jr_I h11 p1 11 20 0).bind fun x15 => (jm_asi h11 a13 0 x15 i4).bind fun h17 => (jr_I h17 p1 11 20 0).bind fun x19 => (jm_pf h17 p1 11 20 0 (.int (x19 + 1))).bind fun h21 => some (.inl none, h21)) = some r) : jm_D (d + 1) mX13_order [.ref p0, .ref p1, .int i2, .int i3, .int i4] h = some r := by
  rw [jm_D_body (Nat.le_of_ble_eq_true rfl)]
  show jm_B d mX13_order (0, [some (.ref p0), some (.ref p1), some (.int i2), some (.int i3), some (.int i4)], []) h = some r
  refine Eq.trans (jb_nx (i := .aload_n 1) (n := 1) (q := (1, [some (.ref p0), some (.ref p1), some (.int i2), some (.int i3), some (.int i4)], [.ref p1])) (jq qX13_order 0 rfl) rfl) ?_
  obtain ⟨a1, e2, H⟩ := jbd H
  refine Eq.trans (jb_nx (i := .getfield 222) (n := 3) (q := (4, [some (.ref p0), some (.ref p1), some (.int i2), some (.int i3), some (.int i4)], [.ref a1])) (jq qX13_order 1 rfl) (jo_gf rfl (jr_R_inv e2))) ?_
  refine Eq.trans (jb_nx (i := .aload_n 1) (n := 1) (q := (5, [some (.ref p0), some (.ref p1), some (.int i2), some (.int i3), some (.int i4)], [.ref p1, .ref a1])) (jq qX13_order 2 rfl) rfl) ?_
  obtain ⟨x3, e4, H⟩ := jbd H
  refine Eq.trans (jb_nx (i := .getfield 347) (n := 3) (q := (8, [some (.ref p0), some (.ref p1), some (.int i2), some (.int i3), some (.int i4)], [.int x3, .ref a1])) (jq qX13_order 3 rfl) (jo_gf rfl (jr_I_inv e4))) ?_
  refine Eq.trans (jb_nx (i := .iload_n 2) (n := 1) (q := (9, [some (.ref p0), some (.ref p1), some (.int i2), some (.int i3), some (.int i4)], [.int i2, .int x3, .ref a1])) (jq qX13_order 4 rfl) rfl) ?_
  obtain ⟨h5, e6, H⟩ := jbd H
  refine Eq.trans (jb_nx (i := .iastore) (n := 1) (q := (10, [some (.ref p0), some (.ref p1), some (.int i2), some (.int i3), some (.int i4)], [])) (jq qX13_order 5 rfl) (jo_ias e6)) ?_
  refine Eq.trans (jb_nx (i := .aload_n 1) (n := 1) (q := (11, [some (.ref p0), some (.ref p1), some (.int i2), some (.int i3), some (.int i4)], [.ref p1])) (jq qX13_order 6 rfl) rfl) ?_
  obtain ⟨a7, e8, H⟩ := jbd H
  refine Eq.trans (jb_nx (i := .getfield 228) (n := 3) (q := (14, [some (.ref p0), some (.ref p1), some (.int i2), some (.int i3), some (.int i4)], [.ref a7])) (jq qX13_order 7 rfl) (jo_gf rfl (jr_R_inv e8))) ?_
  refine Eq.trans (jb_nx (i := .aload_n 1) (n := 1) (q := (15, [some (.ref p0), some (.ref p1), some (.int i2), some (.int i3), some (.int i4)], [.ref p1, .ref a7])) (jq qX13_order 8 rfl) rfl) ?_
  obtain ⟨x9, e10, H⟩ := jbd H
  refine Eq.trans (jb_nx (i := .getfield 347) (n := 3) (q := (18, [some (.ref p0), some (.ref p1), some (.int i2), some (.int i3), some (.int i4)], [.int x9, .ref a7])) (jq qX13_order 9 rfl) (jo_gf rfl (jr_I_inv e10))) ?_
  refine Eq.trans (jb_nx (i := .iload_n 3) (n := 1) (q := (19, [some (.ref p0), some (.ref p1), some (.int i2), some (.int i3), some (.int i4)], [.int i3, .int x9, .ref a7])) (jq qX13_order 10 rfl) rfl) ?_
  obtain ⟨h11, e12, H⟩ := jbd H
  refine Eq.trans (jb_nx (i := .iastore) (n := 1) (q := (20, [some (.ref p0), some (.ref p1), some (.int i2), some (.int i3), some (.int i4)], [])) (jq qX13_order 11 rfl) (jo_ias e12)) ?_
  refine Eq.trans (jb_nx (i := .aload_n 1) (n := 1) (q := (21, [some (.ref p0), some (.ref p1), some (.int i2), some (.int i3), some (.int i4)], [.ref p1])) (jq qX13_order 12 rfl) rfl) ?_
  obtain ⟨a13, e14, H⟩ := jbd H
  refine Eq.trans (jb_nx (i := .getfield 350) (n := 3) (q := (24, [some (.ref p0), some (.ref p1), some (.int i2), some (.int i3), some (.int i4)], [.ref a13])) (jq qX13_order 13 rfl) (jo_gf rfl (jr_R_inv e14))) ?_
  refine Eq.trans (jb_nx (i := .aload_n 1) (n := 1) (q := (25, [some (.ref p0), some (.ref p1), some (.int i2), some (.int i3), some (.int i4)], [.ref p1, .ref a13])) (jq qX13_order 14 rfl) rfl) ?_
  obtain ⟨x15, e16, H⟩ := jbd H
  refine Eq.trans (jb_nx (i := .getfield 347) (n := 3) (q := (28, [some (.ref p0), some (.ref p1), some (.int i2), some (.int i3), some (.int i4)], [.int x15, .ref a13])) (jq qX13_order 15 rfl) (jo_gf rfl (jr_I_inv e16))) ?_
  refine Eq.trans (jb_nx (i := .iload 4) (n := 2) (q := (30, [some (.ref p0), some (.ref p1), some (.int i2), some (.int i3), some (.int i4)], [.int i4, .int x15, .ref a13])) (jq qX13_order 16 rfl) rfl) ?_
  obtain ⟨h17, e18, H⟩ := jbd H
  refine Eq.trans (jb_nx (i := .iastore) (n := 1) (q := (31, [some (.ref p0), some (.ref p1), some (.int i2), some (.int i3), some (.int i4)], [])) (jq qX13_order 17 rfl) (jo_ias e18)) ?_
  refine Eq.trans (jb_nx (i := .aload_n 1) (n := 1) (q := (32, [some (.ref p0), some (.ref p1), some (.int i2), some (.int i3), some (.int i4)], [.ref p1])) (jq qX13_order 18 rfl) rfl) ?_
  refine Eq.trans (jb_nx (i := .dup) (n := 1) (q := (33, [some (.ref p0), some (.ref p1), some (.int i2), some (.int i3), some (.int i4)], [.ref p1, .ref p1])) (jq qX13_order 19 rfl) rfl) ?_
  obtain ⟨x19, e20, H⟩ := jbd H
  refine Eq.trans (jb_nx (i := .getfield 347) (n := 3) (q := (36, [some (.ref p0), some (.ref p1), some (.int i2), some (.int i3), some (.int i4)], [.int x19, .ref p1])) (jq qX13_order 20 rfl) (jo_gf rfl (jr_I_inv e20))) ?_
  refine Eq.trans (jb_nx (i := .iconst 1) (n := 1) (q := (37, [some (.ref p0), some (.ref p1), some (.int i2), some (.int i3), some (.int i4)], [.int 1, .int x19, .ref p1])) (jq qX13_order 21 rfl) rfl) ?_
  refine Eq.trans (jb_nx (i := .iadd) (n := 1) (q := (38, [some (.ref p0), some (.ref p1), some (.int i2), some (.int i3), some (.int i4)], [.int (x19 + 1), .ref p1])) (jq qX13_order 22 rfl) rfl) ?_
  obtain ⟨h21, e22, H⟩ := jbd H
  refine Eq.trans (jb_nx (i := .putfield 347) (n := 3) (q := (41, [some (.ref p0), some (.ref p1), some (.int i2), some (.int i3), some (.int i4)], [])) (jq qX13_order 23 rfl) (jo_pf rfl (Or.inl rfl) e22)) ?_
  exact Eq.trans (jb_rt (i := .return_) (n := 1) (jq qX13_order 24 rfl) rfl) H
/-! MaskPlaysModel isCompare (LMaskPlaysModel$Book;)Z -/
def tX13_isCompare : List (Nat × Instr × Nat) := [(0, .aload_n 0, 1), (1, .aload_n 1, 1), (2, .invokevirtual 390, 3), (5, .ifCond .ne 5, 3), (8, .iconst 0, 1), (9, .ireturn, 1), (10, .aload_n 1, 1), (11, .getfield 323, 3), (14, .aload_n 0, 1), (15, .getfield 329, 3), (18, .iaload, 1), (19, .istore_n 2, 1), (20, .iload_n 2, 1), (21, .bipush 60, 2), (23, .if_icmp .ne 8, 3), (26, .bipush 106, 2), (28, .goto 50, 3), (31, .iload_n 2, 1), (32, .bipush 62, 2), (34, .if_icmp .ne 8, 3), (37, .bipush 107, 2), (39, .goto 39, 3), (42, .iload_n 2, 1), (43, .bipush 61, 2), (45, .if_icmp .ne 8, 3), (48, .bipush 108, 2), (50, .goto 28, 3), (53, .iload_n 2, 1), (54, .sipush 316, 3), (57, .if_icmp .ne 8, 3), (60, .bipush 109, 2), (62, .goto 16, 3), (65, .iload_n 2, 1), (66, .sipush 318, 3), (69, .if_icmp .ne 8, 3), (72, .bipush 110, 2), (74, .goto 4, 3), (77, .iconst (-1), 1), (78, .istore_n 3, 1), (79, .iload_n 3, 1), (80, .iconst (-1), 1), (81, .if_icmp .ne 5, 3), (84, .iconst 0, 1), (85, .ireturn, 1), (86, .aload_n 0, 1), (87, .dup, 1), (88, .getfield 329, 3), (91, .iconst 1, 1), (92, .iadd, 1), (93, .putfield 329, 3), (96, .aload_n 0, 1), (97, .aload_n 1, 1), (98, .invokevirtual 390, 3), (101, .ifCond .ne 5, 3), (104, .iconst 0, 1), (105, .ireturn, 1), (106, .aload_n 0, 1), (107, .aload_n 1, 1), (108, .iload_n 3, 1), (109, .iconst 0, 1), (110, .iconst (-1), 1), (111, .invokevirtual 378, 3), (114, .iconst 1, 1), (115, .ireturn, 1)]
set_option maxRecDepth 100000 in
theorem qX13_isCompare : ∀ q ∈ tX13_isCompare, decode cX13_isCompare q.1 = .ok (q.2.1, q.2.2) := by decide +kernel
noncomputable def kX13_isCompare_78 (d : Nat) (p0 : Nat) (p1 : Nat) (o2 : Option Value) (o3 : Option Value) (si0 : Int32) (h : jm_H) : Option jm_R := jm_B d mX13_isCompare (78, [some (.ref p0), some (.ref p1), o2, o3], [.int si0]) h
theorem gX13_isCompare_78 {d : Nat} {p0 : Nat} {p1 : Nat} {o2 : Option Value} {o3 : Option Value} {si0 : Int32} {h : jm_H} {r : jm_R} (H : ((if si0 = (-1) then some (.inl (some (.int 0)), h) else (jr_I h p0 12 5 0).bind fun x20 => (jm_pf h p0 12 5 0 (.int (x20 + 1))).bind fun h22 => jm_O h22 p0 13 (jc_I (jm_D d mX13_isSum [.ref p0, .ref p1] h22) (fun x26 h24 => (if x26 = 0 then some (.inl (some (.int 0)), h24) else jm_O h24 p0 13 (jc_V (jm_D d mX13_order [.ref p0, .ref p1, .int si0, .int 0, .int (-1)] h24) (fun h28 => some (.inl (some (.int 1)), h28)) jx))) jx))) = some r) : kX13_isCompare_78 d p0 p1 o2 o3 si0 h = some r := by
  show jm_B d mX13_isCompare (78, [some (.ref p0), some (.ref p1), o2, o3], [.int si0]) h = some r
  refine Eq.trans (jb_nx (i := .istore_n 3) (n := 1) (q := (79, [some (.ref p0), some (.ref p1), (jm_dm o2), some (.int si0)], [])) (jq qX13_isCompare 38 rfl) rfl) ?_
  refine Eq.trans (jb_nx (i := .iload_n 3) (n := 1) (q := (80, [some (.ref p0), some (.ref p1), (jm_dm o2), some (.int si0)], [.int si0])) (jq qX13_isCompare 39 rfl) rfl) ?_
  refine Eq.trans (jb_nx (i := .iconst (-1)) (n := 1) (q := (81, [some (.ref p0), some (.ref p1), (jm_dm o2), some (.int si0)], [.int (-1), .int si0])) (jq qX13_isCompare 40 rfl) rfl) ?_
  by_cases c19 : si0 = (-1)
  · rw [if_pos c19] at H
    refine Eq.trans (jb_nx (i := .if_icmp .ne 5) (n := 3) (q := (84, [some (.ref p0), some (.ref p1), (jm_dm o2), some (.int si0)], [])) (jq qX13_isCompare 41 rfl) (jo_icF (jz_neF c19))) ?_
    refine Eq.trans (jb_nx (i := .iconst 0) (n := 1) (q := (85, [some (.ref p0), some (.ref p1), (jm_dm o2), some (.int si0)], [.int 0])) (jq qX13_isCompare 42 rfl) rfl) ?_
    exact Eq.trans (jb_rt (i := .ireturn) (n := 1) (jq qX13_isCompare 43 rfl) (jo_iret rfl (by decide))) H
  · rw [if_neg c19] at H
    refine Eq.trans (jb_nx (i := .if_icmp .ne 5) (n := 3) (q := (86, [some (.ref p0), some (.ref p1), (jm_dm o2), some (.int si0)], [])) (jq qX13_isCompare 41 rfl) (jo_icT (jz_neT c19) rfl)) ?_
    refine Eq.trans (jb_nx (i := .aload_n 0) (n := 1) (q := (87, [some (.ref p0), some (.ref p1), (jm_dm o2), some (.int si0)], [.ref p0])) (jq qX13_isCompare 44 rfl) rfl) ?_
    refine Eq.trans (jb_nx (i := .dup) (n := 1) (q := (88, [some (.ref p0), some (.ref p1), (jm_dm o2), some (.int si0)], [.ref p0, .ref p0])) (jq qX13_isCompare 45 rfl) rfl) ?_
    obtain ⟨x20, e21, H⟩ := jbd H
    refine Eq.trans (jb_nx (i := .getfield 329) (n := 3) (q := (91, [some (.ref p0), some (.ref p1), (jm_dm o2), some (.int si0)], [.int x20, .ref p0])) (jq qX13_isCompare 46 rfl) (jo_gf rfl (jr_I_inv e21))) ?_
    refine Eq.trans (jb_nx (i := .iconst 1) (n := 1) (q := (92, [some (.ref p0), some (.ref p1), (jm_dm o2), some (.int si0)], [.int 1, .int x20, .ref p0])) (jq qX13_isCompare 47 rfl) rfl) ?_
    refine Eq.trans (jb_nx (i := .iadd) (n := 1) (q := (93, [some (.ref p0), some (.ref p1), (jm_dm o2), some (.int si0)], [.int (x20 + 1), .ref p0])) (jq qX13_isCompare 48 rfl) rfl) ?_
    obtain ⟨h22, e23, H⟩ := jbd H
    refine Eq.trans (jb_nx (i := .putfield 329) (n := 3) (q := (96, [some (.ref p0), some (.ref p1), (jm_dm o2), some (.int si0)], [])) (jq qX13_isCompare 49 rfl) (jo_pf rfl (Or.inl rfl) e23)) ?_
    refine Eq.trans (jb_nx (i := .aload_n 0) (n := 1) (q := (97, [some (.ref p0), some (.ref p1), (jm_dm o2), some (.int si0)], [.ref p0])) (jq qX13_isCompare 50 rfl) rfl) ?_
    refine Eq.trans (jb_nx (i := .aload_n 1) (n := 1) (q := (98, [some (.ref p0), some (.ref p1), (jm_dm o2), some (.int si0)], [.ref p1, .ref p0])) (jq qX13_isCompare 51 rfl) rfl) ?_
    obtain ⟨b33, H⟩ := jm_O_inv H
    rcases jcI H with ⟨x26, h24, r25, H⟩ | ⟨w34, h35, r25, H⟩
    · refine Eq.trans (jb_nx (i := .invokevirtual 390) (n := 3) (q := (101, [some (.ref p0), some (.ref p1), (jm_dm o2), some (.int si0)], [.int x26])) (jq qX13_isCompare 52 rfl) (jo_cv (y := mX13_isSum) rfl (Nat.le_of_ble_eq_true rfl) rfl (Nat.le_of_ble_eq_true rfl) b33 rfl r25 jo_ret)) ?_
      by_cases c27 : x26 = 0
      · rw [if_pos c27] at H
        refine Eq.trans (jb_nx (i := .ifCond .ne 5) (n := 3) (q := (104, [some (.ref p0), some (.ref p1), (jm_dm o2), some (.int si0)], [])) (jq qX13_isCompare 53 rfl) (jo_ifF (jz_neF c27))) ?_
        refine Eq.trans (jb_nx (i := .iconst 0) (n := 1) (q := (105, [some (.ref p0), some (.ref p1), (jm_dm o2), some (.int si0)], [.int 0])) (jq qX13_isCompare 54 rfl) rfl) ?_
        exact Eq.trans (jb_rt (i := .ireturn) (n := 1) (jq qX13_isCompare 55 rfl) (jo_iret rfl (by decide))) H
      · rw [if_neg c27] at H
        refine Eq.trans (jb_nx (i := .ifCond .ne 5) (n := 3) (q := (106, [some (.ref p0), some (.ref p1), (jm_dm o2), some (.int si0)], [])) (jq qX13_isCompare 53 rfl) (jo_ifT (jz_neT c27) rfl)) ?_
        refine Eq.trans (jb_nx (i := .aload_n 0) (n := 1) (q := (107, [some (.ref p0), some (.ref p1), (jm_dm o2), some (.int si0)], [.ref p0])) (jq qX13_isCompare 56 rfl) rfl) ?_
        refine Eq.trans (jb_nx (i := .aload_n 1) (n := 1) (q := (108, [some (.ref p0), some (.ref p1), (jm_dm o2), some (.int si0)], [.ref p1, .ref p0])) (jq qX13_isCompare 57 rfl) rfl) ?_
        refine Eq.trans (jb_nx (i := .iload_n 3) (n := 1) (q := (109, [some (.ref p0), some (.ref p1), (jm_dm o2), some (.int si0)], [.int si0, .ref p1, .ref p0])) (jq qX13_isCompare 58 rfl) rfl) ?_
        refine Eq.trans (jb_nx (i := .iconst 0) (n := 1) (q := (110, [some (.ref p0), some (.ref p1), (jm_dm o2), some (.int si0)], [.int 0, .int si0, .ref p1, .ref p0])) (jq qX13_isCompare 59 rfl) rfl) ?_
        refine Eq.trans (jb_nx (i := .iconst (-1)) (n := 1) (q := (111, [some (.ref p0), some (.ref p1), (jm_dm o2), some (.int si0)], [.int (-1), .int 0, .int si0, .ref p1, .ref p0])) (jq qX13_isCompare 60 rfl) rfl) ?_
        obtain ⟨b30, H⟩ := jm_O_inv H
        rcases jcV H with ⟨h28, r29, H⟩ | ⟨w31, h32, r29, H⟩
        · refine Eq.trans (jb_nx (i := .invokevirtual 378) (n := 3) (q := (114, [some (.ref p0), some (.ref p1), (jm_dm o2), some (.int si0)], [])) (jq qX13_isCompare 61 rfl) (jo_cv (y := mX13_order) rfl (Nat.le_of_ble_eq_true rfl) rfl (Nat.le_of_ble_eq_true rfl) b30 rfl r29 jo_ret)) ?_
          refine Eq.trans (jb_nx (i := .iconst 1) (n := 1) (q := (115, [some (.ref p0), some (.ref p1), (jm_dm o2), some (.int si0)], [.int 1])) (jq qX13_isCompare 62 rfl) rfl) ?_
          exact Eq.trans (jb_rt (i := .ireturn) (n := 1) (jq qX13_isCompare 63 rfl) (jo_iret rfl (by decide))) H
        · exact Eq.trans (jb_rt (i := .invokevirtual 378) (n := 3) (jq qX13_isCompare 61 rfl) (jo_cv (y := mX13_order) rfl (Nat.le_of_ble_eq_true rfl) rfl (Nat.le_of_ble_eq_true rfl) b30 rfl r29 (jo_exn rfl))) H
    · exact Eq.trans (jb_rt (i := .invokevirtual 390) (n := 3) (jq qX13_isCompare 52 rfl) (jo_cv (y := mX13_isSum) rfl (Nat.le_of_ble_eq_true rfl) rfl (Nat.le_of_ble_eq_true rfl) b33 rfl r25 (jo_exn rfl))) H
theorem gX13_isCompare {d : Nat} {p0 : Nat} {p1 : Nat} {h : jm_H} {r : jm_R} (H : (jm_O h p0 13 (jc_I (jm_D d mX13_isSum [.ref p0, .ref p1] h) (fun x3 h1 => (if x3 = 0 then some (.inl (some (.int 0)), h1) else (jr_R h1 p1 11 0 2).bind fun a5 => (jr_I h1 p0 12 5 0).bind fun x7 => (jm_ali h1 a5 0 x7).bind fun x9 => (if x9 = 60 then kX13_isCompare_78 d p0 p1 (some (.int x9)) none 106 h1 else (if x9 = 62 then kX13_isCompare_78 d p0 p1 (some (.int x9)) none 107 h1 else (if x9 = 61 then kX13_isCompare_78 d p0 p1 (some (.int x9)) none 108 h1 else (if x9 = 316 then kX13_isCompare_78 d p0 p1 (some (.int x9)) none 109 h1 else (if x9 = 318 then kX13_isCompare_78 d p0 p1 (some (.int x9)) none 110 h1 else kX13_isCompare_78 d p0 p1 (some (.int x9)) none (-1) h1))))))) jx)) = some r) : jm_D (d + 1) mX13_isCompare [.ref p0, .ref p1] h = some r := by
  rw [jm_D_body (Nat.le_of_ble_eq_true rfl)]
  show jm_B d mX13_isCompare (0, [some (.ref p0), some (.ref p1), none, none], []) h = some r
  refine Eq.trans (jb_nx (i := .aload_n 0) (n := 1) (q := (1, [some (.ref p0), some (.ref p1), none, none], [.ref p0])) (jq qX13_isCompare 0 rfl) rfl) ?_
  refine Eq.trans (jb_nx (i := .aload_n 1) (n := 1) (q := (2, [some (.ref p0), some (.ref p1), none, none], [.ref p1, .ref p0])) (jq qX13_isCompare 1 rfl) rfl) ?_
  obtain ⟨b16, H⟩ := jm_O_inv H
  rcases jcI H with ⟨x3, h1, r2, H⟩ | ⟨w17, h18, r2, H⟩
  · refine Eq.trans (jb_nx (i := .invokevirtual 390) (n := 3) (q := (5, [some (.ref p0), some (.ref p1), none, none], [.int x3])) (jq qX13_isCompare 2 rfl) (jo_cv (y := mX13_isSum) rfl (Nat.le_of_ble_eq_true rfl) rfl (Nat.le_of_ble_eq_true rfl) b16 rfl r2 jo_ret)) ?_
    by_cases c4 : x3 = 0
    · rw [if_pos c4] at H
      refine Eq.trans (jb_nx (i := .ifCond .ne 5) (n := 3) (q := (8, [some (.ref p0), some (.ref p1), none, none], [])) (jq qX13_isCompare 3 rfl) (jo_ifF (jz_neF c4))) ?_
      refine Eq.trans (jb_nx (i := .iconst 0) (n := 1) (q := (9, [some (.ref p0), some (.ref p1), none, none], [.int 0])) (jq qX13_isCompare 4 rfl) rfl) ?_
      exact Eq.trans (jb_rt (i := .ireturn) (n := 1) (jq qX13_isCompare 5 rfl) (jo_iret rfl (by decide))) H
    · rw [if_neg c4] at H
      refine Eq.trans (jb_nx (i := .ifCond .ne 5) (n := 3) (q := (10, [some (.ref p0), some (.ref p1), none, none], [])) (jq qX13_isCompare 3 rfl) (jo_ifT (jz_neT c4) rfl)) ?_
      refine Eq.trans (jb_nx (i := .aload_n 1) (n := 1) (q := (11, [some (.ref p0), some (.ref p1), none, none], [.ref p1])) (jq qX13_isCompare 6 rfl) rfl) ?_
      obtain ⟨a5, e6, H⟩ := jbd H
      refine Eq.trans (jb_nx (i := .getfield 323) (n := 3) (q := (14, [some (.ref p0), some (.ref p1), none, none], [.ref a5])) (jq qX13_isCompare 7 rfl) (jo_gf rfl (jr_R_inv e6))) ?_
      refine Eq.trans (jb_nx (i := .aload_n 0) (n := 1) (q := (15, [some (.ref p0), some (.ref p1), none, none], [.ref p0, .ref a5])) (jq qX13_isCompare 8 rfl) rfl) ?_
      obtain ⟨x7, e8, H⟩ := jbd H
      refine Eq.trans (jb_nx (i := .getfield 329) (n := 3) (q := (18, [some (.ref p0), some (.ref p1), none, none], [.int x7, .ref a5])) (jq qX13_isCompare 9 rfl) (jo_gf rfl (jr_I_inv e8))) ?_
      obtain ⟨x9, e10, H⟩ := jbd H
      refine Eq.trans (jb_nx (i := .iaload) (n := 1) (q := (19, [some (.ref p0), some (.ref p1), none, none], [.int x9])) (jq qX13_isCompare 10 rfl) (jo_ial e10)) ?_
      refine Eq.trans (jb_nx (i := .istore_n 2) (n := 1) (q := (20, [some (.ref p0), some (.ref p1), some (.int x9), none], [])) (jq qX13_isCompare 11 rfl) rfl) ?_
      refine Eq.trans (jb_nx (i := .iload_n 2) (n := 1) (q := (21, [some (.ref p0), some (.ref p1), some (.int x9), none], [.int x9])) (jq qX13_isCompare 12 rfl) rfl) ?_
      refine Eq.trans (jb_nx (i := .bipush 60) (n := 2) (q := (23, [some (.ref p0), some (.ref p1), some (.int x9), none], [.int 60, .int x9])) (jq qX13_isCompare 13 rfl) rfl) ?_
      by_cases c11 : x9 = 60
      · rw [if_pos c11] at H
        refine Eq.trans (jb_nx (i := .if_icmp .ne 8) (n := 3) (q := (26, [some (.ref p0), some (.ref p1), some (.int x9), none], [])) (jq qX13_isCompare 14 rfl) (jo_icF (jz_neF c11))) ?_
        refine Eq.trans (jb_nx (i := .bipush 106) (n := 2) (q := (28, [some (.ref p0), some (.ref p1), some (.int x9), none], [.int 106])) (jq qX13_isCompare 15 rfl) rfl) ?_
        refine Eq.trans (jb_nx (i := .goto 50) (n := 3) (q := (78, [some (.ref p0), some (.ref p1), some (.int x9), none], [.int 106])) (jq qX13_isCompare 16 rfl) rfl) ?_
        exact H
      · rw [if_neg c11] at H
        refine Eq.trans (jb_nx (i := .if_icmp .ne 8) (n := 3) (q := (31, [some (.ref p0), some (.ref p1), some (.int x9), none], [])) (jq qX13_isCompare 14 rfl) (jo_icT (jz_neT c11) rfl)) ?_
        refine Eq.trans (jb_nx (i := .iload_n 2) (n := 1) (q := (32, [some (.ref p0), some (.ref p1), some (.int x9), none], [.int x9])) (jq qX13_isCompare 17 rfl) rfl) ?_
        refine Eq.trans (jb_nx (i := .bipush 62) (n := 2) (q := (34, [some (.ref p0), some (.ref p1), some (.int x9), none], [.int 62, .int x9])) (jq qX13_isCompare 18 rfl) rfl) ?_
        by_cases c12 : x9 = 62
        · rw [if_pos c12] at H
          refine Eq.trans (jb_nx (i := .if_icmp .ne 8) (n := 3) (q := (37, [some (.ref p0), some (.ref p1), some (.int x9), none], [])) (jq qX13_isCompare 19 rfl) (jo_icF (jz_neF c12))) ?_
          refine Eq.trans (jb_nx (i := .bipush 107) (n := 2) (q := (39, [some (.ref p0), some (.ref p1), some (.int x9), none], [.int 107])) (jq qX13_isCompare 20 rfl) rfl) ?_
          refine Eq.trans (jb_nx (i := .goto 39) (n := 3) (q := (78, [some (.ref p0), some (.ref p1), some (.int x9), none], [.int 107])) (jq qX13_isCompare 21 rfl) rfl) ?_
          exact H
        · rw [if_neg c12] at H
          refine Eq.trans (jb_nx (i := .if_icmp .ne 8) (n := 3) (q := (42, [some (.ref p0), some (.ref p1), some (.int x9), none], [])) (jq qX13_isCompare 19 rfl) (jo_icT (jz_neT c12) rfl)) ?_
          refine Eq.trans (jb_nx (i := .iload_n 2) (n := 1) (q := (43, [some (.ref p0), some (.ref p1), some (.int x9), none], [.int x9])) (jq qX13_isCompare 22 rfl) rfl) ?_
          refine Eq.trans (jb_nx (i := .bipush 61) (n := 2) (q := (45, [some (.ref p0), some (.ref p1), some (.int x9), none], [.int 61, .int x9])) (jq qX13_isCompare 23 rfl) rfl) ?_
          by_cases c13 : x9 = 61
          · rw [if_pos c13] at H
            refine Eq.trans (jb_nx (i := .if_icmp .ne 8) (n := 3) (q := (48, [some (.ref p0), some (.ref p1), some (.int x9), none], [])) (jq qX13_isCompare 24 rfl) (jo_icF (jz_neF c13))) ?_
            refine Eq.trans (jb_nx (i := .bipush 108) (n := 2) (q := (50, [some (.ref p0), some (.ref p1), some (.int x9), none], [.int 108])) (jq qX13_isCompare 25 rfl) rfl) ?_
            refine Eq.trans (jb_nx (i := .goto 28) (n := 3) (q := (78, [some (.ref p0), some (.ref p1), some (.int x9), none], [.int 108])) (jq qX13_isCompare 26 rfl) rfl) ?_
            exact H
          · rw [if_neg c13] at H
            refine Eq.trans (jb_nx (i := .if_icmp .ne 8) (n := 3) (q := (53, [some (.ref p0), some (.ref p1), some (.int x9), none], [])) (jq qX13_isCompare 24 rfl) (jo_icT (jz_neT c13) rfl)) ?_
            refine Eq.trans (jb_nx (i := .iload_n 2) (n := 1) (q := (54, [some (.ref p0), some (.ref p1), some (.int x9), none], [.int x9])) (jq qX13_isCompare 27 rfl) rfl) ?_
            refine Eq.trans (jb_nx (i := .sipush 316) (n := 3) (q := (57, [some (.ref p0), some (.ref p1), some (.int x9), none], [.int 316, .int x9])) (jq qX13_isCompare 28 rfl) rfl) ?_
            by_cases c14 : x9 = 316
            · rw [if_pos c14] at H
              refine Eq.trans (jb_nx (i := .if_icmp .ne 8) (n := 3) (q := (60, [some (.ref p0), some (.ref p1), some (.int x9), none], [])) (jq qX13_isCompare 29 rfl) (jo_icF (jz_neF c14))) ?_
              refine Eq.trans (jb_nx (i := .bipush 109) (n := 2) (q := (62, [some (.ref p0), some (.ref p1), some (.int x9), none], [.int 109])) (jq qX13_isCompare 30 rfl) rfl) ?_
              refine Eq.trans (jb_nx (i := .goto 16) (n := 3) (q := (78, [some (.ref p0), some (.ref p1), some (.int x9), none], [.int 109])) (jq qX13_isCompare 31 rfl) rfl) ?_
              exact H
            · rw [if_neg c14] at H
              refine Eq.trans (jb_nx (i := .if_icmp .ne 8) (n := 3) (q := (65, [some (.ref p0), some (.ref p1), some (.int x9), none], [])) (jq qX13_isCompare 29 rfl) (jo_icT (jz_neT c14) rfl)) ?_
              refine Eq.trans (jb_nx (i := .iload_n 2) (n := 1) (q := (66, [some (.ref p0), some (.ref p1), some (.int x9), none], [.int x9])) (jq qX13_isCompare 32 rfl) rfl) ?_
              refine Eq.trans (jb_nx (i := .sipush 318) (n := 3) (q := (69, [some (.ref p0), some (.ref p1), some (.int x9), none], [.int 318, .int x9])) (jq qX13_isCompare 33 rfl) rfl) ?_
              by_cases c15 : x9 = 318
              · rw [if_pos c15] at H
                refine Eq.trans (jb_nx (i := .if_icmp .ne 8) (n := 3) (q := (72, [some (.ref p0), some (.ref p1), some (.int x9), none], [])) (jq qX13_isCompare 34 rfl) (jo_icF (jz_neF c15))) ?_
                refine Eq.trans (jb_nx (i := .bipush 110) (n := 2) (q := (74, [some (.ref p0), some (.ref p1), some (.int x9), none], [.int 110])) (jq qX13_isCompare 35 rfl) rfl) ?_
                refine Eq.trans (jb_nx (i := .goto 4) (n := 3) (q := (78, [some (.ref p0), some (.ref p1), some (.int x9), none], [.int 110])) (jq qX13_isCompare 36 rfl) rfl) ?_
                exact H
              · rw [if_neg c15] at H
                refine Eq.trans (jb_nx (i := .if_icmp .ne 8) (n := 3) (q := (77, [some (.ref p0), some (.ref p1), some (.int x9), none], [])) (jq qX13_isCompare 34 rfl) (jo_icT (jz_neT c15) rfl)) ?_
                refine Eq.trans (jb_nx (i := .iconst (-1)) (n := 1) (q := (78, [some (.ref p0), some (.ref p1), some (.int x9), none], [.int (-1)])) (jq qX13_isCompare 37 rfl) rfl) ?_
                exact H
  · exact Eq.trans (jb_rt (i := .invokevirtual 390) (n := 3) (jq qX13_isCompare 2 rfl) (jo_cv (y := mX13_isSum) rfl (Nat.le_of_ble_eq_true rfl) rfl (Nat.le_of_ble_eq_true rfl) b16 rfl r2 (jo_exn rfl))) H
/-! MaskPlaysModel isSum (LMaskPlaysModel$Book;)Z -/
def tX13_isSum : List (Nat × Instr × Nat) := [(0, .aload_n 0, 1), (1, .aload_n 1, 1), (2, .invokevirtual 393, 3), (5, .ifCond .ne 5, 3), (8, .iconst 0, 1), (9, .ireturn, 1), (10, .aload_n 1, 1), (11, .getfield 323, 3), (14, .aload_n 0, 1), (15, .getfield 329, 3), (18, .iaload, 1), (19, .bipush 43, 2), (21, .if_icmp .eq 17, 3), (24, .aload_n 1, 1), (25, .getfield 323, 3), (28, .aload_n 0, 1), (29, .getfield 329, 3), (32, .iaload, 1), (33, .bipush 45, 2), (35, .if_icmp .ne 56, 3), (38, .aload_n 1, 1), (39, .getfield 323, 3), (42, .aload_n 0, 1), (43, .getfield 329, 3), (46, .iaload, 1), (47, .bipush 43, 2), (49, .if_icmp .ne 8, 3), (52, .bipush 101, 2), (54, .goto 5, 3), (57, .bipush 102, 2), (59, .istore_n 2, 1), (60, .aload_n 0, 1), (61, .dup, 1), (62, .getfield 329, 3), (65, .iconst 1, 1), (66, .iadd, 1), (67, .putfield 329, 3), (70, .aload_n 0, 1), (71, .aload_n 1, 1), (72, .invokevirtual 393, 3), (75, .ifCond .ne 5, 3), (78, .iconst 0, 1), (79, .ireturn, 1), (80, .aload_n 0, 1), (81, .aload_n 1, 1), (82, .iload_n 2, 1), (83, .iconst 0, 1), (84, .iconst (-1), 1), (85, .invokevirtual 378, 3), (88, .goto (-78), 3), (91, .iconst 1, 1), (92, .ireturn, 1)]
set_option maxRecDepth 100000 in
theorem qX13_isSum : ∀ q ∈ tX13_isSum, decode cX13_isSum q.1 = .ok (q.2.1, q.2.2) := by decide +kernel
noncomputable def kX13_isSum_10 (d : Nat) (p0 : Nat) (p1 : Nat) (o2 : Option Value) (h : jm_H) : Option jm_R := jm_B d mX13_isSum (10, [some (.ref p0), some (.ref p1), o2], []) h
noncomputable def kX13_isSum_59 (d : Nat) (p0 : Nat) (p1 : Nat) (o2 : Option Value) (si0 : Int32) (h : jm_H) : Option jm_R := jm_B d mX13_isSum (59, [some (.ref p0), some (.ref p1), o2], [.int si0]) h
theorem gX13_isSum_10 {d : Nat} {p0 : Nat} {p1 : Nat} {o2 : Option Value} {h : jm_H} {r : jm_R} (H : ((jr_R h p1 11 0 2).bind fun a8 => (jr_I h p0 12 5 0).bind fun x10 => (jm_ali h a8 0 x10).bind fun x12 => (if x12 = 43 then (jr_R h p1 11 0 2).bind fun a15 => (jr_I h p0 12 5 0).bind fun x17 => (jm_ali h a15 0 x17).bind fun x19 => (if x19 = 43 then kX13_isSum_59 d p0 p1 o2 101 h else kX13_isSum_59 d p0 p1 o2 102 h) else (jr_R h p1 11 0 2).bind fun a22 => (jr_I h p0 12 5 0).bind fun x24 => (jm_ali h a22 0 x24).bind fun x26 => (if x26 = 45 then (jr_R h p1 11 0 2).bind fun a29 => (jr_I h p0 12 5 0).bind fun x31 => (jm_ali h a29 0 x31).bind fun x33 => (if x33 = 43 then kX13_isSum_59 d p0 p1 o2 101 h else kX13_isSum_59 d p0 p1 o2 102 h) else some (.inl (some (.int 1)), h)))) = some r) : kX13_isSum_10 d p0 p1 o2 h = some r := by
  show jm_B d mX13_isSum (10, [some (.ref p0), some (.ref p1), o2], []) h = some r
  refine Eq.trans (jb_nx (i := .aload_n 1) (n := 1) (q := (11, [some (.ref p0), some (.ref p1), o2], [.ref p1])) (jq qX13_isSum 6 rfl) rfl) ?_
  obtain ⟨a8, e9, H⟩ := jbd H
  refine Eq.trans (jb_nx (i := .getfield 323) (n := 3) (q := (14, [some (.ref p0), some (.ref p1), o2], [.ref a8])) (jq qX13_isSum 7 rfl) (jo_gf rfl (jr_R_inv e9))) ?_
  refine Eq.trans (jb_nx (i := .aload_n 0) (n := 1) (q := (15, [some (.ref p0), some (.ref p1), o2], [.ref p0, .ref a8])) (jq qX13_isSum 8 rfl) rfl) ?_
  obtain ⟨x10, e11, H⟩ := jbd H
  refine Eq.trans (jb_nx (i := .getfield 329) (n := 3) (q := (18, [some (.ref p0), some (.ref p1), o2], [.int x10, .ref a8])) (jq qX13_isSum 9 rfl) (jo_gf rfl (jr_I_inv e11))) ?_
  obtain ⟨x12, e13, H⟩ := jbd H
  refine Eq.trans (jb_nx (i := .iaload) (n := 1) (q := (19, [some (.ref p0), some (.ref p1), o2], [.int x12])) (jq qX13_isSum 10 rfl) (jo_ial e13)) ?_
  refine Eq.trans (jb_nx (i := .bipush 43) (n := 2) (q := (21, [some (.ref p0), some (.ref p1), o2], [.int 43, .int x12])) (jq qX13_isSum 11 rfl) rfl) ?_
  by_cases c14 : x12 = 43
  · rw [if_pos c14] at H
    refine Eq.trans (jb_nx (i := .if_icmp .eq 17) (n := 3) (q := (38, [some (.ref p0), some (.ref p1), o2], [])) (jq qX13_isSum 12 rfl) (jo_icT (jz_eqT c14) rfl)) ?_
    refine Eq.trans (jb_nx (i := .aload_n 1) (n := 1) (q := (39, [some (.ref p0), some (.ref p1), o2], [.ref p1])) (jq qX13_isSum 20 rfl) rfl) ?_
    obtain ⟨a15, e16, H⟩ := jbd H
    refine Eq.trans (jb_nx (i := .getfield 323) (n := 3) (q := (42, [some (.ref p0), some (.ref p1), o2], [.ref a15])) (jq qX13_isSum 21 rfl) (jo_gf rfl (jr_R_inv e16))) ?_
    refine Eq.trans (jb_nx (i := .aload_n 0) (n := 1) (q := (43, [some (.ref p0), some (.ref p1), o2], [.ref p0, .ref a15])) (jq qX13_isSum 22 rfl) rfl) ?_
    obtain ⟨x17, e18, H⟩ := jbd H
    refine Eq.trans (jb_nx (i := .getfield 329) (n := 3) (q := (46, [some (.ref p0), some (.ref p1), o2], [.int x17, .ref a15])) (jq qX13_isSum 23 rfl) (jo_gf rfl (jr_I_inv e18))) ?_
    obtain ⟨x19, e20, H⟩ := jbd H
    refine Eq.trans (jb_nx (i := .iaload) (n := 1) (q := (47, [some (.ref p0), some (.ref p1), o2], [.int x19])) (jq qX13_isSum 24 rfl) (jo_ial e20)) ?_
    refine Eq.trans (jb_nx (i := .bipush 43) (n := 2) (q := (49, [some (.ref p0), some (.ref p1), o2], [.int 43, .int x19])) (jq qX13_isSum 25 rfl) rfl) ?_
    by_cases c21 : x19 = 43
    · rw [if_pos c21] at H
      refine Eq.trans (jb_nx (i := .if_icmp .ne 8) (n := 3) (q := (52, [some (.ref p0), some (.ref p1), o2], [])) (jq qX13_isSum 26 rfl) (jo_icF (jz_neF c21))) ?_
      refine Eq.trans (jb_nx (i := .bipush 101) (n := 2) (q := (54, [some (.ref p0), some (.ref p1), o2], [.int 101])) (jq qX13_isSum 27 rfl) rfl) ?_
      refine Eq.trans (jb_nx (i := .goto 5) (n := 3) (q := (59, [some (.ref p0), some (.ref p1), o2], [.int 101])) (jq qX13_isSum 28 rfl) rfl) ?_
      exact H
    · rw [if_neg c21] at H
      refine Eq.trans (jb_nx (i := .if_icmp .ne 8) (n := 3) (q := (57, [some (.ref p0), some (.ref p1), o2], [])) (jq qX13_isSum 26 rfl) (jo_icT (jz_neT c21) rfl)) ?_
      refine Eq.trans (jb_nx (i := .bipush 102) (n := 2) (q := (59, [some (.ref p0), some (.ref p1), o2], [.int 102])) (jq qX13_isSum 29 rfl) rfl) ?_
      exact H
  · rw [if_neg c14] at H
    refine Eq.trans (jb_nx (i := .if_icmp .eq 17) (n := 3) (q := (24, [some (.ref p0), some (.ref p1), o2], [])) (jq qX13_isSum 12 rfl) (jo_icF (jz_eqF c14))) ?_
    refine Eq.trans (jb_nx (i := .aload_n 1) (n := 1) (q := (25, [some (.ref p0), some (.ref p1), o2], [.ref p1])) (jq qX13_isSum 13 rfl) rfl) ?_
    obtain ⟨a22, e23, H⟩ := jbd H
    refine Eq.trans (jb_nx (i := .getfield 323) (n := 3) (q := (28, [some (.ref p0), some (.ref p1), o2], [.ref a22])) (jq qX13_isSum 14 rfl) (jo_gf rfl (jr_R_inv e23))) ?_
    refine Eq.trans (jb_nx (i := .aload_n 0) (n := 1) (q := (29, [some (.ref p0), some (.ref p1), o2], [.ref p0, .ref a22])) (jq qX13_isSum 15 rfl) rfl) ?_
    obtain ⟨x24, e25, H⟩ := jbd H
    refine Eq.trans (jb_nx (i := .getfield 329) (n := 3) (q := (32, [some (.ref p0), some (.ref p1), o2], [.int x24, .ref a22])) (jq qX13_isSum 16 rfl) (jo_gf rfl (jr_I_inv e25))) ?_
    obtain ⟨x26, e27, H⟩ := jbd H
    refine Eq.trans (jb_nx (i := .iaload) (n := 1) (q := (33, [some (.ref p0), some (.ref p1), o2], [.int x26])) (jq qX13_isSum 17 rfl) (jo_ial e27)) ?_
    refine Eq.trans (jb_nx (i := .bipush 45) (n := 2) (q := (35, [some (.ref p0), some (.ref p1), o2], [.int 45, .int x26])) (jq qX13_isSum 18 rfl) rfl) ?_
    by_cases c28 : x26 = 45
    · rw [if_pos c28] at H
      refine Eq.trans (jb_nx (i := .if_icmp .ne 56) (n := 3) (q := (38, [some (.ref p0), some (.ref p1), o2], [])) (jq qX13_isSum 19 rfl) (jo_icF (jz_neF c28))) ?_
      refine Eq.trans (jb_nx (i := .aload_n 1) (n := 1) (q := (39, [some (.ref p0), some (.ref p1), o2], [.ref p1])) (jq qX13_isSum 20 rfl) rfl) ?_
      obtain ⟨a29, e30, H⟩ := jbd H
      refine Eq.trans (jb_nx (i := .getfield 323) (n := 3) (q := (42, [some (.ref p0), some (.ref p1), o2], [.ref a29])) (jq qX13_isSum 21 rfl) (jo_gf rfl (jr_R_inv e30))) ?_
      refine Eq.trans (jb_nx (i := .aload_n 0) (n := 1) (q := (43, [some (.ref p0), some (.ref p1), o2], [.ref p0, .ref a29])) (jq qX13_isSum 22 rfl) rfl) ?_
      obtain ⟨x31, e32, H⟩ := jbd H
      refine Eq.trans (jb_nx (i := .getfield 329) (n := 3) (q := (46, [some (.ref p0), some (.ref p1), o2], [.int x31, .ref a29])) (jq qX13_isSum 23 rfl) (jo_gf rfl (jr_I_inv e32))) ?_
      obtain ⟨x33, e34, H⟩ := jbd H
      refine Eq.trans (jb_nx (i := .iaload) (n := 1) (q := (47, [some (.ref p0), some (.ref p1), o2], [.int x33])) (jq qX13_isSum 24 rfl) (jo_ial e34)) ?_
      refine Eq.trans (jb_nx (i := .bipush 43) (n := 2) (q := (49, [some (.ref p0), some (.ref p1), o2], [.int 43, .int x33])) (jq qX13_isSum 25 rfl) rfl) ?_
      by_cases c35 : x33 = 43
      · rw [if_pos c35] at H
        refine Eq.trans (jb_nx (i := .if_icmp .ne 8) (n := 3) (q := (52, [some (.ref p0), some (.ref p1), o2], [])) (jq qX13_isSum 26 rfl) (jo_icF (jz_neF c35))) ?_
        refine Eq.trans (jb_nx (i := .bipush 101) (n := 2) (q := (54, [some (.ref p0), some (.ref p1), o2], [.int 101])) (jq qX13_isSum 27 rfl) rfl) ?_
        refine Eq.trans (jb_nx (i := .goto 5) (n := 3) (q := (59, [some (.ref p0), some (.ref p1), o2], [.int 101])) (jq qX13_isSum 28 rfl) rfl) ?_
        exact H
      · rw [if_neg c35] at H
        refine Eq.trans (jb_nx (i := .if_icmp .ne 8) (n := 3) (q := (57, [some (.ref p0), some (.ref p1), o2], [])) (jq qX13_isSum 26 rfl) (jo_icT (jz_neT c35) rfl)) ?_
        refine Eq.trans (jb_nx (i := .bipush 102) (n := 2) (q := (59, [some (.ref p0), some (.ref p1), o2], [.int 102])) (jq qX13_isSum 29 rfl) rfl) ?_
        exact H
    · rw [if_neg c28] at H
      refine Eq.trans (jb_nx (i := .if_icmp .ne 56) (n := 3) (q := (91, [some (.ref p0), some (.ref p1), o2], [])) (jq qX13_isSum 19 rfl) (jo_icT (jz_neT c28) rfl)) ?_
      refine Eq.trans (jb_nx (i := .iconst 1) (n := 1) (q := (92, [some (.ref p0), some (.ref p1), o2], [.int 1])) (jq qX13_isSum 50 rfl) rfl) ?_
      exact Eq.trans (jb_rt (i := .ireturn) (n := 1) (jq qX13_isSum 51 rfl) (jo_iret rfl (by decide))) H
theorem gX13_isSum_59 {d : Nat} {p0 : Nat} {p1 : Nat} {o2 : Option Value} {si0 : Int32} {h : jm_H} {r : jm_R} (H : ((jr_I h p0 12 5 0).bind fun x36 => (jm_pf h p0 12 5 0 (.int (x36 + 1))).bind fun h38 => jm_O h38 p0 13 (jc_I (jm_D d mX13_isProduct [.ref p0, .ref p1] h38) (fun x42 h40 => (if x42 = 0 then some (.inl (some (.int 0)), h40) else jm_O h40 p0 13 (jc_V (jm_D d mX13_order [.ref p0, .ref p1, .int si0, .int 0, .int (-1)] h40) (fun h44 => kX13_isSum_10 d p0 p1 (some (.int si0)) h44) jx))) jx)) = some r) : kX13_isSum_59 d p0 p1 o2 si0 h = some r := by
  show jm_B d mX13_isSum (59, [some (.ref p0), some (.ref p1), o2], [.int si0]) h = some r
  refine Eq.trans (jb_nx (i := .istore_n 2) (n := 1) (q := (60, [some (.ref p0), some (.ref p1), some (.int si0)], [])) (jq qX13_isSum 30 rfl) rfl) ?_
  refine Eq.trans (jb_nx (i := .aload_n 0) (n := 1) (q := (61, [some (.ref p0), some (.ref p1), some (.int si0)], [.ref p0])) (jq qX13_isSum 31 rfl) rfl) ?_
  refine Eq.trans (jb_nx (i := .dup) (n := 1) (q := (62, [some (.ref p0), some (.ref p1), some (.int si0)], [.ref p0, .ref p0])) (jq qX13_isSum 32 rfl) rfl) ?_
  obtain ⟨x36, e37, H⟩ := jbd H
  refine Eq.trans (jb_nx (i := .getfield 329) (n := 3) (q := (65, [some (.ref p0), some (.ref p1), some (.int si0)], [.int x36, .ref p0])) (jq qX13_isSum 33 rfl) (jo_gf rfl (jr_I_inv e37))) ?_
  refine Eq.trans (jb_nx (i := .iconst 1) (n := 1) (q := (66, [some (.ref p0), some (.ref p1), some (.int si0)], [.int 1, .int x36, .ref p0])) (jq qX13_isSum 34 rfl) rfl) ?_
  refine Eq.trans (jb_nx (i := .iadd) (n := 1) (q := (67, [some (.ref p0), some (.ref p1), some (.int si0)], [.int (x36 + 1), .ref p0])) (jq qX13_isSum 35 rfl) rfl) ?_
  obtain ⟨h38, e39, H⟩ := jbd H
  refine Eq.trans (jb_nx (i := .putfield 329) (n := 3) (q := (70, [some (.ref p0), some (.ref p1), some (.int si0)], [])) (jq qX13_isSum 36 rfl) (jo_pf rfl (Or.inl rfl) e39)) ?_
  refine Eq.trans (jb_nx (i := .aload_n 0) (n := 1) (q := (71, [some (.ref p0), some (.ref p1), some (.int si0)], [.ref p0])) (jq qX13_isSum 37 rfl) rfl) ?_
  refine Eq.trans (jb_nx (i := .aload_n 1) (n := 1) (q := (72, [some (.ref p0), some (.ref p1), some (.int si0)], [.ref p1, .ref p0])) (jq qX13_isSum 38 rfl) rfl) ?_
  obtain ⟨b49, H⟩ := jm_O_inv H
  rcases jcI H with ⟨x42, h40, r41, H⟩ | ⟨w50, h51, r41, H⟩
  · refine Eq.trans (jb_nx (i := .invokevirtual 393) (n := 3) (q := (75, [some (.ref p0), some (.ref p1), some (.int si0)], [.int x42])) (jq qX13_isSum 39 rfl) (jo_cv (y := mX13_isProduct) rfl (Nat.le_of_ble_eq_true rfl) rfl (Nat.le_of_ble_eq_true rfl) b49 rfl r41 jo_ret)) ?_
    by_cases c43 : x42 = 0
    · rw [if_pos c43] at H
      refine Eq.trans (jb_nx (i := .ifCond .ne 5) (n := 3) (q := (78, [some (.ref p0), some (.ref p1), some (.int si0)], [])) (jq qX13_isSum 40 rfl) (jo_ifF (jz_neF c43))) ?_
      refine Eq.trans (jb_nx (i := .iconst 0) (n := 1) (q := (79, [some (.ref p0), some (.ref p1), some (.int si0)], [.int 0])) (jq qX13_isSum 41 rfl) rfl) ?_
      exact Eq.trans (jb_rt (i := .ireturn) (n := 1) (jq qX13_isSum 42 rfl) (jo_iret rfl (by decide))) H
    · rw [if_neg c43] at H
      refine Eq.trans (jb_nx (i := .ifCond .ne 5) (n := 3) (q := (80, [some (.ref p0), some (.ref p1), some (.int si0)], [])) (jq qX13_isSum 40 rfl) (jo_ifT (jz_neT c43) rfl)) ?_
      refine Eq.trans (jb_nx (i := .aload_n 0) (n := 1) (q := (81, [some (.ref p0), some (.ref p1), some (.int si0)], [.ref p0])) (jq qX13_isSum 43 rfl) rfl) ?_
      refine Eq.trans (jb_nx (i := .aload_n 1) (n := 1) (q := (82, [some (.ref p0), some (.ref p1), some (.int si0)], [.ref p1, .ref p0])) (jq qX13_isSum 44 rfl) rfl) ?_
      refine Eq.trans (jb_nx (i := .iload_n 2) (n := 1) (q := (83, [some (.ref p0), some (.ref p1), some (.int si0)], [.int si0, .ref p1, .ref p0])) (jq qX13_isSum 45 rfl) rfl) ?_
      refine Eq.trans (jb_nx (i := .iconst 0) (n := 1) (q := (84, [some (.ref p0), some (.ref p1), some (.int si0)], [.int 0, .int si0, .ref p1, .ref p0])) (jq qX13_isSum 46 rfl) rfl) ?_
      refine Eq.trans (jb_nx (i := .iconst (-1)) (n := 1) (q := (85, [some (.ref p0), some (.ref p1), some (.int si0)], [.int (-1), .int 0, .int si0, .ref p1, .ref p0])) (jq qX13_isSum 47 rfl) rfl) ?_
      obtain ⟨b46, H⟩ := jm_O_inv H
      rcases jcV H with ⟨h44, r45, H⟩ | ⟨w47, h48, r45, H⟩
      · refine Eq.trans (jb_nx (i := .invokevirtual 378) (n := 3) (q := (88, [some (.ref p0), some (.ref p1), some (.int si0)], [])) (jq qX13_isSum 48 rfl) (jo_cv (y := mX13_order) rfl (Nat.le_of_ble_eq_true rfl) rfl (Nat.le_of_ble_eq_true rfl) b46 rfl r45 jo_ret)) ?_
        refine Eq.trans (jb_nx (i := .goto (-78)) (n := 3) (q := (10, [some (.ref p0), some (.ref p1), some (.int si0)], [])) (jq qX13_isSum 49 rfl) rfl) ?_
        exact H
      · exact Eq.trans (jb_rt (i := .invokevirtual 378) (n := 3) (jq qX13_isSum 48 rfl) (jo_cv (y := mX13_order) rfl (Nat.le_of_ble_eq_true rfl) rfl (Nat.le_of_ble_eq_true rfl) b46 rfl r45 (jo_exn rfl))) H
  · exact Eq.trans (jb_rt (i := .invokevirtual 393) (n := 3) (jq qX13_isSum 39 rfl) (jo_cv (y := mX13_isProduct) rfl (Nat.le_of_ble_eq_true rfl) rfl (Nat.le_of_ble_eq_true rfl) b49 rfl r41 (jo_exn rfl))) H
theorem gX13_isSum {d : Nat} {p0 : Nat} {p1 : Nat} {h : jm_H} {r : jm_R} (H : (jm_O h p0 13 (jc_I (jm_D d mX13_isProduct [.ref p0, .ref p1] h) (fun x3 h1 => (if x3 = 0 then some (.inl (some (.int 0)), h1) else kX13_isSum_10 d p0 p1 none h1)) jx)) = some r) : jm_D (d + 1) mX13_isSum [.ref p0, .ref p1] h = some r := by
  rw [jm_D_body (Nat.le_of_ble_eq_true rfl)]
  show jm_B d mX13_isSum (0, [some (.ref p0), some (.ref p1), none], []) h = some r
  refine Eq.trans (jb_nx (i := .aload_n 0) (n := 1) (q := (1, [some (.ref p0), some (.ref p1), none], [.ref p0])) (jq qX13_isSum 0 rfl) rfl) ?_
  refine Eq.trans (jb_nx (i := .aload_n 1) (n := 1) (q := (2, [some (.ref p0), some (.ref p1), none], [.ref p1, .ref p0])) (jq qX13_isSum 1 rfl) rfl) ?_
  obtain ⟨b5, H⟩ := jm_O_inv H
  rcases jcI H with ⟨x3, h1, r2, H⟩ | ⟨w6, h7, r2, H⟩
  · refine Eq.trans (jb_nx (i := .invokevirtual 393) (n := 3) (q := (5, [some (.ref p0), some (.ref p1), none], [.int x3])) (jq qX13_isSum 2 rfl) (jo_cv (y := mX13_isProduct) rfl (Nat.le_of_ble_eq_true rfl) rfl (Nat.le_of_ble_eq_true rfl) b5 rfl r2 jo_ret)) ?_
    by_cases c4 : x3 = 0
    · rw [if_pos c4] at H
      refine Eq.trans (jb_nx (i := .ifCond .ne 5) (n := 3) (q := (8, [some (.ref p0), some (.ref p1), none], [])) (jq qX13_isSum 3 rfl) (jo_ifF (jz_neF c4))) ?_
      refine Eq.trans (jb_nx (i := .iconst 0) (n := 1) (q := (9, [some (.ref p0), some (.ref p1), none], [.int 0])) (jq qX13_isSum 4 rfl) rfl) ?_
      exact Eq.trans (jb_rt (i := .ireturn) (n := 1) (jq qX13_isSum 5 rfl) (jo_iret rfl (by decide))) H
    · rw [if_neg c4] at H
      refine Eq.trans (jb_nx (i := .ifCond .ne 5) (n := 3) (q := (10, [some (.ref p0), some (.ref p1), none], [])) (jq qX13_isSum 3 rfl) (jo_ifT (jz_neT c4) rfl)) ?_
      exact H
  · exact Eq.trans (jb_rt (i := .invokevirtual 393) (n := 3) (jq qX13_isSum 2 rfl) (jo_cv (y := mX13_isProduct) rfl (Nat.le_of_ble_eq_true rfl) rfl (Nat.le_of_ble_eq_true rfl) b5 rfl r2 (jo_exn rfl))) H
/-! MaskPlaysModel isProduct (LMaskPlaysModel$Book;)Z -/
def tX13_isProduct : List (Nat × Instr × Nat) := [(0, .aload_n 0, 1), (1, .aload_n 1, 1), (2, .invokevirtual 396, 3), (5, .ifCond .ne 5, 3), (8, .iconst 0, 1), (9, .ireturn, 1), (10, .aload_n 1, 1), (11, .getfield 323, 3), (14, .aload_n 0, 1), (15, .getfield 329, 3), (18, .iaload, 1), (19, .bipush 42, 2), (21, .if_icmp .eq 17, 3), (24, .aload_n 1, 1), (25, .getfield 323, 3), (28, .aload_n 0, 1), (29, .getfield 329, 3), (32, .iaload, 1), (33, .bipush 47, 2), (35, .if_icmp .ne 56, 3), (38, .aload_n 1, 1), (39, .getfield 323, 3), (42, .aload_n 0, 1), (43, .getfield 329, 3), (46, .iaload, 1), (47, .bipush 42, 2), (49, .if_icmp .ne 8, 3), (52, .bipush 103, 2), (54, .goto 5, 3), (57, .bipush 104, 2), (59, .istore_n 2, 1), (60, .aload_n 0, 1), (61, .dup, 1), (62, .getfield 329, 3), (65, .iconst 1, 1), (66, .iadd, 1), (67, .putfield 329, 3), (70, .aload_n 0, 1), (71, .aload_n 1, 1), (72, .invokevirtual 396, 3), (75, .ifCond .ne 5, 3), (78, .iconst 0, 1), (79, .ireturn, 1), (80, .aload_n 0, 1), (81, .aload_n 1, 1), (82, .iload_n 2, 1), (83, .iconst 0, 1), (84, .iconst (-1), 1), (85, .invokevirtual 378, 3), (88, .goto (-78), 3), (91, .iconst 1, 1), (92, .ireturn, 1)]
set_option maxRecDepth 100000 in
theorem qX13_isProduct : ∀ q ∈ tX13_isProduct, decode cX13_isProduct q.1 = .ok (q.2.1, q.2.2) := by decide +kernel
noncomputable def kX13_isProduct_10 (d : Nat) (p0 : Nat) (p1 : Nat) (o2 : Option Value) (h : jm_H) : Option jm_R := jm_B d mX13_isProduct (10, [some (.ref p0), some (.ref p1), o2], []) h
noncomputable def kX13_isProduct_59 (d : Nat) (p0 : Nat) (p1 : Nat) (o2 : Option Value) (si0 : Int32) (h : jm_H) : Option jm_R := jm_B d mX13_isProduct (59, [some (.ref p0), some (.ref p1), o2], [.int si0]) h
theorem gX13_isProduct_10 {d : Nat} {p0 : Nat} {p1 : Nat} {o2 : Option Value} {h : jm_H} {r : jm_R} (H : ((jr_R h p1 11 0 2).bind fun a8 => (jr_I h p0 12 5 0).bind fun x10 => (jm_ali h a8 0 x10).bind fun x12 => (if x12 = 42 then (jr_R h p1 11 0 2).bind fun a15 => (jr_I h p0 12 5 0).bind fun x17 => (jm_ali h a15 0 x17).bind fun x19 => (if x19 = 42 then kX13_isProduct_59 d p0 p1 o2 103 h else kX13_isProduct_59 d p0 p1 o2 104 h) else (jr_R h p1 11 0 2).bind fun a22 => (jr_I h p0 12 5 0).bind fun x24 => (jm_ali h a22 0 x24).bind fun x26 => (if x26 = 47 then (jr_R h p1 11 0 2).bind fun a29 => (jr_I h p0 12 5 0).bind fun x31 => (jm_ali h a29 0 x31).bind fun x33 => (if x33 = 42 then kX13_isProduct_59 d p0 p1 o2 103 h else kX13_isProduct_59 d p0 p1 o2 104 h) else some (.inl (some (.int 1)), h)))) = some r) : kX13_isProduct_10 d p0 p1 o2 h = some r := by
  show jm_B d mX13_isProduct (10, [some (.ref p0), some (.ref p1), o2], []) h = some r
  refine Eq.trans (jb_nx (i := .aload_n 1) (n := 1) (q := (11, [some (.ref p0), some (.ref p1), o2], [.ref p1])) (jq qX13_isProduct 6 rfl) rfl) ?_
  obtain ⟨a8, e9, H⟩ := jbd H
  refine Eq.trans (jb_nx (i := .getfield 323) (n := 3) (q := (14, [some (.ref p0), some (.ref p1), o2], [.ref a8])) (jq qX13_isProduct 7 rfl) (jo_gf rfl (jr_R_inv e9))) ?_
  refine Eq.trans (jb_nx (i := .aload_n 0) (n := 1) (q := (15, [some (.ref p0), some (.ref p1), o2], [.ref p0, .ref a8])) (jq qX13_isProduct 8 rfl) rfl) ?_
  obtain ⟨x10, e11, H⟩ := jbd H
  refine Eq.trans (jb_nx (i := .getfield 329) (n := 3) (q := (18, [some (.ref p0), some (.ref p1), o2], [.int x10, .ref a8])) (jq qX13_isProduct 9 rfl) (jo_gf rfl (jr_I_inv e11))) ?_
  obtain ⟨x12, e13, H⟩ := jbd H
  refine Eq.trans (jb_nx (i := .iaload) (n := 1) (q := (19, [some (.ref p0), some (.ref p1), o2], [.int x12])) (jq qX13_isProduct 10 rfl) (jo_ial e13)) ?_
  refine Eq.trans (jb_nx (i := .bipush 42) (n := 2) (q := (21, [some (.ref p0), some (.ref p1), o2], [.int 42, .int x12])) (jq qX13_isProduct 11 rfl) rfl) ?_
  by_cases c14 : x12 = 42
  · rw [if_pos c14] at H
    refine Eq.trans (jb_nx (i := .if_icmp .eq 17) (n := 3) (q := (38, [some (.ref p0), some (.ref p1), o2], [])) (jq qX13_isProduct 12 rfl) (jo_icT (jz_eqT c14) rfl)) ?_
    refine Eq.trans (jb_nx (i := .aload_n 1) (n := 1) (q := (39, [some (.ref p0), some (.ref p1), o2], [.ref p1])) (jq qX13_isProduct 20 rfl) rfl) ?_
    obtain ⟨a15, e16, H⟩ := jbd H
    refine Eq.trans (jb_nx (i := .getfield 323) (n := 3) (q := (42, [some (.ref p0), some (.ref p1), o2], [.ref a15])) (jq qX13_isProduct 21 rfl) (jo_gf rfl (jr_R_inv e16))) ?_
    refine Eq.trans (jb_nx (i := .aload_n 0) (n := 1) (q := (43, [some (.ref p0), some (.ref p1), o2], [.ref p0, .ref a15])) (jq qX13_isProduct 22 rfl) rfl) ?_
    obtain ⟨x17, e18, H⟩ := jbd H
    refine Eq.trans (jb_nx (i := .getfield 329) (n := 3) (q := (46, [some (.ref p0), some (.ref p1), o2], [.int x17, .ref a15])) (jq qX13_isProduct 23 rfl) (jo_gf rfl (jr_I_inv e18))) ?_
    obtain ⟨x19, e20, H⟩ := jbd H
    refine Eq.trans (jb_nx (i := .iaload) (n := 1) (q := (47, [some (.ref p0), some (.ref p1), o2], [.int x19])) (jq qX13_isProduct 24 rfl) (jo_ial e20)) ?_
    refine Eq.trans (jb_nx (i := .bipush 42) (n := 2) (q := (49, [some (.ref p0), some (.ref p1), o2], [.int 42, .int x19])) (jq qX13_isProduct 25 rfl) rfl) ?_
    by_cases c21 : x19 = 42
    · rw [if_pos c21] at H
      refine Eq.trans (jb_nx (i := .if_icmp .ne 8) (n := 3) (q := (52, [some (.ref p0), some (.ref p1), o2], [])) (jq qX13_isProduct 26 rfl) (jo_icF (jz_neF c21))) ?_
      refine Eq.trans (jb_nx (i := .bipush 103) (n := 2) (q := (54, [some (.ref p0), some (.ref p1), o2], [.int 103])) (jq qX13_isProduct 27 rfl) rfl) ?_
      refine Eq.trans (jb_nx (i := .goto 5) (n := 3) (q := (59, [some (.ref p0), some (.ref p1), o2], [.int 103])) (jq qX13_isProduct 28 rfl) rfl) ?_
      exact H
    · rw [if_neg c21] at H
      refine Eq.trans (jb_nx (i := .if_icmp .ne 8) (n := 3) (q := (57, [some (.ref p0), some (.ref p1), o2], [])) (jq qX13_isProduct 26 rfl) (jo_icT (jz_neT c21) rfl)) ?_
      refine Eq.trans (jb_nx (i := .bipush 104) (n := 2) (q := (59, [some (.ref p0), some (.ref p1), o2], [.int 104])) (jq qX13_isProduct 29 rfl) rfl) ?_
      exact H
  · rw [if_neg c14] at H
    refine Eq.trans (jb_nx (i := .if_icmp .eq 17) (n := 3) (q := (24, [some (.ref p0), some (.ref p1), o2], [])) (jq qX13_isProduct 12 rfl) (jo_icF (jz_eqF c14))) ?_
    refine Eq.trans (jb_nx (i := .aload_n 1) (n := 1) (q := (25, [some (.ref p0), some (.ref p1), o2], [.ref p1])) (jq qX13_isProduct 13 rfl) rfl) ?_
    obtain ⟨a22, e23, H⟩ := jbd H
    refine Eq.trans (jb_nx (i := .getfield 323) (n := 3) (q := (28, [some (.ref p0), some (.ref p1), o2], [.ref a22])) (jq qX13_isProduct 14 rfl) (jo_gf rfl (jr_R_inv e23))) ?_
    refine Eq.trans (jb_nx (i := .aload_n 0) (n := 1) (q := (29, [some (.ref p0), some (.ref p1), o2], [.ref p0, .ref a22])) (jq qX13_isProduct 15 rfl) rfl) ?_
    obtain ⟨x24, e25, H⟩ := jbd H
    refine Eq.trans (jb_nx (i := .getfield 329) (n := 3) (q := (32, [some (.ref p0), some (.ref p1), o2], [.int x24, .ref a22])) (jq qX13_isProduct 16 rfl) (jo_gf rfl (jr_I_inv e25))) ?_
    obtain ⟨x26, e27, H⟩ := jbd H
    refine Eq.trans (jb_nx (i := .iaload) (n := 1) (q := (33, [some (.ref p0), some (.ref p1), o2], [.int x26])) (jq qX13_isProduct 17 rfl) (jo_ial e27)) ?_
    refine Eq.trans (jb_nx (i := .bipush 47) (n := 2) (q := (35, [some (.ref p0), some (.ref p1), o2], [.int 47, .int x26])) (jq qX13_isProduct 18 rfl) rfl) ?_
    by_cases c28 : x26 = 47
    · rw [if_pos c28] at H
      refine Eq.trans (jb_nx (i := .if_icmp .ne 56) (n := 3) (q := (38, [some (.ref p0), some (.ref p1), o2], [])) (jq qX13_isProduct 19 rfl) (jo_icF (jz_neF c28))) ?_
      refine Eq.trans (jb_nx (i := .aload_n 1) (n := 1) (q := (39, [some (.ref p0), some (.ref p1), o2], [.ref p1])) (jq qX13_isProduct 20 rfl) rfl) ?_
      obtain ⟨a29, e30, H⟩ := jbd H
      refine Eq.trans (jb_nx (i := .getfield 323) (n := 3) (q := (42, [some (.ref p0), some (.ref p1), o2], [.ref a29])) (jq qX13_isProduct 21 rfl) (jo_gf rfl (jr_R_inv e30))) ?_
      refine Eq.trans (jb_nx (i := .aload_n 0) (n := 1) (q := (43, [some (.ref p0), some (.ref p1), o2], [.ref p0, .ref a29])) (jq qX13_isProduct 22 rfl) rfl) ?_
      obtain ⟨x31, e32, H⟩ := jbd H
      refine Eq.trans (jb_nx (i := .getfield 329) (n := 3) (q := (46, [some (.ref p0), some (.ref p1), o2], [.int x31, .ref a29])) (jq qX13_isProduct 23 rfl) (jo_gf rfl (jr_I_inv e32))) ?_
      obtain ⟨x33, e34, H⟩ := jbd H
      refine Eq.trans (jb_nx (i := .iaload) (n := 1) (q := (47, [some (.ref p0), some (.ref p1), o2], [.int x33])) (jq qX13_isProduct 24 rfl) (jo_ial e34)) ?_
      refine Eq.trans (jb_nx (i := .bipush 42) (n := 2) (q := (49, [some (.ref p0), some (.ref p1), o2], [.int 42, .int x33])) (jq qX13_isProduct 25 rfl) rfl) ?_
      by_cases c35 : x33 = 42
      · rw [if_pos c35] at H
        refine Eq.trans (jb_nx (i := .if_icmp .ne 8) (n := 3) (q := (52, [some (.ref p0), some (.ref p1), o2], [])) (jq qX13_isProduct 26 rfl) (jo_icF (jz_neF c35))) ?_
        refine Eq.trans (jb_nx (i := .bipush 103) (n := 2) (q := (54, [some (.ref p0), some (.ref p1), o2], [.int 103])) (jq qX13_isProduct 27 rfl) rfl) ?_
        refine Eq.trans (jb_nx (i := .goto 5) (n := 3) (q := (59, [some (.ref p0), some (.ref p1), o2], [.int 103])) (jq qX13_isProduct 28 rfl) rfl) ?_
        exact H
      · rw [if_neg c35] at H
        refine Eq.trans (jb_nx (i := .if_icmp .ne 8) (n := 3) (q := (57, [some (.ref p0), some (.ref p1), o2], [])) (jq qX13_isProduct 26 rfl) (jo_icT (jz_neT c35) rfl)) ?_
        refine Eq.trans (jb_nx (i := .bipush 104) (n := 2) (q := (59, [some (.ref p0), some (.ref p1), o2], [.int 104])) (jq qX13_isProduct 29 rfl) rfl) ?_
        exact H
    · rw [if_neg c28] at H
      refine Eq.trans (jb_nx (i := .if_icmp .ne 56) (n := 3) (q := (91, [some (.ref p0), some (.ref p1), o2], [])) (jq qX13_isProduct 19 rfl) (jo_icT (jz_neT c28) rfl)) ?_
      refine Eq.trans (jb_nx (i := .iconst 1) (n := 1) (q := (92, [some (.ref p0), some (.ref p1), o2], [.int 1])) (jq qX13_isProduct 50 rfl) rfl) ?_
      exact Eq.trans (jb_rt (i := .ireturn) (n := 1) (jq qX13_isProduct 51 rfl) (jo_iret rfl (by decide))) H
theorem gX13_isProduct_59 {d : Nat} {p0 : Nat} {p1 : Nat} {o2 : Option Value} {si0 : Int32} {h : jm_H} {r : jm_R} (H : ((jr_I h p0 12 5 0).bind fun x36 => (jm_pf h p0 12 5 0 (.int (x36 + 1))).bind fun h38 => jm_O h38 p0 13 (jc_I (jm_D d mX13_isValue [.ref p0, .ref p1] h38) (fun x42 h40 => (if x42 = 0 then some (.inl (some (.int 0)), h40) else jm_O h40 p0 13 (jc_V (jm_D d mX13_order [.ref p0, .ref p1, .int si0, .int 0, .int (-1)] h40) (fun h44 => kX13_isProduct_10 d p0 p1 (some (.int si0)) h44) jx))) jx)) = some r) : kX13_isProduct_59 d p0 p1 o2 si0 h = some r := by
  show jm_B d mX13_isProduct (59, [some (.ref p0), some (.ref p1), o2], [.int si0]) h = some r
  refine Eq.trans (jb_nx (i := .istore_n 2) (n := 1) (q := (60, [some (.ref p0), some (.ref p1), some (.int si0)], [])) (jq qX13_isProduct 30 rfl) rfl) ?_
  refine Eq.trans (jb_nx (i := .aload_n 0) (n := 1) (q := (61, [some (.ref p0), some (.ref p1), some (.int si0)], [.ref p0])) (jq qX13_isProduct 31 rfl) rfl) ?_
  refine Eq.trans (jb_nx (i := .dup) (n := 1) (q := (62, [some (.ref p0), some (.ref p1), some (.int si0)], [.ref p0, .ref p0])) (jq qX13_isProduct 32 rfl) rfl) ?_
  obtain ⟨x36, e37, H⟩ := jbd H
  refine Eq.trans (jb_nx (i := .getfield 329) (n := 3) (q := (65, [some (.ref p0), some (.ref p1), some (.int si0)], [.int x36, .ref p0])) (jq qX13_isProduct 33 rfl) (jo_gf rfl (jr_I_inv e37))) ?_
  refine Eq.trans (jb_nx (i := .iconst 1) (n := 1) (q := (66, [some (.ref p0), some (.ref p1), some (.int si0)], [.int 1, .int x36, .ref p0])) (jq qX13_isProduct 34 rfl) rfl) ?_
  refine Eq.trans (jb_nx (i := .iadd) (n := 1) (q := (67, [some (.ref p0), some (.ref p1), some (.int si0)], [.int (x36 + 1), .ref p0])) (jq qX13_isProduct 35 rfl) rfl) ?_
  obtain ⟨h38, e39, H⟩ := jbd H
  refine Eq.trans (jb_nx (i := .putfield 329) (n := 3) (q := (70, [some (.ref p0), some (.ref p1), some (.int si0)], [])) (jq qX13_isProduct 36 rfl) (jo_pf rfl (Or.inl rfl) e39)) ?_
  refine Eq.trans (jb_nx (i := .aload_n 0) (n := 1) (q := (71, [some (.ref p0), some (.ref p1), some (.int si0)], [.ref p0])) (jq qX13_isProduct 37 rfl) rfl) ?_
  refine Eq.trans (jb_nx (i := .aload_n 1) (n := 1) (q := (72, [some (.ref p0), some (.ref p1), some (.int si0)], [.ref p1, .ref p0])) (jq qX13_isProduct 38 rfl) rfl) ?_
  obtain ⟨b49, H⟩ := jm_O_inv H
  rcases jcI H with ⟨x42, h40, r41, H⟩ | ⟨w50, h51, r41, H⟩
  · refine Eq.trans (jb_nx (i := .invokevirtual 396) (n := 3) (q := (75, [some (.ref p0), some (.ref p1), some (.int si0)], [.int x42])) (jq qX13_isProduct 39 rfl) (jo_cv (y := mX13_isValue) rfl (Nat.le_of_ble_eq_true rfl) rfl (Nat.le_of_ble_eq_true rfl) b49 rfl r41 jo_ret)) ?_
    by_cases c43 : x42 = 0
    · rw [if_pos c43] at H
      refine Eq.trans (jb_nx (i := .ifCond .ne 5) (n := 3) (q := (78, [some (.ref p0), some (.ref p1), some (.int si0)], [])) (jq qX13_isProduct 40 rfl) (jo_ifF (jz_neF c43))) ?_
      refine Eq.trans (jb_nx (i := .iconst 0) (n := 1) (q := (79, [some (.ref p0), some (.ref p1), some (.int si0)], [.int 0])) (jq qX13_isProduct 41 rfl) rfl) ?_
      exact Eq.trans (jb_rt (i := .ireturn) (n := 1) (jq qX13_isProduct 42 rfl) (jo_iret rfl (by decide))) H
    · rw [if_neg c43] at H
      refine Eq.trans (jb_nx (i := .ifCond .ne 5) (n := 3) (q := (80, [some (.ref p0), some (.ref p1), some (.int si0)], [])) (jq qX13_isProduct 40 rfl) (jo_ifT (jz_neT c43) rfl)) ?_
      refine Eq.trans (jb_nx (i := .aload_n 0) (n := 1) (q := (81, [some (.ref p0), some (.ref p1), some (.int si0)], [.ref p0])) (jq qX13_isProduct 43 rfl) rfl) ?_
      refine Eq.trans (jb_nx (i := .aload_n 1) (n := 1) (q := (82, [some (.ref p0), some (.ref p1), some (.int si0)], [.ref p1, .ref p0])) (jq qX13_isProduct 44 rfl) rfl) ?_
      refine Eq.trans (jb_nx (i := .iload_n 2) (n := 1) (q := (83, [some (.ref p0), some (.ref p1), some (.int si0)], [.int si0, .ref p1, .ref p0])) (jq qX13_isProduct 45 rfl) rfl) ?_
      refine Eq.trans (jb_nx (i := .iconst 0) (n := 1) (q := (84, [some (.ref p0), some (.ref p1), some (.int si0)], [.int 0, .int si0, .ref p1, .ref p0])) (jq qX13_isProduct 46 rfl) rfl) ?_
      refine Eq.trans (jb_nx (i := .iconst (-1)) (n := 1) (q := (85, [some (.ref p0), some (.ref p1), some (.int si0)], [.int (-1), .int 0, .int si0, .ref p1, .ref p0])) (jq qX13_isProduct 47 rfl) rfl) ?_
      obtain ⟨b46, H⟩ := jm_O_inv H
      rcases jcV H with ⟨h44, r45, H⟩ | ⟨w47, h48, r45, H⟩
      · refine Eq.trans (jb_nx (i := .invokevirtual 378) (n := 3) (q := (88, [some (.ref p0), some (.ref p1), some (.int si0)], [])) (jq qX13_isProduct 48 rfl) (jo_cv (y := mX13_order) rfl (Nat.le_of_ble_eq_true rfl) rfl (Nat.le_of_ble_eq_true rfl) b46 rfl r45 jo_ret)) ?_
        refine Eq.trans (jb_nx (i := .goto (-78)) (n := 3) (q := (10, [some (.ref p0), some (.ref p1), some (.int si0)], [])) (jq qX13_isProduct 49 rfl) rfl) ?_
        exact H
      · exact Eq.trans (jb_rt (i := .invokevirtual 378) (n := 3) (jq qX13_isProduct 48 rfl) (jo_cv (y := mX13_order) rfl (Nat.le_of_ble_eq_true rfl) rfl (Nat.le_of_ble_eq_true rfl) b46 rfl r45 (jo_exn rfl))) H
  · exact Eq.trans (jb_rt (i := .invokevirtual 396) (n := 3) (jq qX13_isProduct 39 rfl) (jo_cv (y := mX13_isValue) rfl (Nat.le_of_ble_eq_true rfl) rfl (Nat.le_of_ble_eq_true rfl) b49 rfl r41 (jo_exn rfl))) H
theorem gX13_isProduct {d : Nat} {p0 : Nat} {p1 : Nat} {h : jm_H} {r : jm_R} (H : (jm_O h p0 13 (jc_I (jm_D d mX13_isValue [.ref p0, .ref p1] h) (fun x3 h1 => (if x3 = 0 then some (.inl (some (.int 0)), h1) else kX13_isProduct_10 d p0 p1 none h1)) jx)) = some r) : jm_D (d + 1) mX13_isProduct [.ref p0, .ref p1] h = some r := by
  rw [jm_D_body (Nat.le_of_ble_eq_true rfl)]
  show jm_B d mX13_isProduct (0, [some (.ref p0), some (.ref p1), none], []) h = some r
  refine Eq.trans (jb_nx (i := .aload_n 0) (n := 1) (q := (1, [some (.ref p0), some (.ref p1), none], [.ref p0])) (jq qX13_isProduct 0 rfl) rfl) ?_
  refine Eq.trans (jb_nx (i := .aload_n 1) (n := 1) (q := (2, [some (.ref p0), some (.ref p1), none], [.ref p1, .ref p0])) (jq qX13_isProduct 1 rfl) rfl) ?_
  obtain ⟨b5, H⟩ := jm_O_inv H
  rcases jcI H with ⟨x3, h1, r2, H⟩ | ⟨w6, h7, r2, H⟩
  · refine Eq.trans (jb_nx (i := .invokevirtual 396) (n := 3) (q := (5, [some (.ref p0), some (.ref p1), none], [.int x3])) (jq qX13_isProduct 2 rfl) (jo_cv (y := mX13_isValue) rfl (Nat.le_of_ble_eq_true rfl) rfl (Nat.le_of_ble_eq_true rfl) b5 rfl r2 jo_ret)) ?_
    by_cases c4 : x3 = 0
    · rw [if_pos c4] at H
      refine Eq.trans (jb_nx (i := .ifCond .ne 5) (n := 3) (q := (8, [some (.ref p0), some (.ref p1), none], [])) (jq qX13_isProduct 3 rfl) (jo_ifF (jz_neF c4))) ?_
      refine Eq.trans (jb_nx (i := .iconst 0) (n := 1) (q := (9, [some (.ref p0), some (.ref p1), none], [.int 0])) (jq qX13_isProduct 4 rfl) rfl) ?_
      exact Eq.trans (jb_rt (i := .ireturn) (n := 1) (jq qX13_isProduct 5 rfl) (jo_iret rfl (by decide))) H
    · rw [if_neg c4] at H
      refine Eq.trans (jb_nx (i := .ifCond .ne 5) (n := 3) (q := (10, [some (.ref p0), some (.ref p1), none], [])) (jq qX13_isProduct 3 rfl) (jo_ifT (jz_neT c4) rfl)) ?_
      exact H
  · exact Eq.trans (jb_rt (i := .invokevirtual 396) (n := 3) (jq qX13_isProduct 2 rfl) (jo_cv (y := mX13_isValue) rfl (Nat.le_of_ble_eq_true rfl) rfl (Nat.le_of_ble_eq_true rfl) b5 rfl r2 (jo_exn rfl))) H
/-! MaskPlaysModel isValue (LMaskPlaysModel$Book;)Z -/
def tX13_isValue : List (Nat × Instr × Nat) := [(0, .aload_n 1, 1), (1, .getfield 323, 3), (4, .aload_n 0, 1), (5, .getfield 329, 3), (8, .iaload, 1), (9, .istore_n 2, 1), (10, .iload_n 2, 1), (11, .bipush 45, 2), (13, .if_icmp .ne 44, 3), (16, .aload_n 0, 1), (17, .aload_n 1, 1), (18, .bipush 45, 2), (20, .invokevirtual 363, 3), (23, .ifCond .eq 11, 3), (26, .aload_n 0, 1), (27, .aload_n 1, 1), (28, .invokevirtual 396, 3), (31, .ifCond .ne 5, 3), (34, .iconst 0, 1), (35, .ireturn, 1), (36, .aload_n 0, 1), (37, .dup, 1), (38, .getfield 344, 3), (41, .iconst 1, 1), (42, .isub, 1), (43, .putfield 344, 3), (46, .aload_n 0, 1), (47, .aload_n 1, 1), (48, .bipush 105, 2), (50, .iconst 0, 1), (51, .iconst (-1), 1), (52, .invokevirtual 378, 3), (55, .iconst 1, 1), (56, .ireturn, 1), (57, .iload_n 2, 1), (58, .bipush 40, 2), (60, .if_icmp .ne 37, 3), (63, .aload_n 0, 1), (64, .aload_n 1, 1), (65, .bipush 40, 2), (67, .invokevirtual 363, 3), (70, .ifCond .eq 25, 3), (73, .aload_n 0, 1), (74, .aload_n 1, 1), (75, .invokevirtual 390, 3), (78, .ifCond .eq 17, 3), (81, .aload_n 0, 1), (82, .aload_n 1, 1), (83, .bipush 41, 2), (85, .invokevirtual 369, 3), (88, .ifCond .eq 7, 3), (91, .iconst 1, 1), (92, .goto 4, 3), (95, .iconst 0, 1), (96, .ireturn, 1), (97, .iload_n 2, 1), (98, .bipush 18, 2), (100, .if_icmp .eq 9, 3), (103, .iload_n 2, 1), (104, .bipush 19, 2), (106, .if_icmp .ne 10, 3), (109, .aload_n 0, 1), (110, .aload_n 1, 1), (111, .iload_n 2, 1), (112, .invokevirtual 399, 3), (115, .ireturn, 1), (116, .iload_n 2, 1), (117, .bipush 10, 2), (119, .if_icmp .eq 15, 3), (122, .iload_n 2, 1), (123, .bipush 11, 2), (125, .if_icmp .eq 9, 3), (128, .iload_n 2, 1), (129, .bipush 12, 2), (131, .if_icmp .ne 31, 3), (134, .aload_n 0, 1), (135, .dup, 1), (136, .getfield 329, 3), (139, .iconst 1, 1), (140, .iadd, 1), (141, .putfield 329, 3), (144, .aload_n 0, 1), (145, .aload_n 1, 1), (146, .iload_n 2, 1), (147, .iconst 0, 1), (148, .aload_n 0, 1), (149, .getfield 329, 3), (152, .invokevirtual 378, 3), (155, .aload_n 0, 1), (156, .aload_n 1, 1), (157, .iconst 5, 1), (158, .invokevirtual 360, 3), (161, .ireturn, 1), (162, .iload_n 2, 1), (163, .bipush 31, 2), (165, .if_icmp .ne 21, 3), (168, .aload_n 0, 1), (169, .aload_n 1, 1), (170, .bipush 100, 2), (172, .aload_n 1, 1), (173, .getfield 310, 3), (176, .aload_n 0, 1), (177, .getfield 329, 3), (180, .laload, 1), (181, .l2i, 1), (182, .iconst (-1), 1), (183, .invokevirtual 378, 3), (186, .iload_n 2, 1), (187, .bipush 9, 2), (189, .if_icmp .ne 12, 3), (192, .aload_n 0, 1), (193, .aload_n 1, 1), (194, .bipush 9, 2), (196, .iconst 0, 1), (197, .iconst (-1), 1), (198, .invokevirtual 378, 3), (201, .iload_n 2, 1), (202, .bipush 31, 2), (204, .if_icmp .eq 11, 3), (207, .iload_n 2, 1), (208, .bipush 9, 2), (210, .if_icmp .eq 5, 3), (213, .iconst 0, 1), (214, .ireturn, 1), (215, .aload_n 0, 1), (216, .dup, 1), (217, .getfield 329, 3), (220, .iconst 1, 1), (221, .iadd, 1), (222, .putfield 329, 3), (225, .iconst 1, 1), (226, .ireturn, 1)]
set_option maxRecDepth 100000 in
theorem qX13_isValue : ∀ q ∈ tX13_isValue, decode cX13_isValue q.1 = .ok (q.2.1, q.2.2) := by decide +kernel
noncomputable def kX13_isValue_201 (d : Nat) (p0 : Nat) (o1 : Option Value) (i2 : Int32) (h : jm_H) : Option jm_R := jm_B d mX13_isValue (201, [some (.ref p0), o1, some (.int i2)], []) h
noncomputable def kX13_isValue_134 (d : Nat) (p0 : Nat) (p1 : Nat) (i2 : Int32) (h : jm_H) : Option jm_R := jm_B d mX13_isValue (134, [some (.ref p0), some (.ref p1), some (.int i2)], []) h
theorem gX13_isValue_201 {d : Nat} {p0 : Nat} {o1 : Option Value} {i2 : Int32} {h : jm_H} {r : jm_R} (H : ((if i2 = 31 then (jr_I h p0 12 5 0).bind fun x97 => (jm_pf h p0 12 5 0 (.int (x97 + 1))).bind fun h99 => some (.inl (some (.int 1)), h99) else (if i2 = 9 then (jr_I h p0 12 5 0).bind fun x102 => (jm_pf h p0 12 5 0 (.int (x102 + 1))).bind fun h104 => some (.inl (some (.int 1)), h104) else some (.inl (some (.int 0)), h)))) = some r) : kX13_isValue_201 d p0 o1 i2 h = some r := by
  show jm_B d mX13_isValue (201, [some (.ref p0), o1, some (.int i2)], []) h = some r
  refine Eq.trans (jb_nx (i := .iload_n 2) (n := 1) (q := (202, [some (.ref p0), o1, some (.int i2)], [.int i2])) (jq qX13_isValue 116 rfl) rfl) ?_
  refine Eq.trans (jb_nx (i := .bipush 31) (n := 2) (q := (204, [some (.ref p0), o1, some (.int i2)], [.int 31, .int i2])) (jq qX13_isValue 117 rfl) rfl) ?_
  by_cases c96 : i2 = 31
  · rw [if_pos c96] at H
    refine Eq.trans (jb_nx (i := .if_icmp .eq 11) (n := 3) (q := (215, [some (.ref p0), o1, some (.int i2)], [])) (jq qX13_isValue 118 rfl) (jo_icT (jz_eqT c96) rfl)) ?_
    refine Eq.trans (jb_nx (i := .aload_n 0) (n := 1) (q := (216, [some (.ref p0), o1, some (.int i2)], [.ref p0])) (jq qX13_isValue 124 rfl) rfl) ?_
    refine Eq.trans (jb_nx (i := .dup) (n := 1) (q := (217, [some (.ref p0), o1, some (.int i2)], [.ref p0, .ref p0])) (jq qX13_isValue 125 rfl) rfl) ?_
    obtain ⟨x97, e98, H⟩ := jbd H
    refine Eq.trans (jb_nx (i := .getfield 329) (n := 3) (q := (220, [some (.ref p0), o1, some (.int i2)], [.int x97, .ref p0])) (jq qX13_isValue 126 rfl) (jo_gf rfl (jr_I_inv e98))) ?_
    refine Eq.trans (jb_nx (i := .iconst 1) (n := 1) (q := (221, [some (.ref p0), o1, some (.int i2)], [.int 1, .int x97, .ref p0])) (jq qX13_isValue 127 rfl) rfl) ?_
    refine Eq.trans (jb_nx (i := .iadd) (n := 1) (q := (222, [some (.ref p0), o1, some (.int i2)], [.int (x97 + 1), .ref p0])) (jq qX13_isValue 128 rfl) rfl) ?_
    obtain ⟨h99, e100, H⟩ := jbd H
    refine Eq.trans (jb_nx (i := .putfield 329) (n := 3) (q := (225, [some (.ref p0), o1, some (.int i2)], [])) (jq qX13_isValue 129 rfl) (jo_pf rfl (Or.inl rfl) e100)) ?_
    refine Eq.trans (jb_nx (i := .iconst 1) (n := 1) (q := (226, [some (.ref p0), o1, some (.int i2)], [.int 1])) (jq qX13_isValue 130 rfl) rfl) ?_
    exact Eq.trans (jb_rt (i := .ireturn) (n := 1) (jq qX13_isValue 131 rfl) (jo_iret rfl (by decide))) H
  · rw [if_neg c96] at H
    refine Eq.trans (jb_nx (i := .if_icmp .eq 11) (n := 3) (q := (207, [some (.ref p0), o1, some (.int i2)], [])) (jq qX13_isValue 118 rfl) (jo_icF (jz_eqF c96))) ?_
    refine Eq.trans (jb_nx (i := .iload_n 2) (n := 1) (q := (208, [some (.ref p0), o1, some (.int i2)], [.int i2])) (jq qX13_isValue 119 rfl) rfl) ?_
    refine Eq.trans (jb_nx (i := .bipush 9) (n := 2) (q := (210, [some (.ref p0), o1, some (.int i2)], [.int 9, .int i2])) (jq qX13_isValue 120 rfl) rfl) ?_
    by_cases c101 : i2 = 9
    · rw [if_pos c101] at H
      refine Eq.trans (jb_nx (i := .if_icmp .eq 5) (n := 3) (q := (215, [some (.ref p0), o1, some (.int i2)], [])) (jq qX13_isValue 121 rfl) (jo_icT (jz_eqT c101) rfl)) ?_
      refine Eq.trans (jb_nx (i := .aload_n 0) (n := 1) (q := (216, [some (.ref p0), o1, some (.int i2)], [.ref p0])) (jq qX13_isValue 124 rfl) rfl) ?_
      refine Eq.trans (jb_nx (i := .dup) (n := 1) (q := (217, [some (.ref p0), o1, some (.int i2)], [.ref p0, .ref p0])) (jq qX13_isValue 125 rfl) rfl) ?_
      obtain ⟨x102, e103, H⟩ := jbd H
      refine Eq.trans (jb_nx (i := .getfield 329) (n := 3) (q := (220, [some (.ref p0), o1, some (.int i2)], [.int x102, .ref p0])) (jq qX13_isValue 126 rfl) (jo_gf rfl (jr_I_inv e103))) ?_
      refine Eq.trans (jb_nx (i := .iconst 1) (n := 1) (q := (221, [some (.ref p0), o1, some (.int i2)], [.int 1, .int x102, .ref p0])) (jq qX13_isValue 127 rfl) rfl) ?_
      refine Eq.trans (jb_nx (i := .iadd) (n := 1) (q := (222, [some (.ref p0), o1, some (.int i2)], [.int (x102 + 1), .ref p0])) (jq qX13_isValue 128 rfl) rfl) ?_
      obtain ⟨h104, e105, H⟩ := jbd H
      refine Eq.trans (jb_nx (i := .putfield 329) (n := 3) (q := (225, [some (.ref p0), o1, some (.int i2)], [])) (jq qX13_isValue 129 rfl) (jo_pf rfl (Or.inl rfl) e105)) ?_
      refine Eq.trans (jb_nx (i := .iconst 1) (n := 1) (q := (226, [some (.ref p0), o1, some (.int i2)], [.int 1])) (jq qX13_isValue 130 rfl) rfl) ?_
      exact Eq.trans (jb_rt (i := .ireturn) (n := 1) (jq qX13_isValue 131 rfl) (jo_iret rfl (by decide))) H
    · rw [if_neg c101] at H
      refine Eq.trans (jb_nx (i := .if_icmp .eq 5) (n := 3) (q := (213, [some (.ref p0), o1, some (.int i2)], [])) (jq qX13_isValue 121 rfl) (jo_icF (jz_eqF c101))) ?_
      refine Eq.trans (jb_nx (i := .iconst 0) (n := 1) (q := (214, [some (.ref p0), o1, some (.int i2)], [.int 0])) (jq qX13_isValue 122 rfl) rfl) ?_
      exact Eq.trans (jb_rt (i := .ireturn) (n := 1) (jq qX13_isValue 123 rfl) (jo_iret rfl (by decide))) H
theorem gX13_isValue_134 {d : Nat} {p0 : Nat} {p1 : Nat} {i2 : Int32} {h : jm_H} {r : jm_R} (H : ((jr_I h p0 12 5 0).bind fun x106 => (jm_pf h p0 12 5 0 (.int (x106 + 1))).bind fun h108 => (jr_I h108 p0 12 5 0).bind fun x110 => jm_O h108 p0 13 (jc_V (jm_D d mX13_order [.ref p0, .ref p1, .int i2, .int 0, .int x110] h108) (fun h112 => jm_O h112 p0 13 (jc_I (jm_D d mX13_name [.ref p0, .ref p1, .int 5] h112) (fun x116 h114 => jm_Y .boolean x116 (some (.inl (some (.int x116)), h114))) jx)) jx)) = some r) : kX13_isValue_134 d p0 p1 i2 h = some r := by
  show jm_B d mX13_isValue (134, [some (.ref p0), some (.ref p1), some (.int i2)], []) h = some r
  refine Eq.trans (jb_nx (i := .aload_n 0) (n := 1) (q := (135, [some (.ref p0), some (.ref p1), some (.int i2)], [.ref p0])) (jq qX13_isValue 75 rfl) rfl) ?_
  refine Eq.trans (jb_nx (i := .dup) (n := 1) (q := (136, [some (.ref p0), some (.ref p1), some (.int i2)], [.ref p0, .ref p0])) (jq qX13_isValue 76 rfl) rfl) ?_
  obtain ⟨x106, e107, H⟩ := jbd H
  refine Eq.trans (jb_nx (i := .getfield 329) (n := 3) (q := (139, [some (.ref p0), some (.ref p1), some (.int i2)], [.int x106, .ref p0])) (jq qX13_isValue 77 rfl) (jo_gf rfl (jr_I_inv e107))) ?_
  refine Eq.trans (jb_nx (i := .iconst 1) (n := 1) (q := (140, [some (.ref p0), some (.ref p1), some (.int i2)], [.int 1, .int x106, .ref p0])) (jq qX13_isValue 78 rfl) rfl) ?_
  refine Eq.trans (jb_nx (i := .iadd) (n := 1) (q := (141, [some (.ref p0), some (.ref p1), some (.int i2)], [.int (x106 + 1), .ref p0])) (jq qX13_isValue 79 rfl) rfl) ?_
  obtain ⟨h108, e109, H⟩ := jbd H
  refine Eq.trans (jb_nx (i := .putfield 329) (n := 3) (q := (144, [some (.ref p0), some (.ref p1), some (.int i2)], [])) (jq qX13_isValue 80 rfl) (jo_pf rfl (Or.inl rfl) e109)) ?_
  refine Eq.trans (jb_nx (i := .aload_n 0) (n := 1) (q := (145, [some (.ref p0), some (.ref p1), some (.int i2)], [.ref p0])) (jq qX13_isValue 81 rfl) rfl) ?_
  refine Eq.trans (jb_nx (i := .aload_n 1) (n := 1) (q := (146, [some (.ref p0), some (.ref p1), some (.int i2)], [.ref p1, .ref p0])) (jq qX13_isValue 82 rfl) rfl) ?_
  refine Eq.trans (jb_nx (i := .iload_n 2) (n := 1) (q := (147, [some (.ref p0), some (.ref p1), some (.int i2)], [.int i2, .ref p1, .ref p0])) (jq qX13_isValue 83 rfl) rfl) ?_
  refine Eq.trans (jb_nx (i := .iconst 0) (n := 1) (q := (148, [some (.ref p0), some (.ref p1), some (.int i2)], [.int 0, .int i2, .ref p1, .ref p0])) (jq qX13_isValue 84 rfl) rfl) ?_
  refine Eq.trans (jb_nx (i := .aload_n 0) (n := 1) (q := (149, [some (.ref p0), some (.ref p1), some (.int i2)], [.ref p0, .int 0, .int i2, .ref p1, .ref p0])) (jq qX13_isValue 85 rfl) rfl) ?_
  obtain ⟨x110, e111, H⟩ := jbd H
  refine Eq.trans (jb_nx (i := .getfield 329) (n := 3) (q := (152, [some (.ref p0), some (.ref p1), some (.int i2)], [.int x110, .int 0, .int i2, .ref p1, .ref p0])) (jq qX13_isValue 86 rfl) (jo_gf rfl (jr_I_inv e111))) ?_
  obtain ⟨b121, H⟩ := jm_O_inv H
  rcases jcV H with ⟨h112, r113, H⟩ | ⟨w122, h123, r113, H⟩
  · refine Eq.trans (jb_nx (i := .invokevirtual 378) (n := 3) (q := (155, [some (.ref p0), some (.ref p1), some (.int i2)], [])) (jq qX13_isValue 87 rfl) (jo_cv (y := mX13_order) rfl (Nat.le_of_ble_eq_true rfl) rfl (Nat.le_of_ble_eq_true rfl) b121 rfl r113 jo_ret)) ?_
    refine Eq.trans (jb_nx (i := .aload_n 0) (n := 1) (q := (156, [some (.ref p0), some (.ref p1), some (.int i2)], [.ref p0])) (jq qX13_isValue 88 rfl) rfl) ?_
    refine Eq.trans (jb_nx (i := .aload_n 1) (n := 1) (q := (157, [some (.ref p0), some (.ref p1), some (.int i2)], [.ref p1, .ref p0])) (jq qX13_isValue 89 rfl) rfl) ?_
    refine Eq.trans (jb_nx (i := .iconst 5) (n := 1) (q := (158, [some (.ref p0), some (.ref p1), some (.int i2)], [.int 5, .ref p1, .ref p0])) (jq qX13_isValue 90 rfl) rfl) ?_
    obtain ⟨b118, H⟩ := jm_O_inv H
    rcases jcI H with ⟨x116, h114, r115, H⟩ | ⟨w119, h120, r115, H⟩
    · refine Eq.trans (jb_nx (i := .invokevirtual 360) (n := 3) (q := (161, [some (.ref p0), some (.ref p1), some (.int i2)], [.int x116])) (jq qX13_isValue 91 rfl) (jo_cv (y := mX13_name) rfl (Nat.le_of_ble_eq_true rfl) rfl (Nat.le_of_ble_eq_true rfl) b118 rfl r115 jo_ret)) ?_
      obtain ⟨u117, H⟩ := jm_Y_inv H
      exact Eq.trans (jb_rt (i := .ireturn) (n := 1) (jq qX13_isValue 92 rfl) (jo_iret rfl u117)) H
    · exact Eq.trans (jb_rt (i := .invokevirtual 360) (n := 3) (jq qX13_isValue 91 rfl) (jo_cv (y := mX13_name) rfl (Nat.le_of_ble_eq_true rfl) rfl (Nat.le_of_ble_eq_true rfl) b118 rfl r115 (jo_exn rfl))) H
  · exact Eq.trans (jb_rt (i := .invokevirtual 378) (n := 3) (jq qX13_isValue 87 rfl) (jo_cv (y := mX13_order) rfl (Nat.le_of_ble_eq_true rfl) rfl (Nat.le_of_ble_eq_true rfl) b121 rfl r113 (jo_exn rfl))) H
theorem gX13_isValue {d : Nat} {p0 : Nat} {p1 : Nat} {h : jm_H} {r : jm_R} (H : ((jr_R h p1 11 0 2).bind fun a1 => (jr_I h p0 12 5 0).bind fun x3 => (jm_ali h a1 0 x3).bind fun x5 => (if x5 = 45 then jm_O h p0 13 (jc_I (jm_D d mX13_deeper [.ref p0, .ref p1, .int 45] h) (fun x75 h73 => (if x75 = 0 then some (.inl (some (.int 0)), h73) else jm_O h73 p0 13 (jc_I (jm_D d mX13_isValue [.ref p0, .ref p1] h73) (fun x79 h77 => (if x79 = 0 then some (.inl (some (.int 0)), h77) else (jr_I h77 p0 12 6 0).bind fun x81 => (jm_pf h77 p0 12 6 0 (.int (x81 - 1))).bind fun h83 => jm_O h83 p0 13 (jc_V (jm_D d mX13_order [.ref p0, .ref p1, .int 105, .int 0, .int (-1)] h83) (fun h85 => some (.inl (some (.int 1)), h85)) jx))) jx))) jx) else (if x5 = 40 then jm_O h p0 13 (jc_I (jm_D d mX13_deeper [.ref p0, .ref p1, .int 40] h) (fun x54 h52 => (if x54 = 0 then some (.inl (some (.int 0)), h52) else jm_O h52 p0 13 (jc_I (jm_D d mX13_isSum [.ref p0, .ref p1] h52) (fun x58 h56 => (if x58 = 0 then some (.inl (some (.int 0)), h56) else jm_O h56 p0 13 (jc_I (jm_D d mX13_closes [.ref p0, .ref p1, .int 41] h56) (fun x62 h60 => (if x62 = 0 then some (.inl (some (.int 0)), h60) else some (.inl (some (.int 1)), h60))) jx))) jx))) jx) else (if x5 = 18 then jm_O h p0 13 (jc_I (jm_D d mX13_isOfTwo [.ref p0, .ref p1, .int x5] h) (fun x12 h10 => jm_Y .boolean x12 (some (.inl (some (.int x12)), h10))) jx) else (if x5 = 19 then jm_O h p0 13 (jc_I (jm_D d mX13_isOfTwo [.ref p0, .ref p1, .int x5] h) (fun x47 h45 => jm_Y .boolean x47 (some (.inl (some (.int x47)), h45))) jx) else (if x5 = 10 then kX13_isValue_134 d p0 p1 x5 h else (if x5 = 11 then kX13_isValue_134 d p0 p1 x5 h else (if x5 = 12 then kX13_isValue_134 d p0 p1 x5 h else (if x5 = 31 then (jr_R h p1 11 3 2).bind fun a28 => (jr_I h p0 12 5 0).bind fun x30 => (jm_all h a28 x30).bind fun y32 => jm_O h p0 13 (jc_V (jm_D d mX13_order [.ref p0, .ref p1, .int 100, .int (Int64.toInt32 y32), .int (-1)] h) (fun h34 => (if x5 = 9 then jm_O h34 p0 13 (jc_V (jm_D d mX13_order [.ref p0, .ref p1, .int 9, .int 0, .int (-1)] h34) (fun h37 => kX13_isValue_201 d p0 (some (.ref p1)) x5 h37) jx) else kX13_isValue_201 d p0 (some (.ref p1)) x5 h34)) jx) else (if x5 = 9 then jm_O h p0 13 (jc_V (jm_D d mX13_order [.ref p0, .ref p1, .int 9, .int 0, .int (-1)] h) (fun h23 => kX13_isValue_201 d p0 (some (.ref p1)) x5 h23) jx) else kX13_isValue_201 d p0 (some (.ref p1)) x5 h)))))))))) = some r) : jm_D (d + 1) mX13_isValue [.ref p0, .ref p1] h = some r := by
  rw [jm_D_body (Nat.le_of_ble_eq_true rfl)]
  show jm_B d mX13_isValue (0, [some (.ref p0), some (.ref p1), none], []) h = some r
  refine Eq.trans (jb_nx (i := .aload_n 1) (n := 1) (q := (1, [some (.ref p0), some (.ref p1), none], [.ref p1])) (jq qX13_isValue 0 rfl) rfl) ?_
  obtain ⟨a1, e2, H⟩ := jbd H
  refine Eq.trans (jb_nx (i := .getfield 323) (n := 3) (q := (4, [some (.ref p0), some (.ref p1), none], [.ref a1])) (jq qX13_isValue 1 rfl) (jo_gf rfl (jr_R_inv e2))) ?_
  refine Eq.trans (jb_nx (i := .aload_n 0) (n := 1) (q := (5, [some (.ref p0), some (.ref p1), none], [.ref p0, .ref a1])) (jq qX13_isValue 2 rfl) rfl) ?_
  obtain ⟨x3, e4, H⟩ := jbd H
  refine Eq.trans (jb_nx (i := .getfield 329) (n := 3) (q := (8, [some (.ref p0), some (.ref p1), none], [.int x3, .ref a1])) (jq qX13_isValue 3 rfl) (jo_gf rfl (jr_I_inv e4))) ?_
  obtain ⟨x5, e6, H⟩ := jbd H
  refine Eq.trans (jb_nx (i := .iaload) (n := 1) (q := (9, [some (.ref p0), some (.ref p1), none], [.int x5])) (jq qX13_isValue 4 rfl) (jo_ial e6)) ?_
  refine Eq.trans (jb_nx (i := .istore_n 2) (n := 1) (q := (10, [some (.ref p0), some (.ref p1), some (.int x5)], [])) (jq qX13_isValue 5 rfl) rfl) ?_
  refine Eq.trans (jb_nx (i := .iload_n 2) (n := 1) (q := (11, [some (.ref p0), some (.ref p1), some (.int x5)], [.int x5])) (jq qX13_isValue 6 rfl) rfl) ?_
  refine Eq.trans (jb_nx (i := .bipush 45) (n := 2) (q := (13, [some (.ref p0), some (.ref p1), some (.int x5)], [.int 45, .int x5])) (jq qX13_isValue 7 rfl) rfl) ?_
  by_cases c7 : x5 = 45
  · rw [if_pos c7] at H
    refine Eq.trans (jb_nx (i := .if_icmp .ne 44) (n := 3) (q := (16, [some (.ref p0), some (.ref p1), some (.int x5)], [])) (jq qX13_isValue 8 rfl) (jo_icF (jz_neF c7))) ?_
    refine Eq.trans (jb_nx (i := .aload_n 0) (n := 1) (q := (17, [some (.ref p0), some (.ref p1), some (.int x5)], [.ref p0])) (jq qX13_isValue 9 rfl) rfl) ?_
    refine Eq.trans (jb_nx (i := .aload_n 1) (n := 1) (q := (18, [some (.ref p0), some (.ref p1), some (.int x5)], [.ref p1, .ref p0])) (jq qX13_isValue 10 rfl) rfl) ?_
    refine Eq.trans (jb_nx (i := .bipush 45) (n := 2) (q := (20, [some (.ref p0), some (.ref p1), some (.int x5)], [.int 45, .ref p1, .ref p0])) (jq qX13_isValue 11 rfl) rfl) ?_
    obtain ⟨b93, H⟩ := jm_O_inv H
    rcases jcI H with ⟨x75, h73, r74, H⟩ | ⟨w94, h95, r74, H⟩
    · refine Eq.trans (jb_nx (i := .invokevirtual 363) (n := 3) (q := (23, [some (.ref p0), some (.ref p1), some (.int x5)], [.int x75])) (jq qX13_isValue 12 rfl) (jo_cv (y := mX13_deeper) rfl (Nat.le_of_ble_eq_true rfl) rfl (Nat.le_of_ble_eq_true rfl) b93 rfl r74 jo_ret)) ?_
      by_cases c76 : x75 = 0
      · rw [if_pos c76] at H
        refine Eq.trans (jb_nx (i := .ifCond .eq 11) (n := 3) (q := (34, [some (.ref p0), some (.ref p1), some (.int x5)], [])) (jq qX13_isValue 13 rfl) (jo_ifT (jz_eqT c76) rfl)) ?_
        refine Eq.trans (jb_nx (i := .iconst 0) (n := 1) (q := (35, [some (.ref p0), some (.ref p1), some (.int x5)], [.int 0])) (jq qX13_isValue 18 rfl) rfl) ?_
        exact Eq.trans (jb_rt (i := .ireturn) (n := 1) (jq qX13_isValue 19 rfl) (jo_iret rfl (by decide))) H
      · rw [if_neg c76] at H
        refine Eq.trans (jb_nx (i := .ifCond .eq 11) (n := 3) (q := (26, [some (.ref p0), some (.ref p1), some (.int x5)], [])) (jq qX13_isValue 13 rfl) (jo_ifF (jz_eqF c76))) ?_
        refine Eq.trans (jb_nx (i := .aload_n 0) (n := 1) (q := (27, [some (.ref p0), some (.ref p1), some (.int x5)], [.ref p0])) (jq qX13_isValue 14 rfl) rfl) ?_
        refine Eq.trans (jb_nx (i := .aload_n 1) (n := 1) (q := (28, [some (.ref p0), some (.ref p1), some (.int x5)], [.ref p1, .ref p0])) (jq qX13_isValue 15 rfl) rfl) ?_
        obtain ⟨b90, H⟩ := jm_O_inv H
        rcases jcI H with ⟨x79, h77, r78, H⟩ | ⟨w91, h92, r78, H⟩
        · refine Eq.trans (jb_nx (i := .invokevirtual 396) (n := 3) (q := (31, [some (.ref p0), some (.ref p1), some (.int x5)], [.int x79])) (jq qX13_isValue 16 rfl) (jo_cv (y := mX13_isValue) rfl (Nat.le_of_ble_eq_true rfl) rfl (Nat.le_of_ble_eq_true rfl) b90 rfl r78 jo_ret)) ?_
          by_cases c80 : x79 = 0
          · rw [if_pos c80] at H
            refine Eq.trans (jb_nx (i := .ifCond .ne 5) (n := 3) (q := (34, [some (.ref p0), some (.ref p1), some (.int x5)], [])) (jq qX13_isValue 17 rfl) (jo_ifF (jz_neF c80))) ?_
            refine Eq.trans (jb_nx (i := .iconst 0) (n := 1) (q := (35, [some (.ref p0), some (.ref p1), some (.int x5)], [.int 0])) (jq qX13_isValue 18 rfl) rfl) ?_
            exact Eq.trans (jb_rt (i := .ireturn) (n := 1) (jq qX13_isValue 19 rfl) (jo_iret rfl (by decide))) H
          · rw [if_neg c80] at H
            refine Eq.trans (jb_nx (i := .ifCond .ne 5) (n := 3) (q := (36, [some (.ref p0), some (.ref p1), some (.int x5)], [])) (jq qX13_isValue 17 rfl) (jo_ifT (jz_neT c80) rfl)) ?_
            refine Eq.trans (jb_nx (i := .aload_n 0) (n := 1) (q := (37, [some (.ref p0), some (.ref p1), some (.int x5)], [.ref p0])) (jq qX13_isValue 20 rfl) rfl) ?_
            refine Eq.trans (jb_nx (i := .dup) (n := 1) (q := (38, [some (.ref p0), some (.ref p1), some (.int x5)], [.ref p0, .ref p0])) (jq qX13_isValue 21 rfl) rfl) ?_
            obtain ⟨x81, e82, H⟩ := jbd H
            refine Eq.trans (jb_nx (i := .getfield 344) (n := 3) (q := (41, [some (.ref p0), some (.ref p1), some (.int x5)], [.int x81, .ref p0])) (jq qX13_isValue 22 rfl) (jo_gf rfl (jr_I_inv e82))) ?_
            refine Eq.trans (jb_nx (i := .iconst 1) (n := 1) (q := (42, [some (.ref p0), some (.ref p1), some (.int x5)], [.int 1, .int x81, .ref p0])) (jq qX13_isValue 23 rfl) rfl) ?_
            refine Eq.trans (jb_nx (i := .isub) (n := 1) (q := (43, [some (.ref p0), some (.ref p1), some (.int x5)], [.int (x81 - 1), .ref p0])) (jq qX13_isValue 24 rfl) rfl) ?_
            obtain ⟨h83, e84, H⟩ := jbd H
            refine Eq.trans (jb_nx (i := .putfield 344) (n := 3) (q := (46, [some (.ref p0), some (.ref p1), some (.int x5)], [])) (jq qX13_isValue 25 rfl) (jo_pf rfl (Or.inl rfl) e84)) ?_
            refine Eq.trans (jb_nx (i := .aload_n 0) (n := 1) (q := (47, [some (.ref p0), some (.ref p1), some (.int x5)], [.ref p0])) (jq qX13_isValue 26 rfl) rfl) ?_
            refine Eq.trans (jb_nx (i := .aload_n 1) (n := 1) (q := (48, [some (.ref p0), some (.ref p1), some (.int x5)], [.ref p1, .ref p0])) (jq qX13_isValue 27 rfl) rfl) ?_
            refine Eq.trans (jb_nx (i := .bipush 105) (n := 2) (q := (50, [some (.ref p0), some (.ref p1), some (.int x5)], [.int 105, .ref p1, .ref p0])) (jq qX13_isValue 28 rfl) rfl) ?_
            refine Eq.trans (jb_nx (i := .iconst 0) (n := 1) (q := (51, [some (.ref p0), some (.ref p1), some (.int x5)], [.int 0, .int 105, .ref p1, .ref p0])) (jq qX13_isValue 29 rfl) rfl) ?_
            refine Eq.trans (jb_nx (i := .iconst (-1)) (n := 1) (q := (52, [some (.ref p0), some (.ref p1), some (.int x5)], [.int (-1), .int 0, .int 105, .ref p1, .ref p0])) (jq qX13_isValue 30 rfl) rfl) ?_
            obtain ⟨b87, H⟩ := jm_O_inv H
            rcases jcV H with ⟨h85, r86, H⟩ | ⟨w88, h89, r86, H⟩
            · refine Eq.trans (jb_nx (i := .invokevirtual 378) (n := 3) (q := (55, [some (.ref p0), some (.ref p1), some (.int x5)], [])) (jq qX13_isValue 31 rfl) (jo_cv (y := mX13_order) rfl (Nat.le_of_ble_eq_true rfl) rfl (Nat.le_of_ble_eq_true rfl) b87 rfl r86 jo_ret)) ?_
              refine Eq.trans (jb_nx (i := .iconst 1) (n := 1) (q := (56, [some (.ref p0), some (.ref p1), some (.int x5)], [.int 1])) (jq qX13_isValue 32 rfl) rfl) ?_
              exact Eq.trans (jb_rt (i := .ireturn) (n := 1) (jq qX13_isValue 33 rfl) (jo_iret rfl (by decide))) H
            · exact Eq.trans (jb_rt (i := .invokevirtual 378) (n := 3) (jq qX13_isValue 31 rfl) (jo_cv (y := mX13_order) rfl (Nat.le_of_ble_eq_true rfl) rfl (Nat.le_of_ble_eq_true rfl) b87 rfl r86 (jo_exn rfl))) H
        · exact Eq.trans (jb_rt (i := .invokevirtual 396) (n := 3) (jq qX13_isValue 16 rfl) (jo_cv (y := mX13_isValue) rfl (Nat.le_of_ble_eq_true rfl) rfl (Nat.le_of_ble_eq_true rfl) b90 rfl r78 (jo_exn rfl))) H
    · exact Eq.trans (jb_rt (i := .invokevirtual 363) (n := 3) (jq qX13_isValue 12 rfl) (jo_cv (y := mX13_deeper) rfl (Nat.le_of_ble_eq_true rfl) rfl (Nat.le_of_ble_eq_true rfl) b93 rfl r74 (jo_exn rfl))) H
  · rw [if_neg c7] at H
    refine Eq.trans (jb_nx (i := .if_icmp .ne 44) (n := 3) (q := (57, [some (.ref p0), some (.ref p1), some (.int x5)], [])) (jq qX13_isValue 8 rfl) (jo_icT (jz_neT c7) rfl)) ?_
    refine Eq.trans (jb_nx (i := .iload_n 2) (n := 1) (q := (58, [some (.ref p0), some (.ref p1), some (.int x5)], [.int x5])) (jq qX13_isValue 34 rfl) rfl) ?_
    refine Eq.trans (jb_nx (i := .bipush 40) (n := 2) (q := (60, [some (.ref p0), some (.ref p1), some (.int x5)], [.int 40, .int x5])) (jq qX13_isValue 35 rfl) rfl) ?_
    by_cases c8 : x5 = 40
    · rw [if_pos c8] at H
      refine Eq.trans (jb_nx (i := .if_icmp .ne 37) (n := 3) (q := (63, [some (.ref p0), some (.ref p1), some (.int x5)], [])) (jq qX13_isValue 36 rfl) (jo_icF (jz_neF c8))) ?_
      refine Eq.trans (jb_nx (i := .aload_n 0) (n := 1) (q := (64, [some (.ref p0), some (.ref p1), some (.int x5)], [.ref p0])) (jq qX13_isValue 37 rfl) rfl) ?_
      refine Eq.trans (jb_nx (i := .aload_n 1) (n := 1) (q := (65, [some (.ref p0), some (.ref p1), some (.int x5)], [.ref p1, .ref p0])) (jq qX13_isValue 38 rfl) rfl) ?_
      refine Eq.trans (jb_nx (i := .bipush 40) (n := 2) (q := (67, [some (.ref p0), some (.ref p1), some (.int x5)], [.int 40, .ref p1, .ref p0])) (jq qX13_isValue 39 rfl) rfl) ?_
      obtain ⟨b70, H⟩ := jm_O_inv H
      rcases jcI H with ⟨x54, h52, r53, H⟩ | ⟨w71, h72, r53, H⟩
      · refine Eq.trans (jb_nx (i := .invokevirtual 363) (n := 3) (q := (70, [some (.ref p0), some (.ref p1), some (.int x5)], [.int x54])) (jq qX13_isValue 40 rfl) (jo_cv (y := mX13_deeper) rfl (Nat.le_of_ble_eq_true rfl) rfl (Nat.le_of_ble_eq_true rfl) b70 rfl r53 jo_ret)) ?_
        by_cases c55 : x54 = 0
        · rw [if_pos c55] at H
          refine Eq.trans (jb_nx (i := .ifCond .eq 25) (n := 3) (q := (95, [some (.ref p0), some (.ref p1), some (.int x5)], [])) (jq qX13_isValue 41 rfl) (jo_ifT (jz_eqT c55) rfl)) ?_
          refine Eq.trans (jb_nx (i := .iconst 0) (n := 1) (q := (96, [some (.ref p0), some (.ref p1), some (.int x5)], [.int 0])) (jq qX13_isValue 53 rfl) rfl) ?_
          exact Eq.trans (jb_rt (i := .ireturn) (n := 1) (jq qX13_isValue 54 rfl) (jo_iret rfl (by decide))) H
        · rw [if_neg c55] at H
          refine Eq.trans (jb_nx (i := .ifCond .eq 25) (n := 3) (q := (73, [some (.ref p0), some (.ref p1), some (.int x5)], [])) (jq qX13_isValue 41 rfl) (jo_ifF (jz_eqF c55))) ?_
          refine Eq.trans (jb_nx (i := .aload_n 0) (n := 1) (q := (74, [some (.ref p0), some (.ref p1), some (.int x5)], [.ref p0])) (jq qX13_isValue 42 rfl) rfl) ?_
          refine Eq.trans (jb_nx (i := .aload_n 1) (n := 1) (q := (75, [some (.ref p0), some (.ref p1), some (.int x5)], [.ref p1, .ref p0])) (jq qX13_isValue 43 rfl) rfl) ?_
          obtain ⟨b67, H⟩ := jm_O_inv H
          rcases jcI H with ⟨x58, h56, r57, H⟩ | ⟨w68, h69, r57, H⟩
          · refine Eq.trans (jb_nx (i := .invokevirtual 390) (n := 3) (q := (78, [some (.ref p0), some (.ref p1), some (.int x5)], [.int x58])) (jq qX13_isValue 44 rfl) (jo_cv (y := mX13_isSum) rfl (Nat.le_of_ble_eq_true rfl) rfl (Nat.le_of_ble_eq_true rfl) b67 rfl r57 jo_ret)) ?_
            by_cases c59 : x58 = 0
            · rw [if_pos c59] at H
              refine Eq.trans (jb_nx (i := .ifCond .eq 17) (n := 3) (q := (95, [some (.ref p0), some (.ref p1), some (.int x5)], [])) (jq qX13_isValue 45 rfl) (jo_ifT (jz_eqT c59) rfl)) ?_
              refine Eq.trans (jb_nx (i := .iconst 0) (n := 1) (q := (96, [some (.ref p0), some (.ref p1), some (.int x5)], [.int 0])) (jq qX13_isValue 53 rfl) rfl) ?_
              exact Eq.trans (jb_rt (i := .ireturn) (n := 1) (jq qX13_isValue 54 rfl) (jo_iret rfl (by decide))) H
            · rw [if_neg c59] at H
              refine Eq.trans (jb_nx (i := .ifCond .eq 17) (n := 3) (q := (81, [some (.ref p0), some (.ref p1), some (.int x5)], [])) (jq qX13_isValue 45 rfl) (jo_ifF (jz_eqF c59))) ?_
              refine Eq.trans (jb_nx (i := .aload_n 0) (n := 1) (q := (82, [some (.ref p0), some (.ref p1), some (.int x5)], [.ref p0])) (jq qX13_isValue 46 rfl) rfl) ?_
              refine Eq.trans (jb_nx (i := .aload_n 1) (n := 1) (q := (83, [some (.ref p0), some (.ref p1), some (.int x5)], [.ref p1, .ref p0])) (jq qX13_isValue 47 rfl) rfl) ?_
              refine Eq.trans (jb_nx (i := .bipush 41) (n := 2) (q := (85, [some (.ref p0), some (.ref p1), some (.int x5)], [.int 41, .ref p1, .ref p0])) (jq qX13_isValue 48 rfl) rfl) ?_
              obtain ⟨b64, H⟩ := jm_O_inv H
              rcases jcI H with ⟨x62, h60, r61, H⟩ | ⟨w65, h66, r61, H⟩
              · refine Eq.trans (jb_nx (i := .invokevirtual 369) (n := 3) (q := (88, [some (.ref p0), some (.ref p1), some (.int x5)], [.int x62])) (jq qX13_isValue 49 rfl) (jo_cv (y := mX13_closes) rfl (Nat.le_of_ble_eq_true rfl) rfl (Nat.le_of_ble_eq_true rfl) b64 rfl r61 jo_ret)) ?_
                by_cases c63 : x62 = 0
                · rw [if_pos c63] at H
                  refine Eq.trans (jb_nx (i := .ifCond .eq 7) (n := 3) (q := (95, [some (.ref p0), some (.ref p1), some (.int x5)], [])) (jq qX13_isValue 50 rfl) (jo_ifT (jz_eqT c63) rfl)) ?_
                  refine Eq.trans (jb_nx (i := .iconst 0) (n := 1) (q := (96, [some (.ref p0), some (.ref p1), some (.int x5)], [.int 0])) (jq qX13_isValue 53 rfl) rfl) ?_
                  exact Eq.trans (jb_rt (i := .ireturn) (n := 1) (jq qX13_isValue 54 rfl) (jo_iret rfl (by decide))) H
                · rw [if_neg c63] at H
                  refine Eq.trans (jb_nx (i := .ifCond .eq 7) (n := 3) (q := (91, [some (.ref p0), some (.ref p1), some (.int x5)], [])) (jq qX13_isValue 50 rfl) (jo_ifF (jz_eqF c63))) ?_
                  refine Eq.trans (jb_nx (i := .iconst 1) (n := 1) (q := (92, [some (.ref p0), some (.ref p1), some (.int x5)], [.int 1])) (jq qX13_isValue 51 rfl) rfl) ?_
                  refine Eq.trans (jb_nx (i := .goto 4) (n := 3) (q := (96, [some (.ref p0), some (.ref p1), some (.int x5)], [.int 1])) (jq qX13_isValue 52 rfl) rfl) ?_
                  exact Eq.trans (jb_rt (i := .ireturn) (n := 1) (jq qX13_isValue 54 rfl) (jo_iret rfl (by decide))) H
              · exact Eq.trans (jb_rt (i := .invokevirtual 369) (n := 3) (jq qX13_isValue 49 rfl) (jo_cv (y := mX13_closes) rfl (Nat.le_of_ble_eq_true rfl) rfl (Nat.le_of_ble_eq_true rfl) b64 rfl r61 (jo_exn rfl))) H
          · exact Eq.trans (jb_rt (i := .invokevirtual 390) (n := 3) (jq qX13_isValue 44 rfl) (jo_cv (y := mX13_isSum) rfl (Nat.le_of_ble_eq_true rfl) rfl (Nat.le_of_ble_eq_true rfl) b67 rfl r57 (jo_exn rfl))) H
      · exact Eq.trans (jb_rt (i := .invokevirtual 363) (n := 3) (jq qX13_isValue 40 rfl) (jo_cv (y := mX13_deeper) rfl (Nat.le_of_ble_eq_true rfl) rfl (Nat.le_of_ble_eq_true rfl) b70 rfl r53 (jo_exn rfl))) H
    · rw [if_neg c8] at H
      refine Eq.trans (jb_nx (i := .if_icmp .ne 37) (n := 3) (q := (97, [some (.ref p0), some (.ref p1), some (.int x5)], [])) (jq qX13_isValue 36 rfl) (jo_icT (jz_neT c8) rfl)) ?_
      refine Eq.trans (jb_nx (i := .iload_n 2) (n := 1) (q := (98, [some (.ref p0), some (.ref p1), some (.int x5)], [.int x5])) (jq qX13_isValue 55 rfl) rfl) ?_
      refine Eq.trans (jb_nx (i := .bipush 18) (n := 2) (q := (100, [some (.ref p0), some (.ref p1), some (.int x5)], [.int 18, .int x5])) (jq qX13_isValue 56 rfl) rfl) ?_
      by_cases c9 : x5 = 18
      · rw [if_pos c9] at H
        refine Eq.trans (jb_nx (i := .if_icmp .eq 9) (n := 3) (q := (109, [some (.ref p0), some (.ref p1), some (.int x5)], [])) (jq qX13_isValue 57 rfl) (jo_icT (jz_eqT c9) rfl)) ?_
        refine Eq.trans (jb_nx (i := .aload_n 0) (n := 1) (q := (110, [some (.ref p0), some (.ref p1), some (.int x5)], [.ref p0])) (jq qX13_isValue 61 rfl) rfl) ?_
        refine Eq.trans (jb_nx (i := .aload_n 1) (n := 1) (q := (111, [some (.ref p0), some (.ref p1), some (.int x5)], [.ref p1, .ref p0])) (jq qX13_isValue 62 rfl) rfl) ?_
        refine Eq.trans (jb_nx (i := .iload_n 2) (n := 1) (q := (112, [some (.ref p0), some (.ref p1), some (.int x5)], [.int x5, .ref p1, .ref p0])) (jq qX13_isValue 63 rfl) rfl) ?_
        obtain ⟨b14, H⟩ := jm_O_inv H
        rcases jcI H with ⟨x12, h10, r11, H⟩ | ⟨w15, h16, r11, H⟩
        · refine Eq.trans (jb_nx (i := .invokevirtual 399) (n := 3) (q := (115, [some (.ref p0), some (.ref p1), some (.int x5)], [.int x12])) (jq qX13_isValue 64 rfl) (jo_cv (y := mX13_isOfTwo) rfl (Nat.le_of_ble_eq_true rfl) rfl (Nat.le_of_ble_eq_true rfl) b14 rfl r11 jo_ret)) ?_
          obtain ⟨u13, H⟩ := jm_Y_inv H
          exact Eq.trans (jb_rt (i := .ireturn) (n := 1) (jq qX13_isValue 65 rfl) (jo_iret rfl u13)) H
        · exact Eq.trans (jb_rt (i := .invokevirtual 399) (n := 3) (jq qX13_isValue 64 rfl) (jo_cv (y := mX13_isOfTwo) rfl (Nat.le_of_ble_eq_true rfl) rfl (Nat.le_of_ble_eq_true rfl) b14 rfl r11 (jo_exn rfl))) H
      · rw [if_neg c9] at H
        refine Eq.trans (jb_nx (i := .if_icmp .eq 9) (n := 3) (q := (103, [some (.ref p0), some (.ref p1), some (.int x5)], [])) (jq qX13_isValue 57 rfl) (jo_icF (jz_eqF c9))) ?_
        refine Eq.trans (jb_nx (i := .iload_n 2) (n := 1) (q := (104, [some (.ref p0), some (.ref p1), some (.int x5)], [.int x5])) (jq qX13_isValue 58 rfl) rfl) ?_
        refine Eq.trans (jb_nx (i := .bipush 19) (n := 2) (q := (106, [some (.ref p0), some (.ref p1), some (.int x5)], [.int 19, .int x5])) (jq qX13_isValue 59 rfl) rfl) ?_
        by_cases c17 : x5 = 19
        · rw [if_pos c17] at H
          refine Eq.trans (jb_nx (i := .if_icmp .ne 10) (n := 3) (q := (109, [some (.ref p0), some (.ref p1), some (.int x5)], [])) (jq qX13_isValue 60 rfl) (jo_icF (jz_neF c17))) ?_
          refine Eq.trans (jb_nx (i := .aload_n 0) (n := 1) (q := (110, [some (.ref p0), some (.ref p1), some (.int x5)], [.ref p0])) (jq qX13_isValue 61 rfl) rfl) ?_
          refine Eq.trans (jb_nx (i := .aload_n 1) (n := 1) (q := (111, [some (.ref p0), some (.ref p1), some (.int x5)], [.ref p1, .ref p0])) (jq qX13_isValue 62 rfl) rfl) ?_
          refine Eq.trans (jb_nx (i := .iload_n 2) (n := 1) (q := (112, [some (.ref p0), some (.ref p1), some (.int x5)], [.int x5, .ref p1, .ref p0])) (jq qX13_isValue 63 rfl) rfl) ?_
          obtain ⟨b49, H⟩ := jm_O_inv H
          rcases jcI H with ⟨x47, h45, r46, H⟩ | ⟨w50, h51, r46, H⟩
          · refine Eq.trans (jb_nx (i := .invokevirtual 399) (n := 3) (q := (115, [some (.ref p0), some (.ref p1), some (.int x5)], [.int x47])) (jq qX13_isValue 64 rfl) (jo_cv (y := mX13_isOfTwo) rfl (Nat.le_of_ble_eq_true rfl) rfl (Nat.le_of_ble_eq_true rfl) b49 rfl r46 jo_ret)) ?_
            obtain ⟨u48, H⟩ := jm_Y_inv H
            exact Eq.trans (jb_rt (i := .ireturn) (n := 1) (jq qX13_isValue 65 rfl) (jo_iret rfl u48)) H
          · exact Eq.trans (jb_rt (i := .invokevirtual 399) (n := 3) (jq qX13_isValue 64 rfl) (jo_cv (y := mX13_isOfTwo) rfl (Nat.le_of_ble_eq_true rfl) rfl (Nat.le_of_ble_eq_true rfl) b49 rfl r46 (jo_exn rfl))) H
        · rw [if_neg c17] at H
          refine Eq.trans (jb_nx (i := .if_icmp .ne 10) (n := 3) (q := (116, [some (.ref p0), some (.ref p1), some (.int x5)], [])) (jq qX13_isValue 60 rfl) (jo_icT (jz_neT c17) rfl)) ?_
          refine Eq.trans (jb_nx (i := .iload_n 2) (n := 1) (q := (117, [some (.ref p0), some (.ref p1), some (.int x5)], [.int x5])) (jq qX13_isValue 66 rfl) rfl) ?_
          refine Eq.trans (jb_nx (i := .bipush 10) (n := 2) (q := (119, [some (.ref p0), some (.ref p1), some (.int x5)], [.int 10, .int x5])) (jq qX13_isValue 67 rfl) rfl) ?_
          by_cases c18 : x5 = 10
          · rw [if_pos c18] at H
            refine Eq.trans (jb_nx (i := .if_icmp .eq 15) (n := 3) (q := (134, [some (.ref p0), some (.ref p1), some (.int x5)], [])) (jq qX13_isValue 68 rfl) (jo_icT (jz_eqT c18) rfl)) ?_
            exact H
          · rw [if_neg c18] at H
            refine Eq.trans (jb_nx (i := .if_icmp .eq 15) (n := 3) (q := (122, [some (.ref p0), some (.ref p1), some (.int x5)], [])) (jq qX13_isValue 68 rfl) (jo_icF (jz_eqF c18))) ?_
            refine Eq.trans (jb_nx (i := .iload_n 2) (n := 1) (q := (123, [some (.ref p0), some (.ref p1), some (.int x5)], [.int x5])) (jq qX13_isValue 69 rfl) rfl) ?_
            refine Eq.trans (jb_nx (i := .bipush 11) (n := 2) (q := (125, [some (.ref p0), some (.ref p1), some (.int x5)], [.int 11, .int x5])) (jq qX13_isValue 70 rfl) rfl) ?_
            by_cases c19 : x5 = 11
            · rw [if_pos c19] at H
              refine Eq.trans (jb_nx (i := .if_icmp .eq 9) (n := 3) (q := (134, [some (.ref p0), some (.ref p1), some (.int x5)], [])) (jq qX13_isValue 71 rfl) (jo_icT (jz_eqT c19) rfl)) ?_
              exact H
            · rw [if_neg c19] at H
              refine Eq.trans (jb_nx (i := .if_icmp .eq 9) (n := 3) (q := (128, [some (.ref p0), some (.ref p1), some (.int x5)], [])) (jq qX13_isValue 71 rfl) (jo_icF (jz_eqF c19))) ?_
              refine Eq.trans (jb_nx (i := .iload_n 2) (n := 1) (q := (129, [some (.ref p0), some (.ref p1), some (.int x5)], [.int x5])) (jq qX13_isValue 72 rfl) rfl) ?_
              refine Eq.trans (jb_nx (i := .bipush 12) (n := 2) (q := (131, [some (.ref p0), some (.ref p1), some (.int x5)], [.int 12, .int x5])) (jq qX13_isValue 73 rfl) rfl) ?_
              by_cases c20 : x5 = 12
              · rw [if_pos c20] at H
                refine Eq.trans (jb_nx (i := .if_icmp .ne 31) (n := 3) (q := (134, [some (.ref p0), some (.ref p1), some (.int x5)], [])) (jq qX13_isValue 74 rfl) (jo_icF (jz_neF c20))) ?_
                exact H
              · rw [if_neg c20] at H
                refine Eq.trans (jb_nx (i := .if_icmp .ne 31) (n := 3) (q := (162, [some (.ref p0), some (.ref p1), some (.int x5)], [])) (jq qX13_isValue 74 rfl) (jo_icT (jz_neT c20) rfl)) ?_
                refine Eq.trans (jb_nx (i := .iload_n 2) (n := 1) (q := (163, [some (.ref p0), some (.ref p1), some (.int x5)], [.int x5])) (jq qX13_isValue 93 rfl) rfl) ?_
                refine Eq.trans (jb_nx (i := .bipush 31) (n := 2) (q := (165, [some (.ref p0), some (.ref p1), some (.int x5)], [.int 31, .int x5])) (jq qX13_isValue 94 rfl) rfl) ?_
                by_cases c21 : x5 = 31
                · rw [if_pos c21] at H
                  refine Eq.trans (jb_nx (i := .if_icmp .ne 21) (n := 3) (q := (168, [some (.ref p0), some (.ref p1), some (.int x5)], [])) (jq qX13_isValue 95 rfl) (jo_icF (jz_neF c21))) ?_
                  refine Eq.trans (jb_nx (i := .aload_n 0) (n := 1) (q := (169, [some (.ref p0), some (.ref p1), some (.int x5)], [.ref p0])) (jq qX13_isValue 96 rfl) rfl) ?_
                  refine Eq.trans (jb_nx (i := .aload_n 1) (n := 1) (q := (170, [some (.ref p0), some (.ref p1), some (.int x5)], [.ref p1, .ref p0])) (jq qX13_isValue 97 rfl) rfl) ?_
                  refine Eq.trans (jb_nx (i := .bipush 100) (n := 2) (q := (172, [some (.ref p0), some (.ref p1), some (.int x5)], [.int 100, .ref p1, .ref p0])) (jq qX13_isValue 98 rfl) rfl) ?_
                  refine Eq.trans (jb_nx (i := .aload_n 1) (n := 1) (q := (173, [some (.ref p0), some (.ref p1), some (.int x5)], [.ref p1, .int 100, .ref p1, .ref p0])) (jq qX13_isValue 99 rfl) rfl) ?_
                  obtain ⟨a28, e29, H⟩ := jbd H
                  refine Eq.trans (jb_nx (i := .getfield 310) (n := 3) (q := (176, [some (.ref p0), some (.ref p1), some (.int x5)], [.ref a28, .int 100, .ref p1, .ref p0])) (jq qX13_isValue 100 rfl) (jo_gf rfl (jr_R_inv e29))) ?_
                  refine Eq.trans (jb_nx (i := .aload_n 0) (n := 1) (q := (177, [some (.ref p0), some (.ref p1), some (.int x5)], [.ref p0, .ref a28, .int 100, .ref p1, .ref p0])) (jq qX13_isValue 101 rfl) rfl) ?_
                  obtain ⟨x30, e31, H⟩ := jbd H
                  refine Eq.trans (jb_nx (i := .getfield 329) (n := 3) (q := (180, [some (.ref p0), some (.ref p1), some (.int x5)], [.int x30, .ref a28, .int 100, .ref p1, .ref p0])) (jq qX13_isValue 102 rfl) (jo_gf rfl (jr_I_inv e31))) ?_
                  obtain ⟨y32, e33, H⟩ := jbd H
                  refine Eq.trans (jb_nx (i := .laload) (n := 1) (q := (181, [some (.ref p0), some (.ref p1), some (.int x5)], [.long y32, .int 100, .ref p1, .ref p0])) (jq qX13_isValue 103 rfl) (jo_lal e33)) ?_
                  refine Eq.trans (jb_nx (i := .l2i) (n := 1) (q := (182, [some (.ref p0), some (.ref p1), some (.int x5)], [.int (Int64.toInt32 y32), .int 100, .ref p1, .ref p0])) (jq qX13_isValue 104 rfl) rfl) ?_
                  refine Eq.trans (jb_nx (i := .iconst (-1)) (n := 1) (q := (183, [some (.ref p0), some (.ref p1), some (.int x5)], [.int (-1), .int (Int64.toInt32 y32), .int 100, .ref p1, .ref p0])) (jq qX13_isValue 105 rfl) rfl) ?_
                  obtain ⟨b42, H⟩ := jm_O_inv H
                  rcases jcV H with ⟨h34, r35, H⟩ | ⟨w43, h44, r35, H⟩
                  · refine Eq.trans (jb_nx (i := .invokevirtual 378) (n := 3) (q := (186, [some (.ref p0), some (.ref p1), some (.int x5)], [])) (jq qX13_isValue 106 rfl) (jo_cv (y := mX13_order) rfl (Nat.le_of_ble_eq_true rfl) rfl (Nat.le_of_ble_eq_true rfl) b42 rfl r35 jo_ret)) ?_
                    refine Eq.trans (jb_nx (i := .iload_n 2) (n := 1) (q := (187, [some (.ref p0), some (.ref p1), some (.int x5)], [.int x5])) (jq qX13_isValue 107 rfl) rfl) ?_
                    refine Eq.trans (jb_nx (i := .bipush 9) (n := 2) (q := (189, [some (.ref p0), some (.ref p1), some (.int x5)], [.int 9, .int x5])) (jq qX13_isValue 108 rfl) rfl) ?_
                    by_cases c36 : x5 = 9
                    · rw [if_pos c36] at H
                      refine Eq.trans (jb_nx (i := .if_icmp .ne 12) (n := 3) (q := (192, [some (.ref p0), some (.ref p1), some (.int x5)], [])) (jq qX13_isValue 109 rfl) (jo_icF (jz_neF c36))) ?_
                      refine Eq.trans (jb_nx (i := .aload_n 0) (n := 1) (q := (193, [some (.ref p0), some (.ref p1), some (.int x5)], [.ref p0])) (jq qX13_isValue 110 rfl) rfl) ?_
                      refine Eq.trans (jb_nx (i := .aload_n 1) (n := 1) (q := (194, [some (.ref p0), some (.ref p1), some (.int x5)], [.ref p1, .ref p0])) (jq qX13_isValue 111 rfl) rfl) ?_
                      refine Eq.trans (jb_nx (i := .bipush 9) (n := 2) (q := (196, [some (.ref p0), some (.ref p1), some (.int x5)], [.int 9, .ref p1, .ref p0])) (jq qX13_isValue 112 rfl) rfl) ?_
                      refine Eq.trans (jb_nx (i := .iconst 0) (n := 1) (q := (197, [some (.ref p0), some (.ref p1), some (.int x5)], [.int 0, .int 9, .ref p1, .ref p0])) (jq qX13_isValue 113 rfl) rfl) ?_
                      refine Eq.trans (jb_nx (i := .iconst (-1)) (n := 1) (q := (198, [some (.ref p0), some (.ref p1), some (.int x5)], [.int (-1), .int 0, .int 9, .ref p1, .ref p0])) (jq qX13_isValue 114 rfl) rfl) ?_
                      obtain ⟨b39, H⟩ := jm_O_inv H
                      rcases jcV H with ⟨h37, r38, H⟩ | ⟨w40, h41, r38, H⟩
                      · refine Eq.trans (jb_nx (i := .invokevirtual 378) (n := 3) (q := (201, [some (.ref p0), some (.ref p1), some (.int x5)], [])) (jq qX13_isValue 115 rfl) (jo_cv (y := mX13_order) rfl (Nat.le_of_ble_eq_true rfl) rfl (Nat.le_of_ble_eq_true rfl) b39 rfl r38 jo_ret)) ?_
                        exact H
                      · exact Eq.trans (jb_rt (i := .invokevirtual 378) (n := 3) (jq qX13_isValue 115 rfl) (jo_cv (y := mX13_order) rfl (Nat.le_of_ble_eq_true rfl) rfl (Nat.le_of_ble_eq_true rfl) b39 rfl r38 (jo_exn rfl))) H
                    · rw [if_neg c36] at H
                      refine Eq.trans (jb_nx (i := .if_icmp .ne 12) (n := 3) (q := (201, [some (.ref p0), some (.ref p1), some (.int x5)], [])) (jq qX13_isValue 109 rfl) (jo_icT (jz_neT c36) rfl)) ?_
                      exact H
                  · exact Eq.trans (jb_rt (i := .invokevirtual 378) (n := 3) (jq qX13_isValue 106 rfl) (jo_cv (y := mX13_order) rfl (Nat.le_of_ble_eq_true rfl) rfl (Nat.le_of_ble_eq_true rfl) b42 rfl r35 (jo_exn rfl))) H
                · rw [if_neg c21] at H
                  refine Eq.trans (jb_nx (i := .if_icmp .ne 21) (n := 3) (q := (186, [some (.ref p0), some (.ref p1), some (.int x5)], [])) (jq qX13_isValue 95 rfl) (jo_icT (jz_neT c21) rfl)) ?_
                  refine Eq.trans (jb_nx (i := .iload_n 2) (n := 1) (q := (187, [some (.ref p0), some (.ref p1), some (.int x5)], [.int x5])) (jq qX13_isValue 107 rfl) rfl) ?_
                  refine Eq.trans (jb_nx (i := .bipush 9) (n := 2) (q := (189, [some (.ref p0), some (.ref p1), some (.int x5)], [.int 9, .int x5])) (jq qX13_isValue 108 rfl) rfl) ?_
                  by_cases c22 : x5 = 9
                  · rw [if_pos c22] at H
                    refine Eq.trans (jb_nx (i := .if_icmp .ne 12) (n := 3) (q := (192, [some (.ref p0), some (.ref p1), some (.int x5)], [])) (jq qX13_isValue 109 rfl) (jo_icF (jz_neF c22))) ?_
                    refine Eq.trans (jb_nx (i := .aload_n 0) (n := 1) (q := (193, [some (.ref p0), some (.ref p1), some (.int x5)], [.ref p0])) (jq qX13_isValue 110 rfl) rfl) ?_
                    refine Eq.trans (jb_nx (i := .aload_n 1) (n := 1) (q := (194, [some (.ref p0), some (.ref p1), some (.int x5)], [.ref p1, .ref p0])) (jq qX13_isValue 111 rfl) rfl) ?_
                    refine Eq.trans (jb_nx (i := .bipush 9) (n := 2) (q := (196, [some (.ref p0), some (.ref p1), some (.int x5)], [.int 9, .ref p1, .ref p0])) (jq qX13_isValue 112 rfl) rfl) ?_
                    refine Eq.trans (jb_nx (i := .iconst 0) (n := 1) (q := (197, [some (.ref p0), some (.ref p1), some (.int x5)], [.int 0, .int 9, .ref p1, .ref p0])) (jq qX13_isValue 113 rfl) rfl) ?_
                    refine Eq.trans (jb_nx (i := .iconst (-1)) (n := 1) (q := (198, [some (.ref p0), some (.ref p1), some (.int x5)], [.int (-1), .int 0, .int 9, .ref p1, .ref p0])) (jq qX13_isValue 114 rfl) rfl) ?_
                    obtain ⟨b25, H⟩ := jm_O_inv H
                    rcases jcV H with ⟨h23, r24, H⟩ | ⟨w26, h27, r24, H⟩
                    · refine Eq.trans (jb_nx (i := .invokevirtual 378) (n := 3) (q := (201, [some (.ref p0), some (.ref p1), some (.int x5)], [])) (jq qX13_isValue 115 rfl) (jo_cv (y := mX13_order) rfl (Nat.le_of_ble_eq_true rfl) rfl (Nat.le_of_ble_eq_true rfl) b25 rfl r24 jo_ret)) ?_
                      exact H
                    · exact Eq.trans (jb_rt (i := .invokevirtual 378) (n := 3) (jq qX13_isValue 115 rfl) (jo_cv (y := mX13_order) rfl (Nat.le_of_ble_eq_true rfl) rfl (Nat.le_of_ble_eq_true rfl) b25 rfl r24 (jo_exn rfl))) H
                  · rw [if_neg c22] at H
                    refine Eq.trans (jb_nx (i := .if_icmp .ne 12) (n := 3) (q := (201, [some (.ref p0), some (.ref p1), some (.int x5)], [])) (jq qX13_isValue 109 rfl) (jo_icT (jz_neT c22) rfl)) ?_
                    exact H
/-! MaskPlaysModel isOfTwo (LMaskPlaysModel$Book;I)Z -/
def tX13_isOfTwo : List (Nat × Instr × Nat) := [(0, .aload_n 0, 1), (1, .dup, 1), (2, .getfield 329, 3), (5, .iconst 1, 1), (6, .iadd, 1), (7, .putfield 329, 3), (10, .aload_n 0, 1), (11, .aload_n 1, 1), (12, .bipush 40, 2), (14, .invokevirtual 363, 3), (17, .ifCond .eq 39, 3), (20, .aload_n 0, 1), (21, .aload_n 1, 1), (22, .invokevirtual 390, 3), (25, .ifCond .eq 31, 3), (28, .aload_n 0, 1), (29, .aload_n 1, 1), (30, .bipush 44, 2), (32, .invokevirtual 340, 3), (35, .ifCond .eq 21, 3), (38, .aload_n 0, 1), (39, .aload_n 1, 1), (40, .invokevirtual 390, 3), (43, .ifCond .eq 13, 3), (46, .aload_n 0, 1), (47, .aload_n 1, 1), (48, .bipush 41, 2), (50, .invokevirtual 369, 3), (53, .ifCond .ne 5, 3), (56, .iconst 0, 1), (57, .ireturn, 1), (58, .aload_n 0, 1), (59, .aload_n 1, 1), (60, .iload_n 2, 1), (61, .iconst 0, 1), (62, .iconst (-1), 1), (63, .invokevirtual 378, 3), (66, .iconst 1, 1), (67, .ireturn, 1)]
set_option maxRecDepth 100000 in
theorem qX13_isOfTwo : ∀ q ∈ tX13_isOfTwo, decode cX13_isOfTwo q.1 = .ok (q.2.1, q.2.2) := by decide +kernel
theorem gX13_isOfTwo {d : Nat} {p0 : Nat} {p1 : Nat} {i2 : Int32} {h : jm_H} {r : jm_R} (H : ((jr_I h p0 12 5 0).bind fun x1 => (jm_pf h p0 12 5 0 (.int (x1 + 1))).bind fun h3 => jm_O h3 p0 13 (jc_I (jm_D d mX13_deeper [.ref p0, .ref p1, .int 40] h3) (fun x7 h5 => (if x7 = 0 then some (.inl (some (.int 0)), h5) else jm_O h5 p0 13 (jc_I (jm_D d mX13_isSum [.ref p0, .ref p1] h5) (fun x11 h9 => (if x11 = 0 then some (.inl (some (.int 0)), h9) else jm_O h9 p0 13 (jc_I (jm_D d mX13_eat [.ref p0, .ref p1, .int 44] h9) (fun x15 h13 => (if x15 = 0 then some (.inl (some (.int 0)), h13) else jm_O h13 p0 13 (jc_I (jm_D d mX13_isSum [.ref p0, .ref p1] h13) (fun x19 h17 => (if x19 = 0 then some (.inl (some (.int 0)), h17) else jm_O h17 p0 13 (jc_I (jm_D d mX13_closes [.ref p0, .ref p1, .int 41] h17) (fun x23 h21 => (if x23 = 0 then some (.inl (some (.int 0)), h21) else jm_O h21 p0 13 (jc_V (jm_D d mX13_order [.ref p0, .ref p1, .int i2, .int 0, .int (-1)] h21) (fun h25 => some (.inl (some (.int 1)), h25)) jx))) jx))) jx))) jx))) jx))) jx)) = some r) : jm_D (d + 1) mX13_isOfTwo [.ref p0, .ref p1, .int i2] h = some r := by
  rw [jm_D_body (Nat.le_of_ble_eq_true rfl)]
  show jm_B d mX13_isOfTwo (0, [some (.ref p0), some (.ref p1), some (.int i2)], []) h = some r
  refine Eq.trans (jb_nx (i := .aload_n 0) (n := 1) (q := (1, [some (.ref p0), some (.ref p1), some (.int i2)], [.ref p0])) (jq qX13_isOfTwo 0 rfl) rfl) ?_
  refine Eq.trans (jb_nx (i := .dup) (n := 1) (q := (2, [some (.ref p0), some (.ref p1), some (.int i2)], [.ref p0, .ref p0])) (jq qX13_isOfTwo 1 rfl) rfl) ?_
  obtain ⟨x1, e2, H⟩ := jbd H
  refine Eq.trans (jb_nx (i := .getfield 329) (n := 3) (q := (5, [some (.ref p0), some (.ref p1), some (.int i2)], [.int x1, .ref p0])) (jq qX13_isOfTwo 2 rfl) (jo_gf rfl (jr_I_inv e2))) ?_
  refine Eq.trans (jb_nx (i := .iconst 1) (n := 1) (q := (6, [some (.ref p0), some (.ref p1), some (.int i2)], [.int 1, .int x1, .ref p0])) (jq qX13_isOfTwo 3 rfl) rfl) ?_
  refine Eq.trans (jb_nx (i := .iadd) (n := 1) (q := (7, [some (.ref p0), some (.ref p1), some (.int i2)], [.int (x1 + 1), .ref p0])) (jq qX13_isOfTwo 4 rfl) rfl) ?_
  obtain ⟨h3, e4, H⟩ := jbd H
  refine Eq.trans (jb_nx (i := .putfield 329) (n := 3) (q := (10, [some (.ref p0), some (.ref p1), some (.int i2)], [])) (jq qX13_isOfTwo 5 rfl) (jo_pf rfl (Or.inl rfl) e4)) ?_
  refine Eq.trans (jb_nx (i := .aload_n 0) (n := 1) (q := (11, [some (.ref p0), some (.ref p1), some (.int i2)], [.ref p0])) (jq qX13_isOfTwo 6 rfl) rfl) ?_
  refine Eq.trans (jb_nx (i := .aload_n 1) (n := 1) (q := (12, [some (.ref p0), some (.ref p1), some (.int i2)], [.ref p1, .ref p0])) (jq qX13_isOfTwo 7 rfl) rfl) ?_
  refine Eq.trans (jb_nx (i := .bipush 40) (n := 2) (q := (14, [some (.ref p0), some (.ref p1), some (.int i2)], [.int 40, .ref p1, .ref p0])) (jq qX13_isOfTwo 8 rfl) rfl) ?_
  obtain ⟨b42, H⟩ := jm_O_inv H
  rcases jcI H with ⟨x7, h5, r6, H⟩ | ⟨w43, h44, r6, H⟩
  · refine Eq.trans (jb_nx (i := .invokevirtual 363) (n := 3) (q := (17, [some (.ref p0), some (.ref p1), some (.int i2)], [.int x7])) (jq qX13_isOfTwo 9 rfl) (jo_cv (y := mX13_deeper) rfl (Nat.le_of_ble_eq_true rfl) rfl (Nat.le_of_ble_eq_true rfl) b42 rfl r6 jo_ret)) ?_
    by_cases c8 : x7 = 0
    · rw [if_pos c8] at H
      refine Eq.trans (jb_nx (i := .ifCond .eq 39) (n := 3) (q := (56, [some (.ref p0), some (.ref p1), some (.int i2)], [])) (jq qX13_isOfTwo 10 rfl) (jo_ifT (jz_eqT c8) rfl)) ?_
      refine Eq.trans (jb_nx (i := .iconst 0) (n := 1) (q := (57, [some (.ref p0), some (.ref p1), some (.int i2)], [.int 0])) (jq qX13_isOfTwo 29 rfl) rfl) ?_
      exact Eq.trans (jb_rt (i := .ireturn) (n := 1) (jq qX13_isOfTwo 30 rfl) (jo_iret rfl (by decide))) H
    · rw [if_neg c8] at H
      refine Eq.trans (jb_nx (i := .ifCond .eq 39) (n := 3) (q := (20, [some (.ref p0), some (.ref p1), some (.int i2)], [])) (jq qX13_isOfTwo 10 rfl) (jo_ifF (jz_eqF c8))) ?_
      refine Eq.trans (jb_nx (i := .aload_n 0) (n := 1) (q := (21, [some (.ref p0), some (.ref p1), some (.int i2)], [.ref p0])) (jq qX13_isOfTwo 11 rfl) rfl) ?_
      refine Eq.trans (jb_nx (i := .aload_n 1) (n := 1) (q := (22, [some (.ref p0), some (.ref p1), some (.int i2)], [.ref p1, .ref p0])) (jq qX13_isOfTwo 12 rfl) rfl) ?_
      obtain ⟨b39, H⟩ := jm_O_inv H
      rcases jcI H with ⟨x11, h9, r10, H⟩ | ⟨w40, h41, r10, H⟩
      · refine Eq.trans (jb_nx (i := .invokevirtual 390) (n := 3) (q := (25, [some (.ref p0), some (.ref p1), some (.int i2)], [.int x11])) (jq qX13_isOfTwo 13 rfl) (jo_cv (y := mX13_isSum) rfl (Nat.le_of_ble_eq_true rfl) rfl (Nat.le_of_ble_eq_true rfl) b39 rfl r10 jo_ret)) ?_
        by_cases c12 : x11 = 0
        · rw [if_pos c12] at H
          refine Eq.trans (jb_nx (i := .ifCond .eq 31) (n := 3) (q := (56, [some (.ref p0), some (.ref p1), some (.int i2)], [])) (jq qX13_isOfTwo 14 rfl) (jo_ifT (jz_eqT c12) rfl)) ?_
          refine Eq.trans (jb_nx (i := .iconst 0) (n := 1) (q := (57, [some (.ref p0), some (.ref p1), some (.int i2)], [.int 0])) (jq qX13_isOfTwo 29 rfl) rfl) ?_
          exact Eq.trans (jb_rt (i := .ireturn) (n := 1) (jq qX13_isOfTwo 30 rfl) (jo_iret rfl (by decide))) H
        · rw [if_neg c12] at H
          refine Eq.trans (jb_nx (i := .ifCond .eq 31) (n := 3) (q := (28, [some (.ref p0), some (.ref p1), some (.int i2)], [])) (jq qX13_isOfTwo 14 rfl) (jo_ifF (jz_eqF c12))) ?_
          refine Eq.trans (jb_nx (i := .aload_n 0) (n := 1) (q := (29, [some (.ref p0), some (.ref p1), some (.int i2)], [.ref p0])) (jq qX13_isOfTwo 15 rfl) rfl) ?_
          refine Eq.trans (jb_nx (i := .aload_n 1) (n := 1) (q := (30, [some (.ref p0), some (.ref p1), some (.int i2)], [.ref p1, .ref p0])) (jq qX13_isOfTwo 16 rfl) rfl) ?_
          refine Eq.trans (jb_nx (i := .bipush 44) (n := 2) (q := (32, [some (.ref p0), some (.ref p1), some (.int i2)], [.int 44, .ref p1, .ref p0])) (jq qX13_isOfTwo 17 rfl) rfl) ?_
          obtain ⟨b36, H⟩ := jm_O_inv H
          rcases jcI H with ⟨x15, h13, r14, H⟩ | ⟨w37, h38, r14, H⟩
          · refine Eq.trans (jb_nx (i := .invokevirtual 340) (n := 3) (q := (35, [some (.ref p0), some (.ref p1), some (.int i2)], [.int x15])) (jq qX13_isOfTwo 18 rfl) (jo_cv (y := mX13_eat) rfl (Nat.le_of_ble_eq_true rfl) rfl (Nat.le_of_ble_eq_true rfl) b36 rfl r14 jo_ret)) ?_
            by_cases c16 : x15 = 0
            · rw [if_pos c16] at H
              refine Eq.trans (jb_nx (i := .ifCond .eq 21) (n := 3) (q := (56, [some (.ref p0), some (.ref p1), some (.int i2)], [])) (jq qX13_isOfTwo 19 rfl) (jo_ifT (jz_eqT c16) rfl)) ?_
              refine Eq.trans (jb_nx (i := .iconst 0) (n := 1) (q := (57, [some (.ref p0), some (.ref p1), some (.int i2)], [.int 0])) (jq qX13_isOfTwo 29 rfl) rfl) ?_
              exact Eq.trans (jb_rt (i := .ireturn) (n := 1) (jq qX13_isOfTwo 30 rfl) (jo_iret rfl (by decide))) H
            · rw [if_neg c16] at H
              refine Eq.trans (jb_nx (i := .ifCond .eq 21) (n := 3) (q := (38, [some (.ref p0), some (.ref p1), some (.int i2)], [])) (jq qX13_isOfTwo 19 rfl) (jo_ifF (jz_eqF c16))) ?_
              refine Eq.trans (jb_nx (i := .aload_n 0) (n := 1) (q := (39, [some (.ref p0), some (.ref p1), some (.int i2)], [.ref p0])) (jq qX13_isOfTwo 20 rfl) rfl) ?_
              refine Eq.trans (jb_nx (i := .aload_n 1) (n := 1) (q := (40, [some (.ref p0), some (.ref p1), some (.int i2)], [.ref p1, .ref p0])) (jq qX13_isOfTwo 21 rfl) rfl) ?_
              obtain ⟨b33, H⟩ := jm_O_inv H
              rcases jcI H with ⟨x19, h17, r18, H⟩ | ⟨w34, h35, r18, H⟩
              · refine Eq.trans (jb_nx (i := .invokevirtual 390) (n := 3) (q := (43, [some (.ref p0), some (.ref p1), some (.int i2)], [.int x19])) (jq qX13_isOfTwo 22 rfl) (jo_cv (y := mX13_isSum) rfl (Nat.le_of_ble_eq_true rfl) rfl (Nat.le_of_ble_eq_true rfl) b33 rfl r18 jo_ret)) ?_
                by_cases c20 : x19 = 0
                · rw [if_pos c20] at H
                  refine Eq.trans (jb_nx (i := .ifCond .eq 13) (n := 3) (q := (56, [some (.ref p0), some (.ref p1), some (.int i2)], [])) (jq qX13_isOfTwo 23 rfl) (jo_ifT (jz_eqT c20) rfl)) ?_
                  refine Eq.trans (jb_nx (i := .iconst 0) (n := 1) (q := (57, [some (.ref p0), some (.ref p1), some (.int i2)], [.int 0])) (jq qX13_isOfTwo 29 rfl) rfl) ?_
                  exact Eq.trans (jb_rt (i := .ireturn) (n := 1) (jq qX13_isOfTwo 30 rfl) (jo_iret rfl (by decide))) H
                · rw [if_neg c20] at H
                  refine Eq.trans (jb_nx (i := .ifCond .eq 13) (n := 3) (q := (46, [some (.ref p0), some (.ref p1), some (.int i2)], [])) (jq qX13_isOfTwo 23 rfl) (jo_ifF (jz_eqF c20))) ?_
                  refine Eq.trans (jb_nx (i := .aload_n 0) (n := 1) (q := (47, [some (.ref p0), some (.ref p1), some (.int i2)], [.ref p0])) (jq qX13_isOfTwo 24 rfl) rfl) ?_
                  refine Eq.trans (jb_nx (i := .aload_n 1) (n := 1) (q := (48, [some (.ref p0), some (.ref p1), some (.int i2)], [.ref p1, .ref p0])) (jq qX13_isOfTwo 25 rfl) rfl) ?_
                  refine Eq.trans (jb_nx (i := .bipush 41) (n := 2) (q := (50, [some (.ref p0), some (.ref p1), some (.int i2)], [.int 41, .ref p1, .ref p0])) (jq qX13_isOfTwo 26 rfl) rfl) ?_
                  obtain ⟨b30, H⟩ := jm_O_inv H
                  rcases jcI H with ⟨x23, h21, r22, H⟩ | ⟨w31, h32, r22, H⟩
                  · refine Eq.trans (jb_nx (i := .invokevirtual 369) (n := 3) (q := (53, [some (.ref p0), some (.ref p1), some (.int i2)], [.int x23])) (jq qX13_isOfTwo 27 rfl) (jo_cv (y := mX13_closes) rfl (Nat.le_of_ble_eq_true rfl) rfl (Nat.le_of_ble_eq_true rfl) b30 rfl r22 jo_ret)) ?_
                    by_cases c24 : x23 = 0
                    · rw [if_pos c24] at H
                      refine Eq.trans (jb_nx (i := .ifCond .ne 5) (n := 3) (q := (56, [some (.ref p0), some (.ref p1), some (.int i2)], [])) (jq qX13_isOfTwo 28 rfl) (jo_ifF (jz_neF c24))) ?_
                      refine Eq.trans (jb_nx (i := .iconst 0) (n := 1) (q := (57, [some (.ref p0), some (.ref p1), some (.int i2)], [.int 0])) (jq qX13_isOfTwo 29 rfl) rfl) ?_
                      exact Eq.trans (jb_rt (i := .ireturn) (n := 1) (jq qX13_isOfTwo 30 rfl) (jo_iret rfl (by decide))) H
                    · rw [if_neg c24] at H
                      refine Eq.trans (jb_nx (i := .ifCond .ne 5) (n := 3) (q := (58, [some (.ref p0), some (.ref p1), some (.int i2)], [])) (jq qX13_isOfTwo 28 rfl) (jo_ifT (jz_neT c24) rfl)) ?_
                      refine Eq.trans (jb_nx (i := .aload_n 0) (n := 1) (q := (59, [some (.ref p0), some (.ref p1), some (.int i2)], [.ref p0])) (jq qX13_isOfTwo 31 rfl) rfl) ?_
                      refine Eq.trans (jb_nx (i := .aload_n 1) (n := 1) (q := (60, [some (.ref p0), some (.ref p1), some (.int i2)], [.ref p1, .ref p0])) (jq qX13_isOfTwo 32 rfl) rfl) ?_
                      refine Eq.trans (jb_nx (i := .iload_n 2) (n := 1) (q := (61, [some (.ref p0), some (.ref p1), some (.int i2)], [.int i2, .ref p1, .ref p0])) (jq qX13_isOfTwo 33 rfl) rfl) ?_
                      refine Eq.trans (jb_nx (i := .iconst 0) (n := 1) (q := (62, [some (.ref p0), some (.ref p1), some (.int i2)], [.int 0, .int i2, .ref p1, .ref p0])) (jq qX13_isOfTwo 34 rfl) rfl) ?_
                      refine Eq.trans (jb_nx (i := .iconst (-1)) (n := 1) (q := (63, [some (.ref p0), some (.ref p1), some (.int i2)], [.int (-1), .int 0, .int i2, .ref p1, .ref p0])) (jq qX13_isOfTwo 35 rfl) rfl) ?_
                      obtain ⟨b27, H⟩ := jm_O_inv H
                      rcases jcV H with ⟨h25, r26, H⟩ | ⟨w28, h29, r26, H⟩
                      · refine Eq.trans (jb_nx (i := .invokevirtual 378) (n := 3) (q := (66, [some (.ref p0), some (.ref p1), some (.int i2)], [])) (jq qX13_isOfTwo 36 rfl) (jo_cv (y := mX13_order) rfl (Nat.le_of_ble_eq_true rfl) rfl (Nat.le_of_ble_eq_true rfl) b27 rfl r26 jo_ret)) ?_
                        refine Eq.trans (jb_nx (i := .iconst 1) (n := 1) (q := (67, [some (.ref p0), some (.ref p1), some (.int i2)], [.int 1])) (jq qX13_isOfTwo 37 rfl) rfl) ?_
                        exact Eq.trans (jb_rt (i := .ireturn) (n := 1) (jq qX13_isOfTwo 38 rfl) (jo_iret rfl (by decide))) H
                      · exact Eq.trans (jb_rt (i := .invokevirtual 378) (n := 3) (jq qX13_isOfTwo 36 rfl) (jo_cv (y := mX13_order) rfl (Nat.le_of_ble_eq_true rfl) rfl (Nat.le_of_ble_eq_true rfl) b27 rfl r26 (jo_exn rfl))) H
                  · exact Eq.trans (jb_rt (i := .invokevirtual 369) (n := 3) (jq qX13_isOfTwo 27 rfl) (jo_cv (y := mX13_closes) rfl (Nat.le_of_ble_eq_true rfl) rfl (Nat.le_of_ble_eq_true rfl) b30 rfl r22 (jo_exn rfl))) H
              · exact Eq.trans (jb_rt (i := .invokevirtual 390) (n := 3) (jq qX13_isOfTwo 22 rfl) (jo_cv (y := mX13_isSum) rfl (Nat.le_of_ble_eq_true rfl) rfl (Nat.le_of_ble_eq_true rfl) b33 rfl r18 (jo_exn rfl))) H
          · exact Eq.trans (jb_rt (i := .invokevirtual 340) (n := 3) (jq qX13_isOfTwo 18 rfl) (jo_cv (y := mX13_eat) rfl (Nat.le_of_ble_eq_true rfl) rfl (Nat.le_of_ble_eq_true rfl) b36 rfl r14 (jo_exn rfl))) H
      · exact Eq.trans (jb_rt (i := .invokevirtual 390) (n := 3) (jq qX13_isOfTwo 13 rfl) (jo_cv (y := mX13_isSum) rfl (Nat.le_of_ble_eq_true rfl) rfl (Nat.le_of_ble_eq_true rfl) b39 rfl r10 (jo_exn rfl))) H
  · exact Eq.trans (jb_rt (i := .invokevirtual 363) (n := 3) (jq qX13_isOfTwo 9 rfl) (jo_cv (y := mX13_deeper) rfl (Nat.le_of_ble_eq_true rfl) rfl (Nat.le_of_ble_eq_true rfl) b42 rfl r6 (jo_exn rfl))) H
/-! MaskPlaysModel errorOf (LMaskPlaysModel$Book;I)I -/
def tX13_errorOf : List (Nat × Instr × Nat) := [(0, .aload_n 1, 1), (1, .getfield 310, 3), (4, .iload_n 2, 1), (5, .laload, 1), (6, .lstore_n 3, 1), (7, .aload_n 1, 1), (8, .getfield 332, 3), (11, .iload_n 2, 1), (12, .iaload, 1), (13, .tableswitch 217 1 7 #[43, 86, 119, 133, 155, 177, 202], 43), (56, .aload_n 1, 1), (57, .lload_n 3, 1), (58, .invokestatic 421, 3), (61, .ifCond .eq 5, 3), (64, .iconst 2, 1), (65, .ireturn, 1), (66, .aload_n 1, 1), (67, .getfield 411, 3), (70, .bipush 8, 2), (72, .if_icmp .ne 5, 3), (75, .iconst 4, 1), (76, .ireturn, 1), (77, .aload_n 1, 1), (78, .getfield 408, 3), (81, .aload_n 1, 1), (82, .getfield 411, 3), (85, .lload_n 3, 1), (86, .lastore, 1), (87, .aload_n 1, 1), (88, .dup, 1), (89, .getfield 411, 3), (92, .iconst 1, 1), (93, .iadd, 1), (94, .putfield 411, 3), (97, .iconst 0, 1), (98, .ireturn, 1), (99, .aload_n 1, 1), (100, .lload_n 3, 1), (101, .invokestatic 421, 3), (104, .ifCond .eq 5, 3), (107, .iconst 2, 1), (108, .ireturn, 1), (109, .aload_n 1, 1), (110, .getfield 71, 3), (113, .bipush 12, 2), (115, .if_icmp .ne 5, 3), (118, .iconst 4, 1), (119, .ireturn, 1), (120, .aload_n 0, 1), (121, .lload_n 3, 1), (122, .putfield 425, 3), (125, .aload_n 0, 1), (126, .iload_n 2, 1), (127, .putfield 429, 3), (130, .iconst 0, 1), (131, .ireturn, 1), (132, .aload_n 1, 1), (133, .lload_n 3, 1), (134, .invokestatic 421, 3), (137, .ifCond .eq 7, 3), (140, .iconst 2, 1), (141, .goto 4, 3), (144, .iconst 0, 1), (145, .ireturn, 1), (146, .aload_n 1, 1), (147, .iload_n 2, 1), (148, .invokestatic 431, 3), (151, .ifCond .ne 11, 3), (154, .aload_n 1, 1), (155, .lload_n 3, 1), (156, .invokestatic 421, 3), (159, .ifCond .eq 7, 3), (162, .iconst 0, 1), (163, .goto 4, 3), (166, .iconst 3, 1), (167, .ireturn, 1), (168, .aload_n 1, 1), (169, .getfield 418, 3), (172, .aload_n 1, 1), (173, .getfield 71, 3), (176, .lload_n 3, 1), (177, .invokestatic 414, 3), (180, .iconst (-1), 1), (181, .if_icmp .ne 7, 3), (184, .iconst 3, 1), (185, .goto 4, 3), (188, .iconst 0, 1), (189, .ireturn, 1), (190, .aload_n 0, 1), (191, .dup, 1), (192, .getfield 434, 3), (195, .iconst 1, 1), (196, .iadd, 1), (197, .putfield 434, 3), (200, .aload_n 0, 1), (201, .getfield 434, 3), (204, .bipush 16, 2), (206, .if_icmp .le 7, 3), (209, .iconst 4, 1), (210, .goto 4, 3), (213, .iconst 0, 1), (214, .ireturn, 1), (215, .aload_n 0, 1), (216, .aload_n 1, 1), (217, .iload_n 2, 1), (218, .invokevirtual 437, 3), (221, .ifCond .eq 7, 3), (224, .iconst 0, 1), (225, .goto 4, 3), (228, .iconst 5, 1), (229, .ireturn, 1), (230, .iconst 0, 1), (231, .ireturn, 1)]
set_option maxRecDepth 100000 in
theorem qX13_errorOf : ∀ q ∈ tX13_errorOf, decode cX13_errorOf q.1 = .ok (q.2.1, q.2.2) := by decide +kernel
theorem gX13_errorOf {d : Nat} {p0 : Nat} {p1 : Nat} {i2 : Int32} {h : jm_H} {r : jm_R} (H : ((jr_R h p1 11 3 2).bind fun a1 => (jm_all h a1 i2).bind fun y3 => (jr_R h p1 11 2 2).bind fun a5 => (jm_ali h a5 0 i2).bind fun x7 => (if x7 = 1 then jc_I (jm_D d mX13_isTold [.ref p1, .long y3] h) (fun x12 h10 => (if x12 = 0 then (jr_I h10 p1 11 6 0).bind fun x14 => (if x14 = 8 then some (.inl (some (.int 4)), h10) else (jr_R h10 p1 11 7 2).bind fun a17 => (jr_I h10 p1 11 6 0).bind fun x19 => (jm_asl h10 a17 x19 y3).bind fun h21 => (jr_I h21 p1 11 6 0).bind fun x23 => (jm_pf h21 p1 11 6 0 (.int (x23 + 1))).bind fun h25 => some (.inl (some (.int 0)), h25)) else some (.inl (some (.int 2)), h10))) jx else (if x7 = 2 then jc_I (jm_D d mX13_isTold [.ref p1, .long y3] h) (fun x32 h30 => (if x32 = 0 then (jr_I h30 p1 11 8 0).bind fun x34 => (if x34 = 12 then some (.inl (some (.int 4)), h30) else (jm_pf h30 p0 12 30 1 (.long y3)).bind fun h37 => (jm_pf h37 p0 12 28 0 (.int i2)).bind fun h39 => some (.inl (some (.int 0)), h39)) else some (.inl (some (.int 2)), h30))) jx else (if x7 = 3 then jc_I (jm_D d mX13_isTold [.ref p1, .long y3] h) (fun x46 h44 => (if x46 = 0 then some (.inl (some (.int 0)), h44) else some (.inl (some (.int 2)), h44))) jx else (if x7 = 4 then jc_I (jm_D d mX13_isWorn [.ref p1, .int i2] h) (fun x53 h51 => (if x53 = 0 then jc_I (jm_D d mX13_isTold [.ref p1, .long y3] h51) (fun x57 h55 => (if x57 = 0 then some (.inl (some (.int 3)), h55) else some (.inl (some (.int 0)), h55))) jx else some (.inl (some (.int 0)), h51))) jx else (if x7 = 5 then (jr_R h p1 11 9 2).bind fun a64 => (jr_I h p1 11 8 0).bind fun x66 => jc_I (jm_D d mX13_find [.ref a64, .int x66, .long y3] h) (fun x70 h68 => (if x70 = (-1) then some (.inl (some (.int 3)), h68) else some (.inl (some (.int 0)), h68))) jx else (if x7 = 6 then (jr_I h p0 12 29 0).bind fun x75 => (jm_pf h p0 12 29 0 (.int (x75 + 1))).bind fun h77 => (jr_I h77 p0 12 29 0).bind fun x79 => (if 16 < x79 then some (.inl (some (.int 4)), h77) else some (.inl (some (.int 0)), h77)) else (if x7 = 7 then jm_O h p0 13 (jc_I (jm_D d mX13_tell [.ref p0, .ref p1, .int i2] h) (fun x85 h83 => (if x85 = 0 then some (.inl (some (.int 5)), h83) else some (.inl (some (.int 0)), h83))) jx) else some (.inl (some (.int 0)), h))))))))) = some r) : jm_D (d + 1) mX13_errorOf [.ref p0, .ref p1, .int i2] h = some r := by
  rw [jm_D_body (Nat.le_of_ble_eq_true rfl)]
  show jm_B d mX13_errorOf (0, [some (.ref p0), some (.ref p1), some (.int i2), none, none], []) h = some r
  refine Eq.trans (jb_nx (i := .aload_n 1) (n := 1) (q := (1, [some (.ref p0), some (.ref p1), some (.int i2), none, none], [.ref p1])) (jq qX13_errorOf 0 rfl) rfl) ?_
  obtain ⟨a1, e2, H⟩ := jbd H
  refine Eq.trans (jb_nx (i := .getfield 310) (n := 3) (q := (4, [some (.ref p0), some (.ref p1), some (.int i2), none, none], [.ref a1])) (jq qX13_errorOf 1 rfl) (jo_gf rfl (jr_R_inv e2))) ?_
  refine Eq.trans (jb_nx (i := .iload_n 2) (n := 1) (q := (5, [some (.ref p0), some (.ref p1), some (.int i2), none, none], [.int i2, .ref a1])) (jq qX13_errorOf 2 rfl) rfl) ?_
  obtain ⟨y3, e4, H⟩ := jbd H
  refine Eq.trans (jb_nx (i := .laload) (n := 1) (q := (6, [some (.ref p0), some (.ref p1), some (.int i2), none, none], [.long y3])) (jq qX13_errorOf 3 rfl) (jo_lal e4)) ?_
  refine Eq.trans (jb_nx (i := .lstore_n 3) (n := 1) (q := (7, [some (.ref p0), some (.ref p1), some (.int i2), some (.long y3), none], [])) (jq qX13_errorOf 4 rfl) rfl) ?_
  refine Eq.trans (jb_nx (i := .aload_n 1) (n := 1) (q := (8, [some (.ref p0), some (.ref p1), some (.int i2), some (.long y3), none], [.ref p1])) (jq qX13_errorOf 5 rfl) rfl) ?_
  obtain ⟨a5, e6, H⟩ := jbd H
  refine Eq.trans (jb_nx (i := .getfield 332) (n := 3) (q := (11, [some (.ref p0), some (.ref p1), some (.int i2), some (.long y3), none], [.ref a5])) (jq qX13_errorOf 6 rfl) (jo_gf rfl (jr_R_inv e6))) ?_
  refine Eq.trans (jb_nx (i := .iload_n 2) (n := 1) (q := (12, [some (.ref p0), some (.ref p1), some (.int i2), some (.long y3), none], [.int i2, .ref a5])) (jq qX13_errorOf 7 rfl) rfl) ?_
  obtain ⟨x7, e8, H⟩ := jbd H
  refine Eq.trans (jb_nx (i := .iaload) (n := 1) (q := (13, [some (.ref p0), some (.ref p1), some (.int i2), some (.long y3), none], [.int x7])) (jq qX13_errorOf 8 rfl) (jo_ial e8)) ?_
  by_cases c9 : x7 = 1
  · rw [if_pos c9] at H
    refine Eq.trans (jb_nx (i := .tableswitch 217 1 7 #[43, 86, 119, 133, 155, 177, 202]) (n := 43) (q := (56, [some (.ref p0), some (.ref p1), some (.int i2), some (.long y3), none], [])) (jq qX13_errorOf 9 rfl) (by rw [c9]; rfl)) ?_
    refine Eq.trans (jb_nx (i := .aload_n 1) (n := 1) (q := (57, [some (.ref p0), some (.ref p1), some (.int i2), some (.long y3), none], [.ref p1])) (jq qX13_errorOf 10 rfl) rfl) ?_
    refine Eq.trans (jb_nx (i := .lload_n 3) (n := 1) (q := (58, [some (.ref p0), some (.ref p1), some (.int i2), some (.long y3), none], [.long y3, .ref p1])) (jq qX13_errorOf 11 rfl) rfl) ?_
    rcases jcI H with ⟨x12, h10, r11, H⟩ | ⟨w27, h28, r11, H⟩
    · refine Eq.trans (jb_nx (i := .invokestatic 421) (n := 3) (q := (61, [some (.ref p0), some (.ref p1), some (.int i2), some (.long y3), none], [.int x12])) (jq qX13_errorOf 12 rfl) (jo_cs (y := mX13_isTold) (w := 1) (by decide) rfl (Nat.le_of_ble_eq_true rfl) rfl (Nat.le_of_ble_eq_true rfl) rfl r11 jo_ret)) ?_
      by_cases c13 : x12 = 0
      · rw [if_pos c13] at H
        refine Eq.trans (jb_nx (i := .ifCond .eq 5) (n := 3) (q := (66, [some (.ref p0), some (.ref p1), some (.int i2), some (.long y3), none], [])) (jq qX13_errorOf 13 rfl) (jo_ifT (jz_eqT c13) rfl)) ?_
        refine Eq.trans (jb_nx (i := .aload_n 1) (n := 1) (q := (67, [some (.ref p0), some (.ref p1), some (.int i2), some (.long y3), none], [.ref p1])) (jq qX13_errorOf 16 rfl) rfl) ?_
        obtain ⟨x14, e15, H⟩ := jbd H
        refine Eq.trans (jb_nx (i := .getfield 411) (n := 3) (q := (70, [some (.ref p0), some (.ref p1), some (.int i2), some (.long y3), none], [.int x14])) (jq qX13_errorOf 17 rfl) (jo_gf rfl (jr_I_inv e15))) ?_
        refine Eq.trans (jb_nx (i := .bipush 8) (n := 2) (q := (72, [some (.ref p0), some (.ref p1), some (.int i2), some (.long y3), none], [.int 8, .int x14])) (jq qX13_errorOf 18 rfl) rfl) ?_
        by_cases c16 : x14 = 8
        · rw [if_pos c16] at H
          refine Eq.trans (jb_nx (i := .if_icmp .ne 5) (n := 3) (q := (75, [some (.ref p0), some (.ref p1), some (.int i2), some (.long y3), none], [])) (jq qX13_errorOf 19 rfl) (jo_icF (jz_neF c16))) ?_
          refine Eq.trans (jb_nx (i := .iconst 4) (n := 1) (q := (76, [some (.ref p0), some (.ref p1), some (.int i2), some (.long y3), none], [.int 4])) (jq qX13_errorOf 20 rfl) rfl) ?_
          exact Eq.trans (jb_rt (i := .ireturn) (n := 1) (jq qX13_errorOf 21 rfl) (jo_iret rfl rfl)) H
        · rw [if_neg c16] at H
          refine Eq.trans (jb_nx (i := .if_icmp .ne 5) (n := 3) (q := (77, [some (.ref p0), some (.ref p1), some (.int i2), some (.long y3), none], [])) (jq qX13_errorOf 19 rfl) (jo_icT (jz_neT c16) rfl)) ?_
          refine Eq.trans (jb_nx (i := .aload_n 1) (n := 1) (q := (78, [some (.ref p0), some (.ref p1), some (.int i2), some (.long y3), none], [.ref p1])) (jq qX13_errorOf 22 rfl) rfl) ?_
          obtain ⟨a17, e18, H⟩ := jbd H
          refine Eq.trans (jb_nx (i := .getfield 408) (n := 3) (q := (81, [some (.ref p0), some (.ref p1), some (.int i2), some (.long y3), none], [.ref a17])) (jq qX13_errorOf 23 rfl) (jo_gf rfl (jr_R_inv e18))) ?_
          refine Eq.trans (jb_nx (i := .aload_n 1) (n := 1) (q := (82, [some (.ref p0), some (.ref p1), some (.int i2), some (.long y3), none], [.ref p1, .ref a17])) (jq qX13_errorOf 24 rfl) rfl) ?_
          obtain ⟨x19, e20, H⟩ := jbd H
          refine Eq.trans (jb_nx (i := .getfield 411) (n := 3) (q := (85, [some (.ref p0), some (.ref p1), some (.int i2), some (.long y3), none], [.int x19, .ref a17])) (jq qX13_errorOf 25 rfl) (jo_gf rfl (jr_I_inv e20))) ?_
          refine Eq.trans (jb_nx (i := .lload_n 3) (n := 1) (q := (86, [some (.ref p0), some (.ref p1), some (.int i2), some (.long y3), none], [.long y3, .int x19, .ref a17])) (jq qX13_errorOf 26 rfl) rfl) ?_
          obtain ⟨h21, e22, H⟩ := jbd H
          refine Eq.trans (jb_nx (i := .lastore) (n := 1) (q := (87, [some (.ref p0), some (.ref p1), some (.int i2), some (.long y3), none], [])) (jq qX13_errorOf 27 rfl) (jo_las e22)) ?_
          refine Eq.trans (jb_nx (i := .aload_n 1) (n := 1) (q := (88, [some (.ref p0), some (.ref p1), some (.int i2), some (.long y3), none], [.ref p1])) (jq qX13_errorOf 28 rfl) rfl) ?_
          refine Eq.trans (jb_nx (i := .dup) (n := 1) (q := (89, [some (.ref p0), some (.ref p1), some (.int i2), some (.long y3), none], [.ref p1, .ref p1])) (jq qX13_errorOf 29 rfl) rfl) ?_
          obtain ⟨x23, e24, H⟩ := jbd H
          refine Eq.trans (jb_nx (i := .getfield 411) (n := 3) (q := (92, [some (.ref p0), some (.ref p1), some (.int i2), some (.long y3), none], [.int x23, .ref p1])) (jq qX13_errorOf 30 rfl) (jo_gf rfl (jr_I_inv e24))) ?_
          refine Eq.trans (jb_nx (i := .iconst 1) (n := 1) (q := (93, [some (.ref p0), some (.ref p1), some (.int i2), some (.long y3), none], [.int 1, .int x23, .ref p1])) (jq qX13_errorOf 31 rfl) rfl) ?_
          refine Eq.trans (jb_nx (i := .iadd) (n := 1) (q := (94, [some (.ref p0), some (.ref p1), some (.int i2), some (.long y3), none], [.int (x23 + 1), .ref p1])) (jq qX13_errorOf 32 rfl) rfl) ?_
          obtain ⟨h25, e26, H⟩ := jbd H
          refine Eq.trans (jb_nx (i := .putfield 411) (n := 3) (q := (97, [some (.ref p0), some (.ref p1), some (.int i2), some (.long y3), none], [])) (jq qX13_errorOf 33 rfl) (jo_pf rfl (Or.inl rfl) e26)) ?_
          refine Eq.trans (jb_nx (i := .iconst 0) (n := 1) (q := (98, [some (.ref p0), some (.ref p1), some (.int i2), some (.long y3), none], [.int 0])) (jq qX13_errorOf 34 rfl) rfl) ?_
          exact Eq.trans (jb_rt (i := .ireturn) (n := 1) (jq qX13_errorOf 35 rfl) (jo_iret rfl rfl)) H
      · rw [if_neg c13] at H
        refine Eq.trans (jb_nx (i := .ifCond .eq 5) (n := 3) (q := (64, [some (.ref p0), some (.ref p1), some (.int i2), some (.long y3), none], [])) (jq qX13_errorOf 13 rfl) (jo_ifF (jz_eqF c13))) ?_
        refine Eq.trans (jb_nx (i := .iconst 2) (n := 1) (q := (65, [some (.ref p0), some (.ref p1), some (.int i2), some (.long y3), none], [.int 2])) (jq qX13_errorOf 14 rfl) rfl) ?_
        exact Eq.trans (jb_rt (i := .ireturn) (n := 1) (jq qX13_errorOf 15 rfl) (jo_iret rfl rfl)) H
    · exact Eq.trans (jb_rt (i := .invokestatic 421) (n := 3) (jq qX13_errorOf 12 rfl) (jo_cs (y := mX13_isTold) (w := 1) (by decide) rfl (Nat.le_of_ble_eq_true rfl) rfl (Nat.le_of_ble_eq_true rfl) rfl r11 (jo_exn rfl))) H
  · rw [if_neg c9] at H
    by_cases c29 : x7 = 2
    · rw [if_pos c29] at H
      refine Eq.trans (jb_nx (i := .tableswitch 217 1 7 #[43, 86, 119, 133, 155, 177, 202]) (n := 43) (q := (99, [some (.ref p0), some (.ref p1), some (.int i2), some (.long y3), none], [])) (jq qX13_errorOf 9 rfl) (by rw [c29]; rfl)) ?_
      refine Eq.trans (jb_nx (i := .aload_n 1) (n := 1) (q := (100, [some (.ref p0), some (.ref p1), some (.int i2), some (.long y3), none], [.ref p1])) (jq qX13_errorOf 36 rfl) rfl) ?_
      refine Eq.trans (jb_nx (i := .lload_n 3) (n := 1) (q := (101, [some (.ref p0), some (.ref p1), some (.int i2), some (.long y3), none], [.long y3, .ref p1])) (jq qX13_errorOf 37 rfl) rfl) ?_
      rcases jcI H with ⟨x32, h30, r31, H⟩ | ⟨w41, h42, r31, H⟩
      · refine Eq.trans (jb_nx (i := .invokestatic 421) (n := 3) (q := (104, [some (.ref p0), some (.ref p1), some (.int i2), some (.long y3), none], [.int x32])) (jq qX13_errorOf 38 rfl) (jo_cs (y := mX13_isTold) (w := 1) (by decide) rfl (Nat.le_of_ble_eq_true rfl) rfl (Nat.le_of_ble_eq_true rfl) rfl r31 jo_ret)) ?_
        by_cases c33 : x32 = 0
        · rw [if_pos c33] at H
          refine Eq.trans (jb_nx (i := .ifCond .eq 5) (n := 3) (q := (109, [some (.ref p0), some (.ref p1), some (.int i2), some (.long y3), none], [])) (jq qX13_errorOf 39 rfl) (jo_ifT (jz_eqT c33) rfl)) ?_
          refine Eq.trans (jb_nx (i := .aload_n 1) (n := 1) (q := (110, [some (.ref p0), some (.ref p1), some (.int i2), some (.long y3), none], [.ref p1])) (jq qX13_errorOf 42 rfl) rfl) ?_
          obtain ⟨x34, e35, H⟩ := jbd H
          refine Eq.trans (jb_nx (i := .getfield 71) (n := 3) (q := (113, [some (.ref p0), some (.ref p1), some (.int i2), some (.long y3), none], [.int x34])) (jq qX13_errorOf 43 rfl) (jo_gf rfl (jr_I_inv e35))) ?_
          refine Eq.trans (jb_nx (i := .bipush 12) (n := 2) (q := (115, [some (.ref p0), some (.ref p1), some (.int i2), some (.long y3), none], [.int 12, .int x34])) (jq qX13_errorOf 44 rfl) rfl) ?_
          by_cases c36 : x34 = 12
          · rw [if_pos c36] at H
            refine Eq.trans (jb_nx (i := .if_icmp .ne 5) (n := 3) (q := (118, [some (.ref p0), some (.ref p1), some (.int i2), some (.long y3), none], [])) (jq qX13_errorOf 45 rfl) (jo_icF (jz_neF c36))) ?_
            refine Eq.trans (jb_nx (i := .iconst 4) (n := 1) (q := (119, [some (.ref p0), some (.ref p1), some (.int i2), some (.long y3), none], [.int 4])) (jq qX13_errorOf 46 rfl) rfl) ?_
            exact Eq.trans (jb_rt (i := .ireturn) (n := 1) (jq qX13_errorOf 47 rfl) (jo_iret rfl rfl)) H
          · rw [if_neg c36] at H
            refine Eq.trans (jb_nx (i := .if_icmp .ne 5) (n := 3) (q := (120, [some (.ref p0), some (.ref p1), some (.int i2), some (.long y3), none], [])) (jq qX13_errorOf 45 rfl) (jo_icT (jz_neT c36) rfl)) ?_
            refine Eq.trans (jb_nx (i := .aload_n 0) (n := 1) (q := (121, [some (.ref p0), some (.ref p1), some (.int i2), some (.long y3), none], [.ref p0])) (jq qX13_errorOf 48 rfl) rfl) ?_
            refine Eq.trans (jb_nx (i := .lload_n 3) (n := 1) (q := (122, [some (.ref p0), some (.ref p1), some (.int i2), some (.long y3), none], [.long y3, .ref p0])) (jq qX13_errorOf 49 rfl) rfl) ?_
            obtain ⟨h37, e38, H⟩ := jbd H
            refine Eq.trans (jb_nx (i := .putfield 425) (n := 3) (q := (125, [some (.ref p0), some (.ref p1), some (.int i2), some (.long y3), none], [])) (jq qX13_errorOf 50 rfl) (jo_pf rfl (Or.inl rfl) e38)) ?_
            refine Eq.trans (jb_nx (i := .aload_n 0) (n := 1) (q := (126, [some (.ref p0), some (.ref p1), some (.int i2), some (.long y3), none], [.ref p0])) (jq qX13_errorOf 51 rfl) rfl) ?_
            refine Eq.trans (jb_nx (i := .iload_n 2) (n := 1) (q := (127, [some (.ref p0), some (.ref p1), some (.int i2), some (.long y3), none], [.int i2, .ref p0])) (jq qX13_errorOf 52 rfl) rfl) ?_
            obtain ⟨h39, e40, H⟩ := jbd H
            refine Eq.trans (jb_nx (i := .putfield 429) (n := 3) (q := (130, [some (.ref p0), some (.ref p1), some (.int i2), some (.long y3), none], [])) (jq qX13_errorOf 53 rfl) (jo_pf rfl (Or.inl rfl) e40)) ?_
            refine Eq.trans (jb_nx (i := .iconst 0) (n := 1) (q := (131, [some (.ref p0), some (.ref p1), some (.int i2), some (.long y3), none], [.int 0])) (jq qX13_errorOf 54 rfl) rfl) ?_
            exact Eq.trans (jb_rt (i := .ireturn) (n := 1) (jq qX13_errorOf 55 rfl) (jo_iret rfl rfl)) H
        · rw [if_neg c33] at H
          refine Eq.trans (jb_nx (i := .ifCond .eq 5) (n := 3) (q := (107, [some (.ref p0), some (.ref p1), some (.int i2), some (.long y3), none], [])) (jq qX13_errorOf 39 rfl) (jo_ifF (jz_eqF c33))) ?_
          refine Eq.trans (jb_nx (i := .iconst 2) (n := 1) (q := (108, [some (.ref p0), some (.ref p1), some (.int i2), some (.long y3), none], [.int 2])) (jq qX13_errorOf 40 rfl) rfl) ?_
          exact Eq.trans (jb_rt (i := .ireturn) (n := 1) (jq qX13_errorOf 41 rfl) (jo_iret rfl rfl)) H
      · exact Eq.trans (jb_rt (i := .invokestatic 421) (n := 3) (jq qX13_errorOf 38 rfl) (jo_cs (y := mX13_isTold) (w := 1) (by decide) rfl (Nat.le_of_ble_eq_true rfl) rfl (Nat.le_of_ble_eq_true rfl) rfl r31 (jo_exn rfl))) H
    · rw [if_neg c29] at H
      by_cases c43 : x7 = 3
      · rw [if_pos c43] at H
        refine Eq.trans (jb_nx (i := .tableswitch 217 1 7 #[43, 86, 119, 133, 155, 177, 202]) (n := 43) (q := (132, [some (.ref p0), some (.ref p1), some (.int i2), some (.long y3), none], [])) (jq qX13_errorOf 9 rfl) (by rw [c43]; rfl)) ?_
        refine Eq.trans (jb_nx (i := .aload_n 1) (n := 1) (q := (133, [some (.ref p0), some (.ref p1), some (.int i2), some (.long y3), none], [.ref p1])) (jq qX13_errorOf 56 rfl) rfl) ?_
        refine Eq.trans (jb_nx (i := .lload_n 3) (n := 1) (q := (134, [some (.ref p0), some (.ref p1), some (.int i2), some (.long y3), none], [.long y3, .ref p1])) (jq qX13_errorOf 57 rfl) rfl) ?_
        rcases jcI H with ⟨x46, h44, r45, H⟩ | ⟨w48, h49, r45, H⟩
        · refine Eq.trans (jb_nx (i := .invokestatic 421) (n := 3) (q := (137, [some (.ref p0), some (.ref p1), some (.int i2), some (.long y3), none], [.int x46])) (jq qX13_errorOf 58 rfl) (jo_cs (y := mX13_isTold) (w := 1) (by decide) rfl (Nat.le_of_ble_eq_true rfl) rfl (Nat.le_of_ble_eq_true rfl) rfl r45 jo_ret)) ?_
          by_cases c47 : x46 = 0
          · rw [if_pos c47] at H
            refine Eq.trans (jb_nx (i := .ifCond .eq 7) (n := 3) (q := (144, [some (.ref p0), some (.ref p1), some (.int i2), some (.long y3), none], [])) (jq qX13_errorOf 59 rfl) (jo_ifT (jz_eqT c47) rfl)) ?_
            refine Eq.trans (jb_nx (i := .iconst 0) (n := 1) (q := (145, [some (.ref p0), some (.ref p1), some (.int i2), some (.long y3), none], [.int 0])) (jq qX13_errorOf 62 rfl) rfl) ?_
            exact Eq.trans (jb_rt (i := .ireturn) (n := 1) (jq qX13_errorOf 63 rfl) (jo_iret rfl rfl)) H
          · rw [if_neg c47] at H
            refine Eq.trans (jb_nx (i := .ifCond .eq 7) (n := 3) (q := (140, [some (.ref p0), some (.ref p1), some (.int i2), some (.long y3), none], [])) (jq qX13_errorOf 59 rfl) (jo_ifF (jz_eqF c47))) ?_
            refine Eq.trans (jb_nx (i := .iconst 2) (n := 1) (q := (141, [some (.ref p0), some (.ref p1), some (.int i2), some (.long y3), none], [.int 2])) (jq qX13_errorOf 60 rfl) rfl) ?_
            refine Eq.trans (jb_nx (i := .goto 4) (n := 3) (q := (145, [some (.ref p0), some (.ref p1), some (.int i2), some (.long y3), none], [.int 2])) (jq qX13_errorOf 61 rfl) rfl) ?_
            exact Eq.trans (jb_rt (i := .ireturn) (n := 1) (jq qX13_errorOf 63 rfl) (jo_iret rfl rfl)) H
        · exact Eq.trans (jb_rt (i := .invokestatic 421) (n := 3) (jq qX13_errorOf 58 rfl) (jo_cs (y := mX13_isTold) (w := 1) (by decide) rfl (Nat.le_of_ble_eq_true rfl) rfl (Nat.le_of_ble_eq_true rfl) rfl r45 (jo_exn rfl))) H
      · rw [if_neg c43] at H
        by_cases c50 : x7 = 4
        · rw [if_pos c50] at H
          refine Eq.trans (jb_nx (i := .tableswitch 217 1 7 #[43, 86, 119, 133, 155, 177, 202]) (n := 43) (q := (146, [some (.ref p0), some (.ref p1), some (.int i2), some (.long y3), none], [])) (jq qX13_errorOf 9 rfl) (by rw [c50]; rfl)) ?_
          refine Eq.trans (jb_nx (i := .aload_n 1) (n := 1) (q := (147, [some (.ref p0), some (.ref p1), some (.int i2), some (.long y3), none], [.ref p1])) (jq qX13_errorOf 64 rfl) rfl) ?_
          refine Eq.trans (jb_nx (i := .iload_n 2) (n := 1) (q := (148, [some (.ref p0), some (.ref p1), some (.int i2), some (.long y3), none], [.int i2, .ref p1])) (jq qX13_errorOf 65 rfl) rfl) ?_
          rcases jcI H with ⟨x53, h51, r52, H⟩ | ⟨w61, h62, r52, H⟩
          · refine Eq.trans (jb_nx (i := .invokestatic 431) (n := 3) (q := (151, [some (.ref p0), some (.ref p1), some (.int i2), some (.long y3), none], [.int x53])) (jq qX13_errorOf 66 rfl) (jo_cs (y := mX13_isWorn) (w := 1) (by decide) rfl (Nat.le_of_ble_eq_true rfl) rfl (Nat.le_of_ble_eq_true rfl) rfl r52 jo_ret)) ?_
            by_cases c54 : x53 = 0
            · rw [if_pos c54] at H
              refine Eq.trans (jb_nx (i := .ifCond .ne 11) (n := 3) (q := (154, [some (.ref p0), some (.ref p1), some (.int i2), some (.long y3), none], [])) (jq qX13_errorOf 67 rfl) (jo_ifF (jz_neF c54))) ?_
              refine Eq.trans (jb_nx (i := .aload_n 1) (n := 1) (q := (155, [some (.ref p0), some (.ref p1), some (.int i2), some (.long y3), none], [.ref p1])) (jq qX13_errorOf 68 rfl) rfl) ?_
              refine Eq.trans (jb_nx (i := .lload_n 3) (n := 1) (q := (156, [some (.ref p0), some (.ref p1), some (.int i2), some (.long y3), none], [.long y3, .ref p1])) (jq qX13_errorOf 69 rfl) rfl) ?_
              rcases jcI H with ⟨x57, h55, r56, H⟩ | ⟨w59, h60, r56, H⟩
              · refine Eq.trans (jb_nx (i := .invokestatic 421) (n := 3) (q := (159, [some (.ref p0), some (.ref p1), some (.int i2), some (.long y3), none], [.int x57])) (jq qX13_errorOf 70 rfl) (jo_cs (y := mX13_isTold) (w := 1) (by decide) rfl (Nat.le_of_ble_eq_true rfl) rfl (Nat.le_of_ble_eq_true rfl) rfl r56 jo_ret)) ?_
                by_cases c58 : x57 = 0
                · rw [if_pos c58] at H
                  refine Eq.trans (jb_nx (i := .ifCond .eq 7) (n := 3) (q := (166, [some (.ref p0), some (.ref p1), some (.int i2), some (.long y3), none], [])) (jq qX13_errorOf 71 rfl) (jo_ifT (jz_eqT c58) rfl)) ?_
                  refine Eq.trans (jb_nx (i := .iconst 3) (n := 1) (q := (167, [some (.ref p0), some (.ref p1), some (.int i2), some (.long y3), none], [.int 3])) (jq qX13_errorOf 74 rfl) rfl) ?_
                  exact Eq.trans (jb_rt (i := .ireturn) (n := 1) (jq qX13_errorOf 75 rfl) (jo_iret rfl rfl)) H
                · rw [if_neg c58] at H
                  refine Eq.trans (jb_nx (i := .ifCond .eq 7) (n := 3) (q := (162, [some (.ref p0), some (.ref p1), some (.int i2), some (.long y3), none], [])) (jq qX13_errorOf 71 rfl) (jo_ifF (jz_eqF c58))) ?_
                  refine Eq.trans (jb_nx (i := .iconst 0) (n := 1) (q := (163, [some (.ref p0), some (.ref p1), some (.int i2), some (.long y3), none], [.int 0])) (jq qX13_errorOf 72 rfl) rfl) ?_
                  refine Eq.trans (jb_nx (i := .goto 4) (n := 3) (q := (167, [some (.ref p0), some (.ref p1), some (.int i2), some (.long y3), none], [.int 0])) (jq qX13_errorOf 73 rfl) rfl) ?_
                  exact Eq.trans (jb_rt (i := .ireturn) (n := 1) (jq qX13_errorOf 75 rfl) (jo_iret rfl rfl)) H
              · exact Eq.trans (jb_rt (i := .invokestatic 421) (n := 3) (jq qX13_errorOf 70 rfl) (jo_cs (y := mX13_isTold) (w := 1) (by decide) rfl (Nat.le_of_ble_eq_true rfl) rfl (Nat.le_of_ble_eq_true rfl) rfl r56 (jo_exn rfl))) H
            · rw [if_neg c54] at H
              refine Eq.trans (jb_nx (i := .ifCond .ne 11) (n := 3) (q := (162, [some (.ref p0), some (.ref p1), some (.int i2), some (.long y3), none], [])) (jq qX13_errorOf 67 rfl) (jo_ifT (jz_neT c54) rfl)) ?_
              refine Eq.trans (jb_nx (i := .iconst 0) (n := 1) (q := (163, [some (.ref p0), some (.ref p1), some (.int i2), some (.long y3), none], [.int 0])) (jq qX13_errorOf 72 rfl) rfl) ?_
              refine Eq.trans (jb_nx (i := .goto 4) (n := 3) (q := (167, [some (.ref p0), some (.ref p1), some (.int i2), some (.long y3), none], [.int 0])) (jq qX13_errorOf 73 rfl) rfl) ?_
              exact Eq.trans (jb_rt (i := .ireturn) (n := 1) (jq qX13_errorOf 75 rfl) (jo_iret rfl rfl)) H
          · exact Eq.trans (jb_rt (i := .invokestatic 431) (n := 3) (jq qX13_errorOf 66 rfl) (jo_cs (y := mX13_isWorn) (w := 1) (by decide) rfl (Nat.le_of_ble_eq_true rfl) rfl (Nat.le_of_ble_eq_true rfl) rfl r52 (jo_exn rfl))) H
        · rw [if_neg c50] at H
          by_cases c63 : x7 = 5
          · rw [if_pos c63] at H
            refine Eq.trans (jb_nx (i := .tableswitch 217 1 7 #[43, 86, 119, 133, 155, 177, 202]) (n := 43) (q := (168, [some (.ref p0), some (.ref p1), some (.int i2), some (.long y3), none], [])) (jq qX13_errorOf 9 rfl) (by rw [c63]; rfl)) ?_
            refine Eq.trans (jb_nx (i := .aload_n 1) (n := 1) (q := (169, [some (.ref p0), some (.ref p1), some (.int i2), some (.long y3), none], [.ref p1])) (jq qX13_errorOf 76 rfl) rfl) ?_
            obtain ⟨a64, e65, H⟩ := jbd H
            refine Eq.trans (jb_nx (i := .getfield 418) (n := 3) (q := (172, [some (.ref p0), some (.ref p1), some (.int i2), some (.long y3), none], [.ref a64])) (jq qX13_errorOf 77 rfl) (jo_gf rfl (jr_R_inv e65))) ?_
            refine Eq.trans (jb_nx (i := .aload_n 1) (n := 1) (q := (173, [some (.ref p0), some (.ref p1), some (.int i2), some (.long y3), none], [.ref p1, .ref a64])) (jq qX13_errorOf 78 rfl) rfl) ?_
            obtain ⟨x66, e67, H⟩ := jbd H
            refine Eq.trans (jb_nx (i := .getfield 71) (n := 3) (q := (176, [some (.ref p0), some (.ref p1), some (.int i2), some (.long y3), none], [.int x66, .ref a64])) (jq qX13_errorOf 79 rfl) (jo_gf rfl (jr_I_inv e67))) ?_
            refine Eq.trans (jb_nx (i := .lload_n 3) (n := 1) (q := (177, [some (.ref p0), some (.ref p1), some (.int i2), some (.long y3), none], [.long y3, .int x66, .ref a64])) (jq qX13_errorOf 80 rfl) rfl) ?_
            rcases jcI H with ⟨x70, h68, r69, H⟩ | ⟨w72, h73, r69, H⟩
            · refine Eq.trans (jb_nx (i := .invokestatic 414) (n := 3) (q := (180, [some (.ref p0), some (.ref p1), some (.int i2), some (.long y3), none], [.int x70])) (jq qX13_errorOf 81 rfl) (jo_cs (y := mX13_find) (w := 1) (by decide) rfl (Nat.le_of_ble_eq_true rfl) rfl (Nat.le_of_ble_eq_true rfl) rfl r69 jo_ret)) ?_
              refine Eq.trans (jb_nx (i := .iconst (-1)) (n := 1) (q := (181, [some (.ref p0), some (.ref p1), some (.int i2), some (.long y3), none], [.int (-1), .int x70])) (jq qX13_errorOf 82 rfl) rfl) ?_
              by_cases c71 : x70 = (-1)
              · rw [if_pos c71] at H
                refine Eq.trans (jb_nx (i := .if_icmp .ne 7) (n := 3) (q := (184, [some (.ref p0), some (.ref p1), some (.int i2), some (.long y3), none], [])) (jq qX13_errorOf 83 rfl) (jo_icF (jz_neF c71))) ?_
                refine Eq.trans (jb_nx (i := .iconst 3) (n := 1) (q := (185, [some (.ref p0), some (.ref p1), some (.int i2), some (.long y3), none], [.int 3])) (jq qX13_errorOf 84 rfl) rfl) ?_
                refine Eq.trans (jb_nx (i := .goto 4) (n := 3) (q := (189, [some (.ref p0), some (.ref p1), some (.int i2), some (.long y3), none], [.int 3])) (jq qX13_errorOf 85 rfl) rfl) ?_
                exact Eq.trans (jb_rt (i := .ireturn) (n := 1) (jq qX13_errorOf 87 rfl) (jo_iret rfl rfl)) H
              · rw [if_neg c71] at H
                refine Eq.trans (jb_nx (i := .if_icmp .ne 7) (n := 3) (q := (188, [some (.ref p0), some (.ref p1), some (.int i2), some (.long y3), none], [])) (jq qX13_errorOf 83 rfl) (jo_icT (jz_neT c71) rfl)) ?_
                refine Eq.trans (jb_nx (i := .iconst 0) (n := 1) (q := (189, [some (.ref p0), some (.ref p1), some (.int i2), some (.long y3), none], [.int 0])) (jq qX13_errorOf 86 rfl) rfl) ?_
                exact Eq.trans (jb_rt (i := .ireturn) (n := 1) (jq qX13_errorOf 87 rfl) (jo_iret rfl rfl)) H
            · exact Eq.trans (jb_rt (i := .invokestatic 414) (n := 3) (jq qX13_errorOf 81 rfl) (jo_cs (y := mX13_find) (w := 1) (by decide) rfl (Nat.le_of_ble_eq_true rfl) rfl (Nat.le_of_ble_eq_true rfl) rfl r69 (jo_exn rfl))) H
          · rw [if_neg c63] at H
            by_cases c74 : x7 = 6
            · rw [if_pos c74] at H
              refine Eq.trans (jb_nx (i := .tableswitch 217 1 7 #[43, 86, 119, 133, 155, 177, 202]) (n := 43) (q := (190, [some (.ref p0), some (.ref p1), some (.int i2), some (.long y3), none], [])) (jq qX13_errorOf 9 rfl) (by rw [c74]; rfl)) ?_
              refine Eq.trans (jb_nx (i := .aload_n 0) (n := 1) (q := (191, [some (.ref p0), some (.ref p1), some (.int i2), some (.long y3), none], [.ref p0])) (jq qX13_errorOf 88 rfl) rfl) ?_
              refine Eq.trans (jb_nx (i := .dup) (n := 1) (q := (192, [some (.ref p0), some (.ref p1), some (.int i2), some (.long y3), none], [.ref p0, .ref p0])) (jq qX13_errorOf 89 rfl) rfl) ?_
              obtain ⟨x75, e76, H⟩ := jbd H
              refine Eq.trans (jb_nx (i := .getfield 434) (n := 3) (q := (195, [some (.ref p0), some (.ref p1), some (.int i2), some (.long y3), none], [.int x75, .ref p0])) (jq qX13_errorOf 90 rfl) (jo_gf rfl (jr_I_inv e76))) ?_
              refine Eq.trans (jb_nx (i := .iconst 1) (n := 1) (q := (196, [some (.ref p0), some (.ref p1), some (.int i2), some (.long y3), none], [.int 1, .int x75, .ref p0])) (jq qX13_errorOf 91 rfl) rfl) ?_
              refine Eq.trans (jb_nx (i := .iadd) (n := 1) (q := (197, [some (.ref p0), some (.ref p1), some (.int i2), some (.long y3), none], [.int (x75 + 1), .ref p0])) (jq qX13_errorOf 92 rfl) rfl) ?_
              obtain ⟨h77, e78, H⟩ := jbd H
              refine Eq.trans (jb_nx (i := .putfield 434) (n := 3) (q := (200, [some (.ref p0), some (.ref p1), some (.int i2), some (.long y3), none], [])) (jq qX13_errorOf 93 rfl) (jo_pf rfl (Or.inl rfl) e78)) ?_
              refine Eq.trans (jb_nx (i := .aload_n 0) (n := 1) (q := (201, [some (.ref p0), some (.ref p1), some (.int i2), some (.long y3), none], [.ref p0])) (jq qX13_errorOf 94 rfl) rfl) ?_
              obtain ⟨x79, e80, H⟩ := jbd H
              refine Eq.trans (jb_nx (i := .getfield 434) (n := 3) (q := (204, [some (.ref p0), some (.ref p1), some (.int i2), some (.long y3), none], [.int x79])) (jq qX13_errorOf 95 rfl) (jo_gf rfl (jr_I_inv e80))) ?_
              refine Eq.trans (jb_nx (i := .bipush 16) (n := 2) (q := (206, [some (.ref p0), some (.ref p1), some (.int i2), some (.long y3), none], [.int 16, .int x79])) (jq qX13_errorOf 96 rfl) rfl) ?_
              by_cases c81 : 16 < x79
              · rw [if_pos c81] at H
                refine Eq.trans (jb_nx (i := .if_icmp .le 7) (n := 3) (q := (209, [some (.ref p0), some (.ref p1), some (.int i2), some (.long y3), none], [])) (jq qX13_errorOf 97 rfl) (jo_icF (jz_leF c81))) ?_
                refine Eq.trans (jb_nx (i := .iconst 4) (n := 1) (q := (210, [some (.ref p0), some (.ref p1), some (.int i2), some (.long y3), none], [.int 4])) (jq qX13_errorOf 98 rfl) rfl) ?_
                refine Eq.trans (jb_nx (i := .goto 4) (n := 3) (q := (214, [some (.ref p0), some (.ref p1), some (.int i2), some (.long y3), none], [.int 4])) (jq qX13_errorOf 99 rfl) rfl) ?_
                exact Eq.trans (jb_rt (i := .ireturn) (n := 1) (jq qX13_errorOf 101 rfl) (jo_iret rfl rfl)) H
              · rw [if_neg c81] at H
                refine Eq.trans (jb_nx (i := .if_icmp .le 7) (n := 3) (q := (213, [some (.ref p0), some (.ref p1), some (.int i2), some (.long y3), none], [])) (jq qX13_errorOf 97 rfl) (jo_icT (jz_leT c81) rfl)) ?_
                refine Eq.trans (jb_nx (i := .iconst 0) (n := 1) (q := (214, [some (.ref p0), some (.ref p1), some (.int i2), some (.long y3), none], [.int 0])) (jq qX13_errorOf 100 rfl) rfl) ?_
                exact Eq.trans (jb_rt (i := .ireturn) (n := 1) (jq qX13_errorOf 101 rfl) (jo_iret rfl rfl)) H
            · rw [if_neg c74] at H
              by_cases c82 : x7 = 7
              · rw [if_pos c82] at H
                refine Eq.trans (jb_nx (i := .tableswitch 217 1 7 #[43, 86, 119, 133, 155, 177, 202]) (n := 43) (q := (215, [some (.ref p0), some (.ref p1), some (.int i2), some (.long y3), none], [])) (jq qX13_errorOf 9 rfl) (by rw [c82]; rfl)) ?_
                refine Eq.trans (jb_nx (i := .aload_n 0) (n := 1) (q := (216, [some (.ref p0), some (.ref p1), some (.int i2), some (.long y3), none], [.ref p0])) (jq qX13_errorOf 102 rfl) rfl) ?_
                refine Eq.trans (jb_nx (i := .aload_n 1) (n := 1) (q := (217, [some (.ref p0), some (.ref p1), some (.int i2), some (.long y3), none], [.ref p1, .ref p0])) (jq qX13_errorOf 103 rfl) rfl) ?_
                refine Eq.trans (jb_nx (i := .iload_n 2) (n := 1) (q := (218, [some (.ref p0), some (.ref p1), some (.int i2), some (.long y3), none], [.int i2, .ref p1, .ref p0])) (jq qX13_errorOf 104 rfl) rfl) ?_
                obtain ⟨b87, H⟩ := jm_O_inv H
                rcases jcI H with ⟨x85, h83, r84, H⟩ | ⟨w88, h89, r84, H⟩
                · refine Eq.trans (jb_nx (i := .invokevirtual 437) (n := 3) (q := (221, [some (.ref p0), some (.ref p1), some (.int i2), some (.long y3), none], [.int x85])) (jq qX13_errorOf 105 rfl) (jo_cv (y := mX13_tell) rfl (Nat.le_of_ble_eq_true rfl) rfl (Nat.le_of_ble_eq_true rfl) b87 rfl r84 jo_ret)) ?_
                  by_cases c86 : x85 = 0
                  · rw [if_pos c86] at H
                    refine Eq.trans (jb_nx (i := .ifCond .eq 7) (n := 3) (q := (228, [some (.ref p0), some (.ref p1), some (.int i2), some (.long y3), none], [])) (jq qX13_errorOf 106 rfl) (jo_ifT (jz_eqT c86) rfl)) ?_
                    refine Eq.trans (jb_nx (i := .iconst 5) (n := 1) (q := (229, [some (.ref p0), some (.ref p1), some (.int i2), some (.long y3), none], [.int 5])) (jq qX13_errorOf 109 rfl) rfl) ?_
                    exact Eq.trans (jb_rt (i := .ireturn) (n := 1) (jq qX13_errorOf 110 rfl) (jo_iret rfl rfl)) H
                  · rw [if_neg c86] at H
                    refine Eq.trans (jb_nx (i := .ifCond .eq 7) (n := 3) (q := (224, [some (.ref p0), some (.ref p1), some (.int i2), some (.long y3), none], [])) (jq qX13_errorOf 106 rfl) (jo_ifF (jz_eqF c86))) ?_
                    refine Eq.trans (jb_nx (i := .iconst 0) (n := 1) (q := (225, [some (.ref p0), some (.ref p1), some (.int i2), some (.long y3), none], [.int 0])) (jq qX13_errorOf 107 rfl) rfl) ?_
                    refine Eq.trans (jb_nx (i := .goto 4) (n := 3) (q := (229, [some (.ref p0), some (.ref p1), some (.int i2), some (.long y3), none], [.int 0])) (jq qX13_errorOf 108 rfl) rfl) ?_
                    exact Eq.trans (jb_rt (i := .ireturn) (n := 1) (jq qX13_errorOf 110 rfl) (jo_iret rfl rfl)) H
                · exact Eq.trans (jb_rt (i := .invokevirtual 437) (n := 3) (jq qX13_errorOf 105 rfl) (jo_cv (y := mX13_tell) rfl (Nat.le_of_ble_eq_true rfl) rfl (Nat.le_of_ble_eq_true rfl) b87 rfl r84 (jo_exn rfl))) H
              · rw [if_neg c82] at H
                refine Eq.trans (jb_nx (i := .tableswitch 217 1 7 #[43, 86, 119, 133, 155, 177, 202]) (n := 43) (q := (230, [some (.ref p0), some (.ref p1), some (.int i2), some (.long y3), none], [])) (jq qX13_errorOf 9 rfl) (jo_tabD (ks := [1, 2, 3, 4, 5, 6, 7]) (by decide +kernel) (by intro k hk; simp only [List.mem_cons, List.not_mem_nil, or_false] at hk; rcases hk with rfl | rfl | rfl | rfl | rfl | rfl | rfl; { exact jz_ti rfl c9 }; { exact jz_ti rfl c29 }; { exact jz_ti rfl c43 }; { exact jz_ti rfl c50 }; { exact jz_ti rfl c63 }; { exact jz_ti rfl c74 }; { exact jz_ti rfl c82 }) rfl)) ?_
                refine Eq.trans (jb_nx (i := .iconst 0) (n := 1) (q := (231, [some (.ref p0), some (.ref p1), some (.int i2), some (.long y3), none], [.int 0])) (jq qX13_errorOf 111 rfl) rfl) ?_
                exact Eq.trans (jb_rt (i := .ireturn) (n := 1) (jq qX13_errorOf 112 rfl) (jo_iret rfl rfl)) H
/-! MaskPlaysModel isTold (LMaskPlaysModel$Book;J)Z -/
def tX13_isTold : List (Nat × Instr × Nat) := [(0, .aload_n 0, 1), (1, .getfield 408, 3), (4, .aload_n 0, 1), (5, .getfield 411, 3), (8, .lload_n 1, 1), (9, .invokestatic 414, 3), (12, .iconst (-1), 1), (13, .if_icmp .ne 19, 3), (16, .aload_n 0, 1), (17, .getfield 418, 3), (20, .aload_n 0, 1), (21, .getfield 71, 3), (24, .lload_n 1, 1), (25, .invokestatic 414, 3), (28, .iconst (-1), 1), (29, .if_icmp .eq 7, 3), (32, .iconst 1, 1), (33, .goto 4, 3), (36, .iconst 0, 1), (37, .ireturn, 1)]
set_option maxRecDepth 100000 in
theorem qX13_isTold : ∀ q ∈ tX13_isTold, decode cX13_isTold q.1 = .ok (q.2.1, q.2.2) := by decide +kernel
theorem gX13_isTold {d : Nat} {p0 : Nat} {j1 : Int64} {h : jm_H} {r : jm_R} (H : ((jr_R h p0 11 7 2).bind fun a1 => (jr_I h p0 11 6 0).bind fun x3 => jc_I (jm_D d mX13_find [.ref a1, .int x3, .long j1] h) (fun x7 h5 => (if x7 = (-1) then (jr_R h5 p0 11 9 2).bind fun a9 => (jr_I h5 p0 11 8 0).bind fun x11 => jc_I (jm_D d mX13_find [.ref a9, .int x11, .long j1] h5) (fun x15 h13 => (if x15 = (-1) then some (.inl (some (.int 0)), h13) else some (.inl (some (.int 1)), h13))) jx else some (.inl (some (.int 1)), h5))) jx) = some r) : jm_D (d + 1) mX13_isTold [.ref p0, .long j1] h = some r := by
  rw [jm_D_body (Nat.le_of_ble_eq_true rfl)]
  show jm_B d mX13_isTold (0, [some (.ref p0), some (.long j1), none], []) h = some r
  refine Eq.trans (jb_nx (i := .aload_n 0) (n := 1) (q := (1, [some (.ref p0), some (.long j1), none], [.ref p0])) (jq qX13_isTold 0 rfl) rfl) ?_
  obtain ⟨a1, e2, H⟩ := jbd H
  refine Eq.trans (jb_nx (i := .getfield 408) (n := 3) (q := (4, [some (.ref p0), some (.long j1), none], [.ref a1])) (jq qX13_isTold 1 rfl) (jo_gf rfl (jr_R_inv e2))) ?_
  refine Eq.trans (jb_nx (i := .aload_n 0) (n := 1) (q := (5, [some (.ref p0), some (.long j1), none], [.ref p0, .ref a1])) (jq qX13_isTold 2 rfl) rfl) ?_
  obtain ⟨x3, e4, H⟩ := jbd H
  refine Eq.trans (jb_nx (i := .getfield 411) (n := 3) (q := (8, [some (.ref p0), some (.long j1), none], [.int x3, .ref a1])) (jq qX13_isTold 3 rfl) (jo_gf rfl (jr_I_inv e4))) ?_
  refine Eq.trans (jb_nx (i := .lload_n 1) (n := 1) (q := (9, [some (.ref p0), some (.long j1), none], [.long j1, .int x3, .ref a1])) (jq qX13_isTold 4 rfl) rfl) ?_
  rcases jcI H with ⟨x7, h5, r6, H⟩ | ⟨w19, h20, r6, H⟩
  · refine Eq.trans (jb_nx (i := .invokestatic 414) (n := 3) (q := (12, [some (.ref p0), some (.long j1), none], [.int x7])) (jq qX13_isTold 5 rfl) (jo_cs (y := mX13_find) (w := 1) (by decide) rfl (Nat.le_of_ble_eq_true rfl) rfl (Nat.le_of_ble_eq_true rfl) rfl r6 jo_ret)) ?_
    refine Eq.trans (jb_nx (i := .iconst (-1)) (n := 1) (q := (13, [some (.ref p0), some (.long j1), none], [.int (-1), .int x7])) (jq qX13_isTold 6 rfl) rfl) ?_
    by_cases c8 : x7 = (-1)
    · rw [if_pos c8] at H
      refine Eq.trans (jb_nx (i := .if_icmp .ne 19) (n := 3) (q := (16, [some (.ref p0), some (.long j1), none], [])) (jq qX13_isTold 7 rfl) (jo_icF (jz_neF c8))) ?_
      refine Eq.trans (jb_nx (i := .aload_n 0) (n := 1) (q := (17, [some (.ref p0), some (.long j1), none], [.ref p0])) (jq qX13_isTold 8 rfl) rfl) ?_
      obtain ⟨a9, e10, H⟩ := jbd H
      refine Eq.trans (jb_nx (i := .getfield 418) (n := 3) (q := (20, [some (.ref p0), some (.long j1), none], [.ref a9])) (jq qX13_isTold 9 rfl) (jo_gf rfl (jr_R_inv e10))) ?_
      refine Eq.trans (jb_nx (i := .aload_n 0) (n := 1) (q := (21, [some (.ref p0), some (.long j1), none], [.ref p0, .ref a9])) (jq qX13_isTold 10 rfl) rfl) ?_
      obtain ⟨x11, e12, H⟩ := jbd H
      refine Eq.trans (jb_nx (i := .getfield 71) (n := 3) (q := (24, [some (.ref p0), some (.long j1), none], [.int x11, .ref a9])) (jq qX13_isTold 11 rfl) (jo_gf rfl (jr_I_inv e12))) ?_
      refine Eq.trans (jb_nx (i := .lload_n 1) (n := 1) (q := (25, [some (.ref p0), some (.long j1), none], [.long j1, .int x11, .ref a9])) (jq qX13_isTold 12 rfl) rfl) ?_
      rcases jcI H with ⟨x15, h13, r14, H⟩ | ⟨w17, h18, r14, H⟩
      · refine Eq.trans (jb_nx (i := .invokestatic 414) (n := 3) (q := (28, [some (.ref p0), some (.long j1), none], [.int x15])) (jq qX13_isTold 13 rfl) (jo_cs (y := mX13_find) (w := 1) (by decide) rfl (Nat.le_of_ble_eq_true rfl) rfl (Nat.le_of_ble_eq_true rfl) rfl r14 jo_ret)) ?_
        refine Eq.trans (jb_nx (i := .iconst (-1)) (n := 1) (q := (29, [some (.ref p0), some (.long j1), none], [.int (-1), .int x15])) (jq qX13_isTold 14 rfl) rfl) ?_
        by_cases c16 : x15 = (-1)
        · rw [if_pos c16] at H
          refine Eq.trans (jb_nx (i := .if_icmp .eq 7) (n := 3) (q := (36, [some (.ref p0), some (.long j1), none], [])) (jq qX13_isTold 15 rfl) (jo_icT (jz_eqT c16) rfl)) ?_
          refine Eq.trans (jb_nx (i := .iconst 0) (n := 1) (q := (37, [some (.ref p0), some (.long j1), none], [.int 0])) (jq qX13_isTold 18 rfl) rfl) ?_
          exact Eq.trans (jb_rt (i := .ireturn) (n := 1) (jq qX13_isTold 19 rfl) (jo_iret rfl (by decide))) H
        · rw [if_neg c16] at H
          refine Eq.trans (jb_nx (i := .if_icmp .eq 7) (n := 3) (q := (32, [some (.ref p0), some (.long j1), none], [])) (jq qX13_isTold 15 rfl) (jo_icF (jz_eqF c16))) ?_
          refine Eq.trans (jb_nx (i := .iconst 1) (n := 1) (q := (33, [some (.ref p0), some (.long j1), none], [.int 1])) (jq qX13_isTold 16 rfl) rfl) ?_
          refine Eq.trans (jb_nx (i := .goto 4) (n := 3) (q := (37, [some (.ref p0), some (.long j1), none], [.int 1])) (jq qX13_isTold 17 rfl) rfl) ?_
          exact Eq.trans (jb_rt (i := .ireturn) (n := 1) (jq qX13_isTold 19 rfl) (jo_iret rfl (by decide))) H
      · exact Eq.trans (jb_rt (i := .invokestatic 414) (n := 3) (jq qX13_isTold 13 rfl) (jo_cs (y := mX13_find) (w := 1) (by decide) rfl (Nat.le_of_ble_eq_true rfl) rfl (Nat.le_of_ble_eq_true rfl) rfl r14 (jo_exn rfl))) H
    · rw [if_neg c8] at H
      refine Eq.trans (jb_nx (i := .if_icmp .ne 19) (n := 3) (q := (32, [some (.ref p0), some (.long j1), none], [])) (jq qX13_isTold 7 rfl) (jo_icT (jz_neT c8) rfl)) ?_
      refine Eq.trans (jb_nx (i := .iconst 1) (n := 1) (q := (33, [some (.ref p0), some (.long j1), none], [.int 1])) (jq qX13_isTold 16 rfl) rfl) ?_
      refine Eq.trans (jb_nx (i := .goto 4) (n := 3) (q := (37, [some (.ref p0), some (.long j1), none], [.int 1])) (jq qX13_isTold 17 rfl) rfl) ?_
      exact Eq.trans (jb_rt (i := .ireturn) (n := 1) (jq qX13_isTold 19 rfl) (jo_iret rfl (by decide))) H
  · exact Eq.trans (jb_rt (i := .invokestatic 414) (n := 3) (jq qX13_isTold 5 rfl) (jo_cs (y := mX13_find) (w := 1) (by decide) rfl (Nat.le_of_ble_eq_true rfl) rfl (Nat.le_of_ble_eq_true rfl) rfl r6 (jo_exn rfl))) H
/-! MaskPlaysModel find ([JIJ)I -/
def tX13_find : List (Nat × Instr × Nat) := [(0, .iconst 0, 1), (1, .istore 4, 2), (3, .iload 4, 2), (5, .iload_n 1, 1), (6, .if_icmp .ge 21, 3), (9, .aload_n 0, 1), (10, .iload 4, 2), (12, .laload, 1), (13, .lload_n 2, 1), (14, .lcmp, 1), (15, .ifCond .ne 6, 3), (18, .iload 4, 2), (20, .ireturn, 1), (21, .iinc 4 1, 3), (24, .goto (-21), 3), (27, .iconst (-1), 1), (28, .ireturn, 1)]
set_option maxRecDepth 100000 in
theorem qX13_find : ∀ q ∈ tX13_find, decode cX13_find q.1 = .ok (q.2.1, q.2.2) := by decide +kernel
noncomputable def kX13_find_3 (d : Nat) (p0 : Nat) (i1 : Int32) (j2 : Int64) (i4 : Int32) (h : jm_H) : Option jm_R := jm_B d mX13_find (3, [some (.ref p0), some (.int i1), some (.long j2), none, some (.int i4)], []) h
theorem gX13_find_3 {d : Nat} {p0 : Nat} {i1 : Int32} {j2 : Int64} {i4 : Int32} {h : jm_H} {r : jm_R} (H : ((if i4 < i1 then (jm_all h p0 i4).bind fun y2 => (if (lg_cmp y2 j2) = 0 then some (.inl (some (.int i4)), h) else kX13_find_3 d p0 i1 j2 (i4 + 1) h) else some (.inl (some (.int (-1))), h))) = some r) : kX13_find_3 d p0 i1 j2 i4 h = some r := by
  show jm_B d mX13_find (3, [some (.ref p0), some (.int i1), some (.long j2), none, some (.int i4)], []) h = some r
  refine Eq.trans (jb_nx (i := .iload 4) (n := 2) (q := (5, [some (.ref p0), some (.int i1), some (.long j2), none, some (.int i4)], [.int i4])) (jq qX13_find 2 rfl) rfl) ?_
  refine Eq.trans (jb_nx (i := .iload_n 1) (n := 1) (q := (6, [some (.ref p0), some (.int i1), some (.long j2), none, some (.int i4)], [.int i1, .int i4])) (jq qX13_find 3 rfl) rfl) ?_
  by_cases c1 : i4 < i1
  · rw [if_pos c1] at H
    refine Eq.trans (jb_nx (i := .if_icmp .ge 21) (n := 3) (q := (9, [some (.ref p0), some (.int i1), some (.long j2), none, some (.int i4)], [])) (jq qX13_find 4 rfl) (jo_icF (jz_geF c1))) ?_
    refine Eq.trans (jb_nx (i := .aload_n 0) (n := 1) (q := (10, [some (.ref p0), some (.int i1), some (.long j2), none, some (.int i4)], [.ref p0])) (jq qX13_find 5 rfl) rfl) ?_
    refine Eq.trans (jb_nx (i := .iload 4) (n := 2) (q := (12, [some (.ref p0), some (.int i1), some (.long j2), none, some (.int i4)], [.int i4, .ref p0])) (jq qX13_find 6 rfl) rfl) ?_
    obtain ⟨y2, e3, H⟩ := jbd H
    refine Eq.trans (jb_nx (i := .laload) (n := 1) (q := (13, [some (.ref p0), some (.int i1), some (.long j2), none, some (.int i4)], [.long y2])) (jq qX13_find 7 rfl) (jo_lal e3)) ?_
    refine Eq.trans (jb_nx (i := .lload_n 2) (n := 1) (q := (14, [some (.ref p0), some (.int i1), some (.long j2), none, some (.int i4)], [.long j2, .long y2])) (jq qX13_find 8 rfl) rfl) ?_
    refine Eq.trans (jb_nx (i := .lcmp) (n := 1) (q := (15, [some (.ref p0), some (.int i1), some (.long j2), none, some (.int i4)], [.int (lg_cmp y2 j2)])) (jq qX13_find 9 rfl) rfl) ?_
    by_cases c4 : (lg_cmp y2 j2) = 0
    · rw [if_pos c4] at H
      refine Eq.trans (jb_nx (i := .ifCond .ne 6) (n := 3) (q := (18, [some (.ref p0), some (.int i1), some (.long j2), none, some (.int i4)], [])) (jq qX13_find 10 rfl) (jo_ifF (jz_neF c4))) ?_
      refine Eq.trans (jb_nx (i := .iload 4) (n := 2) (q := (20, [some (.ref p0), some (.int i1), some (.long j2), none, some (.int i4)], [.int i4])) (jq qX13_find 11 rfl) rfl) ?_
      exact Eq.trans (jb_rt (i := .ireturn) (n := 1) (jq qX13_find 12 rfl) (jo_iret rfl rfl)) H
    · rw [if_neg c4] at H
      refine Eq.trans (jb_nx (i := .ifCond .ne 6) (n := 3) (q := (21, [some (.ref p0), some (.int i1), some (.long j2), none, some (.int i4)], [])) (jq qX13_find 10 rfl) (jo_ifT (jz_neT c4) rfl)) ?_
      refine Eq.trans (jb_nx (i := .iinc 4 1) (n := 3) (q := (24, [some (.ref p0), some (.int i1), some (.long j2), none, some (.int (i4 + 1))], [])) (jq qX13_find 13 rfl) rfl) ?_
      refine Eq.trans (jb_nx (i := .goto (-21)) (n := 3) (q := (3, [some (.ref p0), some (.int i1), some (.long j2), none, some (.int (i4 + 1))], [])) (jq qX13_find 14 rfl) rfl) ?_
      exact H
  · rw [if_neg c1] at H
    refine Eq.trans (jb_nx (i := .if_icmp .ge 21) (n := 3) (q := (27, [some (.ref p0), some (.int i1), some (.long j2), none, some (.int i4)], [])) (jq qX13_find 4 rfl) (jo_icT (jz_geT c1) rfl)) ?_
    refine Eq.trans (jb_nx (i := .iconst (-1)) (n := 1) (q := (28, [some (.ref p0), some (.int i1), some (.long j2), none, some (.int i4)], [.int (-1)])) (jq qX13_find 15 rfl) rfl) ?_
    exact Eq.trans (jb_rt (i := .ireturn) (n := 1) (jq qX13_find 16 rfl) (jo_iret rfl rfl)) H
theorem gX13_find {d : Nat} {p0 : Nat} {i1 : Int32} {j2 : Int64} {h : jm_H} {r : jm_R} (H : (kX13_find_3 d p0 i1 j2 0 h) = some r) : jm_D (d + 1) mX13_find [.ref p0, .int i1, .long j2] h = some r := by
  rw [jm_D_body (Nat.le_of_ble_eq_true rfl)]
  show jm_B d mX13_find (0, [some (.ref p0), some (.int i1), some (.long j2), none, none], []) h = some r
  refine Eq.trans (jb_nx (i := .iconst 0) (n := 1) (q := (1, [some (.ref p0), some (.int i1), some (.long j2), none, none], [.int 0])) (jq qX13_find 0 rfl) rfl) ?_
  refine Eq.trans (jb_nx (i := .istore 4) (n := 2) (q := (3, [some (.ref p0), some (.int i1), some (.long j2), none, some (.int 0)], [])) (jq qX13_find 1 rfl) rfl) ?_
  exact H
/-! MaskPlaysModel isWorn (LMaskPlaysModel$Book;I)Z -/
def tX13_isWorn : List (Nat × Instr × Nat) := [(0, .aload_n 0, 1), (1, .getfield 335, 3), (4, .iload_n 1, 1), (5, .iaload, 1), (6, .istore_n 2, 1), (7, .iload_n 2, 1), (8, .iconst (-1), 1), (9, .if_icmp .eq 31, 3), (12, .aload_n 0, 1), (13, .getfield 310, 3), (16, .iload_n 2, 1), (17, .laload, 1), (18, .aload_n 0, 1), (19, .getfield 310, 3), (22, .iload_n 1, 1), (23, .laload, 1), (24, .lcmp, 1), (25, .ifCond .ne 5, 3), (28, .iconst 1, 1), (29, .ireturn, 1), (30, .aload_n 0, 1), (31, .getfield 335, 3), (34, .iload_n 2, 1), (35, .iaload, 1), (36, .istore_n 2, 1), (37, .goto (-30), 3), (40, .iconst 0, 1), (41, .ireturn, 1)]
set_option maxRecDepth 100000 in
theorem qX13_isWorn : ∀ q ∈ tX13_isWorn, decode cX13_isWorn q.1 = .ok (q.2.1, q.2.2) := by decide +kernel
noncomputable def kX13_isWorn_7 (d : Nat) (p0 : Nat) (i1 : Int32) (i2 : Int32) (h : jm_H) : Option jm_R := jm_B d mX13_isWorn (7, [some (.ref p0), some (.int i1), some (.int i2)], []) h
theorem gX13_isWorn_7 {d : Nat} {p0 : Nat} {i1 : Int32} {i2 : Int32} {h : jm_H} {r : jm_R} (H : ((if i2 = (-1) then some (.inl (some (.int 0)), h) else (jr_R h p0 11 3 2).bind fun a6 => (jm_all h a6 i2).bind fun y8 => (jr_R h p0 11 3 2).bind fun a10 => (jm_all h a10 i1).bind fun y12 => (if (lg_cmp y8 y12) = 0 then some (.inl (some (.int 1)), h) else (jr_R h p0 11 4 2).bind fun a15 => (jm_ali h a15 0 i2).bind fun x17 => kX13_isWorn_7 d p0 i1 x17 h))) = some r) : kX13_isWorn_7 d p0 i1 i2 h = some r := by
  show jm_B d mX13_isWorn (7, [some (.ref p0), some (.int i1), some (.int i2)], []) h = some r
  refine Eq.trans (jb_nx (i := .iload_n 2) (n := 1) (q := (8, [some (.ref p0), some (.int i1), some (.int i2)], [.int i2])) (jq qX13_isWorn 5 rfl) rfl) ?_
  refine Eq.trans (jb_nx (i := .iconst (-1)) (n := 1) (q := (9, [some (.ref p0), some (.int i1), some (.int i2)], [.int (-1), .int i2])) (jq qX13_isWorn 6 rfl) rfl) ?_
  by_cases c5 : i2 = (-1)
  · rw [if_pos c5] at H
    refine Eq.trans (jb_nx (i := .if_icmp .eq 31) (n := 3) (q := (40, [some (.ref p0), some (.int i1), some (.int i2)], [])) (jq qX13_isWorn 7 rfl) (jo_icT (jz_eqT c5) rfl)) ?_
    refine Eq.trans (jb_nx (i := .iconst 0) (n := 1) (q := (41, [some (.ref p0), some (.int i1), some (.int i2)], [.int 0])) (jq qX13_isWorn 26 rfl) rfl) ?_
    exact Eq.trans (jb_rt (i := .ireturn) (n := 1) (jq qX13_isWorn 27 rfl) (jo_iret rfl (by decide))) H
  · rw [if_neg c5] at H
    refine Eq.trans (jb_nx (i := .if_icmp .eq 31) (n := 3) (q := (12, [some (.ref p0), some (.int i1), some (.int i2)], [])) (jq qX13_isWorn 7 rfl) (jo_icF (jz_eqF c5))) ?_
    refine Eq.trans (jb_nx (i := .aload_n 0) (n := 1) (q := (13, [some (.ref p0), some (.int i1), some (.int i2)], [.ref p0])) (jq qX13_isWorn 8 rfl) rfl) ?_
    obtain ⟨a6, e7, H⟩ := jbd H
    refine Eq.trans (jb_nx (i := .getfield 310) (n := 3) (q := (16, [some (.ref p0), some (.int i1), some (.int i2)], [.ref a6])) (jq qX13_isWorn 9 rfl) (jo_gf rfl (jr_R_inv e7))) ?_
    refine Eq.trans (jb_nx (i := .iload_n 2) (n := 1) (q := (17, [some (.ref p0), some (.int i1), some (.int i2)], [.int i2, .ref a6])) (jq qX13_isWorn 10 rfl) rfl) ?_
    obtain ⟨y8, e9, H⟩ := jbd H
    refine Eq.trans (jb_nx (i := .laload) (n := 1) (q := (18, [some (.ref p0), some (.int i1), some (.int i2)], [.long y8])) (jq qX13_isWorn 11 rfl) (jo_lal e9)) ?_
    refine Eq.trans (jb_nx (i := .aload_n 0) (n := 1) (q := (19, [some (.ref p0), some (.int i1), some (.int i2)], [.ref p0, .long y8])) (jq qX13_isWorn 12 rfl) rfl) ?_
    obtain ⟨a10, e11, H⟩ := jbd H
    refine Eq.trans (jb_nx (i := .getfield 310) (n := 3) (q := (22, [some (.ref p0), some (.int i1), some (.int i2)], [.ref a10, .long y8])) (jq qX13_isWorn 13 rfl) (jo_gf rfl (jr_R_inv e11))) ?_
    refine Eq.trans (jb_nx (i := .iload_n 1) (n := 1) (q := (23, [some (.ref p0), some (.int i1), some (.int i2)], [.int i1, .ref a10, .long y8])) (jq qX13_isWorn 14 rfl) rfl) ?_
    obtain ⟨y12, e13, H⟩ := jbd H
    refine Eq.trans (jb_nx (i := .laload) (n := 1) (q := (24, [some (.ref p0), some (.int i1), some (.int i2)], [.long y12, .long y8])) (jq qX13_isWorn 15 rfl) (jo_lal e13)) ?_
    refine Eq.trans (jb_nx (i := .lcmp) (n := 1) (q := (25, [some (.ref p0), some (.int i1), some (.int i2)], [.int (lg_cmp y8 y12)])) (jq qX13_isWorn 16 rfl) rfl) ?_
    by_cases c14 : (lg_cmp y8 y12) = 0
    · rw [if_pos c14] at H
      refine Eq.trans (jb_nx (i := .ifCond .ne 5) (n := 3) (q := (28, [some (.ref p0), some (.int i1), some (.int i2)], [])) (jq qX13_isWorn 17 rfl) (jo_ifF (jz_neF c14))) ?_
      refine Eq.trans (jb_nx (i := .iconst 1) (n := 1) (q := (29, [some (.ref p0), some (.int i1), some (.int i2)], [.int 1])) (jq qX13_isWorn 18 rfl) rfl) ?_
      exact Eq.trans (jb_rt (i := .ireturn) (n := 1) (jq qX13_isWorn 19 rfl) (jo_iret rfl (by decide))) H
    · rw [if_neg c14] at H
      refine Eq.trans (jb_nx (i := .ifCond .ne 5) (n := 3) (q := (30, [some (.ref p0), some (.int i1), some (.int i2)], [])) (jq qX13_isWorn 17 rfl) (jo_ifT (jz_neT c14) rfl)) ?_
      refine Eq.trans (jb_nx (i := .aload_n 0) (n := 1) (q := (31, [some (.ref p0), some (.int i1), some (.int i2)], [.ref p0])) (jq qX13_isWorn 20 rfl) rfl) ?_
      obtain ⟨a15, e16, H⟩ := jbd H
      refine Eq.trans (jb_nx (i := .getfield 335) (n := 3) (q := (34, [some (.ref p0), some (.int i1), some (.int i2)], [.ref a15])) (jq qX13_isWorn 21 rfl) (jo_gf rfl (jr_R_inv e16))) ?_
      refine Eq.trans (jb_nx (i := .iload_n 2) (n := 1) (q := (35, [some (.ref p0), some (.int i1), some (.int i2)], [.int i2, .ref a15])) (jq qX13_isWorn 22 rfl) rfl) ?_
      obtain ⟨x17, e18, H⟩ := jbd H
      refine Eq.trans (jb_nx (i := .iaload) (n := 1) (q := (36, [some (.ref p0), some (.int i1), some (.int i2)], [.int x17])) (jq qX13_isWorn 23 rfl) (jo_ial e18)) ?_
      refine Eq.trans (jb_nx (i := .istore_n 2) (n := 1) (q := (37, [some (.ref p0), some (.int i1), some (.int x17)], [])) (jq qX13_isWorn 24 rfl) rfl) ?_
      refine Eq.trans (jb_nx (i := .goto (-30)) (n := 3) (q := (7, [some (.ref p0), some (.int i1), some (.int x17)], [])) (jq qX13_isWorn 25 rfl) rfl) ?_
      exact H
theorem gX13_isWorn {d : Nat} {p0 : Nat} {i1 : Int32} {h : jm_H} {r : jm_R} (H : ((jr_R h p0 11 4 2).bind fun a1 => (jm_ali h a1 0 i1).bind fun x3 => kX13_isWorn_7 d p0 i1 x3 h) = some r) : jm_D (d + 1) mX13_isWorn [.ref p0, .int i1] h = some r := by
  rw [jm_D_body (Nat.le_of_ble_eq_true rfl)]
  show jm_B d mX13_isWorn (0, [some (.ref p0), some (.int i1), none], []) h = some r
  refine Eq.trans (jb_nx (i := .aload_n 0) (n := 1) (q := (1, [some (.ref p0), some (.int i1), none], [.ref p0])) (jq qX13_isWorn 0 rfl) rfl) ?_
  obtain ⟨a1, e2, H⟩ := jbd H
  refine Eq.trans (jb_nx (i := .getfield 335) (n := 3) (q := (4, [some (.ref p0), some (.int i1), none], [.ref a1])) (jq qX13_isWorn 1 rfl) (jo_gf rfl (jr_R_inv e2))) ?_
  refine Eq.trans (jb_nx (i := .iload_n 1) (n := 1) (q := (5, [some (.ref p0), some (.int i1), none], [.int i1, .ref a1])) (jq qX13_isWorn 2 rfl) rfl) ?_
  obtain ⟨x3, e4, H⟩ := jbd H
  refine Eq.trans (jb_nx (i := .iaload) (n := 1) (q := (6, [some (.ref p0), some (.int i1), none], [.int x3])) (jq qX13_isWorn 3 rfl) (jo_ial e4)) ?_
  refine Eq.trans (jb_nx (i := .istore_n 2) (n := 1) (q := (7, [some (.ref p0), some (.int i1), some (.int x3)], [])) (jq qX13_isWorn 4 rfl) rfl) ?_
  exact H
/-! MaskPlaysModel tell (LMaskPlaysModel$Book;I)Z -/
def tX13_tell : List (Nat × Instr × Nat) := [(0, .iconst 0, 1), (1, .istore_n 3, 1), (2, .aload_n 1, 1), (3, .getfield 71, 3), (6, .istore 4, 2), (8, .aload_n 0, 1), (9, .getfield 429, 3), (12, .iconst 2, 1), (13, .iadd, 1), (14, .istore 5, 2), (16, .iload 5, 2), (18, .iload_n 2, 1), (19, .if_icmp .ge 85, 3), (22, .iload_n 3, 1), (23, .istore 6, 2), (25, .aload_n 1, 1), (26, .getfield 323, 3), (29, .iload 5, 2), (31, .iaload, 1), (32, .bipush 91, 2), (34, .if_icmp .ne 15, 3), (37, .iload_n 3, 1), (38, .aload_n 1, 1), (39, .getfield 372, 3), (42, .iload 5, 2), (44, .iaload, 1), (45, .iconst 1, 1), (46, .isub, 1), (47, .iadd, 1), (48, .istore_n 3, 1), (49, .aload_n 1, 1), (50, .getfield 323, 3), (53, .iload 5, 2), (55, .iaload, 1), (56, .bipush 30, 2), (58, .if_icmp .ne 12, 3), (61, .iload_n 3, 1), (62, .aload_n 1, 1), (63, .iload 5, 2), (65, .invokestatic 440, 3), (68, .iadd, 1), (69, .istore_n 3, 1), (70, .iload_n 3, 1), (71, .sipush 150, 3), (74, .if_icmp .le 5, 3), (77, .iconst 0, 1), (78, .ireturn, 1), (79, .aload_n 1, 1), (80, .iload 5, 2), (82, .sipush 150, 3), (85, .iload 4, 2), (87, .imul, 1), (88, .iload 6, 2), (90, .iadd, 1), (91, .iload_n 3, 1), (92, .iload 6, 2), (94, .isub, 1), (95, .invokestatic 444, 3), (98, .iinc 5 1, 3), (101, .goto (-85), 3), (104, .aload_n 1, 1), (105, .getfield 134, 3), (108, .iload 4, 2), (110, .iload_n 3, 1), (111, .iastore, 1), (112, .aload_n 1, 1), (113, .getfield 418, 3), (116, .iload 4, 2), (118, .aload_n 0, 1), (119, .getfield 425, 3), (122, .lastore, 1), (123, .aload_n 1, 1), (124, .dup, 1), (125, .getfield 71, 3), (128, .iconst 1, 1), (129, .iadd, 1), (130, .putfield 71, 3), (133, .iconst 1, 1), (134, .ireturn, 1)]
set_option maxRecDepth 100000 in
theorem qX13_tell : ∀ q ∈ tX13_tell, decode cX13_tell q.1 = .ok (q.2.1, q.2.2) := by decide +kernel
noncomputable def kX13_tell_16 (d : Nat) (p0 : Nat) (p1 : Nat) (i2 : Int32) (i3 : Int32) (i4 : Int32) (i5 : Int32) (o6 : Option Value) (h : jm_H) : Option jm_R := jm_B d mX13_tell (16, [some (.ref p0), some (.ref p1), some (.int i2), some (.int i3), some (.int i4), some (.int i5), o6], []) h
noncomputable def kX13_tell_70 (d : Nat) (p0 : Nat) (p1 : Nat) (i2 : Int32) (i3 : Int32) (i4 : Int32) (i5 : Int32) (i6 : Int32) (h : jm_H) : Option jm_R := jm_B d mX13_tell (70, [some (.ref p0), some (.ref p1), some (.int i2), some (.int i3), some (.int i4), some (.int i5), some (.int i6)], []) h
theorem gX13_tell_16 {d : Nat} {p0 : Nat} {p1 : Nat} {i2 : Int32} {i3 : Int32} {i4 : Int32} {i5 : Int32} {o6 : Option Value} {h : jm_H} {r : jm_R} (H : ((if i5 < i2 then (jr_R h p1 11 0 2).bind fun a20 => (jm_ali h a20 0 i5).bind fun x22 => (if x22 = 91 then (jr_R h p1 11 5 2).bind fun a35 => (jm_ali h a35 0 i5).bind fun x37 => (jr_R h p1 11 0 2).bind fun a39 => (jm_ali h a39 0 i5).bind fun x41 => (if x41 = 30 then jc_I (jm_D d mX13_sizeOfName [.ref p1, .int i5] h) (fun x46 h44 => kX13_tell_70 d p0 p1 i2 ((i3 + (x37 - 1)) + x46) i4 i5 i3 h44) jx else kX13_tell_70 d p0 p1 i2 (i3 + (x37 - 1)) i4 i5 i3 h) else (jr_R h p1 11 0 2).bind fun a25 => (jm_ali h a25 0 i5).bind fun x27 => (if x27 = 30 then jc_I (jm_D d mX13_sizeOfName [.ref p1, .int i5] h) (fun x32 h30 => kX13_tell_70 d p0 p1 i2 (i3 + x32) i4 i5 i3 h30) jx else kX13_tell_70 d p0 p1 i2 i3 i4 i5 i3 h)) else (jr_R h p1 11 11 2).bind fun a6 => (jm_asi h a6 0 i4 i3).bind fun h8 => (jr_R h8 p1 11 9 2).bind fun a10 => (jr_L h8 p0 12 30 1).bind fun y12 => (jm_asl h8 a10 i4 y12).bind fun h14 => (jr_I h14 p1 11 8 0).bind fun x16 => (jm_pf h14 p1 11 8 0 (.int (x16 + 1))).bind fun h18 => some (.inl (some (.int 1)), h18))) = some r) : kX13_tell_16 d p0 p1 i2 i3 i4 i5 o6 h = some r := by
  show jm_B d mX13_tell (16, [some (.ref p0), some (.ref p1), some (.int i2), some (.int i3), some (.int i4), some (.int i5), o6], []) h = some r
  refine Eq.trans (jb_nx (i := .iload 5) (n := 2) (q := (18, [some (.ref p0), some (.ref p1), some (.int i2), some (.int i3), some (.int i4), some (.int i5), o6], [.int i5])) (jq qX13_tell 10 rfl) rfl) ?_
  refine Eq.trans (jb_nx (i := .iload_n 2) (n := 1) (q := (19, [some (.ref p0), some (.ref p1), some (.int i2), some (.int i3), some (.int i4), some (.int i5), o6], [.int i2, .int i5])) (jq qX13_tell 11 rfl) rfl) ?_
  by_cases c5 : i5 < i2
  · rw [if_pos c5] at H
    refine Eq.trans (jb_nx (i := .if_icmp .ge 85) (n := 3) (q := (22, [some (.ref p0), some (.ref p1), some (.int i2), some (.int i3), some (.int i4), some (.int i5), o6], [])) (jq qX13_tell 12 rfl) (jo_icF (jz_geF c5))) ?_
    refine Eq.trans (jb_nx (i := .iload_n 3) (n := 1) (q := (23, [some (.ref p0), some (.ref p1), some (.int i2), some (.int i3), some (.int i4), some (.int i5), o6], [.int i3])) (jq qX13_tell 13 rfl) rfl) ?_
    refine Eq.trans (jb_nx (i := .istore 6) (n := 2) (q := (25, [some (.ref p0), some (.ref p1), some (.int i2), some (.int i3), some (.int i4), some (.int i5), some (.int i3)], [])) (jq qX13_tell 14 rfl) rfl) ?_
    refine Eq.trans (jb_nx (i := .aload_n 1) (n := 1) (q := (26, [some (.ref p0), some (.ref p1), some (.int i2), some (.int i3), some (.int i4), some (.int i5), some (.int i3)], [.ref p1])) (jq qX13_tell 15 rfl) rfl) ?_
    obtain ⟨a20, e21, H⟩ := jbd H
    refine Eq.trans (jb_nx (i := .getfield 323) (n := 3) (q := (29, [some (.ref p0), some (.ref p1), some (.int i2), some (.int i3), some (.int i4), some (.int i5), some (.int i3)], [.ref a20])) (jq qX13_tell 16 rfl) (jo_gf rfl (jr_R_inv e21))) ?_
    refine Eq.trans (jb_nx (i := .iload 5) (n := 2) (q := (31, [some (.ref p0), some (.ref p1), some (.int i2), some (.int i3), some (.int i4), some (.int i5), some (.int i3)], [.int i5, .ref a20])) (jq qX13_tell 17 rfl) rfl) ?_
    obtain ⟨x22, e23, H⟩ := jbd H
    refine Eq.trans (jb_nx (i := .iaload) (n := 1) (q := (32, [some (.ref p0), some (.ref p1), some (.int i2), some (.int i3), some (.int i4), some (.int i5), some (.int i3)], [.int x22])) (jq qX13_tell 18 rfl) (jo_ial e23)) ?_
    refine Eq.trans (jb_nx (i := .bipush 91) (n := 2) (q := (34, [some (.ref p0), some (.ref p1), some (.int i2), some (.int i3), some (.int i4), some (.int i5), some (.int i3)], [.int 91, .int x22])) (jq qX13_tell 19 rfl) rfl) ?_
    by_cases c24 : x22 = 91
    · rw [if_pos c24] at H
      refine Eq.trans (jb_nx (i := .if_icmp .ne 15) (n := 3) (q := (37, [some (.ref p0), some (.ref p1), some (.int i2), some (.int i3), some (.int i4), some (.int i5), some (.int i3)], [])) (jq qX13_tell 20 rfl) (jo_icF (jz_neF c24))) ?_
      refine Eq.trans (jb_nx (i := .iload_n 3) (n := 1) (q := (38, [some (.ref p0), some (.ref p1), some (.int i2), some (.int i3), some (.int i4), some (.int i5), some (.int i3)], [.int i3])) (jq qX13_tell 21 rfl) rfl) ?_
      refine Eq.trans (jb_nx (i := .aload_n 1) (n := 1) (q := (39, [some (.ref p0), some (.ref p1), some (.int i2), some (.int i3), some (.int i4), some (.int i5), some (.int i3)], [.ref p1, .int i3])) (jq qX13_tell 22 rfl) rfl) ?_
      obtain ⟨a35, e36, H⟩ := jbd H
      refine Eq.trans (jb_nx (i := .getfield 372) (n := 3) (q := (42, [some (.ref p0), some (.ref p1), some (.int i2), some (.int i3), some (.int i4), some (.int i5), some (.int i3)], [.ref a35, .int i3])) (jq qX13_tell 23 rfl) (jo_gf rfl (jr_R_inv e36))) ?_
      refine Eq.trans (jb_nx (i := .iload 5) (n := 2) (q := (44, [some (.ref p0), some (.ref p1), some (.int i2), some (.int i3), some (.int i4), some (.int i5), some (.int i3)], [.int i5, .ref a35, .int i3])) (jq qX13_tell 24 rfl) rfl) ?_
      obtain ⟨x37, e38, H⟩ := jbd H
      refine Eq.trans (jb_nx (i := .iaload) (n := 1) (q := (45, [some (.ref p0), some (.ref p1), some (.int i2), some (.int i3), some (.int i4), some (.int i5), some (.int i3)], [.int x37, .int i3])) (jq qX13_tell 25 rfl) (jo_ial e38)) ?_
      refine Eq.trans (jb_nx (i := .iconst 1) (n := 1) (q := (46, [some (.ref p0), some (.ref p1), some (.int i2), some (.int i3), some (.int i4), some (.int i5), some (.int i3)], [.int 1, .int x37, .int i3])) (jq qX13_tell 26 rfl) rfl) ?_
      refine Eq.trans (jb_nx (i := .isub) (n := 1) (q := (47, [some (.ref p0), some (.ref p1), some (.int i2), some (.int i3), some (.int i4), some (.int i5), some (.int i3)], [.int (x37 - 1), .int i3])) (jq qX13_tell 27 rfl) rfl) ?_
      refine Eq.trans (jb_nx (i := .iadd) (n := 1) (q := (48, [some (.ref p0), some (.ref p1), some (.int i2), some (.int i3), some (.int i4), some (.int i5), some (.int i3)], [.int (i3 + (x37 - 1))])) (jq qX13_tell 28 rfl) rfl) ?_
      refine Eq.trans (jb_nx (i := .istore_n 3) (n := 1) (q := (49, [some (.ref p0), some (.ref p1), some (.int i2), some (.int (i3 + (x37 - 1))), some (.int i4), some (.int i5), some (.int i3)], [])) (jq qX13_tell 29 rfl) rfl) ?_
      refine Eq.trans (jb_nx (i := .aload_n 1) (n := 1) (q := (50, [some (.ref p0), some (.ref p1), some (.int i2), some (.int (i3 + (x37 - 1))), some (.int i4), some (.int i5), some (.int i3)], [.ref p1])) (jq qX13_tell 30 rfl) rfl) ?_
      obtain ⟨a39, e40, H⟩ := jbd H
      refine Eq.trans (jb_nx (i := .getfield 323) (n := 3) (q := (53, [some (.ref p0), some (.ref p1), some (.int i2), some (.int (i3 + (x37 - 1))), some (.int i4), some (.int i5), some (.int i3)], [.ref a39])) (jq qX13_tell 31 rfl) (jo_gf rfl (jr_R_inv e40))) ?_
      refine Eq.trans (jb_nx (i := .iload 5) (n := 2) (q := (55, [some (.ref p0), some (.ref p1), some (.int i2), some (.int (i3 + (x37 - 1))), some (.int i4), some (.int i5), some (.int i3)], [.int i5, .ref a39])) (jq qX13_tell 32 rfl) rfl) ?_
      obtain ⟨x41, e42, H⟩ := jbd H
      refine Eq.trans (jb_nx (i := .iaload) (n := 1) (q := (56, [some (.ref p0), some (.ref p1), some (.int i2), some (.int (i3 + (x37 - 1))), some (.int i4), some (.int i5), some (.int i3)], [.int x41])) (jq qX13_tell 33 rfl) (jo_ial e42)) ?_
      refine Eq.trans (jb_nx (i := .bipush 30) (n := 2) (q := (58, [some (.ref p0), some (.ref p1), some (.int i2), some (.int (i3 + (x37 - 1))), some (.int i4), some (.int i5), some (.int i3)], [.int 30, .int x41])) (jq qX13_tell 34 rfl) rfl) ?_
      by_cases c43 : x41 = 30
      · rw [if_pos c43] at H
        refine Eq.trans (jb_nx (i := .if_icmp .ne 12) (n := 3) (q := (61, [some (.ref p0), some (.ref p1), some (.int i2), some (.int (i3 + (x37 - 1))), some (.int i4), some (.int i5), some (.int i3)], [])) (jq qX13_tell 35 rfl) (jo_icF (jz_neF c43))) ?_
        refine Eq.trans (jb_nx (i := .iload_n 3) (n := 1) (q := (62, [some (.ref p0), some (.ref p1), some (.int i2), some (.int (i3 + (x37 - 1))), some (.int i4), some (.int i5), some (.int i3)], [.int (i3 + (x37 - 1))])) (jq qX13_tell 36 rfl) rfl) ?_
        refine Eq.trans (jb_nx (i := .aload_n 1) (n := 1) (q := (63, [some (.ref p0), some (.ref p1), some (.int i2), some (.int (i3 + (x37 - 1))), some (.int i4), some (.int i5), some (.int i3)], [.ref p1, .int (i3 + (x37 - 1))])) (jq qX13_tell 37 rfl) rfl) ?_
        refine Eq.trans (jb_nx (i := .iload 5) (n := 2) (q := (65, [some (.ref p0), some (.ref p1), some (.int i2), some (.int (i3 + (x37 - 1))), some (.int i4), some (.int i5), some (.int i3)], [.int i5, .ref p1, .int (i3 + (x37 - 1))])) (jq qX13_tell 38 rfl) rfl) ?_
        rcases jcI H with ⟨x46, h44, r45, H⟩ | ⟨w47, h48, r45, H⟩
        · refine Eq.trans (jb_nx (i := .invokestatic 440) (n := 3) (q := (68, [some (.ref p0), some (.ref p1), some (.int i2), some (.int (i3 + (x37 - 1))), some (.int i4), some (.int i5), some (.int i3)], [.int x46, .int (i3 + (x37 - 1))])) (jq qX13_tell 39 rfl) (jo_cs (y := mX13_sizeOfName) (w := 1) (by decide) rfl (Nat.le_of_ble_eq_true rfl) rfl (Nat.le_of_ble_eq_true rfl) rfl r45 jo_ret)) ?_
          refine Eq.trans (jb_nx (i := .iadd) (n := 1) (q := (69, [some (.ref p0), some (.ref p1), some (.int i2), some (.int (i3 + (x37 - 1))), some (.int i4), some (.int i5), some (.int i3)], [.int ((i3 + (x37 - 1)) + x46)])) (jq qX13_tell 40 rfl) rfl) ?_
          refine Eq.trans (jb_nx (i := .istore_n 3) (n := 1) (q := (70, [some (.ref p0), some (.ref p1), some (.int i2), some (.int ((i3 + (x37 - 1)) + x46)), some (.int i4), some (.int i5), some (.int i3)], [])) (jq qX13_tell 41 rfl) rfl) ?_
          exact H
        · exact Eq.trans (jb_rt (i := .invokestatic 440) (n := 3) (jq qX13_tell 39 rfl) (jo_cs (y := mX13_sizeOfName) (w := 1) (by decide) rfl (Nat.le_of_ble_eq_true rfl) rfl (Nat.le_of_ble_eq_true rfl) rfl r45 (jo_exn rfl))) H
      · rw [if_neg c43] at H
        refine Eq.trans (jb_nx (i := .if_icmp .ne 12) (n := 3) (q := (70, [some (.ref p0), some (.ref p1), some (.int i2), some (.int (i3 + (x37 - 1))), some (.int i4), some (.int i5), some (.int i3)], [])) (jq qX13_tell 35 rfl) (jo_icT (jz_neT c43) rfl)) ?_
        exact H
    · rw [if_neg c24] at H
      refine Eq.trans (jb_nx (i := .if_icmp .ne 15) (n := 3) (q := (49, [some (.ref p0), some (.ref p1), some (.int i2), some (.int i3), some (.int i4), some (.int i5), some (.int i3)], [])) (jq qX13_tell 20 rfl) (jo_icT (jz_neT c24) rfl)) ?_
      refine Eq.trans (jb_nx (i := .aload_n 1) (n := 1) (q := (50, [some (.ref p0), some (.ref p1), some (.int i2), some (.int i3), some (.int i4), some (.int i5), some (.int i3)], [.ref p1])) (jq qX13_tell 30 rfl) rfl) ?_
      obtain ⟨a25, e26, H⟩ := jbd H
      refine Eq.trans (jb_nx (i := .getfield 323) (n := 3) (q := (53, [some (.ref p0), some (.ref p1), some (.int i2), some (.int i3), some (.int i4), some (.int i5), some (.int i3)], [.ref a25])) (jq qX13_tell 31 rfl) (jo_gf rfl (jr_R_inv e26))) ?_
      refine Eq.trans (jb_nx (i := .iload 5) (n := 2) (q := (55, [some (.ref p0), some (.ref p1), some (.int i2), some (.int i3), some (.int i4), some (.int i5), some (.int i3)], [.int i5, .ref a25])) (jq qX13_tell 32 rfl) rfl) ?_
      obtain ⟨x27, e28, H⟩ := jbd H
      refine Eq.trans (jb_nx (i := .iaload) (n := 1) (q := (56, [some (.ref p0), some (.ref p1), some (.int i2), some (.int i3), some (.int i4), some (.int i5), some (.int i3)], [.int x27])) (jq qX13_tell 33 rfl) (jo_ial e28)) ?_
      refine Eq.trans (jb_nx (i := .bipush 30) (n := 2) (q := (58, [some (.ref p0), some (.ref p1), some (.int i2), some (.int i3), some (.int i4), some (.int i5), some (.int i3)], [.int 30, .int x27])) (jq qX13_tell 34 rfl) rfl) ?_
      by_cases c29 : x27 = 30
      · rw [if_pos c29] at H
        refine Eq.trans (jb_nx (i := .if_icmp .ne 12) (n := 3) (q := (61, [some (.ref p0), some (.ref p1), some (.int i2), some (.int i3), some (.int i4), some (.int i5), some (.int i3)], [])) (jq qX13_tell 35 rfl) (jo_icF (jz_neF c29))) ?_
        refine Eq.trans (jb_nx (i := .iload_n 3) (n := 1) (q := (62, [some (.ref p0), some (.ref p1), some (.int i2), some (.int i3), some (.int i4), some (.int i5), some (.int i3)], [.int i3])) (jq qX13_tell 36 rfl) rfl) ?_
        refine Eq.trans (jb_nx (i := .aload_n 1) (n := 1) (q := (63, [some (.ref p0), some (.ref p1), some (.int i2), some (.int i3), some (.int i4), some (.int i5), some (.int i3)], [.ref p1, .int i3])) (jq qX13_tell 37 rfl) rfl) ?_
        refine Eq.trans (jb_nx (i := .iload 5) (n := 2) (q := (65, [some (.ref p0), some (.ref p1), some (.int i2), some (.int i3), some (.int i4), some (.int i5), some (.int i3)], [.int i5, .ref p1, .int i3])) (jq qX13_tell 38 rfl) rfl) ?_
        rcases jcI H with ⟨x32, h30, r31, H⟩ | ⟨w33, h34, r31, H⟩
        · refine Eq.trans (jb_nx (i := .invokestatic 440) (n := 3) (q := (68, [some (.ref p0), some (.ref p1), some (.int i2), some (.int i3), some (.int i4), some (.int i5), some (.int i3)], [.int x32, .int i3])) (jq qX13_tell 39 rfl) (jo_cs (y := mX13_sizeOfName) (w := 1) (by decide) rfl (Nat.le_of_ble_eq_true rfl) rfl (Nat.le_of_ble_eq_true rfl) rfl r31 jo_ret)) ?_
          refine Eq.trans (jb_nx (i := .iadd) (n := 1) (q := (69, [some (.ref p0), some (.ref p1), some (.int i2), some (.int i3), some (.int i4), some (.int i5), some (.int i3)], [.int (i3 + x32)])) (jq qX13_tell 40 rfl) rfl) ?_
          refine Eq.trans (jb_nx (i := .istore_n 3) (n := 1) (q := (70, [some (.ref p0), some (.ref p1), some (.int i2), some (.int (i3 + x32)), some (.int i4), some (.int i5), some (.int i3)], [])) (jq qX13_tell 41 rfl) rfl) ?_
          exact H
        · exact Eq.trans (jb_rt (i := .invokestatic 440) (n := 3) (jq qX13_tell 39 rfl) (jo_cs (y := mX13_sizeOfName) (w := 1) (by decide) rfl (Nat.le_of_ble_eq_true rfl) rfl (Nat.le_of_ble_eq_true rfl) rfl r31 (jo_exn rfl))) H
      · rw [if_neg c29] at H
        refine Eq.trans (jb_nx (i := .if_icmp .ne 12) (n := 3) (q := (70, [some (.ref p0), some (.ref p1), some (.int i2), some (.int i3), some (.int i4), some (.int i5), some (.int i3)], [])) (jq qX13_tell 35 rfl) (jo_icT (jz_neT c29) rfl)) ?_
        exact H
  · rw [if_neg c5] at H
    refine Eq.trans (jb_nx (i := .if_icmp .ge 85) (n := 3) (q := (104, [some (.ref p0), some (.ref p1), some (.int i2), some (.int i3), some (.int i4), some (.int i5), o6], [])) (jq qX13_tell 12 rfl) (jo_icT (jz_geT c5) rfl)) ?_
    refine Eq.trans (jb_nx (i := .aload_n 1) (n := 1) (q := (105, [some (.ref p0), some (.ref p1), some (.int i2), some (.int i3), some (.int i4), some (.int i5), o6], [.ref p1])) (jq qX13_tell 60 rfl) rfl) ?_
    obtain ⟨a6, e7, H⟩ := jbd H
    refine Eq.trans (jb_nx (i := .getfield 134) (n := 3) (q := (108, [some (.ref p0), some (.ref p1), some (.int i2), some (.int i3), some (.int i4), some (.int i5), o6], [.ref a6])) (jq qX13_tell 61 rfl) (jo_gf rfl (jr_R_inv e7))) ?_
    refine Eq.trans (jb_nx (i := .iload 4) (n := 2) (q := (110, [some (.ref p0), some (.ref p1), some (.int i2), some (.int i3), some (.int i4), some (.int i5), o6], [.int i4, .ref a6])) (jq qX13_tell 62 rfl) rfl) ?_
    refine Eq.trans (jb_nx (i := .iload_n 3) (n := 1) (q := (111, [some (.ref p0), some (.ref p1), some (.int i2), some (.int i3), some (.int i4), some (.int i5), o6], [.int i3, .int i4, .ref a6])) (jq qX13_tell 63 rfl) rfl) ?_
    obtain ⟨h8, e9, H⟩ := jbd H
    refine Eq.trans (jb_nx (i := .iastore) (n := 1) (q := (112, [some (.ref p0), some (.ref p1), some (.int i2), some (.int i3), some (.int i4), some (.int i5), o6], [])) (jq qX13_tell 64 rfl) (jo_ias e9)) ?_
    refine Eq.trans (jb_nx (i := .aload_n 1) (n := 1) (q := (113, [some (.ref p0), some (.ref p1), some (.int i2), some (.int i3), some (.int i4), some (.int i5), o6], [.ref p1])) (jq qX13_tell 65 rfl) rfl) ?_
    obtain ⟨a10, e11, H⟩ := jbd H
    refine Eq.trans (jb_nx (i := .getfield 418) (n := 3) (q := (116, [some (.ref p0), some (.ref p1), some (.int i2), some (.int i3), some (.int i4), some (.int i5), o6], [.ref a10])) (jq qX13_tell 66 rfl) (jo_gf rfl (jr_R_inv e11))) ?_
    refine Eq.trans (jb_nx (i := .iload 4) (n := 2) (q := (118, [some (.ref p0), some (.ref p1), some (.int i2), some (.int i3), some (.int i4), some (.int i5), o6], [.int i4, .ref a10])) (jq qX13_tell 67 rfl) rfl) ?_
    refine Eq.trans (jb_nx (i := .aload_n 0) (n := 1) (q := (119, [some (.ref p0), some (.ref p1), some (.int i2), some (.int i3), some (.int i4), some (.int i5), o6], [.ref p0, .int i4, .ref a10])) (jq qX13_tell 68 rfl) rfl) ?_
    obtain ⟨y12, e13, H⟩ := jbd H
    refine Eq.trans (jb_nx (i := .getfield 425) (n := 3) (q := (122, [some (.ref p0), some (.ref p1), some (.int i2), some (.int i3), some (.int i4), some (.int i5), o6], [.long y12, .int i4, .ref a10])) (jq qX13_tell 69 rfl) (jo_gf rfl (jr_L_inv e13))) ?_
    obtain ⟨h14, e15, H⟩ := jbd H
    refine Eq.trans (jb_nx (i := .lastore) (n := 1) (q := (123, [some (.ref p0), some (.ref p1), some (.int i2), some (.int i3), some (.int i4), some (.int i5), o6], [])) (jq qX13_tell 70 rfl) (jo_las e15)) ?_
    refine Eq.trans (jb_nx (i := .aload_n 1) (n := 1) (q := (124, [some (.ref p0), some (.ref p1), some (.int i2), some (.int i3), some (.int i4), some (.int i5), o6], [.ref p1])) (jq qX13_tell 71 rfl) rfl) ?_
    refine Eq.trans (jb_nx (i := .dup) (n := 1) (q := (125, [some (.ref p0), some (.ref p1), some (.int i2), some (.int i3), some (.int i4), some (.int i5), o6], [.ref p1, .ref p1])) (jq qX13_tell 72 rfl) rfl) ?_
    obtain ⟨x16, e17, H⟩ := jbd H
    refine Eq.trans (jb_nx (i := .getfield 71) (n := 3) (q := (128, [some (.ref p0), some (.ref p1), some (.int i2), some (.int i3), some (.int i4), some (.int i5), o6], [.int x16, .ref p1])) (jq qX13_tell 73 rfl) (jo_gf rfl (jr_I_inv e17))) ?_
    refine Eq.trans (jb_nx (i := .iconst 1) (n := 1) (q := (129, [some (.ref p0), some (.ref p1), some (.int i2), some (.int i3), some (.int i4), some (.int i5), o6], [.int 1, .int x16, .ref p1])) (jq qX13_tell 74 rfl) rfl) ?_
    refine Eq.trans (jb_nx (i := .iadd) (n := 1) (q := (130, [some (.ref p0), some (.ref p1), some (.int i2), some (.int i3), some (.int i4), some (.int i5), o6], [.int (x16 + 1), .ref p1])) (jq qX13_tell 75 rfl) rfl) ?_
    obtain ⟨h18, e19, H⟩ := jbd H
    refine Eq.trans (jb_nx (i := .putfield 71) (n := 3) (q := (133, [some (.ref p0), some (.ref p1), some (.int i2), some (.int i3), some (.int i4), some (.int i5), o6], [])) (jq qX13_tell 76 rfl) (jo_pf rfl (Or.inl rfl) e19)) ?_
    refine Eq.trans (jb_nx (i := .iconst 1) (n := 1) (q := (134, [some (.ref p0), some (.ref p1), some (.int i2), some (.int i3), some (.int i4), some (.int i5), o6], [.int 1])) (jq qX13_tell 77 rfl) rfl) ?_
    exact Eq.trans (jb_rt (i := .ireturn) (n := 1) (jq qX13_tell 78 rfl) (jo_iret rfl (by decide))) H
theorem gX13_tell_70 {d : Nat} {p0 : Nat} {p1 : Nat} {i2 : Int32} {i3 : Int32} {i4 : Int32} {i5 : Int32} {i6 : Int32} {h : jm_H} {r : jm_R} (H : ((if 150 < i3 then some (.inl (some (.int 0)), h) else jc_V (jm_D d mX13_layOut [.ref p1, .int i5, .int ((150 * i4) + i6), .int (i3 - i6)] h) (fun h50 => kX13_tell_16 d p0 p1 i2 i3 i4 (i5 + 1) (some (.int i6)) h50) jx)) = some r) : kX13_tell_70 d p0 p1 i2 i3 i4 i5 i6 h = some r := by
  show jm_B d mX13_tell (70, [some (.ref p0), some (.ref p1), some (.int i2), some (.int i3), some (.int i4), some (.int i5), some (.int i6)], []) h = some r
  refine Eq.trans (jb_nx (i := .iload_n 3) (n := 1) (q := (71, [some (.ref p0), some (.ref p1), some (.int i2), some (.int i3), some (.int i4), some (.int i5), some (.int i6)], [.int i3])) (jq qX13_tell 42 rfl) rfl) ?_
  refine Eq.trans (jb_nx (i := .sipush 150) (n := 3) (q := (74, [some (.ref p0), some (.ref p1), some (.int i2), some (.int i3), some (.int i4), some (.int i5), some (.int i6)], [.int 150, .int i3])) (jq qX13_tell 43 rfl) rfl) ?_
  by_cases c49 : 150 < i3
  · rw [if_pos c49] at H
    refine Eq.trans (jb_nx (i := .if_icmp .le 5) (n := 3) (q := (77, [some (.ref p0), some (.ref p1), some (.int i2), some (.int i3), some (.int i4), some (.int i5), some (.int i6)], [])) (jq qX13_tell 44 rfl) (jo_icF (jz_leF c49))) ?_
    refine Eq.trans (jb_nx (i := .iconst 0) (n := 1) (q := (78, [some (.ref p0), some (.ref p1), some (.int i2), some (.int i3), some (.int i4), some (.int i5), some (.int i6)], [.int 0])) (jq qX13_tell 45 rfl) rfl) ?_
    exact Eq.trans (jb_rt (i := .ireturn) (n := 1) (jq qX13_tell 46 rfl) (jo_iret rfl (by decide))) H
  · rw [if_neg c49] at H
    refine Eq.trans (jb_nx (i := .if_icmp .le 5) (n := 3) (q := (79, [some (.ref p0), some (.ref p1), some (.int i2), some (.int i3), some (.int i4), some (.int i5), some (.int i6)], [])) (jq qX13_tell 44 rfl) (jo_icT (jz_leT c49) rfl)) ?_
    refine Eq.trans (jb_nx (i := .aload_n 1) (n := 1) (q := (80, [some (.ref p0), some (.ref p1), some (.int i2), some (.int i3), some (.int i4), some (.int i5), some (.int i6)], [.ref p1])) (jq qX13_tell 47 rfl) rfl) ?_
    refine Eq.trans (jb_nx (i := .iload 5) (n := 2) (q := (82, [some (.ref p0), some (.ref p1), some (.int i2), some (.int i3), some (.int i4), some (.int i5), some (.int i6)], [.int i5, .ref p1])) (jq qX13_tell 48 rfl) rfl) ?_
    refine Eq.trans (jb_nx (i := .sipush 150) (n := 3) (q := (85, [some (.ref p0), some (.ref p1), some (.int i2), some (.int i3), some (.int i4), some (.int i5), some (.int i6)], [.int 150, .int i5, .ref p1])) (jq qX13_tell 49 rfl) rfl) ?_
    refine Eq.trans (jb_nx (i := .iload 4) (n := 2) (q := (87, [some (.ref p0), some (.ref p1), some (.int i2), some (.int i3), some (.int i4), some (.int i5), some (.int i6)], [.int i4, .int 150, .int i5, .ref p1])) (jq qX13_tell 50 rfl) rfl) ?_
    refine Eq.trans (jb_nx (i := .imul) (n := 1) (q := (88, [some (.ref p0), some (.ref p1), some (.int i2), some (.int i3), some (.int i4), some (.int i5), some (.int i6)], [.int (150 * i4), .int i5, .ref p1])) (jq qX13_tell 51 rfl) rfl) ?_
    refine Eq.trans (jb_nx (i := .iload 6) (n := 2) (q := (90, [some (.ref p0), some (.ref p1), some (.int i2), some (.int i3), some (.int i4), some (.int i5), some (.int i6)], [.int i6, .int (150 * i4), .int i5, .ref p1])) (jq qX13_tell 52 rfl) rfl) ?_
    refine Eq.trans (jb_nx (i := .iadd) (n := 1) (q := (91, [some (.ref p0), some (.ref p1), some (.int i2), some (.int i3), some (.int i4), some (.int i5), some (.int i6)], [.int ((150 * i4) + i6), .int i5, .ref p1])) (jq qX13_tell 53 rfl) rfl) ?_
    refine Eq.trans (jb_nx (i := .iload_n 3) (n := 1) (q := (92, [some (.ref p0), some (.ref p1), some (.int i2), some (.int i3), some (.int i4), some (.int i5), some (.int i6)], [.int i3, .int ((150 * i4) + i6), .int i5, .ref p1])) (jq qX13_tell 54 rfl) rfl) ?_
    refine Eq.trans (jb_nx (i := .iload 6) (n := 2) (q := (94, [some (.ref p0), some (.ref p1), some (.int i2), some (.int i3), some (.int i4), some (.int i5), some (.int i6)], [.int i6, .int i3, .int ((150 * i4) + i6), .int i5, .ref p1])) (jq qX13_tell 55 rfl) rfl) ?_
    refine Eq.trans (jb_nx (i := .isub) (n := 1) (q := (95, [some (.ref p0), some (.ref p1), some (.int i2), some (.int i3), some (.int i4), some (.int i5), some (.int i6)], [.int (i3 - i6), .int ((150 * i4) + i6), .int i5, .ref p1])) (jq qX13_tell 56 rfl) rfl) ?_
    rcases jcV H with ⟨h50, r51, H⟩ | ⟨w52, h53, r51, H⟩
    · refine Eq.trans (jb_nx (i := .invokestatic 444) (n := 3) (q := (98, [some (.ref p0), some (.ref p1), some (.int i2), some (.int i3), some (.int i4), some (.int i5), some (.int i6)], [])) (jq qX13_tell 57 rfl) (jo_cs (y := mX13_layOut) (w := 1) (by decide) rfl (Nat.le_of_ble_eq_true rfl) rfl (Nat.le_of_ble_eq_true rfl) rfl r51 jo_ret)) ?_
      refine Eq.trans (jb_nx (i := .iinc 5 1) (n := 3) (q := (101, [some (.ref p0), some (.ref p1), some (.int i2), some (.int i3), some (.int i4), some (.int (i5 + 1)), some (.int i6)], [])) (jq qX13_tell 58 rfl) rfl) ?_
      refine Eq.trans (jb_nx (i := .goto (-85)) (n := 3) (q := (16, [some (.ref p0), some (.ref p1), some (.int i2), some (.int i3), some (.int i4), some (.int (i5 + 1)), some (.int i6)], [])) (jq qX13_tell 59 rfl) rfl) ?_
      exact H
    · exact Eq.trans (jb_rt (i := .invokestatic 444) (n := 3) (jq qX13_tell 57 rfl) (jo_cs (y := mX13_layOut) (w := 1) (by decide) rfl (Nat.le_of_ble_eq_true rfl) rfl (Nat.le_of_ble_eq_true rfl) rfl r51 (jo_exn rfl))) H
theorem gX13_tell {d : Nat} {p0 : Nat} {p1 : Nat} {i2 : Int32} {h : jm_H} {r : jm_R} (H : ((jr_I h p1 11 8 0).bind fun x1 => (jr_I h p0 12 28 0).bind fun x3 => kX13_tell_16 d p0 p1 i2 0 x1 (x3 + 2) none h) = some r) : jm_D (d + 1) mX13_tell [.ref p0, .ref p1, .int i2] h = some r := by
  rw [jm_D_body (Nat.le_of_ble_eq_true rfl)]
  show jm_B d mX13_tell (0, [some (.ref p0), some (.ref p1), some (.int i2), none, none, none, none], []) h = some r
  refine Eq.trans (jb_nx (i := .iconst 0) (n := 1) (q := (1, [some (.ref p0), some (.ref p1), some (.int i2), none, none, none, none], [.int 0])) (jq qX13_tell 0 rfl) rfl) ?_
  refine Eq.trans (jb_nx (i := .istore_n 3) (n := 1) (q := (2, [some (.ref p0), some (.ref p1), some (.int i2), some (.int 0), none, none, none], [])) (jq qX13_tell 1 rfl) rfl) ?_
  refine Eq.trans (jb_nx (i := .aload_n 1) (n := 1) (q := (3, [some (.ref p0), some (.ref p1), some (.int i2), some (.int 0), none, none, none], [.ref p1])) (jq qX13_tell 2 rfl) rfl) ?_
  obtain ⟨x1, e2, H⟩ := jbd H
  refine Eq.trans (jb_nx (i := .getfield 71) (n := 3) (q := (6, [some (.ref p0), some (.ref p1), some (.int i2), some (.int 0), none, none, none], [.int x1])) (jq qX13_tell 3 rfl) (jo_gf rfl (jr_I_inv e2))) ?_
  refine Eq.trans (jb_nx (i := .istore 4) (n := 2) (q := (8, [some (.ref p0), some (.ref p1), some (.int i2), some (.int 0), some (.int x1), none, none], [])) (jq qX13_tell 4 rfl) rfl) ?_
  refine Eq.trans (jb_nx (i := .aload_n 0) (n := 1) (q := (9, [some (.ref p0), some (.ref p1), some (.int i2), some (.int 0), some (.int x1), none, none], [.ref p0])) (jq qX13_tell 5 rfl) rfl) ?_
  obtain ⟨x3, e4, H⟩ := jbd H
  refine Eq.trans (jb_nx (i := .getfield 429) (n := 3) (q := (12, [some (.ref p0), some (.ref p1), some (.int i2), some (.int 0), some (.int x1), none, none], [.int x3])) (jq qX13_tell 6 rfl) (jo_gf rfl (jr_I_inv e4))) ?_
  refine Eq.trans (jb_nx (i := .iconst 2) (n := 1) (q := (13, [some (.ref p0), some (.ref p1), some (.int i2), some (.int 0), some (.int x1), none, none], [.int 2, .int x3])) (jq qX13_tell 7 rfl) rfl) ?_
  refine Eq.trans (jb_nx (i := .iadd) (n := 1) (q := (14, [some (.ref p0), some (.ref p1), some (.int i2), some (.int 0), some (.int x1), none, none], [.int (x3 + 2)])) (jq qX13_tell 8 rfl) rfl) ?_
  refine Eq.trans (jb_nx (i := .istore 5) (n := 2) (q := (16, [some (.ref p0), some (.ref p1), some (.int i2), some (.int 0), some (.int x1), some (.int (x3 + 2)), none], [])) (jq qX13_tell 9 rfl) rfl) ?_
  exact H
/-! MaskPlaysModel sizeOfName (LMaskPlaysModel$Book;I)I -/
def tX13_sizeOfName : List (Nat × Instr × Nat) := [(0, .aload_n 0, 1), (1, .iload_n 1, 1), (2, .invokestatic 447, 3), (5, .istore_n 2, 1), (6, .iload_n 2, 1), (7, .iconst (-1), 1), (8, .if_icmp .ne 7, 3), (11, .iconst 1, 1), (12, .goto 9, 3), (15, .aload_n 0, 1), (16, .getfield 134, 3), (19, .iload_n 2, 1), (20, .iaload, 1), (21, .ireturn, 1)]
set_option maxRecDepth 100000 in
theorem qX13_sizeOfName : ∀ q ∈ tX13_sizeOfName, decode cX13_sizeOfName q.1 = .ok (q.2.1, q.2.2) := by decide +kernel
theorem gX13_sizeOfName {d : Nat} {p0 : Nat} {i1 : Int32} {h : jm_H} {r : jm_R} (H : (jc_I (jm_D d mX13_playFor [.ref p0, .int i1] h) (fun x3 h1 => (if x3 = (-1) then some (.inl (some (.int 1)), h1) else (jr_R h1 p0 11 11 2).bind fun a5 => (jm_ali h1 a5 0 x3).bind fun x7 => some (.inl (some (.int x7)), h1))) jx) = some r) : jm_D (d + 1) mX13_sizeOfName [.ref p0, .int i1] h = some r := by
  rw [jm_D_body (Nat.le_of_ble_eq_true rfl)]
  show jm_B d mX13_sizeOfName (0, [some (.ref p0), some (.int i1), none], []) h = some r
  refine Eq.trans (jb_nx (i := .aload_n 0) (n := 1) (q := (1, [some (.ref p0), some (.int i1), none], [.ref p0])) (jq qX13_sizeOfName 0 rfl) rfl) ?_
  refine Eq.trans (jb_nx (i := .iload_n 1) (n := 1) (q := (2, [some (.ref p0), some (.int i1), none], [.int i1, .ref p0])) (jq qX13_sizeOfName 1 rfl) rfl) ?_
  rcases jcI H with ⟨x3, h1, r2, H⟩ | ⟨w9, h10, r2, H⟩
  · refine Eq.trans (jb_nx (i := .invokestatic 447) (n := 3) (q := (5, [some (.ref p0), some (.int i1), none], [.int x3])) (jq qX13_sizeOfName 2 rfl) (jo_cs (y := mX13_playFor) (w := 1) (by decide) rfl (Nat.le_of_ble_eq_true rfl) rfl (Nat.le_of_ble_eq_true rfl) rfl r2 jo_ret)) ?_
    refine Eq.trans (jb_nx (i := .istore_n 2) (n := 1) (q := (6, [some (.ref p0), some (.int i1), some (.int x3)], [])) (jq qX13_sizeOfName 3 rfl) rfl) ?_
    refine Eq.trans (jb_nx (i := .iload_n 2) (n := 1) (q := (7, [some (.ref p0), some (.int i1), some (.int x3)], [.int x3])) (jq qX13_sizeOfName 4 rfl) rfl) ?_
    refine Eq.trans (jb_nx (i := .iconst (-1)) (n := 1) (q := (8, [some (.ref p0), some (.int i1), some (.int x3)], [.int (-1), .int x3])) (jq qX13_sizeOfName 5 rfl) rfl) ?_
    by_cases c4 : x3 = (-1)
    · rw [if_pos c4] at H
      refine Eq.trans (jb_nx (i := .if_icmp .ne 7) (n := 3) (q := (11, [some (.ref p0), some (.int i1), some (.int x3)], [])) (jq qX13_sizeOfName 6 rfl) (jo_icF (jz_neF c4))) ?_
      refine Eq.trans (jb_nx (i := .iconst 1) (n := 1) (q := (12, [some (.ref p0), some (.int i1), some (.int x3)], [.int 1])) (jq qX13_sizeOfName 7 rfl) rfl) ?_
      refine Eq.trans (jb_nx (i := .goto 9) (n := 3) (q := (21, [some (.ref p0), some (.int i1), some (.int x3)], [.int 1])) (jq qX13_sizeOfName 8 rfl) rfl) ?_
      exact Eq.trans (jb_rt (i := .ireturn) (n := 1) (jq qX13_sizeOfName 13 rfl) (jo_iret rfl rfl)) H
    · rw [if_neg c4] at H
      refine Eq.trans (jb_nx (i := .if_icmp .ne 7) (n := 3) (q := (15, [some (.ref p0), some (.int i1), some (.int x3)], [])) (jq qX13_sizeOfName 6 rfl) (jo_icT (jz_neT c4) rfl)) ?_
      refine Eq.trans (jb_nx (i := .aload_n 0) (n := 1) (q := (16, [some (.ref p0), some (.int i1), some (.int x3)], [.ref p0])) (jq qX13_sizeOfName 9 rfl) rfl) ?_
      obtain ⟨a5, e6, H⟩ := jbd H
      refine Eq.trans (jb_nx (i := .getfield 134) (n := 3) (q := (19, [some (.ref p0), some (.int i1), some (.int x3)], [.ref a5])) (jq qX13_sizeOfName 10 rfl) (jo_gf rfl (jr_R_inv e6))) ?_
      refine Eq.trans (jb_nx (i := .iload_n 2) (n := 1) (q := (20, [some (.ref p0), some (.int i1), some (.int x3)], [.int x3, .ref a5])) (jq qX13_sizeOfName 11 rfl) rfl) ?_
      obtain ⟨x7, e8, H⟩ := jbd H
      refine Eq.trans (jb_nx (i := .iaload) (n := 1) (q := (21, [some (.ref p0), some (.int i1), some (.int x3)], [.int x7])) (jq qX13_sizeOfName 12 rfl) (jo_ial e8)) ?_
      exact Eq.trans (jb_rt (i := .ireturn) (n := 1) (jq qX13_sizeOfName 13 rfl) (jo_iret rfl rfl)) H
  · exact Eq.trans (jb_rt (i := .invokestatic 447) (n := 3) (jq qX13_sizeOfName 2 rfl) (jo_cs (y := mX13_playFor) (w := 1) (by decide) rfl (Nat.le_of_ble_eq_true rfl) rfl (Nat.le_of_ble_eq_true rfl) rfl r2 (jo_exn rfl))) H
/-! MaskPlaysModel playFor (LMaskPlaysModel$Book;I)I -/
def tX13_playFor : List (Nat × Instr × Nat) := [(0, .aload_n 0, 1), (1, .getfield 332, 3), (4, .iload_n 1, 1), (5, .iaload, 1), (6, .iconst 4, 1), (7, .if_icmp .ne 31, 3), (10, .aload_n 0, 1), (11, .iload_n 1, 1), (12, .invokestatic 431, 3), (15, .ifCond .ne 23, 3), (18, .aload_n 0, 1), (19, .getfield 418, 3), (22, .aload_n 0, 1), (23, .getfield 71, 3), (26, .aload_n 0, 1), (27, .getfield 310, 3), (30, .iload_n 1, 1), (31, .laload, 1), (32, .invokestatic 414, 3), (35, .goto 4, 3), (38, .iconst (-1), 1), (39, .ireturn, 1)]
set_option maxRecDepth 100000 in
theorem qX13_playFor : ∀ q ∈ tX13_playFor, decode cX13_playFor q.1 = .ok (q.2.1, q.2.2) := by decide +kernel
theorem gX13_playFor {d : Nat} {p0 : Nat} {i1 : Int32} {h : jm_H} {r : jm_R} (H : ((jr_R h p0 11 2 2).bind fun a1 => (jm_ali h a1 0 i1).bind fun x3 => (if x3 = 4 then jc_I (jm_D d mX13_isWorn [.ref p0, .int i1] h) (fun x8 h6 => (if x8 = 0 then (jr_R h6 p0 11 9 2).bind fun a10 => (jr_I h6 p0 11 8 0).bind fun x12 => (jr_R h6 p0 11 3 2).bind fun a14 => (jm_all h6 a14 i1).bind fun y16 => jc_I (jm_D d mX13_find [.ref a10, .int x12, .long y16] h6) (fun x20 h18 => some (.inl (some (.int x20)), h18)) jx else some (.inl (some (.int (-1))), h6))) jx else some (.inl (some (.int (-1))), h))) = some r) : jm_D (d + 1) mX13_playFor [.ref p0, .int i1] h = some r := by
  rw [jm_D_body (Nat.le_of_ble_eq_true rfl)]
  show jm_B d mX13_playFor (0, [some (.ref p0), some (.int i1)], []) h = some r
  refine Eq.trans (jb_nx (i := .aload_n 0) (n := 1) (q := (1, [some (.ref p0), some (.int i1)], [.ref p0])) (jq qX13_playFor 0 rfl) rfl) ?_
  obtain ⟨a1, e2, H⟩ := jbd H
  refine Eq.trans (jb_nx (i := .getfield 332) (n := 3) (q := (4, [some (.ref p0), some (.int i1)], [.ref a1])) (jq qX13_playFor 1 rfl) (jo_gf rfl (jr_R_inv e2))) ?_
  refine Eq.trans (jb_nx (i := .iload_n 1) (n := 1) (q := (5, [some (.ref p0), some (.int i1)], [.int i1, .ref a1])) (jq qX13_playFor 2 rfl) rfl) ?_
  obtain ⟨x3, e4, H⟩ := jbd H
  refine Eq.trans (jb_nx (i := .iaload) (n := 1) (q := (6, [some (.ref p0), some (.int i1)], [.int x3])) (jq qX13_playFor 3 rfl) (jo_ial e4)) ?_
  refine Eq.trans (jb_nx (i := .iconst 4) (n := 1) (q := (7, [some (.ref p0), some (.int i1)], [.int 4, .int x3])) (jq qX13_playFor 4 rfl) rfl) ?_
  by_cases c5 : x3 = 4
  · rw [if_pos c5] at H
    refine Eq.trans (jb_nx (i := .if_icmp .ne 31) (n := 3) (q := (10, [some (.ref p0), some (.int i1)], [])) (jq qX13_playFor 5 rfl) (jo_icF (jz_neF c5))) ?_
    refine Eq.trans (jb_nx (i := .aload_n 0) (n := 1) (q := (11, [some (.ref p0), some (.int i1)], [.ref p0])) (jq qX13_playFor 6 rfl) rfl) ?_
    refine Eq.trans (jb_nx (i := .iload_n 1) (n := 1) (q := (12, [some (.ref p0), some (.int i1)], [.int i1, .ref p0])) (jq qX13_playFor 7 rfl) rfl) ?_
    rcases jcI H with ⟨x8, h6, r7, H⟩ | ⟨w23, h24, r7, H⟩
    · refine Eq.trans (jb_nx (i := .invokestatic 431) (n := 3) (q := (15, [some (.ref p0), some (.int i1)], [.int x8])) (jq qX13_playFor 8 rfl) (jo_cs (y := mX13_isWorn) (w := 1) (by decide) rfl (Nat.le_of_ble_eq_true rfl) rfl (Nat.le_of_ble_eq_true rfl) rfl r7 jo_ret)) ?_
      by_cases c9 : x8 = 0
      · rw [if_pos c9] at H
        refine Eq.trans (jb_nx (i := .ifCond .ne 23) (n := 3) (q := (18, [some (.ref p0), some (.int i1)], [])) (jq qX13_playFor 9 rfl) (jo_ifF (jz_neF c9))) ?_
        refine Eq.trans (jb_nx (i := .aload_n 0) (n := 1) (q := (19, [some (.ref p0), some (.int i1)], [.ref p0])) (jq qX13_playFor 10 rfl) rfl) ?_
        obtain ⟨a10, e11, H⟩ := jbd H
        refine Eq.trans (jb_nx (i := .getfield 418) (n := 3) (q := (22, [some (.ref p0), some (.int i1)], [.ref a10])) (jq qX13_playFor 11 rfl) (jo_gf rfl (jr_R_inv e11))) ?_
        refine Eq.trans (jb_nx (i := .aload_n 0) (n := 1) (q := (23, [some (.ref p0), some (.int i1)], [.ref p0, .ref a10])) (jq qX13_playFor 12 rfl) rfl) ?_
        obtain ⟨x12, e13, H⟩ := jbd H
        refine Eq.trans (jb_nx (i := .getfield 71) (n := 3) (q := (26, [some (.ref p0), some (.int i1)], [.int x12, .ref a10])) (jq qX13_playFor 13 rfl) (jo_gf rfl (jr_I_inv e13))) ?_
        refine Eq.trans (jb_nx (i := .aload_n 0) (n := 1) (q := (27, [some (.ref p0), some (.int i1)], [.ref p0, .int x12, .ref a10])) (jq qX13_playFor 14 rfl) rfl) ?_
        obtain ⟨a14, e15, H⟩ := jbd H
        refine Eq.trans (jb_nx (i := .getfield 310) (n := 3) (q := (30, [some (.ref p0), some (.int i1)], [.ref a14, .int x12, .ref a10])) (jq qX13_playFor 15 rfl) (jo_gf rfl (jr_R_inv e15))) ?_
        refine Eq.trans (jb_nx (i := .iload_n 1) (n := 1) (q := (31, [some (.ref p0), some (.int i1)], [.int i1, .ref a14, .int x12, .ref a10])) (jq qX13_playFor 16 rfl) rfl) ?_
        obtain ⟨y16, e17, H⟩ := jbd H
        refine Eq.trans (jb_nx (i := .laload) (n := 1) (q := (32, [some (.ref p0), some (.int i1)], [.long y16, .int x12, .ref a10])) (jq qX13_playFor 17 rfl) (jo_lal e17)) ?_
        rcases jcI H with ⟨x20, h18, r19, H⟩ | ⟨w21, h22, r19, H⟩
        · refine Eq.trans (jb_nx (i := .invokestatic 414) (n := 3) (q := (35, [some (.ref p0), some (.int i1)], [.int x20])) (jq qX13_playFor 18 rfl) (jo_cs (y := mX13_find) (w := 1) (by decide) rfl (Nat.le_of_ble_eq_true rfl) rfl (Nat.le_of_ble_eq_true rfl) rfl r19 jo_ret)) ?_
          refine Eq.trans (jb_nx (i := .goto 4) (n := 3) (q := (39, [some (.ref p0), some (.int i1)], [.int x20])) (jq qX13_playFor 19 rfl) rfl) ?_
          exact Eq.trans (jb_rt (i := .ireturn) (n := 1) (jq qX13_playFor 21 rfl) (jo_iret rfl rfl)) H
        · exact Eq.trans (jb_rt (i := .invokestatic 414) (n := 3) (jq qX13_playFor 18 rfl) (jo_cs (y := mX13_find) (w := 1) (by decide) rfl (Nat.le_of_ble_eq_true rfl) rfl (Nat.le_of_ble_eq_true rfl) rfl r19 (jo_exn rfl))) H
      · rw [if_neg c9] at H
        refine Eq.trans (jb_nx (i := .ifCond .ne 23) (n := 3) (q := (38, [some (.ref p0), some (.int i1)], [])) (jq qX13_playFor 9 rfl) (jo_ifT (jz_neT c9) rfl)) ?_
        refine Eq.trans (jb_nx (i := .iconst (-1)) (n := 1) (q := (39, [some (.ref p0), some (.int i1)], [.int (-1)])) (jq qX13_playFor 20 rfl) rfl) ?_
        exact Eq.trans (jb_rt (i := .ireturn) (n := 1) (jq qX13_playFor 21 rfl) (jo_iret rfl rfl)) H
    · exact Eq.trans (jb_rt (i := .invokestatic 431) (n := 3) (jq qX13_playFor 8 rfl) (jo_cs (y := mX13_isWorn) (w := 1) (by decide) rfl (Nat.le_of_ble_eq_true rfl) rfl (Nat.le_of_ble_eq_true rfl) rfl r7 (jo_exn rfl))) H
  · rw [if_neg c5] at H
    refine Eq.trans (jb_nx (i := .if_icmp .ne 31) (n := 3) (q := (38, [some (.ref p0), some (.int i1)], [])) (jq qX13_playFor 5 rfl) (jo_icT (jz_neT c5) rfl)) ?_
    refine Eq.trans (jb_nx (i := .iconst (-1)) (n := 1) (q := (39, [some (.ref p0), some (.int i1)], [.int (-1)])) (jq qX13_playFor 20 rfl) rfl) ?_
    exact Eq.trans (jb_rt (i := .ireturn) (n := 1) (jq qX13_playFor 21 rfl) (jo_iret rfl rfl)) H
/-! MaskPlaysModel layOut (LMaskPlaysModel$Book;III)V -/
def tX13_layOut : List (Nat × Instr × Nat) := [(0, .iload_n 3, 1), (1, .ifCond .ne 4, 3), (4, .return_, 1), (5, .aload_n 0, 1), (6, .getfield 323, 3), (9, .iload_n 1, 1), (10, .iaload, 1), (11, .bipush 30, 2), (13, .if_icmp .ne 11, 3), (16, .aload_n 0, 1), (17, .iload_n 1, 1), (18, .invokestatic 447, 3), (21, .goto 4, 3), (24, .iconst (-1), 1), (25, .istore 4, 2), (27, .iload 4, 2), (29, .iconst (-1), 1), (30, .if_icmp .eq 25, 3), (33, .aload_n 0, 1), (34, .getfield 137, 3), (37, .sipush 150, 3), (40, .iload 4, 2), (42, .imul, 1), (43, .aload_n 0, 1), (44, .getfield 137, 3), (47, .iload_n 2, 1), (48, .iload_n 3, 1), (49, .invokestatic 128, 3), (52, .goto 74, 3), (55, .aload_n 0, 1), (56, .getfield 323, 3), (59, .iload_n 1, 1), (60, .iaload, 1), (61, .bipush 30, 2), (63, .if_icmp .ne 38, 3), (66, .aload_n 0, 1), (67, .getfield 137, 3), (70, .iload_n 2, 1), (71, .aload_n 0, 1), (72, .getfield 332, 3), (75, .iload_n 1, 1), (76, .iaload, 1), (77, .iconst 3, 1), (78, .if_icmp .ne 13, 3), (81, .aload_n 0, 1), (82, .getfield 310, 3), (85, .iload_n 1, 1), (86, .laload, 1), (87, .lneg, 1), (88, .goto 9, 3), (91, .aload_n 0, 1), (92, .getfield 310, 3), (95, .iload_n 1, 1), (96, .laload, 1), (97, .lastore, 1), (98, .goto 28, 3), (101, .iconst 0, 1), (102, .istore 5, 2), (104, .iload 5, 2), (106, .iload_n 3, 1), (107, .if_icmp .ge 19, 3), (110, .aload_n 0, 1), (111, .getfield 137, 3), (114, .iload_n 2, 1), (115, .iload 5, 2), (117, .iadd, 1), (118, .lconst 0, 1), (119, .lastore, 1), (120, .iinc 5 1, 3), (123, .goto (-19), 3), (126, .return_, 1)]
set_option maxRecDepth 100000 in
theorem qX13_layOut : ∀ q ∈ tX13_layOut, decode cX13_layOut q.1 = .ok (q.2.1, q.2.2) := by decide +kernel
noncomputable def kX13_layOut_25 (d : Nat) (p0 : Nat) (i1 : Int32) (i2 : Int32) (i3 : Int32) (o4 : Option Value) (o5 : Option Value) (si0 : Int32) (h : jm_H) : Option jm_R := jm_B d mX13_layOut (25, [some (.ref p0), some (.int i1), some (.int i2), some (.int i3), o4, o5], [.int si0]) h
noncomputable def kX13_layOut_104 (d : Nat) (p0 : Nat) (o1 : Option Value) (i2 : Int32) (i3 : Int32) (o4 : Option Value) (i5 : Int32) (h : jm_H) : Option jm_R := jm_B d mX13_layOut (104, [some (.ref p0), o1, some (.int i2), some (.int i3), o4, some (.int i5)], []) h
theorem gX13_layOut_25 {d : Nat} {p0 : Nat} {i1 : Int32} {i2 : Int32} {i3 : Int32} {o4 : Option Value} {o5 : Option Value} {si0 : Int32} {h : jm_H} {r : jm_R} (H : ((if si0 = (-1) then (jr_R h p0 11 0 2).bind fun a13 => (jm_ali h a13 0 i1).bind fun x15 => (if x15 = 30 then (jr_R h p0 11 10 2).bind fun a18 => (jr_R h p0 11 2 2).bind fun a20 => (jm_ali h a20 0 i1).bind fun x22 => (if x22 = 3 then (jr_R h p0 11 3 2).bind fun a31 => (jm_all h a31 i1).bind fun y33 => (jm_asl h a18 i2 (-y33)).bind fun h35 => some (.inl none, h35) else (jr_R h p0 11 3 2).bind fun a25 => (jm_all h a25 i1).bind fun y27 => (jm_asl h a18 i2 y27).bind fun h29 => some (.inl none, h29)) else kX13_layOut_104 d p0 (some (.int i1)) i2 i3 (some (.int si0)) 0 h) else (jr_R h p0 11 10 2).bind fun a37 => (jr_R h p0 11 10 2).bind fun a39 => (jm_cpy h a37 (150 * si0) a39 i2 i3).bind fun h41 => some (.inl none, h41))) = some r) : kX13_layOut_25 d p0 i1 i2 i3 o4 o5 si0 h = some r := by
  show jm_B d mX13_layOut (25, [some (.ref p0), some (.int i1), some (.int i2), some (.int i3), o4, o5], [.int si0]) h = some r
  refine Eq.trans (jb_nx (i := .istore 4) (n := 2) (q := (27, [some (.ref p0), some (.int i1), some (.int i2), some (.int i3), some (.int si0), o5], [])) (jq qX13_layOut 14 rfl) rfl) ?_
  refine Eq.trans (jb_nx (i := .iload 4) (n := 2) (q := (29, [some (.ref p0), some (.int i1), some (.int i2), some (.int i3), some (.int si0), o5], [.int si0])) (jq qX13_layOut 15 rfl) rfl) ?_
  refine Eq.trans (jb_nx (i := .iconst (-1)) (n := 1) (q := (30, [some (.ref p0), some (.int i1), some (.int i2), some (.int i3), some (.int si0), o5], [.int (-1), .int si0])) (jq qX13_layOut 16 rfl) rfl) ?_
  by_cases c12 : si0 = (-1)
  · rw [if_pos c12] at H
    refine Eq.trans (jb_nx (i := .if_icmp .eq 25) (n := 3) (q := (55, [some (.ref p0), some (.int i1), some (.int i2), some (.int i3), some (.int si0), o5], [])) (jq qX13_layOut 17 rfl) (jo_icT (jz_eqT c12) rfl)) ?_
    refine Eq.trans (jb_nx (i := .aload_n 0) (n := 1) (q := (56, [some (.ref p0), some (.int i1), some (.int i2), some (.int i3), some (.int si0), o5], [.ref p0])) (jq qX13_layOut 29 rfl) rfl) ?_
    obtain ⟨a13, e14, H⟩ := jbd H
    refine Eq.trans (jb_nx (i := .getfield 323) (n := 3) (q := (59, [some (.ref p0), some (.int i1), some (.int i2), some (.int i3), some (.int si0), o5], [.ref a13])) (jq qX13_layOut 30 rfl) (jo_gf rfl (jr_R_inv e14))) ?_
    refine Eq.trans (jb_nx (i := .iload_n 1) (n := 1) (q := (60, [some (.ref p0), some (.int i1), some (.int i2), some (.int i3), some (.int si0), o5], [.int i1, .ref a13])) (jq qX13_layOut 31 rfl) rfl) ?_
    obtain ⟨x15, e16, H⟩ := jbd H
    refine Eq.trans (jb_nx (i := .iaload) (n := 1) (q := (61, [some (.ref p0), some (.int i1), some (.int i2), some (.int i3), some (.int si0), o5], [.int x15])) (jq qX13_layOut 32 rfl) (jo_ial e16)) ?_
    refine Eq.trans (jb_nx (i := .bipush 30) (n := 2) (q := (63, [some (.ref p0), some (.int i1), some (.int i2), some (.int i3), some (.int si0), o5], [.int 30, .int x15])) (jq qX13_layOut 33 rfl) rfl) ?_
    by_cases c17 : x15 = 30
    · rw [if_pos c17] at H
      refine Eq.trans (jb_nx (i := .if_icmp .ne 38) (n := 3) (q := (66, [some (.ref p0), some (.int i1), some (.int i2), some (.int i3), some (.int si0), o5], [])) (jq qX13_layOut 34 rfl) (jo_icF (jz_neF c17))) ?_
      refine Eq.trans (jb_nx (i := .aload_n 0) (n := 1) (q := (67, [some (.ref p0), some (.int i1), some (.int i2), some (.int i3), some (.int si0), o5], [.ref p0])) (jq qX13_layOut 35 rfl) rfl) ?_
      obtain ⟨a18, e19, H⟩ := jbd H
      refine Eq.trans (jb_nx (i := .getfield 137) (n := 3) (q := (70, [some (.ref p0), some (.int i1), some (.int i2), some (.int i3), some (.int si0), o5], [.ref a18])) (jq qX13_layOut 36 rfl) (jo_gf rfl (jr_R_inv e19))) ?_
      refine Eq.trans (jb_nx (i := .iload_n 2) (n := 1) (q := (71, [some (.ref p0), some (.int i1), some (.int i2), some (.int i3), some (.int si0), o5], [.int i2, .ref a18])) (jq qX13_layOut 37 rfl) rfl) ?_
      refine Eq.trans (jb_nx (i := .aload_n 0) (n := 1) (q := (72, [some (.ref p0), some (.int i1), some (.int i2), some (.int i3), some (.int si0), o5], [.ref p0, .int i2, .ref a18])) (jq qX13_layOut 38 rfl) rfl) ?_
      obtain ⟨a20, e21, H⟩ := jbd H
      refine Eq.trans (jb_nx (i := .getfield 332) (n := 3) (q := (75, [some (.ref p0), some (.int i1), some (.int i2), some (.int i3), some (.int si0), o5], [.ref a20, .int i2, .ref a18])) (jq qX13_layOut 39 rfl) (jo_gf rfl (jr_R_inv e21))) ?_
      refine Eq.trans (jb_nx (i := .iload_n 1) (n := 1) (q := (76, [some (.ref p0), some (.int i1), some (.int i2), some (.int i3), some (.int si0), o5], [.int i1, .ref a20, .int i2, .ref a18])) (jq qX13_layOut 40 rfl) rfl) ?_
      obtain ⟨x22, e23, H⟩ := jbd H
      refine Eq.trans (jb_nx (i := .iaload) (n := 1) (q := (77, [some (.ref p0), some (.int i1), some (.int i2), some (.int i3), some (.int si0), o5], [.int x22, .int i2, .ref a18])) (jq qX13_layOut 41 rfl) (jo_ial e23)) ?_
      refine Eq.trans (jb_nx (i := .iconst 3) (n := 1) (q := (78, [some (.ref p0), some (.int i1), some (.int i2), some (.int i3), some (.int si0), o5], [.int 3, .int x22, .int i2, .ref a18])) (jq qX13_layOut 42 rfl) rfl) ?_
      by_cases c24 : x22 = 3
      · rw [if_pos c24] at H
        refine Eq.trans (jb_nx (i := .if_icmp .ne 13) (n := 3) (q := (81, [some (.ref p0), some (.int i1), some (.int i2), some (.int i3), some (.int si0), o5], [.int i2, .ref a18])) (jq qX13_layOut 43 rfl) (jo_icF (jz_neF c24))) ?_
        refine Eq.trans (jb_nx (i := .aload_n 0) (n := 1) (q := (82, [some (.ref p0), some (.int i1), some (.int i2), some (.int i3), some (.int si0), o5], [.ref p0, .int i2, .ref a18])) (jq qX13_layOut 44 rfl) rfl) ?_
        obtain ⟨a31, e32, H⟩ := jbd H
        refine Eq.trans (jb_nx (i := .getfield 310) (n := 3) (q := (85, [some (.ref p0), some (.int i1), some (.int i2), some (.int i3), some (.int si0), o5], [.ref a31, .int i2, .ref a18])) (jq qX13_layOut 45 rfl) (jo_gf rfl (jr_R_inv e32))) ?_
        refine Eq.trans (jb_nx (i := .iload_n 1) (n := 1) (q := (86, [some (.ref p0), some (.int i1), some (.int i2), some (.int i3), some (.int si0), o5], [.int i1, .ref a31, .int i2, .ref a18])) (jq qX13_layOut 46 rfl) rfl) ?_
        obtain ⟨y33, e34, H⟩ := jbd H
        refine Eq.trans (jb_nx (i := .laload) (n := 1) (q := (87, [some (.ref p0), some (.int i1), some (.int i2), some (.int i3), some (.int si0), o5], [.long y33, .int i2, .ref a18])) (jq qX13_layOut 47 rfl) (jo_lal e34)) ?_
        refine Eq.trans (jb_nx (i := .lneg) (n := 1) (q := (88, [some (.ref p0), some (.int i1), some (.int i2), some (.int i3), some (.int si0), o5], [.long (-y33), .int i2, .ref a18])) (jq qX13_layOut 48 rfl) rfl) ?_
        refine Eq.trans (jb_nx (i := .goto 9) (n := 3) (q := (97, [some (.ref p0), some (.int i1), some (.int i2), some (.int i3), some (.int si0), o5], [.long (-y33), .int i2, .ref a18])) (jq qX13_layOut 49 rfl) rfl) ?_
        obtain ⟨h35, e36, H⟩ := jbd H
        refine Eq.trans (jb_nx (i := .lastore) (n := 1) (q := (98, [some (.ref p0), some (.int i1), some (.int i2), some (.int i3), some (.int si0), o5], [])) (jq qX13_layOut 54 rfl) (jo_las e36)) ?_
        refine Eq.trans (jb_nx (i := .goto 28) (n := 3) (q := (126, [some (.ref p0), some (.int i1), some (.int i2), some (.int i3), some (.int si0), o5], [])) (jq qX13_layOut 55 rfl) rfl) ?_
        exact Eq.trans (jb_rt (i := .return_) (n := 1) (jq qX13_layOut 70 rfl) rfl) H
      · rw [if_neg c24] at H
        refine Eq.trans (jb_nx (i := .if_icmp .ne 13) (n := 3) (q := (91, [some (.ref p0), some (.int i1), some (.int i2), some (.int i3), some (.int si0), o5], [.int i2, .ref a18])) (jq qX13_layOut 43 rfl) (jo_icT (jz_neT c24) rfl)) ?_
        refine Eq.trans (jb_nx (i := .aload_n 0) (n := 1) (q := (92, [some (.ref p0), some (.int i1), some (.int i2), some (.int i3), some (.int si0), o5], [.ref p0, .int i2, .ref a18])) (jq qX13_layOut 50 rfl) rfl) ?_
        obtain ⟨a25, e26, H⟩ := jbd H
        refine Eq.trans (jb_nx (i := .getfield 310) (n := 3) (q := (95, [some (.ref p0), some (.int i1), some (.int i2), some (.int i3), some (.int si0), o5], [.ref a25, .int i2, .ref a18])) (jq qX13_layOut 51 rfl) (jo_gf rfl (jr_R_inv e26))) ?_
        refine Eq.trans (jb_nx (i := .iload_n 1) (n := 1) (q := (96, [some (.ref p0), some (.int i1), some (.int i2), some (.int i3), some (.int si0), o5], [.int i1, .ref a25, .int i2, .ref a18])) (jq qX13_layOut 52 rfl) rfl) ?_
        obtain ⟨y27, e28, H⟩ := jbd H
        refine Eq.trans (jb_nx (i := .laload) (n := 1) (q := (97, [some (.ref p0), some (.int i1), some (.int i2), some (.int i3), some (.int si0), o5], [.long y27, .int i2, .ref a18])) (jq qX13_layOut 53 rfl) (jo_lal e28)) ?_
        obtain ⟨h29, e30, H⟩ := jbd H
        refine Eq.trans (jb_nx (i := .lastore) (n := 1) (q := (98, [some (.ref p0), some (.int i1), some (.int i2), some (.int i3), some (.int si0), o5], [])) (jq qX13_layOut 54 rfl) (jo_las e30)) ?_
        refine Eq.trans (jb_nx (i := .goto 28) (n := 3) (q := (126, [some (.ref p0), some (.int i1), some (.int i2), some (.int i3), some (.int si0), o5], [])) (jq qX13_layOut 55 rfl) rfl) ?_
        exact Eq.trans (jb_rt (i := .return_) (n := 1) (jq qX13_layOut 70 rfl) rfl) H
    · rw [if_neg c17] at H
      refine Eq.trans (jb_nx (i := .if_icmp .ne 38) (n := 3) (q := (101, [some (.ref p0), some (.int i1), some (.int i2), some (.int i3), some (.int si0), o5], [])) (jq qX13_layOut 34 rfl) (jo_icT (jz_neT c17) rfl)) ?_
      refine Eq.trans (jb_nx (i := .iconst 0) (n := 1) (q := (102, [some (.ref p0), some (.int i1), some (.int i2), some (.int i3), some (.int si0), o5], [.int 0])) (jq qX13_layOut 56 rfl) rfl) ?_
      refine Eq.trans (jb_nx (i := .istore 5) (n := 2) (q := (104, [some (.ref p0), some (.int i1), some (.int i2), some (.int i3), some (.int si0), some (.int 0)], [])) (jq qX13_layOut 57 rfl) rfl) ?_
      exact H
  · rw [if_neg c12] at H
    refine Eq.trans (jb_nx (i := .if_icmp .eq 25) (n := 3) (q := (33, [some (.ref p0), some (.int i1), some (.int i2), some (.int i3), some (.int si0), o5], [])) (jq qX13_layOut 17 rfl) (jo_icF (jz_eqF c12))) ?_
    refine Eq.trans (jb_nx (i := .aload_n 0) (n := 1) (q := (34, [some (.ref p0), some (.int i1), some (.int i2), some (.int i3), some (.int si0), o5], [.ref p0])) (jq qX13_layOut 18 rfl) rfl) ?_
    obtain ⟨a37, e38, H⟩ := jbd H
    refine Eq.trans (jb_nx (i := .getfield 137) (n := 3) (q := (37, [some (.ref p0), some (.int i1), some (.int i2), some (.int i3), some (.int si0), o5], [.ref a37])) (jq qX13_layOut 19 rfl) (jo_gf rfl (jr_R_inv e38))) ?_
    refine Eq.trans (jb_nx (i := .sipush 150) (n := 3) (q := (40, [some (.ref p0), some (.int i1), some (.int i2), some (.int i3), some (.int si0), o5], [.int 150, .ref a37])) (jq qX13_layOut 20 rfl) rfl) ?_
    refine Eq.trans (jb_nx (i := .iload 4) (n := 2) (q := (42, [some (.ref p0), some (.int i1), some (.int i2), some (.int i3), some (.int si0), o5], [.int si0, .int 150, .ref a37])) (jq qX13_layOut 21 rfl) rfl) ?_
    refine Eq.trans (jb_nx (i := .imul) (n := 1) (q := (43, [some (.ref p0), some (.int i1), some (.int i2), some (.int i3), some (.int si0), o5], [.int (150 * si0), .ref a37])) (jq qX13_layOut 22 rfl) rfl) ?_
    refine Eq.trans (jb_nx (i := .aload_n 0) (n := 1) (q := (44, [some (.ref p0), some (.int i1), some (.int i2), some (.int i3), some (.int si0), o5], [.ref p0, .int (150 * si0), .ref a37])) (jq qX13_layOut 23 rfl) rfl) ?_
    obtain ⟨a39, e40, H⟩ := jbd H
    refine Eq.trans (jb_nx (i := .getfield 137) (n := 3) (q := (47, [some (.ref p0), some (.int i1), some (.int i2), some (.int i3), some (.int si0), o5], [.ref a39, .int (150 * si0), .ref a37])) (jq qX13_layOut 24 rfl) (jo_gf rfl (jr_R_inv e40))) ?_
    refine Eq.trans (jb_nx (i := .iload_n 2) (n := 1) (q := (48, [some (.ref p0), some (.int i1), some (.int i2), some (.int i3), some (.int si0), o5], [.int i2, .ref a39, .int (150 * si0), .ref a37])) (jq qX13_layOut 25 rfl) rfl) ?_
    refine Eq.trans (jb_nx (i := .iload_n 3) (n := 1) (q := (49, [some (.ref p0), some (.int i1), some (.int i2), some (.int i3), some (.int si0), o5], [.int i3, .int i2, .ref a39, .int (150 * si0), .ref a37])) (jq qX13_layOut 26 rfl) rfl) ?_
    obtain ⟨h41, e42, H⟩ := jbd H
    refine Eq.trans (jb_nx (i := .invokestatic 128) (n := 3) (q := (52, [some (.ref p0), some (.int i1), some (.int i2), some (.int i3), some (.int si0), o5], [])) (jq qX13_layOut 27 rfl) (jo_cpy (z := mX3_clear) rfl (Nat.le_of_ble_eq_true rfl) e42)) ?_
    refine Eq.trans (jb_nx (i := .goto 74) (n := 3) (q := (126, [some (.ref p0), some (.int i1), some (.int i2), some (.int i3), some (.int si0), o5], [])) (jq qX13_layOut 28 rfl) rfl) ?_
    exact Eq.trans (jb_rt (i := .return_) (n := 1) (jq qX13_layOut 70 rfl) rfl) H
theorem gX13_layOut_104 {d : Nat} {p0 : Nat} {o1 : Option Value} {i2 : Int32} {i3 : Int32} {o4 : Option Value} {i5 : Int32} {h : jm_H} {r : jm_R} (H : ((if i5 < i3 then (jr_R h p0 11 10 2).bind fun a44 => (jm_asl h a44 (i2 + i5) 0).bind fun h46 => kX13_layOut_104 d p0 o1 i2 i3 (jm_dm o4) (i5 + 1) h46 else some (.inl none, h))) = some r) : kX13_layOut_104 d p0 o1 i2 i3 o4 i5 h = some r := by
  show jm_B d mX13_layOut (104, [some (.ref p0), o1, some (.int i2), some (.int i3), o4, some (.int i5)], []) h = some r
  refine Eq.trans (jb_nx (i := .iload 5) (n := 2) (q := (106, [some (.ref p0), o1, some (.int i2), some (.int i3), o4, some (.int i5)], [.int i5])) (jq qX13_layOut 58 rfl) rfl) ?_
  refine Eq.trans (jb_nx (i := .iload_n 3) (n := 1) (q := (107, [some (.ref p0), o1, some (.int i2), some (.int i3), o4, some (.int i5)], [.int i3, .int i5])) (jq qX13_layOut 59 rfl) rfl) ?_
  by_cases c43 : i5 < i3
  · rw [if_pos c43] at H
    refine Eq.trans (jb_nx (i := .if_icmp .ge 19) (n := 3) (q := (110, [some (.ref p0), o1, some (.int i2), some (.int i3), o4, some (.int i5)], [])) (jq qX13_layOut 60 rfl) (jo_icF (jz_geF c43))) ?_
    refine Eq.trans (jb_nx (i := .aload_n 0) (n := 1) (q := (111, [some (.ref p0), o1, some (.int i2), some (.int i3), o4, some (.int i5)], [.ref p0])) (jq qX13_layOut 61 rfl) rfl) ?_
    obtain ⟨a44, e45, H⟩ := jbd H
    refine Eq.trans (jb_nx (i := .getfield 137) (n := 3) (q := (114, [some (.ref p0), o1, some (.int i2), some (.int i3), o4, some (.int i5)], [.ref a44])) (jq qX13_layOut 62 rfl) (jo_gf rfl (jr_R_inv e45))) ?_
    refine Eq.trans (jb_nx (i := .iload_n 2) (n := 1) (q := (115, [some (.ref p0), o1, some (.int i2), some (.int i3), o4, some (.int i5)], [.int i2, .ref a44])) (jq qX13_layOut 63 rfl) rfl) ?_
    refine Eq.trans (jb_nx (i := .iload 5) (n := 2) (q := (117, [some (.ref p0), o1, some (.int i2), some (.int i3), o4, some (.int i5)], [.int i5, .int i2, .ref a44])) (jq qX13_layOut 64 rfl) rfl) ?_
    refine Eq.trans (jb_nx (i := .iadd) (n := 1) (q := (118, [some (.ref p0), o1, some (.int i2), some (.int i3), o4, some (.int i5)], [.int (i2 + i5), .ref a44])) (jq qX13_layOut 65 rfl) rfl) ?_
    refine Eq.trans (jb_nx (i := .lconst 0) (n := 1) (q := (119, [some (.ref p0), o1, some (.int i2), some (.int i3), o4, some (.int i5)], [.long 0, .int (i2 + i5), .ref a44])) (jq qX13_layOut 66 rfl) rfl) ?_
    obtain ⟨h46, e47, H⟩ := jbd H
    refine Eq.trans (jb_nx (i := .lastore) (n := 1) (q := (120, [some (.ref p0), o1, some (.int i2), some (.int i3), o4, some (.int i5)], [])) (jq qX13_layOut 67 rfl) (jo_las e47)) ?_
    refine Eq.trans (jb_nx (i := .iinc 5 1) (n := 3) (q := (123, [some (.ref p0), o1, some (.int i2), some (.int i3), (jm_dm o4), some (.int (i5 + 1))], [])) (jq qX13_layOut 68 rfl) rfl) ?_
    refine Eq.trans (jb_nx (i := .goto (-19)) (n := 3) (q := (104, [some (.ref p0), o1, some (.int i2), some (.int i3), (jm_dm o4), some (.int (i5 + 1))], [])) (jq qX13_layOut 69 rfl) rfl) ?_
    exact H
  · rw [if_neg c43] at H
    refine Eq.trans (jb_nx (i := .if_icmp .ge 19) (n := 3) (q := (126, [some (.ref p0), o1, some (.int i2), some (.int i3), o4, some (.int i5)], [])) (jq qX13_layOut 60 rfl) (jo_icT (jz_geT c43) rfl)) ?_
    exact Eq.trans (jb_rt (i := .return_) (n := 1) (jq qX13_layOut 70 rfl) rfl) H
theorem gX13_layOut {d : Nat} {p0 : Nat} {i1 : Int32} {i2 : Int32} {i3 : Int32} {h : jm_H} {r : jm_R} (H : ((if i3 = 0 then some (.inl none, h) else (jr_R h p0 11 0 2).bind fun a2 => (jm_ali h a2 0 i1).bind fun x4 => (if x4 = 30 then jc_I (jm_D d mX13_playFor [.ref p0, .int i1] h) (fun x9 h7 => kX13_layOut_25 d p0 i1 i2 i3 none none x9 h7) jx else kX13_layOut_25 d p0 i1 i2 i3 none none (-1) h))) = some r) : jm_D (d + 1) mX13_layOut [.ref p0, .int i1, .int i2, .int i3] h = some r := by
  rw [jm_D_body (Nat.le_of_ble_eq_true rfl)]
  show jm_B d mX13_layOut (0, [some (.ref p0), some (.int i1), some (.int i2), some (.int i3), none, none], []) h = some r
  refine Eq.trans (jb_nx (i := .iload_n 3) (n := 1) (q := (1, [some (.ref p0), some (.int i1), some (.int i2), some (.int i3), none, none], [.int i3])) (jq qX13_layOut 0 rfl) rfl) ?_
  by_cases c1 : i3 = 0
  · rw [if_pos c1] at H
    refine Eq.trans (jb_nx (i := .ifCond .ne 4) (n := 3) (q := (4, [some (.ref p0), some (.int i1), some (.int i2), some (.int i3), none, none], [])) (jq qX13_layOut 1 rfl) (jo_ifF (jz_neF c1))) ?_
    exact Eq.trans (jb_rt (i := .return_) (n := 1) (jq qX13_layOut 2 rfl) rfl) H
  · rw [if_neg c1] at H
    refine Eq.trans (jb_nx (i := .ifCond .ne 4) (n := 3) (q := (5, [some (.ref p0), some (.int i1), some (.int i2), some (.int i3), none, none], [])) (jq qX13_layOut 1 rfl) (jo_ifT (jz_neT c1) rfl)) ?_
    refine Eq.trans (jb_nx (i := .aload_n 0) (n := 1) (q := (6, [some (.ref p0), some (.int i1), some (.int i2), some (.int i3), none, none], [.ref p0])) (jq qX13_layOut 3 rfl) rfl) ?_
    obtain ⟨a2, e3, H⟩ := jbd H
    refine Eq.trans (jb_nx (i := .getfield 323) (n := 3) (q := (9, [some (.ref p0), some (.int i1), some (.int i2), some (.int i3), none, none], [.ref a2])) (jq qX13_layOut 4 rfl) (jo_gf rfl (jr_R_inv e3))) ?_
    refine Eq.trans (jb_nx (i := .iload_n 1) (n := 1) (q := (10, [some (.ref p0), some (.int i1), some (.int i2), some (.int i3), none, none], [.int i1, .ref a2])) (jq qX13_layOut 5 rfl) rfl) ?_
    obtain ⟨x4, e5, H⟩ := jbd H
    refine Eq.trans (jb_nx (i := .iaload) (n := 1) (q := (11, [some (.ref p0), some (.int i1), some (.int i2), some (.int i3), none, none], [.int x4])) (jq qX13_layOut 6 rfl) (jo_ial e5)) ?_
    refine Eq.trans (jb_nx (i := .bipush 30) (n := 2) (q := (13, [some (.ref p0), some (.int i1), some (.int i2), some (.int i3), none, none], [.int 30, .int x4])) (jq qX13_layOut 7 rfl) rfl) ?_
    by_cases c6 : x4 = 30
    · rw [if_pos c6] at H
      refine Eq.trans (jb_nx (i := .if_icmp .ne 11) (n := 3) (q := (16, [some (.ref p0), some (.int i1), some (.int i2), some (.int i3), none, none], [])) (jq qX13_layOut 8 rfl) (jo_icF (jz_neF c6))) ?_
      refine Eq.trans (jb_nx (i := .aload_n 0) (n := 1) (q := (17, [some (.ref p0), some (.int i1), some (.int i2), some (.int i3), none, none], [.ref p0])) (jq qX13_layOut 9 rfl) rfl) ?_
      refine Eq.trans (jb_nx (i := .iload_n 1) (n := 1) (q := (18, [some (.ref p0), some (.int i1), some (.int i2), some (.int i3), none, none], [.int i1, .ref p0])) (jq qX13_layOut 10 rfl) rfl) ?_
      rcases jcI H with ⟨x9, h7, r8, H⟩ | ⟨w10, h11, r8, H⟩
      · refine Eq.trans (jb_nx (i := .invokestatic 447) (n := 3) (q := (21, [some (.ref p0), some (.int i1), some (.int i2), some (.int i3), none, none], [.int x9])) (jq qX13_layOut 11 rfl) (jo_cs (y := mX13_playFor) (w := 1) (by decide) rfl (Nat.le_of_ble_eq_true rfl) rfl (Nat.le_of_ble_eq_true rfl) rfl r8 jo_ret)) ?_
        refine Eq.trans (jb_nx (i := .goto 4) (n := 3) (q := (25, [some (.ref p0), some (.int i1), some (.int i2), some (.int i3), none, none], [.int x9])) (jq qX13_layOut 12 rfl) rfl) ?_
        exact H
      · exact Eq.trans (jb_rt (i := .invokestatic 447) (n := 3) (jq qX13_layOut 11 rfl) (jo_cs (y := mX13_playFor) (w := 1) (by decide) rfl (Nat.le_of_ble_eq_true rfl) rfl (Nat.le_of_ble_eq_true rfl) rfl r8 (jo_exn rfl))) H
    · rw [if_neg c6] at H
      refine Eq.trans (jb_nx (i := .if_icmp .ne 11) (n := 3) (q := (24, [some (.ref p0), some (.int i1), some (.int i2), some (.int i3), none, none], [])) (jq qX13_layOut 8 rfl) (jo_icT (jz_neT c6) rfl)) ?_
      refine Eq.trans (jb_nx (i := .iconst (-1)) (n := 1) (q := (25, [some (.ref p0), some (.int i1), some (.int i2), some (.int i3), none, none], [.int (-1)])) (jq qX13_layOut 13 rfl) rfl) ?_
      exact H
/-! MaskPlaysModel settle (LMaskPlaysModel$Book;)V -/
def tX13_settle : List (Nat × Instr × Nat) := [(0, .iconst 0, 1), (1, .istore_n 2, 1), (2, .iload_n 2, 1), (3, .aload_n 1, 1), (4, .getfield 273, 3), (7, .if_icmp .ge 75, 3), (10, .aload_n 1, 1), (11, .getfield 238, 3), (14, .iload_n 2, 1), (15, .aload_n 1, 1), (16, .getfield 418, 3), (19, .aload_n 1, 1), (20, .getfield 71, 3), (23, .aload_n 1, 1), (24, .getfield 310, 3), (27, .aload_n 1, 1), (28, .getfield 238, 3), (31, .iload_n 2, 1), (32, .iaload, 1), (33, .laload, 1), (34, .invokestatic 414, 3), (37, .iastore, 1), (38, .aload_n 1, 1), (39, .getfield 244, 3), (42, .iload_n 2, 1), (43, .iaload, 1), (44, .iconst 5, 1), (45, .if_icmp .ne 31, 3), (48, .aload_n 1, 1), (49, .getfield 247, 3), (52, .iload_n 2, 1), (53, .aload_n 1, 1), (54, .getfield 418, 3), (57, .aload_n 1, 1), (58, .getfield 71, 3), (61, .aload_n 1, 1), (62, .getfield 310, 3), (65, .aload_n 1, 1), (66, .getfield 247, 3), (69, .iload_n 2, 1), (70, .iaload, 1), (71, .laload, 1), (72, .invokestatic 414, 3), (75, .iastore, 1), (76, .iinc 2 1, 3), (79, .goto (-77), 3), (82, .iconst 0, 1), (83, .istore_n 2, 1), (84, .iload_n 2, 1), (85, .aload_n 1, 1), (86, .getfield 347, 3), (89, .if_icmp .ge 101, 3), (92, .aload_n 1, 1), (93, .getfield 350, 3), (96, .iload_n 2, 1), (97, .iaload, 1), (98, .iconst (-1), 1), (99, .if_icmp .ne 6, 3), (102, .goto 82, 3), (105, .aload_n 1, 1), (106, .getfield 228, 3), (109, .iload_n 2, 1), (110, .aload_n 1, 1), (111, .getfield 418, 3), (114, .aload_n 1, 1), (115, .getfield 71, 3), (118, .aload_n 1, 1), (119, .getfield 310, 3), (122, .aload_n 1, 1), (123, .getfield 350, 3), (126, .iload_n 2, 1), (127, .iaload, 1), (128, .laload, 1), (129, .invokestatic 414, 3), (132, .iastore, 1), (133, .aload_n 1, 1), (134, .getfield 222, 3), (137, .iload_n 2, 1), (138, .iaload, 1), (139, .bipush 14, 2), (141, .if_icmp .ne 43, 3), (144, .aload_n 1, 1), (145, .getfield 228, 3), (148, .iload_n 2, 1), (149, .bipush 12, 2), (151, .aload_n 1, 1), (152, .getfield 228, 3), (155, .iload_n 2, 1), (156, .iaload, 1), (157, .imul, 1), (158, .aload_n 1, 1), (159, .getfield 418, 3), (162, .aload_n 1, 1), (163, .getfield 71, 3), (166, .aload_n 1, 1), (167, .getfield 310, 3), (170, .aload_n 1, 1), (171, .getfield 350, 3), (174, .iload_n 2, 1), (175, .iaload, 1), (176, .iconst 1, 1), (177, .iadd, 1), (178, .laload, 1), (179, .invokestatic 414, 3), (182, .iadd, 1), (183, .iastore, 1), (184, .iinc 2 1, 3), (187, .goto (-103), 3), (190, .return_, 1)]
set_option maxRecDepth 100000 in
theorem qX13_settle : ∀ q ∈ tX13_settle, decode cX13_settle q.1 = .ok (q.2.1, q.2.2) := by decide +kernel
noncomputable def kX13_settle_2 (d : Nat) (o0 : Option Value) (p1 : Nat) (i2 : Int32) (h : jm_H) : Option jm_R := jm_B d mX13_settle (2, [o0, some (.ref p1), some (.int i2)], []) h
noncomputable def kX13_settle_84 (d : Nat) (o0 : Option Value) (p1 : Nat) (i2 : Int32) (h : jm_H) : Option jm_R := jm_B d mX13_settle (84, [o0, some (.ref p1), some (.int i2)], []) h
theorem gX13_settle_2 {d : Nat} {o0 : Option Value} {p1 : Nat} {i2 : Int32} {h : jm_H} {r : jm_R} (H : ((jr_I h p1 11 12 0).bind fun x1 => (if i2 < x1 then (jr_R h p1 11 14 2).bind fun a4 => (jr_R h p1 11 9 2).bind fun a6 => (jr_I h p1 11 8 0).bind fun x8 => (jr_R h p1 11 3 2).bind fun a10 => (jr_R h p1 11 14 2).bind fun a12 => (jm_ali h a12 0 i2).bind fun x14 => (jm_all h a10 x14).bind fun y16 => jc_I (jm_D d mX13_find [.ref a6, .int x8, .long y16] h) (fun x20 h18 => (jm_asi h18 a4 0 i2 x20).bind fun h21 => (jr_R h21 p1 11 13 2).bind fun a23 => (jm_ali h21 a23 0 i2).bind fun x25 => (if x25 = 5 then (jr_R h21 p1 11 15 2).bind fun a28 => (jr_R h21 p1 11 9 2).bind fun a30 => (jr_I h21 p1 11 8 0).bind fun x32 => (jr_R h21 p1 11 3 2).bind fun a34 => (jr_R h21 p1 11 15 2).bind fun a36 => (jm_ali h21 a36 0 i2).bind fun x38 => (jm_all h21 a34 x38).bind fun y40 => jc_I (jm_D d mX13_find [.ref a30, .int x32, .long y40] h21) (fun x44 h42 => (jm_asi h42 a28 0 i2 x44).bind fun h45 => kX13_settle_2 d o0 p1 (i2 + 1) h45) jx else kX13_settle_2 d o0 p1 (i2 + 1) h21)) jx else kX13_settle_84 d o0 p1 0 h)) = some r) : kX13_settle_2 d o0 p1 i2 h = some r := by
  show jm_B d mX13_settle (2, [o0, some (.ref p1), some (.int i2)], []) h = some r
  refine Eq.trans (jb_nx (i := .iload_n 2) (n := 1) (q := (3, [o0, some (.ref p1), some (.int i2)], [.int i2])) (jq qX13_settle 2 rfl) rfl) ?_
  refine Eq.trans (jb_nx (i := .aload_n 1) (n := 1) (q := (4, [o0, some (.ref p1), some (.int i2)], [.ref p1, .int i2])) (jq qX13_settle 3 rfl) rfl) ?_
  obtain ⟨x1, e2, H⟩ := jbd H
  refine Eq.trans (jb_nx (i := .getfield 273) (n := 3) (q := (7, [o0, some (.ref p1), some (.int i2)], [.int x1, .int i2])) (jq qX13_settle 4 rfl) (jo_gf rfl (jr_I_inv e2))) ?_
  by_cases c3 : i2 < x1
  · rw [if_pos c3] at H
    refine Eq.trans (jb_nx (i := .if_icmp .ge 75) (n := 3) (q := (10, [o0, some (.ref p1), some (.int i2)], [])) (jq qX13_settle 5 rfl) (jo_icF (jz_geF c3))) ?_
    refine Eq.trans (jb_nx (i := .aload_n 1) (n := 1) (q := (11, [o0, some (.ref p1), some (.int i2)], [.ref p1])) (jq qX13_settle 6 rfl) rfl) ?_
    obtain ⟨a4, e5, H⟩ := jbd H
    refine Eq.trans (jb_nx (i := .getfield 238) (n := 3) (q := (14, [o0, some (.ref p1), some (.int i2)], [.ref a4])) (jq qX13_settle 7 rfl) (jo_gf rfl (jr_R_inv e5))) ?_
    refine Eq.trans (jb_nx (i := .iload_n 2) (n := 1) (q := (15, [o0, some (.ref p1), some (.int i2)], [.int i2, .ref a4])) (jq qX13_settle 8 rfl) rfl) ?_
    refine Eq.trans (jb_nx (i := .aload_n 1) (n := 1) (q := (16, [o0, some (.ref p1), some (.int i2)], [.ref p1, .int i2, .ref a4])) (jq qX13_settle 9 rfl) rfl) ?_
    obtain ⟨a6, e7, H⟩ := jbd H
    refine Eq.trans (jb_nx (i := .getfield 418) (n := 3) (q := (19, [o0, some (.ref p1), some (.int i2)], [.ref a6, .int i2, .ref a4])) (jq qX13_settle 10 rfl) (jo_gf rfl (jr_R_inv e7))) ?_
    refine Eq.trans (jb_nx (i := .aload_n 1) (n := 1) (q := (20, [o0, some (.ref p1), some (.int i2)], [.ref p1, .ref a6, .int i2, .ref a4])) (jq qX13_settle 11 rfl) rfl) ?_
    obtain ⟨x8, e9, H⟩ := jbd H
    refine Eq.trans (jb_nx (i := .getfield 71) (n := 3) (q := (23, [o0, some (.ref p1), some (.int i2)], [.int x8, .ref a6, .int i2, .ref a4])) (jq qX13_settle 12 rfl) (jo_gf rfl (jr_I_inv e9))) ?_
    refine Eq.trans (jb_nx (i := .aload_n 1) (n := 1) (q := (24, [o0, some (.ref p1), some (.int i2)], [.ref p1, .int x8, .ref a6, .int i2, .ref a4])) (jq qX13_settle 13 rfl) rfl) ?_
    obtain ⟨a10, e11, H⟩ := jbd H
    refine Eq.trans (jb_nx (i := .getfield 310) (n := 3) (q := (27, [o0, some (.ref p1), some (.int i2)], [.ref a10, .int x8, .ref a6, .int i2, .ref a4])) (jq qX13_settle 14 rfl) (jo_gf rfl (jr_R_inv e11))) ?_
    refine Eq.trans (jb_nx (i := .aload_n 1) (n := 1) (q := (28, [o0, some (.ref p1), some (.int i2)], [.ref p1, .ref a10, .int x8, .ref a6, .int i2, .ref a4])) (jq qX13_settle 15 rfl) rfl) ?_
    obtain ⟨a12, e13, H⟩ := jbd H
    refine Eq.trans (jb_nx (i := .getfield 238) (n := 3) (q := (31, [o0, some (.ref p1), some (.int i2)], [.ref a12, .ref a10, .int x8, .ref a6, .int i2, .ref a4])) (jq qX13_settle 16 rfl) (jo_gf rfl (jr_R_inv e13))) ?_
    refine Eq.trans (jb_nx (i := .iload_n 2) (n := 1) (q := (32, [o0, some (.ref p1), some (.int i2)], [.int i2, .ref a12, .ref a10, .int x8, .ref a6, .int i2, .ref a4])) (jq qX13_settle 17 rfl) rfl) ?_
    obtain ⟨x14, e15, H⟩ := jbd H
    refine Eq.trans (jb_nx (i := .iaload) (n := 1) (q := (33, [o0, some (.ref p1), some (.int i2)], [.int x14, .ref a10, .int x8, .ref a6, .int i2, .ref a4])) (jq qX13_settle 18 rfl) (jo_ial e15)) ?_
    obtain ⟨y16, e17, H⟩ := jbd H
    refine Eq.trans (jb_nx (i := .laload) (n := 1) (q := (34, [o0, some (.ref p1), some (.int i2)], [.long y16, .int x8, .ref a6, .int i2, .ref a4])) (jq qX13_settle 19 rfl) (jo_lal e17)) ?_
    rcases jcI H with ⟨x20, h18, r19, H⟩ | ⟨w49, h50, r19, H⟩
    · refine Eq.trans (jb_nx (i := .invokestatic 414) (n := 3) (q := (37, [o0, some (.ref p1), some (.int i2)], [.int x20, .int i2, .ref a4])) (jq qX13_settle 20 rfl) (jo_cs (y := mX13_find) (w := 1) (by decide) rfl (Nat.le_of_ble_eq_true rfl) rfl (Nat.le_of_ble_eq_true rfl) rfl r19 jo_ret)) ?_
      obtain ⟨h21, e22, H⟩ := jbd H
      refine Eq.trans (jb_nx (i := .iastore) (n := 1) (q := (38, [o0, some (.ref p1), some (.int i2)], [])) (jq qX13_settle 21 rfl) (jo_ias e22)) ?_
      refine Eq.trans (jb_nx (i := .aload_n 1) (n := 1) (q := (39, [o0, some (.ref p1), some (.int i2)], [.ref p1])) (jq qX13_settle 22 rfl) rfl) ?_
      obtain ⟨a23, e24, H⟩ := jbd H
      refine Eq.trans (jb_nx (i := .getfield 244) (n := 3) (q := (42, [o0, some (.ref p1), some (.int i2)], [.ref a23])) (jq qX13_settle 23 rfl) (jo_gf rfl (jr_R_inv e24))) ?_
      refine Eq.trans (jb_nx (i := .iload_n 2) (n := 1) (q := (43, [o0, some (.ref p1), some (.int i2)], [.int i2, .ref a23])) (jq qX13_settle 24 rfl) rfl) ?_
      obtain ⟨x25, e26, H⟩ := jbd H
      refine Eq.trans (jb_nx (i := .iaload) (n := 1) (q := (44, [o0, some (.ref p1), some (.int i2)], [.int x25])) (jq qX13_settle 25 rfl) (jo_ial e26)) ?_
      refine Eq.trans (jb_nx (i := .iconst 5) (n := 1) (q := (45, [o0, some (.ref p1), some (.int i2)], [.int 5, .int x25])) (jq qX13_settle 26 rfl) rfl) ?_
      by_cases c27 : x25 = 5
      · rw [if_pos c27] at H
        refine Eq.trans (jb_nx (i := .if_icmp .ne 31) (n := 3) (q := (48, [o0, some (.ref p1), some (.int i2)], [])) (jq qX13_settle 27 rfl) (jo_icF (jz_neF c27))) ?_
        refine Eq.trans (jb_nx (i := .aload_n 1) (n := 1) (q := (49, [o0, some (.ref p1), some (.int i2)], [.ref p1])) (jq qX13_settle 28 rfl) rfl) ?_
        obtain ⟨a28, e29, H⟩ := jbd H
        refine Eq.trans (jb_nx (i := .getfield 247) (n := 3) (q := (52, [o0, some (.ref p1), some (.int i2)], [.ref a28])) (jq qX13_settle 29 rfl) (jo_gf rfl (jr_R_inv e29))) ?_
        refine Eq.trans (jb_nx (i := .iload_n 2) (n := 1) (q := (53, [o0, some (.ref p1), some (.int i2)], [.int i2, .ref a28])) (jq qX13_settle 30 rfl) rfl) ?_
        refine Eq.trans (jb_nx (i := .aload_n 1) (n := 1) (q := (54, [o0, some (.ref p1), some (.int i2)], [.ref p1, .int i2, .ref a28])) (jq qX13_settle 31 rfl) rfl) ?_
        obtain ⟨a30, e31, H⟩ := jbd H
        refine Eq.trans (jb_nx (i := .getfield 418) (n := 3) (q := (57, [o0, some (.ref p1), some (.int i2)], [.ref a30, .int i2, .ref a28])) (jq qX13_settle 32 rfl) (jo_gf rfl (jr_R_inv e31))) ?_
        refine Eq.trans (jb_nx (i := .aload_n 1) (n := 1) (q := (58, [o0, some (.ref p1), some (.int i2)], [.ref p1, .ref a30, .int i2, .ref a28])) (jq qX13_settle 33 rfl) rfl) ?_
        obtain ⟨x32, e33, H⟩ := jbd H
        refine Eq.trans (jb_nx (i := .getfield 71) (n := 3) (q := (61, [o0, some (.ref p1), some (.int i2)], [.int x32, .ref a30, .int i2, .ref a28])) (jq qX13_settle 34 rfl) (jo_gf rfl (jr_I_inv e33))) ?_
        refine Eq.trans (jb_nx (i := .aload_n 1) (n := 1) (q := (62, [o0, some (.ref p1), some (.int i2)], [.ref p1, .int x32, .ref a30, .int i2, .ref a28])) (jq qX13_settle 35 rfl) rfl) ?_
        obtain ⟨a34, e35, H⟩ := jbd H
        refine Eq.trans (jb_nx (i := .getfield 310) (n := 3) (q := (65, [o0, some (.ref p1), some (.int i2)], [.ref a34, .int x32, .ref a30, .int i2, .ref a28])) (jq qX13_settle 36 rfl) (jo_gf rfl (jr_R_inv e35))) ?_
        refine Eq.trans (jb_nx (i := .aload_n 1) (n := 1) (q := (66, [o0, some (.ref p1), some (.int i2)], [.ref p1, .ref a34, .int x32, .ref a30, .int i2, .ref a28])) (jq qX13_settle 37 rfl) rfl) ?_
        obtain ⟨a36, e37, H⟩ := jbd H
        refine Eq.trans (jb_nx (i := .getfield 247) (n := 3) (q := (69, [o0, some (.ref p1), some (.int i2)], [.ref a36, .ref a34, .int x32, .ref a30, .int i2, .ref a28])) (jq qX13_settle 38 rfl) (jo_gf rfl (jr_R_inv e37))) ?_
        refine Eq.trans (jb_nx (i := .iload_n 2) (n := 1) (q := (70, [o0, some (.ref p1), some (.int i2)], [.int i2, .ref a36, .ref a34, .int x32, .ref a30, .int i2, .ref a28])) (jq qX13_settle 39 rfl) rfl) ?_
        obtain ⟨x38, e39, H⟩ := jbd H
        refine Eq.trans (jb_nx (i := .iaload) (n := 1) (q := (71, [o0, some (.ref p1), some (.int i2)], [.int x38, .ref a34, .int x32, .ref a30, .int i2, .ref a28])) (jq qX13_settle 40 rfl) (jo_ial e39)) ?_
        obtain ⟨y40, e41, H⟩ := jbd H
        refine Eq.trans (jb_nx (i := .laload) (n := 1) (q := (72, [o0, some (.ref p1), some (.int i2)], [.long y40, .int x32, .ref a30, .int i2, .ref a28])) (jq qX13_settle 41 rfl) (jo_lal e41)) ?_
        rcases jcI H with ⟨x44, h42, r43, H⟩ | ⟨w47, h48, r43, H⟩
        · refine Eq.trans (jb_nx (i := .invokestatic 414) (n := 3) (q := (75, [o0, some (.ref p1), some (.int i2)], [.int x44, .int i2, .ref a28])) (jq qX13_settle 42 rfl) (jo_cs (y := mX13_find) (w := 1) (by decide) rfl (Nat.le_of_ble_eq_true rfl) rfl (Nat.le_of_ble_eq_true rfl) rfl r43 jo_ret)) ?_
          obtain ⟨h45, e46, H⟩ := jbd H
          refine Eq.trans (jb_nx (i := .iastore) (n := 1) (q := (76, [o0, some (.ref p1), some (.int i2)], [])) (jq qX13_settle 43 rfl) (jo_ias e46)) ?_
          refine Eq.trans (jb_nx (i := .iinc 2 1) (n := 3) (q := (79, [o0, some (.ref p1), some (.int (i2 + 1))], [])) (jq qX13_settle 44 rfl) rfl) ?_
          refine Eq.trans (jb_nx (i := .goto (-77)) (n := 3) (q := (2, [o0, some (.ref p1), some (.int (i2 + 1))], [])) (jq qX13_settle 45 rfl) rfl) ?_
          exact H
        · exact Eq.trans (jb_rt (i := .invokestatic 414) (n := 3) (jq qX13_settle 42 rfl) (jo_cs (y := mX13_find) (w := 1) (by decide) rfl (Nat.le_of_ble_eq_true rfl) rfl (Nat.le_of_ble_eq_true rfl) rfl r43 (jo_exn rfl))) H
      · rw [if_neg c27] at H
        refine Eq.trans (jb_nx (i := .if_icmp .ne 31) (n := 3) (q := (76, [o0, some (.ref p1), some (.int i2)], [])) (jq qX13_settle 27 rfl) (jo_icT (jz_neT c27) rfl)) ?_
        refine Eq.trans (jb_nx (i := .iinc 2 1) (n := 3) (q := (79, [o0, some (.ref p1), some (.int (i2 + 1))], [])) (jq qX13_settle 44 rfl) rfl) ?_
        refine Eq.trans (jb_nx (i := .goto (-77)) (n := 3) (q := (2, [o0, some (.ref p1), some (.int (i2 + 1))], [])) (jq qX13_settle 45 rfl) rfl) ?_
        exact H
    · exact Eq.trans (jb_rt (i := .invokestatic 414) (n := 3) (jq qX13_settle 20 rfl) (jo_cs (y := mX13_find) (w := 1) (by decide) rfl (Nat.le_of_ble_eq_true rfl) rfl (Nat.le_of_ble_eq_true rfl) rfl r19 (jo_exn rfl))) H
  · rw [if_neg c3] at H
    refine Eq.trans (jb_nx (i := .if_icmp .ge 75) (n := 3) (q := (82, [o0, some (.ref p1), some (.int i2)], [])) (jq qX13_settle 5 rfl) (jo_icT (jz_geT c3) rfl)) ?_
    refine Eq.trans (jb_nx (i := .iconst 0) (n := 1) (q := (83, [o0, some (.ref p1), some (.int i2)], [.int 0])) (jq qX13_settle 46 rfl) rfl) ?_
    refine Eq.trans (jb_nx (i := .istore_n 2) (n := 1) (q := (84, [o0, some (.ref p1), some (.int 0)], [])) (jq qX13_settle 47 rfl) rfl) ?_
    exact H
theorem gX13_settle_84 {d : Nat} {o0 : Option Value} {p1 : Nat} {i2 : Int32} {h : jm_H} {r : jm_R} (H : ((jr_I h p1 11 20 0).bind fun x51 => (if i2 < x51 then (jr_R h p1 11 21 2).bind fun a54 => (jm_ali h a54 0 i2).bind fun x56 => (if x56 = (-1) then kX13_settle_84 d o0 p1 (i2 + 1) h else (jr_R h p1 11 19 2).bind fun a59 => (jr_R h p1 11 9 2).bind fun a61 => (jr_I h p1 11 8 0).bind fun x63 => (jr_R h p1 11 3 2).bind fun a65 => (jr_R h p1 11 21 2).bind fun a67 => (jm_ali h a67 0 i2).bind fun x69 => (jm_all h a65 x69).bind fun y71 => jc_I (jm_D d mX13_find [.ref a61, .int x63, .long y71] h) (fun x75 h73 => (jm_asi h73 a59 0 i2 x75).bind fun h76 => (jr_R h76 p1 11 18 2).bind fun a78 => (jm_ali h76 a78 0 i2).bind fun x80 => (if x80 = 14 then (jr_R h76 p1 11 19 2).bind fun a83 => (jr_R h76 p1 11 19 2).bind fun a85 => (jm_ali h76 a85 0 i2).bind fun x87 => (jr_R h76 p1 11 9 2).bind fun a89 => (jr_I h76 p1 11 8 0).bind fun x91 => (jr_R h76 p1 11 3 2).bind fun a93 => (jr_R h76 p1 11 21 2).bind fun a95 => (jm_ali h76 a95 0 i2).bind fun x97 => (jm_all h76 a93 (x97 + 1)).bind fun y99 => jc_I (jm_D d mX13_find [.ref a89, .int x91, .long y99] h76) (fun x103 h101 => (jm_asi h101 a83 0 i2 ((12 * x87) + x103)).bind fun h104 => kX13_settle_84 d o0 p1 (i2 + 1) h104) jx else kX13_settle_84 d o0 p1 (i2 + 1) h76)) jx) else some (.inl none, h))) = some r) : kX13_settle_84 d o0 p1 i2 h = some r := by
  show jm_B d mX13_settle (84, [o0, some (.ref p1), some (.int i2)], []) h = some r
  refine Eq.trans (jb_nx (i := .iload_n 2) (n := 1) (q := (85, [o0, some (.ref p1), some (.int i2)], [.int i2])) (jq qX13_settle 48 rfl) rfl) ?_
  refine Eq.trans (jb_nx (i := .aload_n 1) (n := 1) (q := (86, [o0, some (.ref p1), some (.int i2)], [.ref p1, .int i2])) (jq qX13_settle 49 rfl) rfl) ?_
  obtain ⟨x51, e52, H⟩ := jbd H
  refine Eq.trans (jb_nx (i := .getfield 347) (n := 3) (q := (89, [o0, some (.ref p1), some (.int i2)], [.int x51, .int i2])) (jq qX13_settle 50 rfl) (jo_gf rfl (jr_I_inv e52))) ?_
  by_cases c53 : i2 < x51
  · rw [if_pos c53] at H
    refine Eq.trans (jb_nx (i := .if_icmp .ge 101) (n := 3) (q := (92, [o0, some (.ref p1), some (.int i2)], [])) (jq qX13_settle 51 rfl) (jo_icF (jz_geF c53))) ?_
    refine Eq.trans (jb_nx (i := .aload_n 1) (n := 1) (q := (93, [o0, some (.ref p1), some (.int i2)], [.ref p1])) (jq qX13_settle 52 rfl) rfl) ?_
    obtain ⟨a54, e55, H⟩ := jbd H
    refine Eq.trans (jb_nx (i := .getfield 350) (n := 3) (q := (96, [o0, some (.ref p1), some (.int i2)], [.ref a54])) (jq qX13_settle 53 rfl) (jo_gf rfl (jr_R_inv e55))) ?_
    refine Eq.trans (jb_nx (i := .iload_n 2) (n := 1) (q := (97, [o0, some (.ref p1), some (.int i2)], [.int i2, .ref a54])) (jq qX13_settle 54 rfl) rfl) ?_
    obtain ⟨x56, e57, H⟩ := jbd H
    refine Eq.trans (jb_nx (i := .iaload) (n := 1) (q := (98, [o0, some (.ref p1), some (.int i2)], [.int x56])) (jq qX13_settle 55 rfl) (jo_ial e57)) ?_
    refine Eq.trans (jb_nx (i := .iconst (-1)) (n := 1) (q := (99, [o0, some (.ref p1), some (.int i2)], [.int (-1), .int x56])) (jq qX13_settle 56 rfl) rfl) ?_
    by_cases c58 : x56 = (-1)
    · rw [if_pos c58] at H
      refine Eq.trans (jb_nx (i := .if_icmp .ne 6) (n := 3) (q := (102, [o0, some (.ref p1), some (.int i2)], [])) (jq qX13_settle 57 rfl) (jo_icF (jz_neF c58))) ?_
      refine Eq.trans (jb_nx (i := .goto 82) (n := 3) (q := (184, [o0, some (.ref p1), some (.int i2)], [])) (jq qX13_settle 58 rfl) rfl) ?_
      refine Eq.trans (jb_nx (i := .iinc 2 1) (n := 3) (q := (187, [o0, some (.ref p1), some (.int (i2 + 1))], [])) (jq qX13_settle 106 rfl) rfl) ?_
      refine Eq.trans (jb_nx (i := .goto (-103)) (n := 3) (q := (84, [o0, some (.ref p1), some (.int (i2 + 1))], [])) (jq qX13_settle 107 rfl) rfl) ?_
      exact H
    · rw [if_neg c58] at H
      refine Eq.trans (jb_nx (i := .if_icmp .ne 6) (n := 3) (q := (105, [o0, some (.ref p1), some (.int i2)], [])) (jq qX13_settle 57 rfl) (jo_icT (jz_neT c58) rfl)) ?_
      refine Eq.trans (jb_nx (i := .aload_n 1) (n := 1) (q := (106, [o0, some (.ref p1), some (.int i2)], [.ref p1])) (jq qX13_settle 59 rfl) rfl) ?_
      obtain ⟨a59, e60, H⟩ := jbd H
      refine Eq.trans (jb_nx (i := .getfield 228) (n := 3) (q := (109, [o0, some (.ref p1), some (.int i2)], [.ref a59])) (jq qX13_settle 60 rfl) (jo_gf rfl (jr_R_inv e60))) ?_
      refine Eq.trans (jb_nx (i := .iload_n 2) (n := 1) (q := (110, [o0, some (.ref p1), some (.int i2)], [.int i2, .ref a59])) (jq qX13_settle 61 rfl) rfl) ?_
      refine Eq.trans (jb_nx (i := .aload_n 1) (n := 1) (q := (111, [o0, some (.ref p1), some (.int i2)], [.ref p1, .int i2, .ref a59])) (jq qX13_settle 62 rfl) rfl) ?_
      obtain ⟨a61, e62, H⟩ := jbd H
      refine Eq.trans (jb_nx (i := .getfield 418) (n := 3) (q := (114, [o0, some (.ref p1), some (.int i2)], [.ref a61, .int i2, .ref a59])) (jq qX13_settle 63 rfl) (jo_gf rfl (jr_R_inv e62))) ?_
      refine Eq.trans (jb_nx (i := .aload_n 1) (n := 1) (q := (115, [o0, some (.ref p1), some (.int i2)], [.ref p1, .ref a61, .int i2, .ref a59])) (jq qX13_settle 64 rfl) rfl) ?_
      obtain ⟨x63, e64, H⟩ := jbd H
      refine Eq.trans (jb_nx (i := .getfield 71) (n := 3) (q := (118, [o0, some (.ref p1), some (.int i2)], [.int x63, .ref a61, .int i2, .ref a59])) (jq qX13_settle 65 rfl) (jo_gf rfl (jr_I_inv e64))) ?_
      refine Eq.trans (jb_nx (i := .aload_n 1) (n := 1) (q := (119, [o0, some (.ref p1), some (.int i2)], [.ref p1, .int x63, .ref a61, .int i2, .ref a59])) (jq qX13_settle 66 rfl) rfl) ?_
      obtain ⟨a65, e66, H⟩ := jbd H
      refine Eq.trans (jb_nx (i := .getfield 310) (n := 3) (q := (122, [o0, some (.ref p1), some (.int i2)], [.ref a65, .int x63, .ref a61, .int i2, .ref a59])) (jq qX13_settle 67 rfl) (jo_gf rfl (jr_R_inv e66))) ?_
      refine Eq.trans (jb_nx (i := .aload_n 1) (n := 1) (q := (123, [o0, some (.ref p1), some (.int i2)], [.ref p1, .ref a65, .int x63, .ref a61, .int i2, .ref a59])) (jq qX13_settle 68 rfl) rfl) ?_
      obtain ⟨a67, e68, H⟩ := jbd H
      refine Eq.trans (jb_nx (i := .getfield 350) (n := 3) (q := (126, [o0, some (.ref p1), some (.int i2)], [.ref a67, .ref a65, .int x63, .ref a61, .int i2, .ref a59])) (jq qX13_settle 69 rfl) (jo_gf rfl (jr_R_inv e68))) ?_
      refine Eq.trans (jb_nx (i := .iload_n 2) (n := 1) (q := (127, [o0, some (.ref p1), some (.int i2)], [.int i2, .ref a67, .ref a65, .int x63, .ref a61, .int i2, .ref a59])) (jq qX13_settle 70 rfl) rfl) ?_
      obtain ⟨x69, e70, H⟩ := jbd H
      refine Eq.trans (jb_nx (i := .iaload) (n := 1) (q := (128, [o0, some (.ref p1), some (.int i2)], [.int x69, .ref a65, .int x63, .ref a61, .int i2, .ref a59])) (jq qX13_settle 71 rfl) (jo_ial e70)) ?_
      obtain ⟨y71, e72, H⟩ := jbd H
      refine Eq.trans (jb_nx (i := .laload) (n := 1) (q := (129, [o0, some (.ref p1), some (.int i2)], [.long y71, .int x63, .ref a61, .int i2, .ref a59])) (jq qX13_settle 72 rfl) (jo_lal e72)) ?_
      rcases jcI H with ⟨x75, h73, r74, H⟩ | ⟨w108, h109, r74, H⟩
      · refine Eq.trans (jb_nx (i := .invokestatic 414) (n := 3) (q := (132, [o0, some (.ref p1), some (.int i2)], [.int x75, .int i2, .ref a59])) (jq qX13_settle 73 rfl) (jo_cs (y := mX13_find) (w := 1) (by decide) rfl (Nat.le_of_ble_eq_true rfl) rfl (Nat.le_of_ble_eq_true rfl) rfl r74 jo_ret)) ?_
        obtain ⟨h76, e77, H⟩ := jbd H
        refine Eq.trans (jb_nx (i := .iastore) (n := 1) (q := (133, [o0, some (.ref p1), some (.int i2)], [])) (jq qX13_settle 74 rfl) (jo_ias e77)) ?_
        refine Eq.trans (jb_nx (i := .aload_n 1) (n := 1) (q := (134, [o0, some (.ref p1), some (.int i2)], [.ref p1])) (jq qX13_settle 75 rfl) rfl) ?_
        obtain ⟨a78, e79, H⟩ := jbd H
        refine Eq.trans (jb_nx (i := .getfield 222) (n := 3) (q := (137, [o0, some (.ref p1), some (.int i2)], [.ref a78])) (jq qX13_settle 76 rfl) (jo_gf rfl (jr_R_inv e79))) ?_
        refine Eq.trans (jb_nx (i := .iload_n 2) (n := 1) (q := (138, [o0, some (.ref p1), some (.int i2)], [.int i2, .ref a78])) (jq qX13_settle 77 rfl) rfl) ?_
        obtain ⟨x80, e81, H⟩ := jbd H
        refine Eq.trans (jb_nx (i := .iaload) (n := 1) (q := (139, [o0, some (.ref p1), some (.int i2)], [.int x80])) (jq qX13_settle 78 rfl) (jo_ial e81)) ?_
        refine Eq.trans (jb_nx (i := .bipush 14) (n := 2) (q := (141, [o0, some (.ref p1), some (.int i2)], [.int 14, .int x80])) (jq qX13_settle 79 rfl) rfl) ?_
        by_cases c82 : x80 = 14
        · rw [if_pos c82] at H
          refine Eq.trans (jb_nx (i := .if_icmp .ne 43) (n := 3) (q := (144, [o0, some (.ref p1), some (.int i2)], [])) (jq qX13_settle 80 rfl) (jo_icF (jz_neF c82))) ?_
          refine Eq.trans (jb_nx (i := .aload_n 1) (n := 1) (q := (145, [o0, some (.ref p1), some (.int i2)], [.ref p1])) (jq qX13_settle 81 rfl) rfl) ?_
          obtain ⟨a83, e84, H⟩ := jbd H
          refine Eq.trans (jb_nx (i := .getfield 228) (n := 3) (q := (148, [o0, some (.ref p1), some (.int i2)], [.ref a83])) (jq qX13_settle 82 rfl) (jo_gf rfl (jr_R_inv e84))) ?_
          refine Eq.trans (jb_nx (i := .iload_n 2) (n := 1) (q := (149, [o0, some (.ref p1), some (.int i2)], [.int i2, .ref a83])) (jq qX13_settle 83 rfl) rfl) ?_
          refine Eq.trans (jb_nx (i := .bipush 12) (n := 2) (q := (151, [o0, some (.ref p1), some (.int i2)], [.int 12, .int i2, .ref a83])) (jq qX13_settle 84 rfl) rfl) ?_
          refine Eq.trans (jb_nx (i := .aload_n 1) (n := 1) (q := (152, [o0, some (.ref p1), some (.int i2)], [.ref p1, .int 12, .int i2, .ref a83])) (jq qX13_settle 85 rfl) rfl) ?_
          obtain ⟨a85, e86, H⟩ := jbd H
          refine Eq.trans (jb_nx (i := .getfield 228) (n := 3) (q := (155, [o0, some (.ref p1), some (.int i2)], [.ref a85, .int 12, .int i2, .ref a83])) (jq qX13_settle 86 rfl) (jo_gf rfl (jr_R_inv e86))) ?_
          refine Eq.trans (jb_nx (i := .iload_n 2) (n := 1) (q := (156, [o0, some (.ref p1), some (.int i2)], [.int i2, .ref a85, .int 12, .int i2, .ref a83])) (jq qX13_settle 87 rfl) rfl) ?_
          obtain ⟨x87, e88, H⟩ := jbd H
          refine Eq.trans (jb_nx (i := .iaload) (n := 1) (q := (157, [o0, some (.ref p1), some (.int i2)], [.int x87, .int 12, .int i2, .ref a83])) (jq qX13_settle 88 rfl) (jo_ial e88)) ?_
          refine Eq.trans (jb_nx (i := .imul) (n := 1) (q := (158, [o0, some (.ref p1), some (.int i2)], [.int (12 * x87), .int i2, .ref a83])) (jq qX13_settle 89 rfl) rfl) ?_
          refine Eq.trans (jb_nx (i := .aload_n 1) (n := 1) (q := (159, [o0, some (.ref p1), some (.int i2)], [.ref p1, .int (12 * x87), .int i2, .ref a83])) (jq qX13_settle 90 rfl) rfl) ?_
          obtain ⟨a89, e90, H⟩ := jbd H
          refine Eq.trans (jb_nx (i := .getfield 418) (n := 3) (q := (162, [o0, some (.ref p1), some (.int i2)], [.ref a89, .int (12 * x87), .int i2, .ref a83])) (jq qX13_settle 91 rfl) (jo_gf rfl (jr_R_inv e90))) ?_
          refine Eq.trans (jb_nx (i := .aload_n 1) (n := 1) (q := (163, [o0, some (.ref p1), some (.int i2)], [.ref p1, .ref a89, .int (12 * x87), .int i2, .ref a83])) (jq qX13_settle 92 rfl) rfl) ?_
          obtain ⟨x91, e92, H⟩ := jbd H
          refine Eq.trans (jb_nx (i := .getfield 71) (n := 3) (q := (166, [o0, some (.ref p1), some (.int i2)], [.int x91, .ref a89, .int (12 * x87), .int i2, .ref a83])) (jq qX13_settle 93 rfl) (jo_gf rfl (jr_I_inv e92))) ?_
          refine Eq.trans (jb_nx (i := .aload_n 1) (n := 1) (q := (167, [o0, some (.ref p1), some (.int i2)], [.ref p1, .int x91, .ref a89, .int (12 * x87), .int i2, .ref a83])) (jq qX13_settle 94 rfl) rfl) ?_
          obtain ⟨a93, e94, H⟩ := jbd H
          refine Eq.trans (jb_nx (i := .getfield 310) (n := 3) (q := (170, [o0, some (.ref p1), some (.int i2)], [.ref a93, .int x91, .ref a89, .int (12 * x87), .int i2, .ref a83])) (jq qX13_settle 95 rfl) (jo_gf rfl (jr_R_inv e94))) ?_
          refine Eq.trans (jb_nx (i := .aload_n 1) (n := 1) (q := (171, [o0, some (.ref p1), some (.int i2)], [.ref p1, .ref a93, .int x91, .ref a89, .int (12 * x87), .int i2, .ref a83])) (jq qX13_settle 96 rfl) rfl) ?_
          obtain ⟨a95, e96, H⟩ := jbd H
          refine Eq.trans (jb_nx (i := .getfield 350) (n := 3) (q := (174, [o0, some (.ref p1), some (.int i2)], [.ref a95, .ref a93, .int x91, .ref a89, .int (12 * x87), .int i2, .ref a83])) (jq qX13_settle 97 rfl) (jo_gf rfl (jr_R_inv e96))) ?_
          refine Eq.trans (jb_nx (i := .iload_n 2) (n := 1) (q := (175, [o0, some (.ref p1), some (.int i2)], [.int i2, .ref a95, .ref a93, .int x91, .ref a89, .int (12 * x87), .int i2, .ref a83])) (jq qX13_settle 98 rfl) rfl) ?_
          obtain ⟨x97, e98, H⟩ := jbd H
          refine Eq.trans (jb_nx (i := .iaload) (n := 1) (q := (176, [o0, some (.ref p1), some (.int i2)], [.int x97, .ref a93, .int x91, .ref a89, .int (12 * x87), .int i2, .ref a83])) (jq qX13_settle 99 rfl) (jo_ial e98)) ?_
          refine Eq.trans (jb_nx (i := .iconst 1) (n := 1) (q := (177, [o0, some (.ref p1), some (.int i2)], [.int 1, .int x97, .ref a93, .int x91, .ref a89, .int (12 * x87), .int i2, .ref a83])) (jq qX13_settle 100 rfl) rfl) ?_
          refine Eq.trans (jb_nx (i := .iadd) (n := 1) (q := (178, [o0, some (.ref p1), some (.int i2)], [.int (x97 + 1), .ref a93, .int x91, .ref a89, .int (12 * x87), .int i2, .ref a83])) (jq qX13_settle 101 rfl) rfl) ?_
          obtain ⟨y99, e100, H⟩ := jbd H
          refine Eq.trans (jb_nx (i := .laload) (n := 1) (q := (179, [o0, some (.ref p1), some (.int i2)], [.long y99, .int x91, .ref a89, .int (12 * x87), .int i2, .ref a83])) (jq qX13_settle 102 rfl) (jo_lal e100)) ?_
          rcases jcI H with ⟨x103, h101, r102, H⟩ | ⟨w106, h107, r102, H⟩
          · refine Eq.trans (jb_nx (i := .invokestatic 414) (n := 3) (q := (182, [o0, some (.ref p1), some (.int i2)], [.int x103, .int (12 * x87), .int i2, .ref a83])) (jq qX13_settle 103 rfl) (jo_cs (y := mX13_find) (w := 1) (by decide) rfl (Nat.le_of_ble_eq_true rfl) rfl (Nat.le_of_ble_eq_true rfl) rfl r102 jo_ret)) ?_
            refine Eq.trans (jb_nx (i := .iadd) (n := 1) (q := (183, [o0, some (.ref p1), some (.int i2)], [.int ((12 * x87) + x103), .int i2, .ref a83])) (jq qX13_settle 104 rfl) rfl) ?_
            obtain ⟨h104, e105, H⟩ := jbd H
            refine Eq.trans (jb_nx (i := .iastore) (n := 1) (q := (184, [o0, some (.ref p1), some (.int i2)], [])) (jq qX13_settle 105 rfl) (jo_ias e105)) ?_
            refine Eq.trans (jb_nx (i := .iinc 2 1) (n := 3) (q := (187, [o0, some (.ref p1), some (.int (i2 + 1))], [])) (jq qX13_settle 106 rfl) rfl) ?_
            refine Eq.trans (jb_nx (i := .goto (-103)) (n := 3) (q := (84, [o0, some (.ref p1), some (.int (i2 + 1))], [])) (jq qX13_settle 107 rfl) rfl) ?_
            exact H
          · exact Eq.trans (jb_rt (i := .invokestatic 414) (n := 3) (jq qX13_settle 103 rfl) (jo_cs (y := mX13_find) (w := 1) (by decide) rfl (Nat.le_of_ble_eq_true rfl) rfl (Nat.le_of_ble_eq_true rfl) rfl r102 (jo_exn rfl))) H
        · rw [if_neg c82] at H
          refine Eq.trans (jb_nx (i := .if_icmp .ne 43) (n := 3) (q := (184, [o0, some (.ref p1), some (.int i2)], [])) (jq qX13_settle 80 rfl) (jo_icT (jz_neT c82) rfl)) ?_
          refine Eq.trans (jb_nx (i := .iinc 2 1) (n := 3) (q := (187, [o0, some (.ref p1), some (.int (i2 + 1))], [])) (jq qX13_settle 106 rfl) rfl) ?_
          refine Eq.trans (jb_nx (i := .goto (-103)) (n := 3) (q := (84, [o0, some (.ref p1), some (.int (i2 + 1))], [])) (jq qX13_settle 107 rfl) rfl) ?_
          exact H
      · exact Eq.trans (jb_rt (i := .invokestatic 414) (n := 3) (jq qX13_settle 73 rfl) (jo_cs (y := mX13_find) (w := 1) (by decide) rfl (Nat.le_of_ble_eq_true rfl) rfl (Nat.le_of_ble_eq_true rfl) rfl r74 (jo_exn rfl))) H
  · rw [if_neg c53] at H
    refine Eq.trans (jb_nx (i := .if_icmp .ge 101) (n := 3) (q := (190, [o0, some (.ref p1), some (.int i2)], [])) (jq qX13_settle 51 rfl) (jo_icT (jz_geT c53) rfl)) ?_
    exact Eq.trans (jb_rt (i := .return_) (n := 1) (jq qX13_settle 108 rfl) rfl) H
theorem gX13_settle {d : Nat} {p0 : Nat} {p1 : Nat} {h : jm_H} {r : jm_R} (H : (kX13_settle_2 d (some (.ref p0)) p1 0 h) = some r) : jm_D (d + 1) mX13_settle [.ref p0, .ref p1] h = some r := by
  rw [jm_D_body (Nat.le_of_ble_eq_true rfl)]
  show jm_B d mX13_settle (0, [some (.ref p0), some (.ref p1), none], []) h = some r
  refine Eq.trans (jb_nx (i := .iconst 0) (n := 1) (q := (1, [some (.ref p0), some (.ref p1), none], [.int 0])) (jq qX13_settle 0 rfl) rfl) ?_
  refine Eq.trans (jb_nx (i := .istore_n 2) (n := 1) (q := (2, [some (.ref p0), some (.ref p1), some (.int 0)], [])) (jq qX13_settle 1 rfl) rfl) ?_
  exact H
/-! MaskPlaysModel takeUpTold (I)V -/
def tX13_takeUpTold : List (Nat × Instr × Nat) := [(0, .aload_n 0, 1), (1, .aload_n 0, 1), (2, .getfield 20, 3), (5, .getfield 134, 3), (8, .iload_n 1, 1), (9, .iaload, 1), (10, .putfield 82, 3), (13, .aload_n 0, 1), (14, .getfield 20, 3), (17, .getfield 137, 3), (20, .sipush 150, 3), (23, .iload_n 1, 1), (24, .imul, 1), (25, .aload_n 0, 1), (26, .getfield 43, 3), (29, .iconst 0, 1), (30, .aload_n 0, 1), (31, .getfield 82, 3), (34, .invokestatic 128, 3), (37, .return_, 1)]
set_option maxRecDepth 100000 in
theorem qX13_takeUpTold : ∀ q ∈ tX13_takeUpTold, decode cX13_takeUpTold q.1 = .ok (q.2.1, q.2.2) := by decide +kernel
theorem gX13_takeUpTold {d : Nat} {p0 : Nat} {i1 : Int32} {h : jm_H} {r : jm_R} (H : ((jr_R h p0 12 4 2).bind fun a1 => (jr_R h a1 11 11 2).bind fun a3 => (jm_ali h a3 0 i1).bind fun x5 => (jm_pf h p0 12 19 0 (.int x5)).bind fun h7 => (jr_R h7 p0 12 4 2).bind fun a9 => (jr_R h7 a9 11 10 2).bind fun a11 => (jr_R h7 p0 12 18 2).bind fun a13 => (jr_I h7 p0 12 19 0).bind fun x15 => (jm_cpy h7 a11 (150 * i1) a13 0 x15).bind fun h17 => some (.inl none, h17)) = some r) : jm_D (d + 1) mX13_takeUpTold [.ref p0, .int i1] h = some r := by
  rw [jm_D_body (Nat.le_of_ble_eq_true rfl)]
  show jm_B d mX13_takeUpTold (0, [some (.ref p0), some (.int i1)], []) h = some r
  refine Eq.trans (jb_nx (i := .aload_n 0) (n := 1) (q := (1, [some (.ref p0), some (.int i1)], [.ref p0])) (jq qX13_takeUpTold 0 rfl) rfl) ?_
  refine Eq.trans (jb_nx (i := .aload_n 0) (n := 1) (q := (2, [some (.ref p0), some (.int i1)], [.ref p0, .ref p0])) (jq qX13_takeUpTold 1 rfl) rfl) ?_
  obtain ⟨a1, e2, H⟩ := jbd H
  refine Eq.trans (jb_nx (i := .getfield 20) (n := 3) (q := (5, [some (.ref p0), some (.int i1)], [.ref a1, .ref p0])) (jq qX13_takeUpTold 2 rfl) (jo_gf rfl (jr_R_inv e2))) ?_
  obtain ⟨a3, e4, H⟩ := jbd H
  refine Eq.trans (jb_nx (i := .getfield 134) (n := 3) (q := (8, [some (.ref p0), some (.int i1)], [.ref a3, .ref p0])) (jq qX13_takeUpTold 3 rfl) (jo_gf rfl (jr_R_inv e4))) ?_
  refine Eq.trans (jb_nx (i := .iload_n 1) (n := 1) (q := (9, [some (.ref p0), some (.int i1)], [.int i1, .ref a3, .ref p0])) (jq qX13_takeUpTold 4 rfl) rfl) ?_
  obtain ⟨x5, e6, H⟩ := jbd H
  refine Eq.trans (jb_nx (i := .iaload) (n := 1) (q := (10, [some (.ref p0), some (.int i1)], [.int x5, .ref p0])) (jq qX13_takeUpTold 5 rfl) (jo_ial e6)) ?_
  obtain ⟨h7, e8, H⟩ := jbd H
  refine Eq.trans (jb_nx (i := .putfield 82) (n := 3) (q := (13, [some (.ref p0), some (.int i1)], [])) (jq qX13_takeUpTold 6 rfl) (jo_pf rfl (Or.inl rfl) e8)) ?_
  refine Eq.trans (jb_nx (i := .aload_n 0) (n := 1) (q := (14, [some (.ref p0), some (.int i1)], [.ref p0])) (jq qX13_takeUpTold 7 rfl) rfl) ?_
  obtain ⟨a9, e10, H⟩ := jbd H
  refine Eq.trans (jb_nx (i := .getfield 20) (n := 3) (q := (17, [some (.ref p0), some (.int i1)], [.ref a9])) (jq qX13_takeUpTold 8 rfl) (jo_gf rfl (jr_R_inv e10))) ?_
  obtain ⟨a11, e12, H⟩ := jbd H
  refine Eq.trans (jb_nx (i := .getfield 137) (n := 3) (q := (20, [some (.ref p0), some (.int i1)], [.ref a11])) (jq qX13_takeUpTold 9 rfl) (jo_gf rfl (jr_R_inv e12))) ?_
  refine Eq.trans (jb_nx (i := .sipush 150) (n := 3) (q := (23, [some (.ref p0), some (.int i1)], [.int 150, .ref a11])) (jq qX13_takeUpTold 10 rfl) rfl) ?_
  refine Eq.trans (jb_nx (i := .iload_n 1) (n := 1) (q := (24, [some (.ref p0), some (.int i1)], [.int i1, .int 150, .ref a11])) (jq qX13_takeUpTold 11 rfl) rfl) ?_
  refine Eq.trans (jb_nx (i := .imul) (n := 1) (q := (25, [some (.ref p0), some (.int i1)], [.int (150 * i1), .ref a11])) (jq qX13_takeUpTold 12 rfl) rfl) ?_
  refine Eq.trans (jb_nx (i := .aload_n 0) (n := 1) (q := (26, [some (.ref p0), some (.int i1)], [.ref p0, .int (150 * i1), .ref a11])) (jq qX13_takeUpTold 13 rfl) rfl) ?_
  obtain ⟨a13, e14, H⟩ := jbd H
  refine Eq.trans (jb_nx (i := .getfield 43) (n := 3) (q := (29, [some (.ref p0), some (.int i1)], [.ref a13, .int (150 * i1), .ref a11])) (jq qX13_takeUpTold 14 rfl) (jo_gf rfl (jr_R_inv e14))) ?_
  refine Eq.trans (jb_nx (i := .iconst 0) (n := 1) (q := (30, [some (.ref p0), some (.int i1)], [.int 0, .ref a13, .int (150 * i1), .ref a11])) (jq qX13_takeUpTold 15 rfl) rfl) ?_
  refine Eq.trans (jb_nx (i := .aload_n 0) (n := 1) (q := (31, [some (.ref p0), some (.int i1)], [.ref p0, .int 0, .ref a13, .int (150 * i1), .ref a11])) (jq qX13_takeUpTold 16 rfl) rfl) ?_
  obtain ⟨x15, e16, H⟩ := jbd H
  refine Eq.trans (jb_nx (i := .getfield 82) (n := 3) (q := (34, [some (.ref p0), some (.int i1)], [.int x15, .int 0, .ref a13, .int (150 * i1), .ref a11])) (jq qX13_takeUpTold 17 rfl) (jo_gf rfl (jr_I_inv e16))) ?_
  obtain ⟨h17, e18, H⟩ := jbd H
  refine Eq.trans (jb_nx (i := .invokestatic 128) (n := 3) (q := (37, [some (.ref p0), some (.int i1)], [])) (jq qX13_takeUpTold 18 rfl) (jo_cpy (z := mX3_clear) rfl (Nat.le_of_ble_eq_true rfl) e18)) ?_
  exact Eq.trans (jb_rt (i := .return_) (n := 1) (jq qX13_takeUpTold 19 rfl) rfl) H
/-! MaskPlaysModel putDown (I)V -/
def tX13_putDown : List (Nat × Instr × Nat) := [(0, .aload_n 0, 1), (1, .getfield 28, 3), (4, .iload_n 1, 1), (5, .aload_n 0, 1), (6, .getfield 82, 3), (9, .iastore, 1), (10, .aload_n 0, 1), (11, .getfield 43, 3), (14, .iconst 0, 1), (15, .aload_n 0, 1), (16, .getfield 24, 3), (19, .sipush 150, 3), (22, .iload_n 1, 1), (23, .imul, 1), (24, .aload_n 0, 1), (25, .getfield 82, 3), (28, .invokestatic 128, 3), (31, .return_, 1)]
set_option maxRecDepth 100000 in
theorem qX13_putDown : ∀ q ∈ tX13_putDown, decode cX13_putDown q.1 = .ok (q.2.1, q.2.2) := by decide +kernel
theorem gX13_putDown {d : Nat} {p0 : Nat} {i1 : Int32} {h : jm_H} {r : jm_R} (H : ((jr_R h p0 12 9 2).bind fun a1 => (jr_I h p0 12 19 0).bind fun x3 => (jm_asi h a1 0 i1 x3).bind fun h5 => (jr_R h5 p0 12 18 2).bind fun a7 => (jr_R h5 p0 12 8 2).bind fun a9 => (jr_I h5 p0 12 19 0).bind fun x11 => (jm_cpy h5 a7 0 a9 (150 * i1) x11).bind fun h13 => some (.inl none, h13)) = some r) : jm_D (d + 1) mX13_putDown [.ref p0, .int i1] h = some r := by
  rw [jm_D_body (Nat.le_of_ble_eq_true rfl)]
  show jm_B d mX13_putDown (0, [some (.ref p0), some (.int i1)], []) h = some r
  refine Eq.trans (jb_nx (i := .aload_n 0) (n := 1) (q := (1, [some (.ref p0), some (.int i1)], [.ref p0])) (jq qX13_putDown 0 rfl) rfl) ?_
  obtain ⟨a1, e2, H⟩ := jbd H
  refine Eq.trans (jb_nx (i := .getfield 28) (n := 3) (q := (4, [some (.ref p0), some (.int i1)], [.ref a1])) (jq qX13_putDown 1 rfl) (jo_gf rfl (jr_R_inv e2))) ?_
  refine Eq.trans (jb_nx (i := .iload_n 1) (n := 1) (q := (5, [some (.ref p0), some (.int i1)], [.int i1, .ref a1])) (jq qX13_putDown 2 rfl) rfl) ?_
  refine Eq.trans (jb_nx (i := .aload_n 0) (n := 1) (q := (6, [some (.ref p0), some (.int i1)], [.ref p0, .int i1, .ref a1])) (jq qX13_putDown 3 rfl) rfl) ?_
  obtain ⟨x3, e4, H⟩ := jbd H
  refine Eq.trans (jb_nx (i := .getfield 82) (n := 3) (q := (9, [some (.ref p0), some (.int i1)], [.int x3, .int i1, .ref a1])) (jq qX13_putDown 4 rfl) (jo_gf rfl (jr_I_inv e4))) ?_
  obtain ⟨h5, e6, H⟩ := jbd H
  refine Eq.trans (jb_nx (i := .iastore) (n := 1) (q := (10, [some (.ref p0), some (.int i1)], [])) (jq qX13_putDown 5 rfl) (jo_ias e6)) ?_
  refine Eq.trans (jb_nx (i := .aload_n 0) (n := 1) (q := (11, [some (.ref p0), some (.int i1)], [.ref p0])) (jq qX13_putDown 6 rfl) rfl) ?_
  obtain ⟨a7, e8, H⟩ := jbd H
  refine Eq.trans (jb_nx (i := .getfield 43) (n := 3) (q := (14, [some (.ref p0), some (.int i1)], [.ref a7])) (jq qX13_putDown 7 rfl) (jo_gf rfl (jr_R_inv e8))) ?_
  refine Eq.trans (jb_nx (i := .iconst 0) (n := 1) (q := (15, [some (.ref p0), some (.int i1)], [.int 0, .ref a7])) (jq qX13_putDown 8 rfl) rfl) ?_
  refine Eq.trans (jb_nx (i := .aload_n 0) (n := 1) (q := (16, [some (.ref p0), some (.int i1)], [.ref p0, .int 0, .ref a7])) (jq qX13_putDown 9 rfl) rfl) ?_
  obtain ⟨a9, e10, H⟩ := jbd H
  refine Eq.trans (jb_nx (i := .getfield 24) (n := 3) (q := (19, [some (.ref p0), some (.int i1)], [.ref a9, .int 0, .ref a7])) (jq qX13_putDown 10 rfl) (jo_gf rfl (jr_R_inv e10))) ?_
  refine Eq.trans (jb_nx (i := .sipush 150) (n := 3) (q := (22, [some (.ref p0), some (.int i1)], [.int 150, .ref a9, .int 0, .ref a7])) (jq qX13_putDown 11 rfl) rfl) ?_
  refine Eq.trans (jb_nx (i := .iload_n 1) (n := 1) (q := (23, [some (.ref p0), some (.int i1)], [.int i1, .int 150, .ref a9, .int 0, .ref a7])) (jq qX13_putDown 12 rfl) rfl) ?_
  refine Eq.trans (jb_nx (i := .imul) (n := 1) (q := (24, [some (.ref p0), some (.int i1)], [.int (150 * i1), .ref a9, .int 0, .ref a7])) (jq qX13_putDown 13 rfl) rfl) ?_
  refine Eq.trans (jb_nx (i := .aload_n 0) (n := 1) (q := (25, [some (.ref p0), some (.int i1)], [.ref p0, .int (150 * i1), .ref a9, .int 0, .ref a7])) (jq qX13_putDown 14 rfl) rfl) ?_
  obtain ⟨x11, e12, H⟩ := jbd H
  refine Eq.trans (jb_nx (i := .getfield 82) (n := 3) (q := (28, [some (.ref p0), some (.int i1)], [.int x11, .int (150 * i1), .ref a9, .int 0, .ref a7])) (jq qX13_putDown 15 rfl) (jo_gf rfl (jr_I_inv e12))) ?_
  obtain ⟨h13, e14, H⟩ := jbd H
  refine Eq.trans (jb_nx (i := .invokestatic 128) (n := 3) (q := (31, [some (.ref p0), some (.int i1)], [])) (jq qX13_putDown 16 rfl) (jo_cpy (z := mX3_clear) rfl (Nat.le_of_ble_eq_true rfl) e14)) ?_
  exact Eq.trans (jb_rt (i := .return_) (n := 1) (jq qX13_putDown 17 rfl) rfl) H
/-! MaskPlaysModel errorAt ()I -/
def tX13_errorAt : List (Nat × Instr × Nat) := [(0, .aload_n 0, 1), (1, .aload_n 0, 1), (2, .getfield 13, 3), (5, .invokevirtual 470, 3), (8, .ireturn, 1)]
set_option maxRecDepth 100000 in
theorem qX13_errorAt : ∀ q ∈ tX13_errorAt, decode cX13_errorAt q.1 = .ok (q.2.1, q.2.2) := by decide +kernel
theorem gX13_errorAt {d : Nat} {p0 : Nat} {h : jm_H} {r : jm_R} (H : ((jr_I h p0 12 3 0).bind fun x1 => jm_O h p0 13 (jc_I (jm_D d mX13_ok [.ref p0, .int x1] h) (fun x5 h3 => some (.inl (some (.int x5)), h3)) jx)) = some r) : jm_D (d + 1) mX13_errorAt [.ref p0] h = some r := by
  rw [jm_D_body (Nat.le_of_ble_eq_true rfl)]
  show jm_B d mX13_errorAt (0, [some (.ref p0)], []) h = some r
  refine Eq.trans (jb_nx (i := .aload_n 0) (n := 1) (q := (1, [some (.ref p0)], [.ref p0])) (jq qX13_errorAt 0 rfl) rfl) ?_
  refine Eq.trans (jb_nx (i := .aload_n 0) (n := 1) (q := (2, [some (.ref p0)], [.ref p0, .ref p0])) (jq qX13_errorAt 1 rfl) rfl) ?_
  obtain ⟨x1, e2, H⟩ := jbd H
  refine Eq.trans (jb_nx (i := .getfield 13) (n := 3) (q := (5, [some (.ref p0)], [.int x1, .ref p0])) (jq qX13_errorAt 2 rfl) (jo_gf rfl (jr_I_inv e2))) ?_
  obtain ⟨b6, H⟩ := jm_O_inv H
  rcases jcI H with ⟨x5, h3, r4, H⟩ | ⟨w7, h8, r4, H⟩
  · refine Eq.trans (jb_nx (i := .invokevirtual 470) (n := 3) (q := (8, [some (.ref p0)], [.int x5])) (jq qX13_errorAt 3 rfl) (jo_cv (y := mX13_ok) rfl (Nat.le_of_ble_eq_true rfl) rfl (Nat.le_of_ble_eq_true rfl) b6 rfl r4 jo_ret)) ?_
    exact Eq.trans (jb_rt (i := .ireturn) (n := 1) (jq qX13_errorAt 4 rfl) (jo_iret rfl rfl)) H
  · exact Eq.trans (jb_rt (i := .invokevirtual 470) (n := 3) (jq qX13_errorAt 3 rfl) (jo_cv (y := mX13_ok) rfl (Nat.le_of_ble_eq_true rfl) rfl (Nat.le_of_ble_eq_true rfl) b6 rfl r4 (jo_exn rfl))) H
/-! MaskPlaysModel ok (I)I -/
def tX13_ok : List (Nat × Instr × Nat) := [(0, .aload_n 0, 1), (1, .iconst 0, 1), (2, .putfield 68, 3), (5, .iload_n 1, 1), (6, .ireturn, 1)]
set_option maxRecDepth 100000 in
theorem qX13_ok : ∀ q ∈ tX13_ok, decode cX13_ok q.1 = .ok (q.2.1, q.2.2) := by decide +kernel
theorem gX13_ok {d : Nat} {p0 : Nat} {i1 : Int32} {h : jm_H} {r : jm_R} (H : ((jm_pf h p0 12 0 0 (.int 0)).bind fun h1 => some (.inl (some (.int i1)), h1)) = some r) : jm_D (d + 1) mX13_ok [.ref p0, .int i1] h = some r := by
  rw [jm_D_body (Nat.le_of_ble_eq_true rfl)]
  show jm_B d mX13_ok (0, [some (.ref p0), some (.int i1)], []) h = some r
  refine Eq.trans (jb_nx (i := .aload_n 0) (n := 1) (q := (1, [some (.ref p0), some (.int i1)], [.ref p0])) (jq qX13_ok 0 rfl) rfl) ?_
  refine Eq.trans (jb_nx (i := .iconst 0) (n := 1) (q := (2, [some (.ref p0), some (.int i1)], [.int 0, .ref p0])) (jq qX13_ok 1 rfl) rfl) ?_
  obtain ⟨h1, e2, H⟩ := jbd H
  refine Eq.trans (jb_nx (i := .putfield 68) (n := 3) (q := (5, [some (.ref p0), some (.int i1)], [])) (jq qX13_ok 2 rfl) (jo_pf rfl (Or.inl rfl) e2)) ?_
  refine Eq.trans (jb_nx (i := .iload_n 1) (n := 1) (q := (6, [some (.ref p0), some (.int i1)], [.int i1])) (jq qX13_ok 3 rfl) rfl) ?_
  exact Eq.trans (jb_rt (i := .ireturn) (n := 1) (jq qX13_ok 4 rfl) (jo_iret rfl rfl)) H
/-! MaskPlaysModel actors ()I -/
def tX13_actors : List (Nat × Instr × Nat) := [(0, .aload_n 0, 1), (1, .aload_n 0, 1), (2, .getfield 20, 3), (5, .getfield 411, 3), (8, .invokevirtual 470, 3), (11, .ireturn, 1)]
set_option maxRecDepth 100000 in
theorem qX13_actors : ∀ q ∈ tX13_actors, decode cX13_actors q.1 = .ok (q.2.1, q.2.2) := by decide +kernel
theorem gX13_actors {d : Nat} {p0 : Nat} {h : jm_H} {r : jm_R} (H : ((jr_R h p0 12 4 2).bind fun a1 => (jr_I h a1 11 6 0).bind fun x3 => jm_O h p0 13 (jc_I (jm_D d mX13_ok [.ref p0, .int x3] h) (fun x7 h5 => some (.inl (some (.int x7)), h5)) jx)) = some r) : jm_D (d + 1) mX13_actors [.ref p0] h = some r := by
  rw [jm_D_body (Nat.le_of_ble_eq_true rfl)]
  show jm_B d mX13_actors (0, [some (.ref p0)], []) h = some r
  refine Eq.trans (jb_nx (i := .aload_n 0) (n := 1) (q := (1, [some (.ref p0)], [.ref p0])) (jq qX13_actors 0 rfl) rfl) ?_
  refine Eq.trans (jb_nx (i := .aload_n 0) (n := 1) (q := (2, [some (.ref p0)], [.ref p0, .ref p0])) (jq qX13_actors 1 rfl) rfl) ?_
  obtain ⟨a1, e2, H⟩ := jbd H
  refine Eq.trans (jb_nx (i := .getfield 20) (n := 3) (q := (5, [some (.ref p0)], [.ref a1, .ref p0])) (jq qX13_actors 2 rfl) (jo_gf rfl (jr_R_inv e2))) ?_
  obtain ⟨x3, e4, H⟩ := jbd H
  refine Eq.trans (jb_nx (i := .getfield 411) (n := 3) (q := (8, [some (.ref p0)], [.int x3, .ref p0])) (jq qX13_actors 3 rfl) (jo_gf rfl (jr_I_inv e4))) ?_
  obtain ⟨b8, H⟩ := jm_O_inv H
  rcases jcI H with ⟨x7, h5, r6, H⟩ | ⟨w9, h10, r6, H⟩
  · refine Eq.trans (jb_nx (i := .invokevirtual 470) (n := 3) (q := (11, [some (.ref p0)], [.int x7])) (jq qX13_actors 4 rfl) (jo_cv (y := mX13_ok) rfl (Nat.le_of_ble_eq_true rfl) rfl (Nat.le_of_ble_eq_true rfl) b8 rfl r6 jo_ret)) ?_
    exact Eq.trans (jb_rt (i := .ireturn) (n := 1) (jq qX13_actors 5 rfl) (jo_iret rfl rfl)) H
  · exact Eq.trans (jb_rt (i := .invokevirtual 470) (n := 3) (jq qX13_actors 4 rfl) (jo_cv (y := mX13_ok) rfl (Nat.le_of_ble_eq_true rfl) rfl (Nat.le_of_ble_eq_true rfl) b8 rfl r6 (jo_exn rfl))) H
/-! MaskPlaysModel plays ()I -/
def tX13_plays : List (Nat × Instr × Nat) := [(0, .aload_n 0, 1), (1, .aload_n 0, 1), (2, .getfield 20, 3), (5, .getfield 71, 3), (8, .invokevirtual 470, 3), (11, .ireturn, 1)]
set_option maxRecDepth 100000 in
theorem qX13_plays : ∀ q ∈ tX13_plays, decode cX13_plays q.1 = .ok (q.2.1, q.2.2) := by decide +kernel
theorem gX13_plays {d : Nat} {p0 : Nat} {h : jm_H} {r : jm_R} (H : ((jr_R h p0 12 4 2).bind fun a1 => (jr_I h a1 11 8 0).bind fun x3 => jm_O h p0 13 (jc_I (jm_D d mX13_ok [.ref p0, .int x3] h) (fun x7 h5 => some (.inl (some (.int x7)), h5)) jx)) = some r) : jm_D (d + 1) mX13_plays [.ref p0] h = some r := by
  rw [jm_D_body (Nat.le_of_ble_eq_true rfl)]
  show jm_B d mX13_plays (0, [some (.ref p0)], []) h = some r
  refine Eq.trans (jb_nx (i := .aload_n 0) (n := 1) (q := (1, [some (.ref p0)], [.ref p0])) (jq qX13_plays 0 rfl) rfl) ?_
  refine Eq.trans (jb_nx (i := .aload_n 0) (n := 1) (q := (2, [some (.ref p0)], [.ref p0, .ref p0])) (jq qX13_plays 1 rfl) rfl) ?_
  obtain ⟨a1, e2, H⟩ := jbd H
  refine Eq.trans (jb_nx (i := .getfield 20) (n := 3) (q := (5, [some (.ref p0)], [.ref a1, .ref p0])) (jq qX13_plays 2 rfl) (jo_gf rfl (jr_R_inv e2))) ?_
  obtain ⟨x3, e4, H⟩ := jbd H
  refine Eq.trans (jb_nx (i := .getfield 71) (n := 3) (q := (8, [some (.ref p0)], [.int x3, .ref p0])) (jq qX13_plays 3 rfl) (jo_gf rfl (jr_I_inv e4))) ?_
  obtain ⟨b8, H⟩ := jm_O_inv H
  rcases jcI H with ⟨x7, h5, r6, H⟩ | ⟨w9, h10, r6, H⟩
  · refine Eq.trans (jb_nx (i := .invokevirtual 470) (n := 3) (q := (11, [some (.ref p0)], [.int x7])) (jq qX13_plays 4 rfl) (jo_cv (y := mX13_ok) rfl (Nat.le_of_ble_eq_true rfl) rfl (Nat.le_of_ble_eq_true rfl) b8 rfl r6 jo_ret)) ?_
    exact Eq.trans (jb_rt (i := .ireturn) (n := 1) (jq qX13_plays 5 rfl) (jo_iret rfl rfl)) H
  · exact Eq.trans (jb_rt (i := .invokevirtual 470) (n := 3) (jq qX13_plays 4 rfl) (jo_cv (y := mX13_ok) rfl (Nat.le_of_ble_eq_true rfl) rfl (Nat.le_of_ble_eq_true rfl) b8 rfl r6 (jo_exn rfl))) H
/-! MaskPlaysModel notes ()I -/
def tX13_notes : List (Nat × Instr × Nat) := [(0, .aload_n 0, 1), (1, .aload_n 0, 1), (2, .getfield 20, 3), (5, .getfield 273, 3), (8, .invokevirtual 470, 3), (11, .ireturn, 1)]
set_option maxRecDepth 100000 in
theorem qX13_notes : ∀ q ∈ tX13_notes, decode cX13_notes q.1 = .ok (q.2.1, q.2.2) := by decide +kernel
theorem gX13_notes {d : Nat} {p0 : Nat} {h : jm_H} {r : jm_R} (H : ((jr_R h p0 12 4 2).bind fun a1 => (jr_I h a1 11 12 0).bind fun x3 => jm_O h p0 13 (jc_I (jm_D d mX13_ok [.ref p0, .int x3] h) (fun x7 h5 => some (.inl (some (.int x7)), h5)) jx)) = some r) : jm_D (d + 1) mX13_notes [.ref p0] h = some r := by
  rw [jm_D_body (Nat.le_of_ble_eq_true rfl)]
  show jm_B d mX13_notes (0, [some (.ref p0)], []) h = some r
  refine Eq.trans (jb_nx (i := .aload_n 0) (n := 1) (q := (1, [some (.ref p0)], [.ref p0])) (jq qX13_notes 0 rfl) rfl) ?_
  refine Eq.trans (jb_nx (i := .aload_n 0) (n := 1) (q := (2, [some (.ref p0)], [.ref p0, .ref p0])) (jq qX13_notes 1 rfl) rfl) ?_
  obtain ⟨a1, e2, H⟩ := jbd H
  refine Eq.trans (jb_nx (i := .getfield 20) (n := 3) (q := (5, [some (.ref p0)], [.ref a1, .ref p0])) (jq qX13_notes 2 rfl) (jo_gf rfl (jr_R_inv e2))) ?_
  obtain ⟨x3, e4, H⟩ := jbd H
  refine Eq.trans (jb_nx (i := .getfield 273) (n := 3) (q := (8, [some (.ref p0)], [.int x3, .ref p0])) (jq qX13_notes 3 rfl) (jo_gf rfl (jr_I_inv e4))) ?_
  obtain ⟨b8, H⟩ := jm_O_inv H
  rcases jcI H with ⟨x7, h5, r6, H⟩ | ⟨w9, h10, r6, H⟩
  · refine Eq.trans (jb_nx (i := .invokevirtual 470) (n := 3) (q := (11, [some (.ref p0)], [.int x7])) (jq qX13_notes 4 rfl) (jo_cv (y := mX13_ok) rfl (Nat.le_of_ble_eq_true rfl) rfl (Nat.le_of_ble_eq_true rfl) b8 rfl r6 jo_ret)) ?_
    exact Eq.trans (jb_rt (i := .ireturn) (n := 1) (jq qX13_notes 5 rfl) (jo_iret rfl rfl)) H
  · exact Eq.trans (jb_rt (i := .invokevirtual 470) (n := 3) (jq qX13_notes 4 rfl) (jo_cv (y := mX13_ok) rfl (Nat.le_of_ble_eq_true rfl) rfl (Nat.le_of_ble_eq_true rfl) b8 rfl r6 (jo_exn rfl))) H
/-! MaskPlaysModel evenings ()I -/
def tX13_evenings : List (Nat × Instr × Nat) := [(0, .aload_n 0, 1), (1, .aload_n 0, 1), (2, .getfield 192, 3), (5, .invokevirtual 470, 3), (8, .ireturn, 1)]
set_option maxRecDepth 100000 in
theorem qX13_evenings : ∀ q ∈ tX13_evenings, decode cX13_evenings q.1 = .ok (q.2.1, q.2.2) := by decide +kernel
theorem gX13_evenings {d : Nat} {p0 : Nat} {h : jm_H} {r : jm_R} (H : ((jr_I h p0 12 14 0).bind fun x1 => jm_O h p0 13 (jc_I (jm_D d mX13_ok [.ref p0, .int x1] h) (fun x5 h3 => some (.inl (some (.int x5)), h3)) jx)) = some r) : jm_D (d + 1) mX13_evenings [.ref p0] h = some r := by
  rw [jm_D_body (Nat.le_of_ble_eq_true rfl)]
  show jm_B d mX13_evenings (0, [some (.ref p0)], []) h = some r
  refine Eq.trans (jb_nx (i := .aload_n 0) (n := 1) (q := (1, [some (.ref p0)], [.ref p0])) (jq qX13_evenings 0 rfl) rfl) ?_
  refine Eq.trans (jb_nx (i := .aload_n 0) (n := 1) (q := (2, [some (.ref p0)], [.ref p0, .ref p0])) (jq qX13_evenings 1 rfl) rfl) ?_
  obtain ⟨x1, e2, H⟩ := jbd H
  refine Eq.trans (jb_nx (i := .getfield 192) (n := 3) (q := (5, [some (.ref p0)], [.int x1, .ref p0])) (jq qX13_evenings 2 rfl) (jo_gf rfl (jr_I_inv e2))) ?_
  obtain ⟨b6, H⟩ := jm_O_inv H
  rcases jcI H with ⟨x5, h3, r4, H⟩ | ⟨w7, h8, r4, H⟩
  · refine Eq.trans (jb_nx (i := .invokevirtual 470) (n := 3) (q := (8, [some (.ref p0)], [.int x5])) (jq qX13_evenings 3 rfl) (jo_cv (y := mX13_ok) rfl (Nat.le_of_ble_eq_true rfl) rfl (Nat.le_of_ble_eq_true rfl) b6 rfl r4 jo_ret)) ?_
    exact Eq.trans (jb_rt (i := .ireturn) (n := 1) (jq qX13_evenings 4 rfl) (jo_iret rfl rfl)) H
  · exact Eq.trans (jb_rt (i := .invokevirtual 470) (n := 3) (jq qX13_evenings 3 rfl) (jo_cv (y := mX13_ok) rfl (Nat.le_of_ble_eq_true rfl) rfl (Nat.le_of_ble_eq_true rfl) b6 rfl r4 (jo_exn rfl))) H
/-! MaskPlaysModel notesCarriedOut ()I -/
def tX13_notesCarriedOut : List (Nat × Instr × Nat) := [(0, .aload_n 0, 1), (1, .aload_n 0, 1), (2, .getfield 279, 3), (5, .invokevirtual 470, 3), (8, .ireturn, 1)]
set_option maxRecDepth 100000 in
theorem qX13_notesCarriedOut : ∀ q ∈ tX13_notesCarriedOut, decode cX13_notesCarriedOut q.1 = .ok (q.2.1, q.2.2) := by decide +kernel
theorem gX13_notesCarriedOut {d : Nat} {p0 : Nat} {h : jm_H} {r : jm_R} (H : ((jr_I h p0 12 15 0).bind fun x1 => jm_O h p0 13 (jc_I (jm_D d mX13_ok [.ref p0, .int x1] h) (fun x5 h3 => some (.inl (some (.int x5)), h3)) jx)) = some r) : jm_D (d + 1) mX13_notesCarriedOut [.ref p0] h = some r := by
  rw [jm_D_body (Nat.le_of_ble_eq_true rfl)]
  show jm_B d mX13_notesCarriedOut (0, [some (.ref p0)], []) h = some r
  refine Eq.trans (jb_nx (i := .aload_n 0) (n := 1) (q := (1, [some (.ref p0)], [.ref p0])) (jq qX13_notesCarriedOut 0 rfl) rfl) ?_
  refine Eq.trans (jb_nx (i := .aload_n 0) (n := 1) (q := (2, [some (.ref p0)], [.ref p0, .ref p0])) (jq qX13_notesCarriedOut 1 rfl) rfl) ?_
  obtain ⟨x1, e2, H⟩ := jbd H
  refine Eq.trans (jb_nx (i := .getfield 279) (n := 3) (q := (5, [some (.ref p0)], [.int x1, .ref p0])) (jq qX13_notesCarriedOut 2 rfl) (jo_gf rfl (jr_I_inv e2))) ?_
  obtain ⟨b6, H⟩ := jm_O_inv H
  rcases jcI H with ⟨x5, h3, r4, H⟩ | ⟨w7, h8, r4, H⟩
  · refine Eq.trans (jb_nx (i := .invokevirtual 470) (n := 3) (q := (8, [some (.ref p0)], [.int x5])) (jq qX13_notesCarriedOut 3 rfl) (jo_cv (y := mX13_ok) rfl (Nat.le_of_ble_eq_true rfl) rfl (Nat.le_of_ble_eq_true rfl) b6 rfl r4 jo_ret)) ?_
    exact Eq.trans (jb_rt (i := .ireturn) (n := 1) (jq qX13_notesCarriedOut 4 rfl) (jo_iret rfl rfl)) H
  · exact Eq.trans (jb_rt (i := .invokevirtual 470) (n := 3) (jq qX13_notesCarriedOut 3 rfl) (jo_cv (y := mX13_ok) rfl (Nat.le_of_ble_eq_true rfl) rfl (Nat.le_of_ble_eq_true rfl) b6 rfl r4 (jo_exn rfl))) H
/-! MaskPlaysModel tapeBytes ()I -/
def tX13_tapeBytes : List (Nat × Instr × Nat) := [(0, .aload_n 0, 1), (1, .aload_n 0, 1), (2, .getfield 291, 3), (5, .invokevirtual 470, 3), (8, .ireturn, 1)]
set_option maxRecDepth 100000 in
theorem qX13_tapeBytes : ∀ q ∈ tX13_tapeBytes, decode cX13_tapeBytes q.1 = .ok (q.2.1, q.2.2) := by decide +kernel
theorem gX13_tapeBytes {d : Nat} {p0 : Nat} {h : jm_H} {r : jm_R} (H : ((jr_I h p0 12 2 0).bind fun x1 => jm_O h p0 13 (jc_I (jm_D d mX13_ok [.ref p0, .int x1] h) (fun x5 h3 => some (.inl (some (.int x5)), h3)) jx)) = some r) : jm_D (d + 1) mX13_tapeBytes [.ref p0] h = some r := by
  rw [jm_D_body (Nat.le_of_ble_eq_true rfl)]
  show jm_B d mX13_tapeBytes (0, [some (.ref p0)], []) h = some r
  refine Eq.trans (jb_nx (i := .aload_n 0) (n := 1) (q := (1, [some (.ref p0)], [.ref p0])) (jq qX13_tapeBytes 0 rfl) rfl) ?_
  refine Eq.trans (jb_nx (i := .aload_n 0) (n := 1) (q := (2, [some (.ref p0)], [.ref p0, .ref p0])) (jq qX13_tapeBytes 1 rfl) rfl) ?_
  obtain ⟨x1, e2, H⟩ := jbd H
  refine Eq.trans (jb_nx (i := .getfield 291) (n := 3) (q := (5, [some (.ref p0)], [.int x1, .ref p0])) (jq qX13_tapeBytes 2 rfl) (jo_gf rfl (jr_I_inv e2))) ?_
  obtain ⟨b6, H⟩ := jm_O_inv H
  rcases jcI H with ⟨x5, h3, r4, H⟩ | ⟨w7, h8, r4, H⟩
  · refine Eq.trans (jb_nx (i := .invokevirtual 470) (n := 3) (q := (8, [some (.ref p0)], [.int x5])) (jq qX13_tapeBytes 3 rfl) (jo_cv (y := mX13_ok) rfl (Nat.le_of_ble_eq_true rfl) rfl (Nat.le_of_ble_eq_true rfl) b6 rfl r4 jo_ret)) ?_
    exact Eq.trans (jb_rt (i := .ireturn) (n := 1) (jq qX13_tapeBytes 4 rfl) (jo_iret rfl rfl)) H
  · exact Eq.trans (jb_rt (i := .invokevirtual 470) (n := 3) (jq qX13_tapeBytes 3 rfl) (jo_cv (y := mX13_ok) rfl (Nat.le_of_ble_eq_true rfl) rfl (Nat.le_of_ble_eq_true rfl) b6 rfl r4 (jo_exn rfl))) H
/-! MaskPlaysModel sizeOf (I)I -/
def tX13_sizeOf : List (Nat × Instr × Nat) := [(0, .aload_n 0, 1), (1, .iconst 0, 1), (2, .putfield 68, 3), (5, .aload_n 0, 1), (6, .iload_n 1, 1), (7, .invokevirtual 473, 3), (10, .ifCond .eq 12, 3), (13, .aload_n 0, 1), (14, .getfield 28, 3), (17, .iload_n 1, 1), (18, .iaload, 1), (19, .goto 8, 3), (22, .aload_n 0, 1), (23, .iconst 1, 1), (24, .invokevirtual 463, 3), (27, .ireturn, 1)]
set_option maxRecDepth 100000 in
theorem qX13_sizeOf : ∀ q ∈ tX13_sizeOf, decode cX13_sizeOf q.1 = .ok (q.2.1, q.2.2) := by decide +kernel
theorem gX13_sizeOf {d : Nat} {p0 : Nat} {i1 : Int32} {h : jm_H} {r : jm_R} (H : ((jm_pf h p0 12 0 0 (.int 0)).bind fun h1 => jm_O h1 p0 13 (jc_I (jm_D d mX13_isPlay [.ref p0, .int i1] h1) (fun x5 h3 => (if x5 = 0 then jm_O h3 p0 13 (jc_I (jm_D d mX13_no [.ref p0, .int 1] h3) (fun x9 h7 => some (.inl (some (.int x9)), h7)) jx) else (jr_R h3 p0 12 9 2).bind fun a13 => (jm_ali h3 a13 0 i1).bind fun x15 => some (.inl (some (.int x15)), h3))) jx)) = some r) : jm_D (d + 1) mX13_sizeOf [.ref p0, .int i1] h = some r := by
  rw [jm_D_body (Nat.le_of_ble_eq_true rfl)]
  show jm_B d mX13_sizeOf (0, [some (.ref p0), some (.int i1)], []) h = some r
  refine Eq.trans (jb_nx (i := .aload_n 0) (n := 1) (q := (1, [some (.ref p0), some (.int i1)], [.ref p0])) (jq qX13_sizeOf 0 rfl) rfl) ?_
  refine Eq.trans (jb_nx (i := .iconst 0) (n := 1) (q := (2, [some (.ref p0), some (.int i1)], [.int 0, .ref p0])) (jq qX13_sizeOf 1 rfl) rfl) ?_
  obtain ⟨h1, e2, H⟩ := jbd H
  refine Eq.trans (jb_nx (i := .putfield 68) (n := 3) (q := (5, [some (.ref p0), some (.int i1)], [])) (jq qX13_sizeOf 2 rfl) (jo_pf rfl (Or.inl rfl) e2)) ?_
  refine Eq.trans (jb_nx (i := .aload_n 0) (n := 1) (q := (6, [some (.ref p0), some (.int i1)], [.ref p0])) (jq qX13_sizeOf 3 rfl) rfl) ?_
  refine Eq.trans (jb_nx (i := .iload_n 1) (n := 1) (q := (7, [some (.ref p0), some (.int i1)], [.int i1, .ref p0])) (jq qX13_sizeOf 4 rfl) rfl) ?_
  obtain ⟨b17, H⟩ := jm_O_inv H
  rcases jcI H with ⟨x5, h3, r4, H⟩ | ⟨w18, h19, r4, H⟩
  · refine Eq.trans (jb_nx (i := .invokevirtual 473) (n := 3) (q := (10, [some (.ref p0), some (.int i1)], [.int x5])) (jq qX13_sizeOf 5 rfl) (jo_cv (y := mX13_isPlay) rfl (Nat.le_of_ble_eq_true rfl) rfl (Nat.le_of_ble_eq_true rfl) b17 rfl r4 jo_ret)) ?_
    by_cases c6 : x5 = 0
    · rw [if_pos c6] at H
      refine Eq.trans (jb_nx (i := .ifCond .eq 12) (n := 3) (q := (22, [some (.ref p0), some (.int i1)], [])) (jq qX13_sizeOf 6 rfl) (jo_ifT (jz_eqT c6) rfl)) ?_
      refine Eq.trans (jb_nx (i := .aload_n 0) (n := 1) (q := (23, [some (.ref p0), some (.int i1)], [.ref p0])) (jq qX13_sizeOf 12 rfl) rfl) ?_
      refine Eq.trans (jb_nx (i := .iconst 1) (n := 1) (q := (24, [some (.ref p0), some (.int i1)], [.int 1, .ref p0])) (jq qX13_sizeOf 13 rfl) rfl) ?_
      obtain ⟨b10, H⟩ := jm_O_inv H
      rcases jcI H with ⟨x9, h7, r8, H⟩ | ⟨w11, h12, r8, H⟩
      · refine Eq.trans (jb_nx (i := .invokevirtual 463) (n := 3) (q := (27, [some (.ref p0), some (.int i1)], [.int x9])) (jq qX13_sizeOf 14 rfl) (jo_cv (y := mX13_no) rfl (Nat.le_of_ble_eq_true rfl) rfl (Nat.le_of_ble_eq_true rfl) b10 rfl r8 jo_ret)) ?_
        exact Eq.trans (jb_rt (i := .ireturn) (n := 1) (jq qX13_sizeOf 15 rfl) (jo_iret rfl rfl)) H
      · exact Eq.trans (jb_rt (i := .invokevirtual 463) (n := 3) (jq qX13_sizeOf 14 rfl) (jo_cv (y := mX13_no) rfl (Nat.le_of_ble_eq_true rfl) rfl (Nat.le_of_ble_eq_true rfl) b10 rfl r8 (jo_exn rfl))) H
    · rw [if_neg c6] at H
      refine Eq.trans (jb_nx (i := .ifCond .eq 12) (n := 3) (q := (13, [some (.ref p0), some (.int i1)], [])) (jq qX13_sizeOf 6 rfl) (jo_ifF (jz_eqF c6))) ?_
      refine Eq.trans (jb_nx (i := .aload_n 0) (n := 1) (q := (14, [some (.ref p0), some (.int i1)], [.ref p0])) (jq qX13_sizeOf 7 rfl) rfl) ?_
      obtain ⟨a13, e14, H⟩ := jbd H
      refine Eq.trans (jb_nx (i := .getfield 28) (n := 3) (q := (17, [some (.ref p0), some (.int i1)], [.ref a13])) (jq qX13_sizeOf 8 rfl) (jo_gf rfl (jr_R_inv e14))) ?_
      refine Eq.trans (jb_nx (i := .iload_n 1) (n := 1) (q := (18, [some (.ref p0), some (.int i1)], [.int i1, .ref a13])) (jq qX13_sizeOf 9 rfl) rfl) ?_
      obtain ⟨x15, e16, H⟩ := jbd H
      refine Eq.trans (jb_nx (i := .iaload) (n := 1) (q := (19, [some (.ref p0), some (.int i1)], [.int x15])) (jq qX13_sizeOf 10 rfl) (jo_ial e16)) ?_
      refine Eq.trans (jb_nx (i := .goto 8) (n := 3) (q := (27, [some (.ref p0), some (.int i1)], [.int x15])) (jq qX13_sizeOf 11 rfl) rfl) ?_
      exact Eq.trans (jb_rt (i := .ireturn) (n := 1) (jq qX13_sizeOf 15 rfl) (jo_iret rfl rfl)) H
  · exact Eq.trans (jb_rt (i := .invokevirtual 473) (n := 3) (jq qX13_sizeOf 5 rfl) (jo_cv (y := mX13_isPlay) rfl (Nat.le_of_ble_eq_true rfl) rfl (Nat.le_of_ble_eq_true rfl) b17 rfl r4 (jo_exn rfl))) H
/-! MaskPlaysModel isPlay (I)Z -/
def tX13_isPlay : List (Nat × Instr × Nat) := [(0, .iload_n 1, 1), (1, .iconst 0, 1), (2, .aload_n 0, 1), (3, .getfield 20, 3), (6, .getfield 71, 3), (9, .iconst 1, 1), (10, .isub, 1), (11, .invokestatic 74, 3), (14, .ireturn, 1)]
set_option maxRecDepth 100000 in
theorem qX13_isPlay : ∀ q ∈ tX13_isPlay, decode cX13_isPlay q.1 = .ok (q.2.1, q.2.2) := by decide +kernel
theorem gX13_isPlay {d : Nat} {p0 : Nat} {i1 : Int32} {h : jm_H} {r : jm_R} (H : ((jr_R h p0 12 4 2).bind fun a1 => (jr_I h a1 11 8 0).bind fun x3 => jc_I (jm_D d mX13_isIn [.int i1, .int 0, .int (x3 - 1)] h) (fun x7 h5 => jm_Y .boolean x7 (some (.inl (some (.int x7)), h5))) jx) = some r) : jm_D (d + 1) mX13_isPlay [.ref p0, .int i1] h = some r := by
  rw [jm_D_body (Nat.le_of_ble_eq_true rfl)]
  show jm_B d mX13_isPlay (0, [some (.ref p0), some (.int i1)], []) h = some r
  refine Eq.trans (jb_nx (i := .iload_n 1) (n := 1) (q := (1, [some (.ref p0), some (.int i1)], [.int i1])) (jq qX13_isPlay 0 rfl) rfl) ?_
  refine Eq.trans (jb_nx (i := .iconst 0) (n := 1) (q := (2, [some (.ref p0), some (.int i1)], [.int 0, .int i1])) (jq qX13_isPlay 1 rfl) rfl) ?_
  refine Eq.trans (jb_nx (i := .aload_n 0) (n := 1) (q := (3, [some (.ref p0), some (.int i1)], [.ref p0, .int 0, .int i1])) (jq qX13_isPlay 2 rfl) rfl) ?_
  obtain ⟨a1, e2, H⟩ := jbd H
  refine Eq.trans (jb_nx (i := .getfield 20) (n := 3) (q := (6, [some (.ref p0), some (.int i1)], [.ref a1, .int 0, .int i1])) (jq qX13_isPlay 3 rfl) (jo_gf rfl (jr_R_inv e2))) ?_
  obtain ⟨x3, e4, H⟩ := jbd H
  refine Eq.trans (jb_nx (i := .getfield 71) (n := 3) (q := (9, [some (.ref p0), some (.int i1)], [.int x3, .int 0, .int i1])) (jq qX13_isPlay 4 rfl) (jo_gf rfl (jr_I_inv e4))) ?_
  refine Eq.trans (jb_nx (i := .iconst 1) (n := 1) (q := (10, [some (.ref p0), some (.int i1)], [.int 1, .int x3, .int 0, .int i1])) (jq qX13_isPlay 5 rfl) rfl) ?_
  refine Eq.trans (jb_nx (i := .isub) (n := 1) (q := (11, [some (.ref p0), some (.int i1)], [.int (x3 - 1), .int 0, .int i1])) (jq qX13_isPlay 6 rfl) rfl) ?_
  rcases jcI H with ⟨x7, h5, r6, H⟩ | ⟨w9, h10, r6, H⟩
  · refine Eq.trans (jb_nx (i := .invokestatic 74) (n := 3) (q := (14, [some (.ref p0), some (.int i1)], [.int x7])) (jq qX13_isPlay 7 rfl) (jo_cs (y := mX13_isIn) (w := 1) (by decide) rfl (Nat.le_of_ble_eq_true rfl) rfl (Nat.le_of_ble_eq_true rfl) rfl r6 jo_ret)) ?_
    obtain ⟨u8, H⟩ := jm_Y_inv H
    exact Eq.trans (jb_rt (i := .ireturn) (n := 1) (jq qX13_isPlay 8 rfl) (jo_iret rfl u8)) H
  · exact Eq.trans (jb_rt (i := .invokestatic 74) (n := 3) (jq qX13_isPlay 7 rfl) (jo_cs (y := mX13_isIn) (w := 1) (by decide) rfl (Nat.le_of_ble_eq_true rfl) rfl (Nat.le_of_ble_eq_true rfl) rfl r6 (jo_exn rfl))) H
/-! MaskPlaysModel masksIn (I)I -/
def tX13_masksIn : List (Nat × Instr × Nat) := [(0, .aload_n 0, 1), (1, .iconst 0, 1), (2, .putfield 68, 3), (5, .aload_n 0, 1), (6, .iload_n 1, 1), (7, .invokevirtual 473, 3), (10, .ifCond .eq 11, 3), (13, .aload_n 0, 1), (14, .iload_n 1, 1), (15, .invokevirtual 195, 3), (18, .goto 8, 3), (21, .aload_n 0, 1), (22, .iconst 1, 1), (23, .invokevirtual 463, 3), (26, .ireturn, 1)]
set_option maxRecDepth 100000 in
theorem qX13_masksIn : ∀ q ∈ tX13_masksIn, decode cX13_masksIn q.1 = .ok (q.2.1, q.2.2) := by decide +kernel
theorem gX13_masksIn {d : Nat} {p0 : Nat} {i1 : Int32} {h : jm_H} {r : jm_R} (H : ((jm_pf h p0 12 0 0 (.int 0)).bind fun h1 => jm_O h1 p0 13 (jc_I (jm_D d mX13_isPlay [.ref p0, .int i1] h1) (fun x5 h3 => (if x5 = 0 then jm_O h3 p0 13 (jc_I (jm_D d mX13_no [.ref p0, .int 1] h3) (fun x9 h7 => some (.inl (some (.int x9)), h7)) jx) else jm_O h3 p0 13 (jc_I (jm_D d mX13_masksOf [.ref p0, .int i1] h3) (fun x15 h13 => some (.inl (some (.int x15)), h13)) jx))) jx)) = some r) : jm_D (d + 1) mX13_masksIn [.ref p0, .int i1] h = some r := by
  rw [jm_D_body (Nat.le_of_ble_eq_true rfl)]
  show jm_B d mX13_masksIn (0, [some (.ref p0), some (.int i1)], []) h = some r
  refine Eq.trans (jb_nx (i := .aload_n 0) (n := 1) (q := (1, [some (.ref p0), some (.int i1)], [.ref p0])) (jq qX13_masksIn 0 rfl) rfl) ?_
  refine Eq.trans (jb_nx (i := .iconst 0) (n := 1) (q := (2, [some (.ref p0), some (.int i1)], [.int 0, .ref p0])) (jq qX13_masksIn 1 rfl) rfl) ?_
  obtain ⟨h1, e2, H⟩ := jbd H
  refine Eq.trans (jb_nx (i := .putfield 68) (n := 3) (q := (5, [some (.ref p0), some (.int i1)], [])) (jq qX13_masksIn 2 rfl) (jo_pf rfl (Or.inl rfl) e2)) ?_
  refine Eq.trans (jb_nx (i := .aload_n 0) (n := 1) (q := (6, [some (.ref p0), some (.int i1)], [.ref p0])) (jq qX13_masksIn 3 rfl) rfl) ?_
  refine Eq.trans (jb_nx (i := .iload_n 1) (n := 1) (q := (7, [some (.ref p0), some (.int i1)], [.int i1, .ref p0])) (jq qX13_masksIn 4 rfl) rfl) ?_
  obtain ⟨b19, H⟩ := jm_O_inv H
  rcases jcI H with ⟨x5, h3, r4, H⟩ | ⟨w20, h21, r4, H⟩
  · refine Eq.trans (jb_nx (i := .invokevirtual 473) (n := 3) (q := (10, [some (.ref p0), some (.int i1)], [.int x5])) (jq qX13_masksIn 5 rfl) (jo_cv (y := mX13_isPlay) rfl (Nat.le_of_ble_eq_true rfl) rfl (Nat.le_of_ble_eq_true rfl) b19 rfl r4 jo_ret)) ?_
    by_cases c6 : x5 = 0
    · rw [if_pos c6] at H
      refine Eq.trans (jb_nx (i := .ifCond .eq 11) (n := 3) (q := (21, [some (.ref p0), some (.int i1)], [])) (jq qX13_masksIn 6 rfl) (jo_ifT (jz_eqT c6) rfl)) ?_
      refine Eq.trans (jb_nx (i := .aload_n 0) (n := 1) (q := (22, [some (.ref p0), some (.int i1)], [.ref p0])) (jq qX13_masksIn 11 rfl) rfl) ?_
      refine Eq.trans (jb_nx (i := .iconst 1) (n := 1) (q := (23, [some (.ref p0), some (.int i1)], [.int 1, .ref p0])) (jq qX13_masksIn 12 rfl) rfl) ?_
      obtain ⟨b10, H⟩ := jm_O_inv H
      rcases jcI H with ⟨x9, h7, r8, H⟩ | ⟨w11, h12, r8, H⟩
      · refine Eq.trans (jb_nx (i := .invokevirtual 463) (n := 3) (q := (26, [some (.ref p0), some (.int i1)], [.int x9])) (jq qX13_masksIn 13 rfl) (jo_cv (y := mX13_no) rfl (Nat.le_of_ble_eq_true rfl) rfl (Nat.le_of_ble_eq_true rfl) b10 rfl r8 jo_ret)) ?_
        exact Eq.trans (jb_rt (i := .ireturn) (n := 1) (jq qX13_masksIn 14 rfl) (jo_iret rfl rfl)) H
      · exact Eq.trans (jb_rt (i := .invokevirtual 463) (n := 3) (jq qX13_masksIn 13 rfl) (jo_cv (y := mX13_no) rfl (Nat.le_of_ble_eq_true rfl) rfl (Nat.le_of_ble_eq_true rfl) b10 rfl r8 (jo_exn rfl))) H
    · rw [if_neg c6] at H
      refine Eq.trans (jb_nx (i := .ifCond .eq 11) (n := 3) (q := (13, [some (.ref p0), some (.int i1)], [])) (jq qX13_masksIn 6 rfl) (jo_ifF (jz_eqF c6))) ?_
      refine Eq.trans (jb_nx (i := .aload_n 0) (n := 1) (q := (14, [some (.ref p0), some (.int i1)], [.ref p0])) (jq qX13_masksIn 7 rfl) rfl) ?_
      refine Eq.trans (jb_nx (i := .iload_n 1) (n := 1) (q := (15, [some (.ref p0), some (.int i1)], [.int i1, .ref p0])) (jq qX13_masksIn 8 rfl) rfl) ?_
      obtain ⟨b16, H⟩ := jm_O_inv H
      rcases jcI H with ⟨x15, h13, r14, H⟩ | ⟨w17, h18, r14, H⟩
      · refine Eq.trans (jb_nx (i := .invokevirtual 195) (n := 3) (q := (18, [some (.ref p0), some (.int i1)], [.int x15])) (jq qX13_masksIn 9 rfl) (jo_cv (y := mX13_masksOf) rfl (Nat.le_of_ble_eq_true rfl) rfl (Nat.le_of_ble_eq_true rfl) b16 rfl r14 jo_ret)) ?_
        refine Eq.trans (jb_nx (i := .goto 8) (n := 3) (q := (26, [some (.ref p0), some (.int i1)], [.int x15])) (jq qX13_masksIn 10 rfl) rfl) ?_
        exact Eq.trans (jb_rt (i := .ireturn) (n := 1) (jq qX13_masksIn 14 rfl) (jo_iret rfl rfl)) H
      · exact Eq.trans (jb_rt (i := .invokevirtual 195) (n := 3) (jq qX13_masksIn 9 rfl) (jo_cv (y := mX13_masksOf) rfl (Nat.le_of_ble_eq_true rfl) rfl (Nat.le_of_ble_eq_true rfl) b16 rfl r14 (jo_exn rfl))) H
  · exact Eq.trans (jb_rt (i := .invokevirtual 473) (n := 3) (jq qX13_masksIn 5 rfl) (jo_cv (y := mX13_isPlay) rfl (Nat.le_of_ble_eq_true rfl) rfl (Nat.le_of_ble_eq_true rfl) b19 rfl r4 (jo_exn rfl))) H
/-! MaskPlaysModel masksOf (I)I -/
def tX13_masksOf : List (Nat × Instr × Nat) := [(0, .iconst 0, 1), (1, .istore_n 2, 1), (2, .iconst 0, 1), (3, .istore_n 3, 1), (4, .iload_n 3, 1), (5, .aload_n 0, 1), (6, .getfield 28, 3), (9, .iload_n 1, 1), (10, .iaload, 1), (11, .if_icmp .ge 34, 3), (14, .iload_n 2, 1), (15, .aload_n 0, 1), (16, .getfield 24, 3), (19, .sipush 150, 3), (22, .iload_n 1, 1), (23, .imul, 1), (24, .iload_n 3, 1), (25, .iadd, 1), (26, .laload, 1), (27, .lconst 0, 1), (28, .lcmp, 1), (29, .ifCond .ge 7, 3), (32, .iconst 1, 1), (33, .goto 4, 3), (36, .iconst 0, 1), (37, .iadd, 1), (38, .istore_n 2, 1), (39, .iinc 3 1, 3), (42, .goto (-38), 3), (45, .iload_n 2, 1), (46, .ireturn, 1)]
set_option maxRecDepth 100000 in
theorem qX13_masksOf : ∀ q ∈ tX13_masksOf, decode cX13_masksOf q.1 = .ok (q.2.1, q.2.2) := by decide +kernel
noncomputable def kX13_masksOf_4 (d : Nat) (p0 : Nat) (i1 : Int32) (i2 : Int32) (i3 : Int32) (h : jm_H) : Option jm_R := jm_B d mX13_masksOf (4, [some (.ref p0), some (.int i1), some (.int i2), some (.int i3)], []) h
theorem gX13_masksOf_4 {d : Nat} {p0 : Nat} {i1 : Int32} {i2 : Int32} {i3 : Int32} {h : jm_H} {r : jm_R} (H : ((jr_R h p0 12 9 2).bind fun a1 => (jm_ali h a1 0 i1).bind fun x3 => (if i3 < x3 then (jr_R h p0 12 8 2).bind fun a6 => (jm_all h a6 ((150 * i1) + i3)).bind fun y8 => (if (lg_cmp y8 0) < 0 then kX13_masksOf_4 d p0 i1 (i2 + 1) (i3 + 1) h else kX13_masksOf_4 d p0 i1 (i2 + 0) (i3 + 1) h) else some (.inl (some (.int i2)), h))) = some r) : kX13_masksOf_4 d p0 i1 i2 i3 h = some r := by
  show jm_B d mX13_masksOf (4, [some (.ref p0), some (.int i1), some (.int i2), some (.int i3)], []) h = some r
  refine Eq.trans (jb_nx (i := .iload_n 3) (n := 1) (q := (5, [some (.ref p0), some (.int i1), some (.int i2), some (.int i3)], [.int i3])) (jq qX13_masksOf 4 rfl) rfl) ?_
  refine Eq.trans (jb_nx (i := .aload_n 0) (n := 1) (q := (6, [some (.ref p0), some (.int i1), some (.int i2), some (.int i3)], [.ref p0, .int i3])) (jq qX13_masksOf 5 rfl) rfl) ?_
  obtain ⟨a1, e2, H⟩ := jbd H
  refine Eq.trans (jb_nx (i := .getfield 28) (n := 3) (q := (9, [some (.ref p0), some (.int i1), some (.int i2), some (.int i3)], [.ref a1, .int i3])) (jq qX13_masksOf 6 rfl) (jo_gf rfl (jr_R_inv e2))) ?_
  refine Eq.trans (jb_nx (i := .iload_n 1) (n := 1) (q := (10, [some (.ref p0), some (.int i1), some (.int i2), some (.int i3)], [.int i1, .ref a1, .int i3])) (jq qX13_masksOf 7 rfl) rfl) ?_
  obtain ⟨x3, e4, H⟩ := jbd H
  refine Eq.trans (jb_nx (i := .iaload) (n := 1) (q := (11, [some (.ref p0), some (.int i1), some (.int i2), some (.int i3)], [.int x3, .int i3])) (jq qX13_masksOf 8 rfl) (jo_ial e4)) ?_
  by_cases c5 : i3 < x3
  · rw [if_pos c5] at H
    refine Eq.trans (jb_nx (i := .if_icmp .ge 34) (n := 3) (q := (14, [some (.ref p0), some (.int i1), some (.int i2), some (.int i3)], [])) (jq qX13_masksOf 9 rfl) (jo_icF (jz_geF c5))) ?_
    refine Eq.trans (jb_nx (i := .iload_n 2) (n := 1) (q := (15, [some (.ref p0), some (.int i1), some (.int i2), some (.int i3)], [.int i2])) (jq qX13_masksOf 10 rfl) rfl) ?_
    refine Eq.trans (jb_nx (i := .aload_n 0) (n := 1) (q := (16, [some (.ref p0), some (.int i1), some (.int i2), some (.int i3)], [.ref p0, .int i2])) (jq qX13_masksOf 11 rfl) rfl) ?_
    obtain ⟨a6, e7, H⟩ := jbd H
    refine Eq.trans (jb_nx (i := .getfield 24) (n := 3) (q := (19, [some (.ref p0), some (.int i1), some (.int i2), some (.int i3)], [.ref a6, .int i2])) (jq qX13_masksOf 12 rfl) (jo_gf rfl (jr_R_inv e7))) ?_
    refine Eq.trans (jb_nx (i := .sipush 150) (n := 3) (q := (22, [some (.ref p0), some (.int i1), some (.int i2), some (.int i3)], [.int 150, .ref a6, .int i2])) (jq qX13_masksOf 13 rfl) rfl) ?_
    refine Eq.trans (jb_nx (i := .iload_n 1) (n := 1) (q := (23, [some (.ref p0), some (.int i1), some (.int i2), some (.int i3)], [.int i1, .int 150, .ref a6, .int i2])) (jq qX13_masksOf 14 rfl) rfl) ?_
    refine Eq.trans (jb_nx (i := .imul) (n := 1) (q := (24, [some (.ref p0), some (.int i1), some (.int i2), some (.int i3)], [.int (150 * i1), .ref a6, .int i2])) (jq qX13_masksOf 15 rfl) rfl) ?_
    refine Eq.trans (jb_nx (i := .iload_n 3) (n := 1) (q := (25, [some (.ref p0), some (.int i1), some (.int i2), some (.int i3)], [.int i3, .int (150 * i1), .ref a6, .int i2])) (jq qX13_masksOf 16 rfl) rfl) ?_
    refine Eq.trans (jb_nx (i := .iadd) (n := 1) (q := (26, [some (.ref p0), some (.int i1), some (.int i2), some (.int i3)], [.int ((150 * i1) + i3), .ref a6, .int i2])) (jq qX13_masksOf 17 rfl) rfl) ?_
    obtain ⟨y8, e9, H⟩ := jbd H
    refine Eq.trans (jb_nx (i := .laload) (n := 1) (q := (27, [some (.ref p0), some (.int i1), some (.int i2), some (.int i3)], [.long y8, .int i2])) (jq qX13_masksOf 18 rfl) (jo_lal e9)) ?_
    refine Eq.trans (jb_nx (i := .lconst 0) (n := 1) (q := (28, [some (.ref p0), some (.int i1), some (.int i2), some (.int i3)], [.long 0, .long y8, .int i2])) (jq qX13_masksOf 19 rfl) rfl) ?_
    refine Eq.trans (jb_nx (i := .lcmp) (n := 1) (q := (29, [some (.ref p0), some (.int i1), some (.int i2), some (.int i3)], [.int (lg_cmp y8 0), .int i2])) (jq qX13_masksOf 20 rfl) rfl) ?_
    by_cases c10 : (lg_cmp y8 0) < 0
    · rw [if_pos c10] at H
      refine Eq.trans (jb_nx (i := .ifCond .ge 7) (n := 3) (q := (32, [some (.ref p0), some (.int i1), some (.int i2), some (.int i3)], [.int i2])) (jq qX13_masksOf 21 rfl) (jo_ifF (jz_geF c10))) ?_
      refine Eq.trans (jb_nx (i := .iconst 1) (n := 1) (q := (33, [some (.ref p0), some (.int i1), some (.int i2), some (.int i3)], [.int 1, .int i2])) (jq qX13_masksOf 22 rfl) rfl) ?_
      refine Eq.trans (jb_nx (i := .goto 4) (n := 3) (q := (37, [some (.ref p0), some (.int i1), some (.int i2), some (.int i3)], [.int 1, .int i2])) (jq qX13_masksOf 23 rfl) rfl) ?_
      refine Eq.trans (jb_nx (i := .iadd) (n := 1) (q := (38, [some (.ref p0), some (.int i1), some (.int i2), some (.int i3)], [.int (i2 + 1)])) (jq qX13_masksOf 25 rfl) rfl) ?_
      refine Eq.trans (jb_nx (i := .istore_n 2) (n := 1) (q := (39, [some (.ref p0), some (.int i1), some (.int (i2 + 1)), some (.int i3)], [])) (jq qX13_masksOf 26 rfl) rfl) ?_
      refine Eq.trans (jb_nx (i := .iinc 3 1) (n := 3) (q := (42, [some (.ref p0), some (.int i1), some (.int (i2 + 1)), some (.int (i3 + 1))], [])) (jq qX13_masksOf 27 rfl) rfl) ?_
      refine Eq.trans (jb_nx (i := .goto (-38)) (n := 3) (q := (4, [some (.ref p0), some (.int i1), some (.int (i2 + 1)), some (.int (i3 + 1))], [])) (jq qX13_masksOf 28 rfl) rfl) ?_
      exact H
    · rw [if_neg c10] at H
      refine Eq.trans (jb_nx (i := .ifCond .ge 7) (n := 3) (q := (36, [some (.ref p0), some (.int i1), some (.int i2), some (.int i3)], [.int i2])) (jq qX13_masksOf 21 rfl) (jo_ifT (jz_geT c10) rfl)) ?_
      refine Eq.trans (jb_nx (i := .iconst 0) (n := 1) (q := (37, [some (.ref p0), some (.int i1), some (.int i2), some (.int i3)], [.int 0, .int i2])) (jq qX13_masksOf 24 rfl) rfl) ?_
      refine Eq.trans (jb_nx (i := .iadd) (n := 1) (q := (38, [some (.ref p0), some (.int i1), some (.int i2), some (.int i3)], [.int (i2 + 0)])) (jq qX13_masksOf 25 rfl) rfl) ?_
      refine Eq.trans (jb_nx (i := .istore_n 2) (n := 1) (q := (39, [some (.ref p0), some (.int i1), some (.int (i2 + 0)), some (.int i3)], [])) (jq qX13_masksOf 26 rfl) rfl) ?_
      refine Eq.trans (jb_nx (i := .iinc 3 1) (n := 3) (q := (42, [some (.ref p0), some (.int i1), some (.int (i2 + 0)), some (.int (i3 + 1))], [])) (jq qX13_masksOf 27 rfl) rfl) ?_
      refine Eq.trans (jb_nx (i := .goto (-38)) (n := 3) (q := (4, [some (.ref p0), some (.int i1), some (.int (i2 + 0)), some (.int (i3 + 1))], [])) (jq qX13_masksOf 28 rfl) rfl) ?_
      exact H
  · rw [if_neg c5] at H
    refine Eq.trans (jb_nx (i := .if_icmp .ge 34) (n := 3) (q := (45, [some (.ref p0), some (.int i1), some (.int i2), some (.int i3)], [])) (jq qX13_masksOf 9 rfl) (jo_icT (jz_geT c5) rfl)) ?_
    refine Eq.trans (jb_nx (i := .iload_n 2) (n := 1) (q := (46, [some (.ref p0), some (.int i1), some (.int i2), some (.int i3)], [.int i2])) (jq qX13_masksOf 29 rfl) rfl) ?_
    exact Eq.trans (jb_rt (i := .ireturn) (n := 1) (jq qX13_masksOf 30 rfl) (jo_iret rfl rfl)) H
theorem gX13_masksOf {d : Nat} {p0 : Nat} {i1 : Int32} {h : jm_H} {r : jm_R} (H : (kX13_masksOf_4 d p0 i1 0 0 h) = some r) : jm_D (d + 1) mX13_masksOf [.ref p0, .int i1] h = some r := by
  rw [jm_D_body (Nat.le_of_ble_eq_true rfl)]
  show jm_B d mX13_masksOf (0, [some (.ref p0), some (.int i1), none, none], []) h = some r
  refine Eq.trans (jb_nx (i := .iconst 0) (n := 1) (q := (1, [some (.ref p0), some (.int i1), none, none], [.int 0])) (jq qX13_masksOf 0 rfl) rfl) ?_
  refine Eq.trans (jb_nx (i := .istore_n 2) (n := 1) (q := (2, [some (.ref p0), some (.int i1), some (.int 0), none], [])) (jq qX13_masksOf 1 rfl) rfl) ?_
  refine Eq.trans (jb_nx (i := .iconst 0) (n := 1) (q := (3, [some (.ref p0), some (.int i1), some (.int 0), none], [.int 0])) (jq qX13_masksOf 2 rfl) rfl) ?_
  refine Eq.trans (jb_nx (i := .istore_n 3) (n := 1) (q := (4, [some (.ref p0), some (.int i1), some (.int 0), some (.int 0)], [])) (jq qX13_masksOf 3 rfl) rfl) ?_
  exact H
/-! MaskPlaysModel scenesIn (I)I -/
def tX13_scenesIn : List (Nat × Instr × Nat) := [(0, .aload_n 0, 1), (1, .iconst 0, 1), (2, .putfield 68, 3), (5, .aload_n 0, 1), (6, .iload_n 1, 1), (7, .invokevirtual 473, 3), (10, .ifCond .eq 11, 3), (13, .aload_n 0, 1), (14, .iload_n 1, 1), (15, .invokevirtual 476, 3), (18, .goto 8, 3), (21, .aload_n 0, 1), (22, .iconst 1, 1), (23, .invokevirtual 463, 3), (26, .ireturn, 1)]
set_option maxRecDepth 100000 in
theorem qX13_scenesIn : ∀ q ∈ tX13_scenesIn, decode cX13_scenesIn q.1 = .ok (q.2.1, q.2.2) := by decide +kernel
theorem gX13_scenesIn {d : Nat} {p0 : Nat} {i1 : Int32} {h : jm_H} {r : jm_R} (H : ((jm_pf h p0 12 0 0 (.int 0)).bind fun h1 => jm_O h1 p0 13 (jc_I (jm_D d mX13_isPlay [.ref p0, .int i1] h1) (fun x5 h3 => (if x5 = 0 then jm_O h3 p0 13 (jc_I (jm_D d mX13_no [.ref p0, .int 1] h3) (fun x9 h7 => some (.inl (some (.int x9)), h7)) jx) else jm_O h3 p0 13 (jc_I (jm_D d mX13_scenesOf [.ref p0, .int i1] h3) (fun x15 h13 => some (.inl (some (.int x15)), h13)) jx))) jx)) = some r) : jm_D (d + 1) mX13_scenesIn [.ref p0, .int i1] h = some r := by
  rw [jm_D_body (Nat.le_of_ble_eq_true rfl)]
  show jm_B d mX13_scenesIn (0, [some (.ref p0), some (.int i1)], []) h = some r
  refine Eq.trans (jb_nx (i := .aload_n 0) (n := 1) (q := (1, [some (.ref p0), some (.int i1)], [.ref p0])) (jq qX13_scenesIn 0 rfl) rfl) ?_
  refine Eq.trans (jb_nx (i := .iconst 0) (n := 1) (q := (2, [some (.ref p0), some (.int i1)], [.int 0, .ref p0])) (jq qX13_scenesIn 1 rfl) rfl) ?_
  obtain ⟨h1, e2, H⟩ := jbd H
  refine Eq.trans (jb_nx (i := .putfield 68) (n := 3) (q := (5, [some (.ref p0), some (.int i1)], [])) (jq qX13_scenesIn 2 rfl) (jo_pf rfl (Or.inl rfl) e2)) ?_
  refine Eq.trans (jb_nx (i := .aload_n 0) (n := 1) (q := (6, [some (.ref p0), some (.int i1)], [.ref p0])) (jq qX13_scenesIn 3 rfl) rfl) ?_
  refine Eq.trans (jb_nx (i := .iload_n 1) (n := 1) (q := (7, [some (.ref p0), some (.int i1)], [.int i1, .ref p0])) (jq qX13_scenesIn 4 rfl) rfl) ?_
  obtain ⟨b19, H⟩ := jm_O_inv H
  rcases jcI H with ⟨x5, h3, r4, H⟩ | ⟨w20, h21, r4, H⟩
  · refine Eq.trans (jb_nx (i := .invokevirtual 473) (n := 3) (q := (10, [some (.ref p0), some (.int i1)], [.int x5])) (jq qX13_scenesIn 5 rfl) (jo_cv (y := mX13_isPlay) rfl (Nat.le_of_ble_eq_true rfl) rfl (Nat.le_of_ble_eq_true rfl) b19 rfl r4 jo_ret)) ?_
    by_cases c6 : x5 = 0
    · rw [if_pos c6] at H
      refine Eq.trans (jb_nx (i := .ifCond .eq 11) (n := 3) (q := (21, [some (.ref p0), some (.int i1)], [])) (jq qX13_scenesIn 6 rfl) (jo_ifT (jz_eqT c6) rfl)) ?_
      refine Eq.trans (jb_nx (i := .aload_n 0) (n := 1) (q := (22, [some (.ref p0), some (.int i1)], [.ref p0])) (jq qX13_scenesIn 11 rfl) rfl) ?_
      refine Eq.trans (jb_nx (i := .iconst 1) (n := 1) (q := (23, [some (.ref p0), some (.int i1)], [.int 1, .ref p0])) (jq qX13_scenesIn 12 rfl) rfl) ?_
      obtain ⟨b10, H⟩ := jm_O_inv H
      rcases jcI H with ⟨x9, h7, r8, H⟩ | ⟨w11, h12, r8, H⟩
      · refine Eq.trans (jb_nx (i := .invokevirtual 463) (n := 3) (q := (26, [some (.ref p0), some (.int i1)], [.int x9])) (jq qX13_scenesIn 13 rfl) (jo_cv (y := mX13_no) rfl (Nat.le_of_ble_eq_true rfl) rfl (Nat.le_of_ble_eq_true rfl) b10 rfl r8 jo_ret)) ?_
        exact Eq.trans (jb_rt (i := .ireturn) (n := 1) (jq qX13_scenesIn 14 rfl) (jo_iret rfl rfl)) H
      · exact Eq.trans (jb_rt (i := .invokevirtual 463) (n := 3) (jq qX13_scenesIn 13 rfl) (jo_cv (y := mX13_no) rfl (Nat.le_of_ble_eq_true rfl) rfl (Nat.le_of_ble_eq_true rfl) b10 rfl r8 (jo_exn rfl))) H
    · rw [if_neg c6] at H
      refine Eq.trans (jb_nx (i := .ifCond .eq 11) (n := 3) (q := (13, [some (.ref p0), some (.int i1)], [])) (jq qX13_scenesIn 6 rfl) (jo_ifF (jz_eqF c6))) ?_
      refine Eq.trans (jb_nx (i := .aload_n 0) (n := 1) (q := (14, [some (.ref p0), some (.int i1)], [.ref p0])) (jq qX13_scenesIn 7 rfl) rfl) ?_
      refine Eq.trans (jb_nx (i := .iload_n 1) (n := 1) (q := (15, [some (.ref p0), some (.int i1)], [.int i1, .ref p0])) (jq qX13_scenesIn 8 rfl) rfl) ?_
      obtain ⟨b16, H⟩ := jm_O_inv H
      rcases jcI H with ⟨x15, h13, r14, H⟩ | ⟨w17, h18, r14, H⟩
      · refine Eq.trans (jb_nx (i := .invokevirtual 476) (n := 3) (q := (18, [some (.ref p0), some (.int i1)], [.int x15])) (jq qX13_scenesIn 9 rfl) (jo_cv (y := mX13_scenesOf) rfl (Nat.le_of_ble_eq_true rfl) rfl (Nat.le_of_ble_eq_true rfl) b16 rfl r14 jo_ret)) ?_
        refine Eq.trans (jb_nx (i := .goto 8) (n := 3) (q := (26, [some (.ref p0), some (.int i1)], [.int x15])) (jq qX13_scenesIn 10 rfl) rfl) ?_
        exact Eq.trans (jb_rt (i := .ireturn) (n := 1) (jq qX13_scenesIn 14 rfl) (jo_iret rfl rfl)) H
      · exact Eq.trans (jb_rt (i := .invokevirtual 476) (n := 3) (jq qX13_scenesIn 9 rfl) (jo_cv (y := mX13_scenesOf) rfl (Nat.le_of_ble_eq_true rfl) rfl (Nat.le_of_ble_eq_true rfl) b16 rfl r14 (jo_exn rfl))) H
  · exact Eq.trans (jb_rt (i := .invokevirtual 473) (n := 3) (jq qX13_scenesIn 5 rfl) (jo_cv (y := mX13_isPlay) rfl (Nat.le_of_ble_eq_true rfl) rfl (Nat.le_of_ble_eq_true rfl) b19 rfl r4 (jo_exn rfl))) H
