/-! ===== LEVEL 2: X11 ===== -/
/-! MaskPlays <init> ()V -/
def tX11_init : List (Nat × Instr × Nat) := [(0, .aload_n 0, 1), (1, .invokespecial 3, 3), (4, .aload_n 0, 1), (5, .iconst 0, 1), (6, .putfield 9, 3), (9, .aload_n 0, 1), (10, .iconst (-1), 1), (11, .putfield 13, 3), (14, .aload_n 0, 1), (15, .new 16, 3), (18, .dup, 1), (19, .invokespecial 18, 3), (22, .putfield 19, 3), (25, .aload_n 0, 1), (26, .new 23, 3), (29, .dup, 1), (30, .invokespecial 25, 3), (33, .putfield 26, 3), (36, .aload_n 0, 1), (37, .new 23, 3), (40, .dup, 1), (41, .invokespecial 25, 3), (44, .putfield 30, 3), (47, .aload_n 0, 1), (48, .new 33, 3), (51, .dup, 1), (52, .invokespecial 35, 3), (55, .putfield 36, 3), (58, .sipush 2000, 3), (61, .newarray .byte, 2), (63, .astore_n 1, 1), (64, .new 40, 3), (67, .dup, 1), (68, .aload_n 1, 1), (69, .invokespecial 42, 3), (72, .astore_n 2, 1), (73, .new 16, 3), (76, .dup, 1), (77, .invokespecial 18, 3), (80, .astore_n 3, 1), (81, .new 45, 3), (84, .dup, 1), (85, .invokespecial 47, 3), (88, .astore 4, 2), (90, .aload_n 0, 1), (91, .aload_n 1, 1), (92, .putfield 48, 3), (95, .aload_n 0, 1), (96, .aload_n 2, 1), (97, .putfield 52, 3), (100, .aload_n 0, 1), (101, .new 56, 3), (104, .dup, 1), (105, .aload_n 2, 1), (106, .aload_n 3, 1), (107, .invokespecial 58, 3), (110, .putfield 61, 3), (113, .aload_n 0, 1), (114, .new 65, 3), (117, .dup, 1), (118, .aload_n 2, 1), (119, .aload_n 3, 1), (120, .invokespecial 67, 3), (123, .putfield 68, 3), (126, .aload_n 0, 1), (127, .aload_n 3, 1), (128, .putfield 72, 3), (131, .aload_n 0, 1), (132, .aload 4, 2), (134, .putfield 75, 3), (137, .aload_n 0, 1), (138, .new 79, 3), (141, .dup, 1), (142, .aload 4, 2), (144, .invokespecial 81, 3), (147, .putfield 84, 3), (150, .aload_n 0, 1), (151, .new 79, 3), (154, .dup, 1), (155, .aload 4, 2), (157, .invokespecial 81, 3), (160, .putfield 88, 3), (163, .return_, 1)]
set_option maxRecDepth 100000 in
theorem qX11_init : ∀ q ∈ tX11_init, decode cX11_init q.1 = .ok (q.2.1, q.2.2) := by decide +kernel
theorem gX11_init {d : Nat} {p0 : Nat} {h : jm_H} {r : jm_R} (H : (jm_U p0 ((jm_pf h p0 10 1 0 (.int 0)).bind fun h2 => (jm_pf h2 p0 10 2 0 (.int (-1))).bind fun h4 => jl_new h4 0 [.int 0, .int 0, .int 0, .int 0, .null, .null, .null, .null, .null, .null, .null, .null] 12 fun a6 h7 => jm_U a6 (jc_V (jm_D d mX0_init [.ref a6] h7) (fun h10 => (jm_pf h10 p0 10 6 2 (.ref a6)).bind fun h12 => jl_new h12 3 [.int 0, .null, .null, .null, .null] 5 fun a14 h15 => jm_U a14 (jc_V (jm_D d mX3_init [.ref a14] h15) (fun h18 => (jm_pf h18 p0 10 11 2 (.ref a14)).bind fun h20 => jl_new h20 3 [.int 0, .null, .null, .null, .null] 5 fun a22 h23 => jm_U a22 (jc_V (jm_D d mX3_init [.ref a22] h23) (fun h26 => (jm_pf h26 p0 10 12 2 (.ref a22)).bind fun h28 => jl_new h28 8 [.int 0, .null, .null, .null, .int 0] 5 fun a30 h31 => jm_U a30 (jc_V (jm_D d mX8_init [.ref a30] h31) (fun h34 => (jm_pf h34 p0 10 13 2 (.ref a30)).bind fun h36 => jl_newa h36 2 2000 fun a38 h39 => jl_new h39 9 [.null, .null, .null, .null, .null, .null, .int 0, .null, .int 0] 9 fun a42 h43 => jm_U a42 (jc_V (jm_D d mX9_init [.ref a42, .ref a38] h43) (fun h46 => jl_new h46 0 [.int 0, .int 0, .int 0, .int 0, .null, .null, .null, .null, .null, .null, .null, .null] 12 fun a48 h49 => jm_U a48 (jc_V (jm_D d mX0_init [.ref a48] h49) (fun h52 => jl_new h52 5 [.int 0, .int 0, .null, .null, .null, .null, .null, .int 0, .null, .int 0, .int 0, .int 0, .int 0, .int 0] 14 fun a54 h55 => jm_U a54 (jc_V (jm_D d mX5_init [.ref a54] h55) (fun h58 => (jm_pf h58 p0 10 0 2 (.ref a38)).bind fun h60 => (jm_pf h60 p0 10 3 2 (.ref a42)).bind fun h62 => jl_new h62 1 [.null, .null, .int 0] 3 fun a64 h65 => jm_U a64 (jc_V (jm_D d mX1_init [.ref a64, .ref a42, .ref a48] h65) (fun h68 => (jm_pf h68 p0 10 4 2 (.ref a64)).bind fun h70 => jl_new h70 6 [.null, .null, .int 0, .int 0, .null, .int 0] 6 fun a72 h73 => jm_U a72 (jc_V (jm_D d mX6_init [.ref a72, .ref a42, .ref a48] h73) (fun h76 => (jm_pf h76 p0 10 5 2 (.ref a72)).bind fun h78 => (jm_pf h78 p0 10 7 2 (.ref a48)).bind fun h80 => (jm_pf h80 p0 10 8 2 (.ref a54)).bind fun h82 => jl_new h82 4 [.int 0, .int 0, .null, .null, .null, .null, .null, .null] 8 fun a84 h85 => jm_U a84 (jc_V (jm_D d mX4_init [.ref a84, .ref a54] h85) (fun h88 => (jm_pf h88 p0 10 9 2 (.ref a84)).bind fun h90 => jl_new h90 4 [.int 0, .int 0, .null, .null, .null, .null, .null, .null] 8 fun a92 h93 => jm_U a92 (jc_V (jm_D d mX4_init [.ref a92, .ref a54] h93) (fun h96 => (jm_pf h96 p0 10 10 2 (.ref a92)).bind fun h98 => some (.inl none, h98)) (fun _ _ => none))) (fun _ _ => none))) (fun _ _ => none))) (fun _ _ => none))) (fun _ _ => none))) (fun _ _ => none))) (fun _ _ => none))) (fun _ _ => none))) (fun _ _ => none))) (fun _ _ => none))) (fun _ _ => none)))) = some r) : jm_D (d + 1) mX11_init [.ref p0] h = some r := by
  rw [jm_D_body (Nat.le_of_ble_eq_true rfl)]
  show jm_B d mX11_init (0, [some (.ref p0), none, none, none, none], []) h = some r
  refine Eq.trans (jb_nx (i := .aload_n 0) (n := 1) (q := (1, [some (.ref p0), none, none, none, none], [.ref p0])) (jq qX11_init 0 rfl) rfl) ?_
  obtain ⟨u1, H⟩ := jm_U_inv H
  refine Eq.trans (jb_nx (i := .invokespecial 3) (n := 3) (q := (4, [some (.ref p0), none, none, none, none], [])) (jq qX11_init 1 rfl) (jo_oi (z := mX3_clear) rfl (Nat.le_of_ble_eq_true rfl) u1)) ?_
  refine Eq.trans (jb_nx (i := .aload_n 0) (n := 1) (q := (5, [some (.ref p0), none, none, none, none], [.ref p0])) (jq qX11_init 2 rfl) rfl) ?_
  refine Eq.trans (jb_nx (i := .iconst 0) (n := 1) (q := (6, [some (.ref p0), none, none, none, none], [.int 0, .ref p0])) (jq qX11_init 3 rfl) rfl) ?_
  obtain ⟨h2, e3, H⟩ := jbd H
  refine Eq.trans (jb_nx (i := .putfield 9) (n := 3) (q := (9, [some (.ref p0), none, none, none, none], [])) (jq qX11_init 4 rfl) (jo_pf rfl (Or.inl rfl) e3)) ?_
  refine Eq.trans (jb_nx (i := .aload_n 0) (n := 1) (q := (10, [some (.ref p0), none, none, none, none], [.ref p0])) (jq qX11_init 5 rfl) rfl) ?_
  refine Eq.trans (jb_nx (i := .iconst (-1)) (n := 1) (q := (11, [some (.ref p0), none, none, none, none], [.int (-1), .ref p0])) (jq qX11_init 6 rfl) rfl) ?_
  obtain ⟨h4, e5, H⟩ := jbd H
  refine Eq.trans (jb_nx (i := .putfield 13) (n := 3) (q := (14, [some (.ref p0), none, none, none, none], [])) (jq qX11_init 7 rfl) (jo_pf rfl (Or.inl rfl) e5)) ?_
  refine Eq.trans (jb_nx (i := .aload_n 0) (n := 1) (q := (15, [some (.ref p0), none, none, none, none], [.ref p0])) (jq qX11_init 8 rfl) rfl) ?_
  obtain ⟨a6, h7, e8, e9, H⟩ := jl_new_inv H
  refine Eq.trans (jb_nx (i := .new 16) (n := 3) (q := (18, [some (.ref p0), none, none, none, none], [.ref a6, .ref p0])) (jq qX11_init 9 rfl) (jo_newo rfl (by decide) rfl rfl e8 e9)) ?_
  refine Eq.trans (jb_nx (i := .dup) (n := 1) (q := (19, [some (.ref p0), none, none, none, none], [.ref a6, .ref a6, .ref p0])) (jq qX11_init 10 rfl) rfl) ?_
  obtain ⟨u110, H⟩ := jm_U_inv H
  rcases jcV H with ⟨h10, r11, H⟩ | ⟨_, _, _, H⟩
  · refine Eq.trans (jb_nx (i := .invokespecial 18) (n := 3) (q := (22, [some (.ref p0), none, none, none, none], [.ref a6, .ref p0])) (jq qX11_init 11 rfl) (jo_ci (y := mX0_init) (w := 2) (by decide) rfl (Nat.le_of_ble_eq_true rfl) rfl (Nat.le_of_ble_eq_true rfl) u110 rfl r11)) ?_
    obtain ⟨h12, e13, H⟩ := jbd H
    refine Eq.trans (jb_nx (i := .putfield 19) (n := 3) (q := (25, [some (.ref p0), none, none, none, none], [])) (jq qX11_init 12 rfl) (jo_pf rfl (Or.inl rfl) e13)) ?_
    refine Eq.trans (jb_nx (i := .aload_n 0) (n := 1) (q := (26, [some (.ref p0), none, none, none, none], [.ref p0])) (jq qX11_init 13 rfl) rfl) ?_
    obtain ⟨a14, h15, e16, e17, H⟩ := jl_new_inv H
    refine Eq.trans (jb_nx (i := .new 23) (n := 3) (q := (29, [some (.ref p0), none, none, none, none], [.ref a14, .ref p0])) (jq qX11_init 14 rfl) (jo_newo rfl (by decide) rfl rfl e16 e17)) ?_
    refine Eq.trans (jb_nx (i := .dup) (n := 1) (q := (30, [some (.ref p0), none, none, none, none], [.ref a14, .ref a14, .ref p0])) (jq qX11_init 15 rfl) rfl) ?_
    obtain ⟨u109, H⟩ := jm_U_inv H
    rcases jcV H with ⟨h18, r19, H⟩ | ⟨_, _, _, H⟩
    · refine Eq.trans (jb_nx (i := .invokespecial 25) (n := 3) (q := (33, [some (.ref p0), none, none, none, none], [.ref a14, .ref p0])) (jq qX11_init 16 rfl) (jo_ci (y := mX3_init) (w := 2) (by decide) rfl (Nat.le_of_ble_eq_true rfl) rfl (Nat.le_of_ble_eq_true rfl) u109 rfl r19)) ?_
      obtain ⟨h20, e21, H⟩ := jbd H
      refine Eq.trans (jb_nx (i := .putfield 26) (n := 3) (q := (36, [some (.ref p0), none, none, none, none], [])) (jq qX11_init 17 rfl) (jo_pf rfl (Or.inr ⟨rfl, rfl⟩) e21)) ?_
      refine Eq.trans (jb_nx (i := .aload_n 0) (n := 1) (q := (37, [some (.ref p0), none, none, none, none], [.ref p0])) (jq qX11_init 18 rfl) rfl) ?_
      obtain ⟨a22, h23, e24, e25, H⟩ := jl_new_inv H
      refine Eq.trans (jb_nx (i := .new 23) (n := 3) (q := (40, [some (.ref p0), none, none, none, none], [.ref a22, .ref p0])) (jq qX11_init 19 rfl) (jo_newo rfl (by decide) rfl rfl e24 e25)) ?_
      refine Eq.trans (jb_nx (i := .dup) (n := 1) (q := (41, [some (.ref p0), none, none, none, none], [.ref a22, .ref a22, .ref p0])) (jq qX11_init 20 rfl) rfl) ?_
      obtain ⟨u108, H⟩ := jm_U_inv H
      rcases jcV H with ⟨h26, r27, H⟩ | ⟨_, _, _, H⟩
      · refine Eq.trans (jb_nx (i := .invokespecial 25) (n := 3) (q := (44, [some (.ref p0), none, none, none, none], [.ref a22, .ref p0])) (jq qX11_init 21 rfl) (jo_ci (y := mX3_init) (w := 2) (by decide) rfl (Nat.le_of_ble_eq_true rfl) rfl (Nat.le_of_ble_eq_true rfl) u108 rfl r27)) ?_
        obtain ⟨h28, e29, H⟩ := jbd H
        refine Eq.trans (jb_nx (i := .putfield 30) (n := 3) (q := (47, [some (.ref p0), none, none, none, none], [])) (jq qX11_init 22 rfl) (jo_pf rfl (Or.inr ⟨rfl, rfl⟩) e29)) ?_
        refine Eq.trans (jb_nx (i := .aload_n 0) (n := 1) (q := (48, [some (.ref p0), none, none, none, none], [.ref p0])) (jq qX11_init 23 rfl) rfl) ?_
        obtain ⟨a30, h31, e32, e33, H⟩ := jl_new_inv H
        refine Eq.trans (jb_nx (i := .new 33) (n := 3) (q := (51, [some (.ref p0), none, none, none, none], [.ref a30, .ref p0])) (jq qX11_init 24 rfl) (jo_newo rfl (by decide) rfl rfl e32 e33)) ?_
        refine Eq.trans (jb_nx (i := .dup) (n := 1) (q := (52, [some (.ref p0), none, none, none, none], [.ref a30, .ref a30, .ref p0])) (jq qX11_init 25 rfl) rfl) ?_
        obtain ⟨u107, H⟩ := jm_U_inv H
        rcases jcV H with ⟨h34, r35, H⟩ | ⟨_, _, _, H⟩
        · refine Eq.trans (jb_nx (i := .invokespecial 35) (n := 3) (q := (55, [some (.ref p0), none, none, none, none], [.ref a30, .ref p0])) (jq qX11_init 26 rfl) (jo_ci (y := mX8_init) (w := 2) (by decide) rfl (Nat.le_of_ble_eq_true rfl) rfl (Nat.le_of_ble_eq_true rfl) u107 rfl r35)) ?_
          obtain ⟨h36, e37, H⟩ := jbd H
          refine Eq.trans (jb_nx (i := .putfield 36) (n := 3) (q := (58, [some (.ref p0), none, none, none, none], [])) (jq qX11_init 27 rfl) (jo_pf rfl (Or.inr ⟨rfl, rfl⟩) e37)) ?_
          refine Eq.trans (jb_nx (i := .sipush 2000) (n := 3) (q := (61, [some (.ref p0), none, none, none, none], [.int 2000])) (jq qX11_init 28 rfl) rfl) ?_
          obtain ⟨a38, h39, e40, e41, H⟩ := jl_newa_inv H
          refine Eq.trans (jb_nx (i := .newarray .byte) (n := 2) (q := (63, [some (.ref p0), none, none, none, none], [.ref a38])) (jq qX11_init 29 rfl) (jo_newb rfl e40 e41)) ?_
          refine Eq.trans (jb_nx (i := .astore_n 1) (n := 1) (q := (64, [some (.ref p0), some (.ref a38), none, none, none], [])) (jq qX11_init 30 rfl) rfl) ?_
          obtain ⟨a42, h43, e44, e45, H⟩ := jl_new_inv H
          refine Eq.trans (jb_nx (i := .new 40) (n := 3) (q := (67, [some (.ref p0), some (.ref a38), none, none, none], [.ref a42])) (jq qX11_init 31 rfl) (jo_newo rfl (by decide) rfl rfl e44 e45)) ?_
          refine Eq.trans (jb_nx (i := .dup) (n := 1) (q := (68, [some (.ref p0), some (.ref a38), none, none, none], [.ref a42, .ref a42])) (jq qX11_init 32 rfl) rfl) ?_
          refine Eq.trans (jb_nx (i := .aload_n 1) (n := 1) (q := (69, [some (.ref p0), some (.ref a38), none, none, none], [.ref a38, .ref a42, .ref a42])) (jq qX11_init 33 rfl) rfl) ?_
          obtain ⟨u106, H⟩ := jm_U_inv H
          rcases jcV H with ⟨h46, r47, H⟩ | ⟨_, _, _, H⟩
          · refine Eq.trans (jb_nx (i := .invokespecial 42) (n := 3) (q := (72, [some (.ref p0), some (.ref a38), none, none, none], [.ref a42])) (jq qX11_init 34 rfl) (jo_ci (y := mX9_init) (w := 2) (by decide) rfl (Nat.le_of_ble_eq_true rfl) rfl (Nat.le_of_ble_eq_true rfl) u106 rfl r47)) ?_
            refine Eq.trans (jb_nx (i := .astore_n 2) (n := 1) (q := (73, [some (.ref p0), some (.ref a38), some (.ref a42), none, none], [])) (jq qX11_init 35 rfl) rfl) ?_
            obtain ⟨a48, h49, e50, e51, H⟩ := jl_new_inv H
            refine Eq.trans (jb_nx (i := .new 16) (n := 3) (q := (76, [some (.ref p0), some (.ref a38), some (.ref a42), none, none], [.ref a48])) (jq qX11_init 36 rfl) (jo_newo rfl (by decide) rfl rfl e50 e51)) ?_
            refine Eq.trans (jb_nx (i := .dup) (n := 1) (q := (77, [some (.ref p0), some (.ref a38), some (.ref a42), none, none], [.ref a48, .ref a48])) (jq qX11_init 37 rfl) rfl) ?_
            obtain ⟨u105, H⟩ := jm_U_inv H
            rcases jcV H with ⟨h52, r53, H⟩ | ⟨_, _, _, H⟩
            · refine Eq.trans (jb_nx (i := .invokespecial 18) (n := 3) (q := (80, [some (.ref p0), some (.ref a38), some (.ref a42), none, none], [.ref a48])) (jq qX11_init 38 rfl) (jo_ci (y := mX0_init) (w := 2) (by decide) rfl (Nat.le_of_ble_eq_true rfl) rfl (Nat.le_of_ble_eq_true rfl) u105 rfl r53)) ?_
              refine Eq.trans (jb_nx (i := .astore_n 3) (n := 1) (q := (81, [some (.ref p0), some (.ref a38), some (.ref a42), some (.ref a48), none], [])) (jq qX11_init 39 rfl) rfl) ?_
              obtain ⟨a54, h55, e56, e57, H⟩ := jl_new_inv H
              refine Eq.trans (jb_nx (i := .new 45) (n := 3) (q := (84, [some (.ref p0), some (.ref a38), some (.ref a42), some (.ref a48), none], [.ref a54])) (jq qX11_init 40 rfl) (jo_newo rfl (by decide) rfl rfl e56 e57)) ?_
              refine Eq.trans (jb_nx (i := .dup) (n := 1) (q := (85, [some (.ref p0), some (.ref a38), some (.ref a42), some (.ref a48), none], [.ref a54, .ref a54])) (jq qX11_init 41 rfl) rfl) ?_
              obtain ⟨u104, H⟩ := jm_U_inv H
              rcases jcV H with ⟨h58, r59, H⟩ | ⟨_, _, _, H⟩
              · refine Eq.trans (jb_nx (i := .invokespecial 47) (n := 3) (q := (88, [some (.ref p0), some (.ref a38), some (.ref a42), some (.ref a48), none], [.ref a54])) (jq qX11_init 42 rfl) (jo_ci (y := mX5_init) (w := 2) (by decide) rfl (Nat.le_of_ble_eq_true rfl) rfl (Nat.le_of_ble_eq_true rfl) u104 rfl r59)) ?_
                refine Eq.trans (jb_nx (i := .astore 4) (n := 2) (q := (90, [some (.ref p0), some (.ref a38), some (.ref a42), some (.ref a48), some (.ref a54)], [])) (jq qX11_init 43 rfl) rfl) ?_
                refine Eq.trans (jb_nx (i := .aload_n 0) (n := 1) (q := (91, [some (.ref p0), some (.ref a38), some (.ref a42), some (.ref a48), some (.ref a54)], [.ref p0])) (jq qX11_init 44 rfl) rfl) ?_
                refine Eq.trans (jb_nx (i := .aload_n 1) (n := 1) (q := (92, [some (.ref p0), some (.ref a38), some (.ref a42), some (.ref a48), some (.ref a54)], [.ref a38, .ref p0])) (jq qX11_init 45 rfl) rfl) ?_
                obtain ⟨h60, e61, H⟩ := jbd H
                refine Eq.trans (jb_nx (i := .putfield 48) (n := 3) (q := (95, [some (.ref p0), some (.ref a38), some (.ref a42), some (.ref a48), some (.ref a54)], [])) (jq qX11_init 46 rfl) (jo_pf rfl (Or.inr ⟨rfl, rfl⟩) e61)) ?_
                refine Eq.trans (jb_nx (i := .aload_n 0) (n := 1) (q := (96, [some (.ref p0), some (.ref a38), some (.ref a42), some (.ref a48), some (.ref a54)], [.ref p0])) (jq qX11_init 47 rfl) rfl) ?_
                refine Eq.trans (jb_nx (i := .aload_n 2) (n := 1) (q := (97, [some (.ref p0), some (.ref a38), some (.ref a42), some (.ref a48), some (.ref a54)], [.ref a42, .ref p0])) (jq qX11_init 48 rfl) rfl) ?_
                obtain ⟨h62, e63, H⟩ := jbd H
                refine Eq.trans (jb_nx (i := .putfield 52) (n := 3) (q := (100, [some (.ref p0), some (.ref a38), some (.ref a42), some (.ref a48), some (.ref a54)], [])) (jq qX11_init 49 rfl) (jo_pf rfl (Or.inr ⟨rfl, rfl⟩) e63)) ?_
                refine Eq.trans (jb_nx (i := .aload_n 0) (n := 1) (q := (101, [some (.ref p0), some (.ref a38), some (.ref a42), some (.ref a48), some (.ref a54)], [.ref p0])) (jq qX11_init 50 rfl) rfl) ?_
                obtain ⟨a64, h65, e66, e67, H⟩ := jl_new_inv H
                refine Eq.trans (jb_nx (i := .new 56) (n := 3) (q := (104, [some (.ref p0), some (.ref a38), some (.ref a42), some (.ref a48), some (.ref a54)], [.ref a64, .ref p0])) (jq qX11_init 51 rfl) (jo_newo rfl (by decide) rfl rfl e66 e67)) ?_
                refine Eq.trans (jb_nx (i := .dup) (n := 1) (q := (105, [some (.ref p0), some (.ref a38), some (.ref a42), some (.ref a48), some (.ref a54)], [.ref a64, .ref a64, .ref p0])) (jq qX11_init 52 rfl) rfl) ?_
                refine Eq.trans (jb_nx (i := .aload_n 2) (n := 1) (q := (106, [some (.ref p0), some (.ref a38), some (.ref a42), some (.ref a48), some (.ref a54)], [.ref a42, .ref a64, .ref a64, .ref p0])) (jq qX11_init 53 rfl) rfl) ?_
                refine Eq.trans (jb_nx (i := .aload_n 3) (n := 1) (q := (107, [some (.ref p0), some (.ref a38), some (.ref a42), some (.ref a48), some (.ref a54)], [.ref a48, .ref a42, .ref a64, .ref a64, .ref p0])) (jq qX11_init 54 rfl) rfl) ?_
                obtain ⟨u103, H⟩ := jm_U_inv H
                rcases jcV H with ⟨h68, r69, H⟩ | ⟨_, _, _, H⟩
                · refine Eq.trans (jb_nx (i := .invokespecial 58) (n := 3) (q := (110, [some (.ref p0), some (.ref a38), some (.ref a42), some (.ref a48), some (.ref a54)], [.ref a64, .ref p0])) (jq qX11_init 55 rfl) (jo_ci (y := mX1_init) (w := 2) (by decide) rfl (Nat.le_of_ble_eq_true rfl) rfl (Nat.le_of_ble_eq_true rfl) u103 rfl r69)) ?_
                  obtain ⟨h70, e71, H⟩ := jbd H
                  refine Eq.trans (jb_nx (i := .putfield 61) (n := 3) (q := (113, [some (.ref p0), some (.ref a38), some (.ref a42), some (.ref a48), some (.ref a54)], [])) (jq qX11_init 56 rfl) (jo_pf rfl (Or.inr ⟨rfl, rfl⟩) e71)) ?_
                  refine Eq.trans (jb_nx (i := .aload_n 0) (n := 1) (q := (114, [some (.ref p0), some (.ref a38), some (.ref a42), some (.ref a48), some (.ref a54)], [.ref p0])) (jq qX11_init 57 rfl) rfl) ?_
                  obtain ⟨a72, h73, e74, e75, H⟩ := jl_new_inv H
                  refine Eq.trans (jb_nx (i := .new 65) (n := 3) (q := (117, [some (.ref p0), some (.ref a38), some (.ref a42), some (.ref a48), some (.ref a54)], [.ref a72, .ref p0])) (jq qX11_init 58 rfl) (jo_newo rfl (by decide) rfl rfl e74 e75)) ?_
                  refine Eq.trans (jb_nx (i := .dup) (n := 1) (q := (118, [some (.ref p0), some (.ref a38), some (.ref a42), some (.ref a48), some (.ref a54)], [.ref a72, .ref a72, .ref p0])) (jq qX11_init 59 rfl) rfl) ?_
                  refine Eq.trans (jb_nx (i := .aload_n 2) (n := 1) (q := (119, [some (.ref p0), some (.ref a38), some (.ref a42), some (.ref a48), some (.ref a54)], [.ref a42, .ref a72, .ref a72, .ref p0])) (jq qX11_init 60 rfl) rfl) ?_
                  refine Eq.trans (jb_nx (i := .aload_n 3) (n := 1) (q := (120, [some (.ref p0), some (.ref a38), some (.ref a42), some (.ref a48), some (.ref a54)], [.ref a48, .ref a42, .ref a72, .ref a72, .ref p0])) (jq qX11_init 61 rfl) rfl) ?_
                  obtain ⟨u102, H⟩ := jm_U_inv H
                  rcases jcV H with ⟨h76, r77, H⟩ | ⟨_, _, _, H⟩
                  · refine Eq.trans (jb_nx (i := .invokespecial 67) (n := 3) (q := (123, [some (.ref p0), some (.ref a38), some (.ref a42), some (.ref a48), some (.ref a54)], [.ref a72, .ref p0])) (jq qX11_init 62 rfl) (jo_ci (y := mX6_init) (w := 2) (by decide) rfl (Nat.le_of_ble_eq_true rfl) rfl (Nat.le_of_ble_eq_true rfl) u102 rfl r77)) ?_
                    obtain ⟨h78, e79, H⟩ := jbd H
                    refine Eq.trans (jb_nx (i := .putfield 68) (n := 3) (q := (126, [some (.ref p0), some (.ref a38), some (.ref a42), some (.ref a48), some (.ref a54)], [])) (jq qX11_init 63 rfl) (jo_pf rfl (Or.inr ⟨rfl, rfl⟩) e79)) ?_
                    refine Eq.trans (jb_nx (i := .aload_n 0) (n := 1) (q := (127, [some (.ref p0), some (.ref a38), some (.ref a42), some (.ref a48), some (.ref a54)], [.ref p0])) (jq qX11_init 64 rfl) rfl) ?_
                    refine Eq.trans (jb_nx (i := .aload_n 3) (n := 1) (q := (128, [some (.ref p0), some (.ref a38), some (.ref a42), some (.ref a48), some (.ref a54)], [.ref a48, .ref p0])) (jq qX11_init 65 rfl) rfl) ?_
                    obtain ⟨h80, e81, H⟩ := jbd H
                    refine Eq.trans (jb_nx (i := .putfield 72) (n := 3) (q := (131, [some (.ref p0), some (.ref a38), some (.ref a42), some (.ref a48), some (.ref a54)], [])) (jq qX11_init 66 rfl) (jo_pf rfl (Or.inl rfl) e81)) ?_
                    refine Eq.trans (jb_nx (i := .aload_n 0) (n := 1) (q := (132, [some (.ref p0), some (.ref a38), some (.ref a42), some (.ref a48), some (.ref a54)], [.ref p0])) (jq qX11_init 67 rfl) rfl) ?_
                    refine Eq.trans (jb_nx (i := .aload 4) (n := 2) (q := (134, [some (.ref p0), some (.ref a38), some (.ref a42), some (.ref a48), some (.ref a54)], [.ref a54, .ref p0])) (jq qX11_init 68 rfl) rfl) ?_
                    obtain ⟨h82, e83, H⟩ := jbd H
                    refine Eq.trans (jb_nx (i := .putfield 75) (n := 3) (q := (137, [some (.ref p0), some (.ref a38), some (.ref a42), some (.ref a48), some (.ref a54)], [])) (jq qX11_init 69 rfl) (jo_pf rfl (Or.inr ⟨rfl, rfl⟩) e83)) ?_
                    refine Eq.trans (jb_nx (i := .aload_n 0) (n := 1) (q := (138, [some (.ref p0), some (.ref a38), some (.ref a42), some (.ref a48), some (.ref a54)], [.ref p0])) (jq qX11_init 70 rfl) rfl) ?_
                    obtain ⟨a84, h85, e86, e87, H⟩ := jl_new_inv H
                    refine Eq.trans (jb_nx (i := .new 79) (n := 3) (q := (141, [some (.ref p0), some (.ref a38), some (.ref a42), some (.ref a48), some (.ref a54)], [.ref a84, .ref p0])) (jq qX11_init 71 rfl) (jo_newo rfl (by decide) rfl rfl e86 e87)) ?_
                    refine Eq.trans (jb_nx (i := .dup) (n := 1) (q := (142, [some (.ref p0), some (.ref a38), some (.ref a42), some (.ref a48), some (.ref a54)], [.ref a84, .ref a84, .ref p0])) (jq qX11_init 72 rfl) rfl) ?_
                    refine Eq.trans (jb_nx (i := .aload 4) (n := 2) (q := (144, [some (.ref p0), some (.ref a38), some (.ref a42), some (.ref a48), some (.ref a54)], [.ref a54, .ref a84, .ref a84, .ref p0])) (jq qX11_init 73 rfl) rfl) ?_
                    obtain ⟨u101, H⟩ := jm_U_inv H
                    rcases jcV H with ⟨h88, r89, H⟩ | ⟨_, _, _, H⟩
                    · refine Eq.trans (jb_nx (i := .invokespecial 81) (n := 3) (q := (147, [some (.ref p0), some (.ref a38), some (.ref a42), some (.ref a48), some (.ref a54)], [.ref a84, .ref p0])) (jq qX11_init 74 rfl) (jo_ci (y := mX4_init) (w := 2) (by decide) rfl (Nat.le_of_ble_eq_true rfl) rfl (Nat.le_of_ble_eq_true rfl) u101 rfl r89)) ?_
                      obtain ⟨h90, e91, H⟩ := jbd H
                      refine Eq.trans (jb_nx (i := .putfield 84) (n := 3) (q := (150, [some (.ref p0), some (.ref a38), some (.ref a42), some (.ref a48), some (.ref a54)], [])) (jq qX11_init 75 rfl) (jo_pf rfl (Or.inr ⟨rfl, rfl⟩) e91)) ?_
                      refine Eq.trans (jb_nx (i := .aload_n 0) (n := 1) (q := (151, [some (.ref p0), some (.ref a38), some (.ref a42), some (.ref a48), some (.ref a54)], [.ref p0])) (jq qX11_init 76 rfl) rfl) ?_
                      obtain ⟨a92, h93, e94, e95, H⟩ := jl_new_inv H
                      refine Eq.trans (jb_nx (i := .new 79) (n := 3) (q := (154, [some (.ref p0), some (.ref a38), some (.ref a42), some (.ref a48), some (.ref a54)], [.ref a92, .ref p0])) (jq qX11_init 77 rfl) (jo_newo rfl (by decide) rfl rfl e94 e95)) ?_
                      refine Eq.trans (jb_nx (i := .dup) (n := 1) (q := (155, [some (.ref p0), some (.ref a38), some (.ref a42), some (.ref a48), some (.ref a54)], [.ref a92, .ref a92, .ref p0])) (jq qX11_init 78 rfl) rfl) ?_
                      refine Eq.trans (jb_nx (i := .aload 4) (n := 2) (q := (157, [some (.ref p0), some (.ref a38), some (.ref a42), some (.ref a48), some (.ref a54)], [.ref a54, .ref a92, .ref a92, .ref p0])) (jq qX11_init 79 rfl) rfl) ?_
                      obtain ⟨u100, H⟩ := jm_U_inv H
                      rcases jcV H with ⟨h96, r97, H⟩ | ⟨_, _, _, H⟩
                      · refine Eq.trans (jb_nx (i := .invokespecial 81) (n := 3) (q := (160, [some (.ref p0), some (.ref a38), some (.ref a42), some (.ref a48), some (.ref a54)], [.ref a92, .ref p0])) (jq qX11_init 80 rfl) (jo_ci (y := mX4_init) (w := 2) (by decide) rfl (Nat.le_of_ble_eq_true rfl) rfl (Nat.le_of_ble_eq_true rfl) u100 rfl r97)) ?_
                        obtain ⟨h98, e99, H⟩ := jbd H
                        refine Eq.trans (jb_nx (i := .putfield 88) (n := 3) (q := (163, [some (.ref p0), some (.ref a38), some (.ref a42), some (.ref a48), some (.ref a54)], [])) (jq qX11_init 81 rfl) (jo_pf rfl (Or.inr ⟨rfl, rfl⟩) e99)) ?_
                        exact Eq.trans (jb_rt (i := .return_) (n := 1) (jq qX11_init 82 rfl) rfl) H
                      · cases H
                    · cases H
                  · cases H
                · cases H
              · cases H
            · cases H
          · cases H
        · cases H
      · cases H
    · cases H
  · cases H
/-! MaskPlays teach ()I -/
def tX11_teach : List (Nat × Instr × Nat) := [(0, .aload_n 0, 1), (1, .getfield 52, 3), (4, .aload_n 0, 1), (5, .getfield 9, 3), (8, .invokevirtual 107, 3), (11, .aload_n 0, 1), (12, .iconst 0, 1), (13, .putfield 9, 3), (16, .aload_n 0, 1), (17, .getfield 72, 3), (20, .invokevirtual 110, 3), (23, .aload_n 0, 1), (24, .getfield 61, 3), (27, .aload_n 0, 1), (28, .getfield 72, 3), (31, .invokevirtual 113, 3), (34, .istore_n 1, 1), (35, .iconst 1, 1), (36, .istore_n 2, 1), (37, .iload_n 1, 1), (38, .ifCond .ge 23, 3), (41, .aload_n 0, 1), (42, .getfield 68, 3), (45, .aload_n 0, 1), (46, .getfield 72, 3), (49, .invokevirtual 117, 3), (52, .istore_n 2, 1), (53, .aload_n 0, 1), (54, .getfield 68, 3), (57, .invokevirtual 120, 3), (60, .istore_n 1, 1), (61, .iload_n 2, 1), (62, .ifCond .eq 17, 3), (65, .aload_n 0, 1), (66, .aload_n 0, 1), (67, .getfield 52, 3), (70, .iload_n 1, 1), (71, .invokevirtual 124, 3), (74, .putfield 13, 3), (77, .iload_n 2, 1), (78, .ireturn, 1), (79, .aload_n 0, 1), (80, .iconst (-1), 1), (81, .putfield 13, 3), (84, .aload_n 0, 1), (85, .getfield 72, 3), (88, .astore_n 3, 1), (89, .aload_n 0, 1), (90, .aload_n 0, 1), (91, .getfield 19, 3), (94, .putfield 72, 3), (97, .aload_n 0, 1), (98, .aload_n 3, 1), (99, .putfield 19, 3), (102, .aload_n 0, 1), (103, .getfield 84, 3), (106, .aload_n 0, 1), (107, .getfield 19, 3), (110, .invokevirtual 128, 3), (113, .iconst 0, 1), (114, .ireturn, 1)]
set_option maxRecDepth 100000 in
theorem qX11_teach : ∀ q ∈ tX11_teach, decode cX11_teach q.1 = .ok (q.2.1, q.2.2) := by decide +kernel
noncomputable def kX11_teach_61 (d : Nat) (p0 : Nat) (i1 : Int32) (i2 : Int32) (o3 : Option Value) (h : jm_H) : Option jm_R := jm_B d mX11_teach (61, [some (.ref p0), some (.int i1), some (.int i2), o3], []) h
theorem gX11_teach_61 {d : Nat} {p0 : Nat} {i1 : Int32} {i2 : Int32} {o3 : Option Value} {h : jm_H} {r : jm_R} (H : ((if i2 = 0 then (jm_pf h p0 10 2 0 (.int (-1))).bind fun h49 => (jr_R h49 p0 10 7 2).bind fun a51 => (jr_R h49 p0 10 6 2).bind fun a53 => (jm_pf h49 p0 10 7 2 (.ref a53)).bind fun h55 => (jm_pf h55 p0 10 6 2 (.ref a51)).bind fun h57 => (jr_R h57 p0 10 9 2).bind fun a59 => (jr_R h57 p0 10 6 2).bind fun a61 => jm_O h57 a59 4 (jc_V (jm_D d mX4_begin [.ref a59, .ref a61] h57) (fun h63 => some (.inl (some (.int 0)), h63)) jx) else (jr_R h p0 10 3 2).bind fun a68 => jm_O h a68 9 (jc_I (jm_D d mX9_placeAt [.ref a68, .int i1] h) (fun x72 h70 => (jm_pf h70 p0 10 2 0 (.int x72)).bind fun h73 => some (.inl (some (.int i2)), h73)) jx))) = some r) : kX11_teach_61 d p0 i1 i2 o3 h = some r := by
  show jm_B d mX11_teach (61, [some (.ref p0), some (.int i1), some (.int i2), o3], []) h = some r
  refine Eq.trans (jb_nx (i := .iload_n 2) (n := 1) (q := (62, [some (.ref p0), some (.int i1), some (.int i2), o3], [.int i2])) (jq qX11_teach 31 rfl) rfl) ?_
  by_cases c48 : i2 = 0
  · rw [if_pos c48] at H
    refine Eq.trans (jb_nx (i := .ifCond .eq 17) (n := 3) (q := (79, [some (.ref p0), some (.int i1), some (.int i2), o3], [])) (jq qX11_teach 32 rfl) (jo_ifT (jz_eqT c48) rfl)) ?_
    refine Eq.trans (jb_nx (i := .aload_n 0) (n := 1) (q := (80, [some (.ref p0), some (.int i1), some (.int i2), o3], [.ref p0])) (jq qX11_teach 41 rfl) rfl) ?_
    refine Eq.trans (jb_nx (i := .iconst (-1)) (n := 1) (q := (81, [some (.ref p0), some (.int i1), some (.int i2), o3], [.int (-1), .ref p0])) (jq qX11_teach 42 rfl) rfl) ?_
    obtain ⟨h49, e50, H⟩ := jbd H
    refine Eq.trans (jb_nx (i := .putfield 13) (n := 3) (q := (84, [some (.ref p0), some (.int i1), some (.int i2), o3], [])) (jq qX11_teach 43 rfl) (jo_pf rfl (Or.inl rfl) e50)) ?_
    refine Eq.trans (jb_nx (i := .aload_n 0) (n := 1) (q := (85, [some (.ref p0), some (.int i1), some (.int i2), o3], [.ref p0])) (jq qX11_teach 44 rfl) rfl) ?_
    obtain ⟨a51, e52, H⟩ := jbd H
    refine Eq.trans (jb_nx (i := .getfield 72) (n := 3) (q := (88, [some (.ref p0), some (.int i1), some (.int i2), o3], [.ref a51])) (jq qX11_teach 45 rfl) (jo_gf rfl (jr_R_inv e52))) ?_
    refine Eq.trans (jb_nx (i := .astore_n 3) (n := 1) (q := (89, [some (.ref p0), some (.int i1), some (.int i2), some (.ref a51)], [])) (jq qX11_teach 46 rfl) rfl) ?_
    refine Eq.trans (jb_nx (i := .aload_n 0) (n := 1) (q := (90, [some (.ref p0), some (.int i1), some (.int i2), some (.ref a51)], [.ref p0])) (jq qX11_teach 47 rfl) rfl) ?_
    refine Eq.trans (jb_nx (i := .aload_n 0) (n := 1) (q := (91, [some (.ref p0), some (.int i1), some (.int i2), some (.ref a51)], [.ref p0, .ref p0])) (jq qX11_teach 48 rfl) rfl) ?_
    obtain ⟨a53, e54, H⟩ := jbd H
    refine Eq.trans (jb_nx (i := .getfield 19) (n := 3) (q := (94, [some (.ref p0), some (.int i1), some (.int i2), some (.ref a51)], [.ref a53, .ref p0])) (jq qX11_teach 49 rfl) (jo_gf rfl (jr_R_inv e54))) ?_
    obtain ⟨h55, e56, H⟩ := jbd H
    refine Eq.trans (jb_nx (i := .putfield 72) (n := 3) (q := (97, [some (.ref p0), some (.int i1), some (.int i2), some (.ref a51)], [])) (jq qX11_teach 50 rfl) (jo_pf rfl (Or.inl rfl) e56)) ?_
    refine Eq.trans (jb_nx (i := .aload_n 0) (n := 1) (q := (98, [some (.ref p0), some (.int i1), some (.int i2), some (.ref a51)], [.ref p0])) (jq qX11_teach 51 rfl) rfl) ?_
    refine Eq.trans (jb_nx (i := .aload_n 3) (n := 1) (q := (99, [some (.ref p0), some (.int i1), some (.int i2), some (.ref a51)], [.ref a51, .ref p0])) (jq qX11_teach 52 rfl) rfl) ?_
    obtain ⟨h57, e58, H⟩ := jbd H
    refine Eq.trans (jb_nx (i := .putfield 19) (n := 3) (q := (102, [some (.ref p0), some (.int i1), some (.int i2), some (.ref a51)], [])) (jq qX11_teach 53 rfl) (jo_pf rfl (Or.inl rfl) e58)) ?_
    refine Eq.trans (jb_nx (i := .aload_n 0) (n := 1) (q := (103, [some (.ref p0), some (.int i1), some (.int i2), some (.ref a51)], [.ref p0])) (jq qX11_teach 54 rfl) rfl) ?_
    obtain ⟨a59, e60, H⟩ := jbd H
    refine Eq.trans (jb_nx (i := .getfield 84) (n := 3) (q := (106, [some (.ref p0), some (.int i1), some (.int i2), some (.ref a51)], [.ref a59])) (jq qX11_teach 55 rfl) (jo_gf rfl (jr_R_inv e60))) ?_
    refine Eq.trans (jb_nx (i := .aload_n 0) (n := 1) (q := (107, [some (.ref p0), some (.int i1), some (.int i2), some (.ref a51)], [.ref p0, .ref a59])) (jq qX11_teach 56 rfl) rfl) ?_
    obtain ⟨a61, e62, H⟩ := jbd H
    refine Eq.trans (jb_nx (i := .getfield 19) (n := 3) (q := (110, [some (.ref p0), some (.int i1), some (.int i2), some (.ref a51)], [.ref a61, .ref a59])) (jq qX11_teach 57 rfl) (jo_gf rfl (jr_R_inv e62))) ?_
    obtain ⟨b65, H⟩ := jm_O_inv H
    rcases jcV H with ⟨h63, r64, H⟩ | ⟨w66, h67, r64, H⟩
    · refine Eq.trans (jb_nx (i := .invokevirtual 128) (n := 3) (q := (113, [some (.ref p0), some (.int i1), some (.int i2), some (.ref a51)], [])) (jq qX11_teach 58 rfl) (jo_cv (y := mX4_begin) rfl (Nat.le_of_ble_eq_true rfl) rfl (Nat.le_of_ble_eq_true rfl) b65 rfl r64 jo_ret)) ?_
      refine Eq.trans (jb_nx (i := .iconst 0) (n := 1) (q := (114, [some (.ref p0), some (.int i1), some (.int i2), some (.ref a51)], [.int 0])) (jq qX11_teach 59 rfl) rfl) ?_
      exact Eq.trans (jb_rt (i := .ireturn) (n := 1) (jq qX11_teach 60 rfl) (jo_iret rfl rfl)) H
    · exact Eq.trans (jb_rt (i := .invokevirtual 128) (n := 3) (jq qX11_teach 58 rfl) (jo_cv (y := mX4_begin) rfl (Nat.le_of_ble_eq_true rfl) rfl (Nat.le_of_ble_eq_true rfl) b65 rfl r64 (jo_exn rfl))) H
  · rw [if_neg c48] at H
    refine Eq.trans (jb_nx (i := .ifCond .eq 17) (n := 3) (q := (65, [some (.ref p0), some (.int i1), some (.int i2), o3], [])) (jq qX11_teach 32 rfl) (jo_ifF (jz_eqF c48))) ?_
    refine Eq.trans (jb_nx (i := .aload_n 0) (n := 1) (q := (66, [some (.ref p0), some (.int i1), some (.int i2), o3], [.ref p0])) (jq qX11_teach 33 rfl) rfl) ?_
    refine Eq.trans (jb_nx (i := .aload_n 0) (n := 1) (q := (67, [some (.ref p0), some (.int i1), some (.int i2), o3], [.ref p0, .ref p0])) (jq qX11_teach 34 rfl) rfl) ?_
    obtain ⟨a68, e69, H⟩ := jbd H
    refine Eq.trans (jb_nx (i := .getfield 52) (n := 3) (q := (70, [some (.ref p0), some (.int i1), some (.int i2), o3], [.ref a68, .ref p0])) (jq qX11_teach 35 rfl) (jo_gf rfl (jr_R_inv e69))) ?_
    refine Eq.trans (jb_nx (i := .iload_n 1) (n := 1) (q := (71, [some (.ref p0), some (.int i1), some (.int i2), o3], [.int i1, .ref a68, .ref p0])) (jq qX11_teach 36 rfl) rfl) ?_
    obtain ⟨b75, H⟩ := jm_O_inv H
    rcases jcI H with ⟨x72, h70, r71, H⟩ | ⟨w76, h77, r71, H⟩
    · refine Eq.trans (jb_nx (i := .invokevirtual 124) (n := 3) (q := (74, [some (.ref p0), some (.int i1), some (.int i2), o3], [.int x72, .ref p0])) (jq qX11_teach 37 rfl) (jo_cv (y := mX9_placeAt) rfl (Nat.le_of_ble_eq_true rfl) rfl (Nat.le_of_ble_eq_true rfl) b75 rfl r71 jo_ret)) ?_
      obtain ⟨h73, e74, H⟩ := jbd H
      refine Eq.trans (jb_nx (i := .putfield 13) (n := 3) (q := (77, [some (.ref p0), some (.int i1), some (.int i2), o3], [])) (jq qX11_teach 38 rfl) (jo_pf rfl (Or.inl rfl) e74)) ?_
      refine Eq.trans (jb_nx (i := .iload_n 2) (n := 1) (q := (78, [some (.ref p0), some (.int i1), some (.int i2), o3], [.int i2])) (jq qX11_teach 39 rfl) rfl) ?_
      exact Eq.trans (jb_rt (i := .ireturn) (n := 1) (jq qX11_teach 40 rfl) (jo_iret rfl rfl)) H
    · exact Eq.trans (jb_rt (i := .invokevirtual 124) (n := 3) (jq qX11_teach 37 rfl) (jo_cv (y := mX9_placeAt) rfl (Nat.le_of_ble_eq_true rfl) rfl (Nat.le_of_ble_eq_true rfl) b75 rfl r71 (jo_exn rfl))) H
theorem gX11_teach {d : Nat} {p0 : Nat} {h : jm_H} {r : jm_R} (H : ((jr_R h p0 10 3 2).bind fun a1 => (jr_I h p0 10 1 0).bind fun x3 => jm_O h a1 9 (jc_V (jm_D d mX9_read [.ref a1, .int x3] h) (fun h5 => (jm_pf h5 p0 10 1 0 (.int 0)).bind fun h7 => (jr_R h7 p0 10 7 2).bind fun a9 => jm_O h7 a9 0 (jc_V (jm_D d mX0_clear [.ref a9] h7) (fun h11 => (jr_R h11 p0 10 4 2).bind fun a13 => (jr_R h11 p0 10 7 2).bind fun a15 => jm_O h11 a13 1 (jc_I (jm_D d mX1_firstWrongToken [.ref a13, .ref a15] h11) (fun x19 h17 => (if x19 < 0 then (jr_R h17 p0 10 5 2).bind fun a21 => (jr_R h17 p0 10 7 2).bind fun a23 => jm_O h17 a21 6 (jc_I (jm_D d mX6_firstError [.ref a21, .ref a23] h17) (fun x27 h25 => (jr_R h25 p0 10 5 2).bind fun a28 => jm_O h25 a28 6 (jc_I (jm_D d mX6_place [.ref a28] h25) (fun x32 h30 => kX11_teach_61 d p0 x32 x27 none h30) jx)) jx) else kX11_teach_61 d p0 x19 1 none h17)) jx)) jx)) jx)) = some r) : jm_D (d + 1) mX11_teach [.ref p0] h = some r := by
  rw [jm_D_body (Nat.le_of_ble_eq_true rfl)]
  show jm_B d mX11_teach (0, [some (.ref p0), none, none, none], []) h = some r
  refine Eq.trans (jb_nx (i := .aload_n 0) (n := 1) (q := (1, [some (.ref p0), none, none, none], [.ref p0])) (jq qX11_teach 0 rfl) rfl) ?_
  obtain ⟨a1, e2, H⟩ := jbd H
  refine Eq.trans (jb_nx (i := .getfield 52) (n := 3) (q := (4, [some (.ref p0), none, none, none], [.ref a1])) (jq qX11_teach 1 rfl) (jo_gf rfl (jr_R_inv e2))) ?_
  refine Eq.trans (jb_nx (i := .aload_n 0) (n := 1) (q := (5, [some (.ref p0), none, none, none], [.ref p0, .ref a1])) (jq qX11_teach 2 rfl) rfl) ?_
  obtain ⟨x3, e4, H⟩ := jbd H
  refine Eq.trans (jb_nx (i := .getfield 9) (n := 3) (q := (8, [some (.ref p0), none, none, none], [.int x3, .ref a1])) (jq qX11_teach 3 rfl) (jo_gf rfl (jr_I_inv e4))) ?_
  obtain ⟨b45, H⟩ := jm_O_inv H
  rcases jcV H with ⟨h5, r6, H⟩ | ⟨w46, h47, r6, H⟩
  · refine Eq.trans (jb_nx (i := .invokevirtual 107) (n := 3) (q := (11, [some (.ref p0), none, none, none], [])) (jq qX11_teach 4 rfl) (jo_cv (y := mX9_read) rfl (Nat.le_of_ble_eq_true rfl) rfl (Nat.le_of_ble_eq_true rfl) b45 rfl r6 jo_ret)) ?_
    refine Eq.trans (jb_nx (i := .aload_n 0) (n := 1) (q := (12, [some (.ref p0), none, none, none], [.ref p0])) (jq qX11_teach 5 rfl) rfl) ?_
    refine Eq.trans (jb_nx (i := .iconst 0) (n := 1) (q := (13, [some (.ref p0), none, none, none], [.int 0, .ref p0])) (jq qX11_teach 6 rfl) rfl) ?_
    obtain ⟨h7, e8, H⟩ := jbd H
    refine Eq.trans (jb_nx (i := .putfield 9) (n := 3) (q := (16, [some (.ref p0), none, none, none], [])) (jq qX11_teach 7 rfl) (jo_pf rfl (Or.inl rfl) e8)) ?_
    refine Eq.trans (jb_nx (i := .aload_n 0) (n := 1) (q := (17, [some (.ref p0), none, none, none], [.ref p0])) (jq qX11_teach 8 rfl) rfl) ?_
    obtain ⟨a9, e10, H⟩ := jbd H
    refine Eq.trans (jb_nx (i := .getfield 72) (n := 3) (q := (20, [some (.ref p0), none, none, none], [.ref a9])) (jq qX11_teach 9 rfl) (jo_gf rfl (jr_R_inv e10))) ?_
    obtain ⟨b42, H⟩ := jm_O_inv H
    rcases jcV H with ⟨h11, r12, H⟩ | ⟨w43, h44, r12, H⟩
    · refine Eq.trans (jb_nx (i := .invokevirtual 110) (n := 3) (q := (23, [some (.ref p0), none, none, none], [])) (jq qX11_teach 10 rfl) (jo_cv (y := mX0_clear) rfl (Nat.le_of_ble_eq_true rfl) rfl (Nat.le_of_ble_eq_true rfl) b42 rfl r12 jo_ret)) ?_
      refine Eq.trans (jb_nx (i := .aload_n 0) (n := 1) (q := (24, [some (.ref p0), none, none, none], [.ref p0])) (jq qX11_teach 11 rfl) rfl) ?_
      obtain ⟨a13, e14, H⟩ := jbd H
      refine Eq.trans (jb_nx (i := .getfield 61) (n := 3) (q := (27, [some (.ref p0), none, none, none], [.ref a13])) (jq qX11_teach 12 rfl) (jo_gf rfl (jr_R_inv e14))) ?_
      refine Eq.trans (jb_nx (i := .aload_n 0) (n := 1) (q := (28, [some (.ref p0), none, none, none], [.ref p0, .ref a13])) (jq qX11_teach 13 rfl) rfl) ?_
      obtain ⟨a15, e16, H⟩ := jbd H
      refine Eq.trans (jb_nx (i := .getfield 72) (n := 3) (q := (31, [some (.ref p0), none, none, none], [.ref a15, .ref a13])) (jq qX11_teach 14 rfl) (jo_gf rfl (jr_R_inv e16))) ?_
      obtain ⟨b39, H⟩ := jm_O_inv H
      rcases jcI H with ⟨x19, h17, r18, H⟩ | ⟨w40, h41, r18, H⟩
      · refine Eq.trans (jb_nx (i := .invokevirtual 113) (n := 3) (q := (34, [some (.ref p0), none, none, none], [.int x19])) (jq qX11_teach 15 rfl) (jo_cv (y := mX1_firstWrongToken) rfl (Nat.le_of_ble_eq_true rfl) rfl (Nat.le_of_ble_eq_true rfl) b39 rfl r18 jo_ret)) ?_
        refine Eq.trans (jb_nx (i := .istore_n 1) (n := 1) (q := (35, [some (.ref p0), some (.int x19), none, none], [])) (jq qX11_teach 16 rfl) rfl) ?_
        refine Eq.trans (jb_nx (i := .iconst 1) (n := 1) (q := (36, [some (.ref p0), some (.int x19), none, none], [.int 1])) (jq qX11_teach 17 rfl) rfl) ?_
        refine Eq.trans (jb_nx (i := .istore_n 2) (n := 1) (q := (37, [some (.ref p0), some (.int x19), some (.int 1), none], [])) (jq qX11_teach 18 rfl) rfl) ?_
        refine Eq.trans (jb_nx (i := .iload_n 1) (n := 1) (q := (38, [some (.ref p0), some (.int x19), some (.int 1), none], [.int x19])) (jq qX11_teach 19 rfl) rfl) ?_
        by_cases c20 : x19 < 0
        · rw [if_pos c20] at H
          refine Eq.trans (jb_nx (i := .ifCond .ge 23) (n := 3) (q := (41, [some (.ref p0), some (.int x19), some (.int 1), none], [])) (jq qX11_teach 20 rfl) (jo_ifF (jz_geF c20))) ?_
          refine Eq.trans (jb_nx (i := .aload_n 0) (n := 1) (q := (42, [some (.ref p0), some (.int x19), some (.int 1), none], [.ref p0])) (jq qX11_teach 21 rfl) rfl) ?_
          obtain ⟨a21, e22, H⟩ := jbd H
          refine Eq.trans (jb_nx (i := .getfield 68) (n := 3) (q := (45, [some (.ref p0), some (.int x19), some (.int 1), none], [.ref a21])) (jq qX11_teach 22 rfl) (jo_gf rfl (jr_R_inv e22))) ?_
          refine Eq.trans (jb_nx (i := .aload_n 0) (n := 1) (q := (46, [some (.ref p0), some (.int x19), some (.int 1), none], [.ref p0, .ref a21])) (jq qX11_teach 23 rfl) rfl) ?_
          obtain ⟨a23, e24, H⟩ := jbd H
          refine Eq.trans (jb_nx (i := .getfield 72) (n := 3) (q := (49, [some (.ref p0), some (.int x19), some (.int 1), none], [.ref a23, .ref a21])) (jq qX11_teach 24 rfl) (jo_gf rfl (jr_R_inv e24))) ?_
          obtain ⟨b36, H⟩ := jm_O_inv H
          rcases jcI H with ⟨x27, h25, r26, H⟩ | ⟨w37, h38, r26, H⟩
          · refine Eq.trans (jb_nx (i := .invokevirtual 117) (n := 3) (q := (52, [some (.ref p0), some (.int x19), some (.int 1), none], [.int x27])) (jq qX11_teach 25 rfl) (jo_cv (y := mX6_firstError) rfl (Nat.le_of_ble_eq_true rfl) rfl (Nat.le_of_ble_eq_true rfl) b36 rfl r26 jo_ret)) ?_
            refine Eq.trans (jb_nx (i := .istore_n 2) (n := 1) (q := (53, [some (.ref p0), some (.int x19), some (.int x27), none], [])) (jq qX11_teach 26 rfl) rfl) ?_
            refine Eq.trans (jb_nx (i := .aload_n 0) (n := 1) (q := (54, [some (.ref p0), some (.int x19), some (.int x27), none], [.ref p0])) (jq qX11_teach 27 rfl) rfl) ?_
            obtain ⟨a28, e29, H⟩ := jbd H
            refine Eq.trans (jb_nx (i := .getfield 68) (n := 3) (q := (57, [some (.ref p0), some (.int x19), some (.int x27), none], [.ref a28])) (jq qX11_teach 28 rfl) (jo_gf rfl (jr_R_inv e29))) ?_
            obtain ⟨b33, H⟩ := jm_O_inv H
            rcases jcI H with ⟨x32, h30, r31, H⟩ | ⟨w34, h35, r31, H⟩
            · refine Eq.trans (jb_nx (i := .invokevirtual 120) (n := 3) (q := (60, [some (.ref p0), some (.int x19), some (.int x27), none], [.int x32])) (jq qX11_teach 29 rfl) (jo_cv (y := mX6_place) rfl (Nat.le_of_ble_eq_true rfl) rfl (Nat.le_of_ble_eq_true rfl) b33 rfl r31 jo_ret)) ?_
              refine Eq.trans (jb_nx (i := .istore_n 1) (n := 1) (q := (61, [some (.ref p0), some (.int x32), some (.int x27), none], [])) (jq qX11_teach 30 rfl) rfl) ?_
              exact H
            · exact Eq.trans (jb_rt (i := .invokevirtual 120) (n := 3) (jq qX11_teach 29 rfl) (jo_cv (y := mX6_place) rfl (Nat.le_of_ble_eq_true rfl) rfl (Nat.le_of_ble_eq_true rfl) b33 rfl r31 (jo_exn rfl))) H
          · exact Eq.trans (jb_rt (i := .invokevirtual 117) (n := 3) (jq qX11_teach 25 rfl) (jo_cv (y := mX6_firstError) rfl (Nat.le_of_ble_eq_true rfl) rfl (Nat.le_of_ble_eq_true rfl) b36 rfl r26 (jo_exn rfl))) H
        · rw [if_neg c20] at H
          refine Eq.trans (jb_nx (i := .ifCond .ge 23) (n := 3) (q := (61, [some (.ref p0), some (.int x19), some (.int 1), none], [])) (jq qX11_teach 20 rfl) (jo_ifT (jz_geT c20) rfl)) ?_
          exact H
      · exact Eq.trans (jb_rt (i := .invokevirtual 113) (n := 3) (jq qX11_teach 15 rfl) (jo_cv (y := mX1_firstWrongToken) rfl (Nat.le_of_ble_eq_true rfl) rfl (Nat.le_of_ble_eq_true rfl) b39 rfl r18 (jo_exn rfl))) H
    · exact Eq.trans (jb_rt (i := .invokevirtual 110) (n := 3) (jq qX11_teach 10 rfl) (jo_cv (y := mX0_clear) rfl (Nat.le_of_ble_eq_true rfl) rfl (Nat.le_of_ble_eq_true rfl) b42 rfl r12 (jo_exn rfl))) H
  · exact Eq.trans (jb_rt (i := .invokevirtual 107) (n := 3) (jq qX11_teach 4 rfl) (jo_cv (y := mX9_read) rfl (Nat.le_of_ble_eq_true rfl) rfl (Nat.le_of_ble_eq_true rfl) b45 rfl r6 (jo_exn rfl))) H
/-! MaskPlays errorAt ()I -/
def tX11_errorAt : List (Nat × Instr × Nat) := [(0, .aload_n 0, 1), (1, .getfield 13, 3), (4, .ireturn, 1)]
set_option maxRecDepth 100000 in
theorem qX11_errorAt : ∀ q ∈ tX11_errorAt, decode cX11_errorAt q.1 = .ok (q.2.1, q.2.2) := by decide +kernel
theorem gX11_errorAt {d : Nat} {p0 : Nat} {h : jm_H} {r : jm_R} (H : ((jr_I h p0 10 2 0).bind fun x1 => some (.inl (some (.int x1)), h)) = some r) : jm_D (d + 1) mX11_errorAt [.ref p0] h = some r := by
  rw [jm_D_body (Nat.le_of_ble_eq_true rfl)]
  show jm_B d mX11_errorAt (0, [some (.ref p0)], []) h = some r
  refine Eq.trans (jb_nx (i := .aload_n 0) (n := 1) (q := (1, [some (.ref p0)], [.ref p0])) (jq qX11_errorAt 0 rfl) rfl) ?_
  obtain ⟨x1, e2, H⟩ := jbd H
  refine Eq.trans (jb_nx (i := .getfield 13) (n := 3) (q := (4, [some (.ref p0)], [.int x1])) (jq qX11_errorAt 1 rfl) (jo_gf rfl (jr_I_inv e2))) ?_
  exact Eq.trans (jb_rt (i := .ireturn) (n := 1) (jq qX11_errorAt 2 rfl) (jo_iret rfl rfl)) H
/-! MaskPlays actors ()I -/
def tX11_actors : List (Nat × Instr × Nat) := [(0, .aload_n 0, 1), (1, .getfield 19, 3), (4, .getfield 132, 3), (7, .ireturn, 1)]
set_option maxRecDepth 100000 in
theorem qX11_actors : ∀ q ∈ tX11_actors, decode cX11_actors q.1 = .ok (q.2.1, q.2.2) := by decide +kernel
theorem gX11_actors {d : Nat} {p0 : Nat} {h : jm_H} {r : jm_R} (H : ((jr_R h p0 10 6 2).bind fun a1 => (jr_I h a1 0 0 0).bind fun x3 => some (.inl (some (.int x3)), h)) = some r) : jm_D (d + 1) mX11_actors [.ref p0] h = some r := by
  rw [jm_D_body (Nat.le_of_ble_eq_true rfl)]
  show jm_B d mX11_actors (0, [some (.ref p0)], []) h = some r
  refine Eq.trans (jb_nx (i := .aload_n 0) (n := 1) (q := (1, [some (.ref p0)], [.ref p0])) (jq qX11_actors 0 rfl) rfl) ?_
  obtain ⟨a1, e2, H⟩ := jbd H
  refine Eq.trans (jb_nx (i := .getfield 19) (n := 3) (q := (4, [some (.ref p0)], [.ref a1])) (jq qX11_actors 1 rfl) (jo_gf rfl (jr_R_inv e2))) ?_
  obtain ⟨x3, e4, H⟩ := jbd H
  refine Eq.trans (jb_nx (i := .getfield 132) (n := 3) (q := (7, [some (.ref p0)], [.int x3])) (jq qX11_actors 2 rfl) (jo_gf rfl (jr_I_inv e4))) ?_
  exact Eq.trans (jb_rt (i := .ireturn) (n := 1) (jq qX11_actors 3 rfl) (jo_iret rfl rfl)) H
/-! MaskPlays plays ()I -/
def tX11_plays : List (Nat × Instr × Nat) := [(0, .aload_n 0, 1), (1, .getfield 19, 3), (4, .getfield 135, 3), (7, .ireturn, 1)]
set_option maxRecDepth 100000 in
theorem qX11_plays : ∀ q ∈ tX11_plays, decode cX11_plays q.1 = .ok (q.2.1, q.2.2) := by decide +kernel
theorem gX11_plays {d : Nat} {p0 : Nat} {h : jm_H} {r : jm_R} (H : ((jr_R h p0 10 6 2).bind fun a1 => (jr_I h a1 0 1 0).bind fun x3 => some (.inl (some (.int x3)), h)) = some r) : jm_D (d + 1) mX11_plays [.ref p0] h = some r := by
  rw [jm_D_body (Nat.le_of_ble_eq_true rfl)]
  show jm_B d mX11_plays (0, [some (.ref p0)], []) h = some r
  refine Eq.trans (jb_nx (i := .aload_n 0) (n := 1) (q := (1, [some (.ref p0)], [.ref p0])) (jq qX11_plays 0 rfl) rfl) ?_
  obtain ⟨a1, e2, H⟩ := jbd H
  refine Eq.trans (jb_nx (i := .getfield 19) (n := 3) (q := (4, [some (.ref p0)], [.ref a1])) (jq qX11_plays 1 rfl) (jo_gf rfl (jr_R_inv e2))) ?_
  obtain ⟨x3, e4, H⟩ := jbd H
  refine Eq.trans (jb_nx (i := .getfield 135) (n := 3) (q := (7, [some (.ref p0)], [.int x3])) (jq qX11_plays 2 rfl) (jo_gf rfl (jr_I_inv e4))) ?_
  exact Eq.trans (jb_rt (i := .ireturn) (n := 1) (jq qX11_plays 3 rfl) (jo_iret rfl rfl)) H
/-! MaskPlays notes ()I -/
def tX11_notes : List (Nat × Instr × Nat) := [(0, .aload_n 0, 1), (1, .getfield 19, 3), (4, .getfield 138, 3), (7, .ireturn, 1)]
set_option maxRecDepth 100000 in
theorem qX11_notes : ∀ q ∈ tX11_notes, decode cX11_notes q.1 = .ok (q.2.1, q.2.2) := by decide +kernel
theorem gX11_notes {d : Nat} {p0 : Nat} {h : jm_H} {r : jm_R} (H : ((jr_R h p0 10 6 2).bind fun a1 => (jr_I h a1 0 2 0).bind fun x3 => some (.inl (some (.int x3)), h)) = some r) : jm_D (d + 1) mX11_notes [.ref p0] h = some r := by
  rw [jm_D_body (Nat.le_of_ble_eq_true rfl)]
  show jm_B d mX11_notes (0, [some (.ref p0)], []) h = some r
  refine Eq.trans (jb_nx (i := .aload_n 0) (n := 1) (q := (1, [some (.ref p0)], [.ref p0])) (jq qX11_notes 0 rfl) rfl) ?_
  obtain ⟨a1, e2, H⟩ := jbd H
  refine Eq.trans (jb_nx (i := .getfield 19) (n := 3) (q := (4, [some (.ref p0)], [.ref a1])) (jq qX11_notes 1 rfl) (jo_gf rfl (jr_R_inv e2))) ?_
  obtain ⟨x3, e4, H⟩ := jbd H
  refine Eq.trans (jb_nx (i := .getfield 138) (n := 3) (q := (7, [some (.ref p0)], [.int x3])) (jq qX11_notes 2 rfl) (jo_gf rfl (jr_I_inv e4))) ?_
  exact Eq.trans (jb_rt (i := .ireturn) (n := 1) (jq qX11_notes 3 rfl) (jo_iret rfl rfl)) H
/-! MaskPlays evenings ()I -/
def tX11_evenings : List (Nat × Instr × Nat) := [(0, .aload_n 0, 1), (1, .getfield 84, 3), (4, .getfield 141, 3), (7, .ireturn, 1)]
set_option maxRecDepth 100000 in
theorem qX11_evenings : ∀ q ∈ tX11_evenings, decode cX11_evenings q.1 = .ok (q.2.1, q.2.2) := by decide +kernel
theorem gX11_evenings {d : Nat} {p0 : Nat} {h : jm_H} {r : jm_R} (H : ((jr_R h p0 10 9 2).bind fun a1 => (jr_I h a1 4 0 0).bind fun x3 => some (.inl (some (.int x3)), h)) = some r) : jm_D (d + 1) mX11_evenings [.ref p0] h = some r := by
  rw [jm_D_body (Nat.le_of_ble_eq_true rfl)]
  show jm_B d mX11_evenings (0, [some (.ref p0)], []) h = some r
  refine Eq.trans (jb_nx (i := .aload_n 0) (n := 1) (q := (1, [some (.ref p0)], [.ref p0])) (jq qX11_evenings 0 rfl) rfl) ?_
  obtain ⟨a1, e2, H⟩ := jbd H
  refine Eq.trans (jb_nx (i := .getfield 84) (n := 3) (q := (4, [some (.ref p0)], [.ref a1])) (jq qX11_evenings 1 rfl) (jo_gf rfl (jr_R_inv e2))) ?_
  obtain ⟨x3, e4, H⟩ := jbd H
  refine Eq.trans (jb_nx (i := .getfield 141) (n := 3) (q := (7, [some (.ref p0)], [.int x3])) (jq qX11_evenings 2 rfl) (jo_gf rfl (jr_I_inv e4))) ?_
  exact Eq.trans (jb_rt (i := .ireturn) (n := 1) (jq qX11_evenings 3 rfl) (jo_iret rfl rfl)) H
/-! MaskPlays notesCarriedOut ()I -/
def tX11_notesCarriedOut : List (Nat × Instr × Nat) := [(0, .aload_n 0, 1), (1, .getfield 84, 3), (4, .getfield 144, 3), (7, .ireturn, 1)]
set_option maxRecDepth 100000 in
theorem qX11_notesCarriedOut : ∀ q ∈ tX11_notesCarriedOut, decode cX11_notesCarriedOut q.1 = .ok (q.2.1, q.2.2) := by decide +kernel
theorem gX11_notesCarriedOut {d : Nat} {p0 : Nat} {h : jm_H} {r : jm_R} (H : ((jr_R h p0 10 9 2).bind fun a1 => (jr_I h a1 4 1 0).bind fun x3 => some (.inl (some (.int x3)), h)) = some r) : jm_D (d + 1) mX11_notesCarriedOut [.ref p0] h = some r := by
  rw [jm_D_body (Nat.le_of_ble_eq_true rfl)]
  show jm_B d mX11_notesCarriedOut (0, [some (.ref p0)], []) h = some r
  refine Eq.trans (jb_nx (i := .aload_n 0) (n := 1) (q := (1, [some (.ref p0)], [.ref p0])) (jq qX11_notesCarriedOut 0 rfl) rfl) ?_
  obtain ⟨a1, e2, H⟩ := jbd H
  refine Eq.trans (jb_nx (i := .getfield 84) (n := 3) (q := (4, [some (.ref p0)], [.ref a1])) (jq qX11_notesCarriedOut 1 rfl) (jo_gf rfl (jr_R_inv e2))) ?_
  obtain ⟨x3, e4, H⟩ := jbd H
  refine Eq.trans (jb_nx (i := .getfield 144) (n := 3) (q := (7, [some (.ref p0)], [.int x3])) (jq qX11_notesCarriedOut 2 rfl) (jo_gf rfl (jr_I_inv e4))) ?_
  exact Eq.trans (jb_rt (i := .ireturn) (n := 1) (jq qX11_notesCarriedOut 3 rfl) (jo_iret rfl rfl)) H
/-! MaskPlays tapeBytes ()I -/
def tX11_tapeBytes : List (Nat × Instr × Nat) := [(0, .aload_n 0, 1), (1, .getfield 9, 3), (4, .ireturn, 1)]
set_option maxRecDepth 100000 in
theorem qX11_tapeBytes : ∀ q ∈ tX11_tapeBytes, decode cX11_tapeBytes q.1 = .ok (q.2.1, q.2.2) := by decide +kernel
theorem gX11_tapeBytes {d : Nat} {p0 : Nat} {h : jm_H} {r : jm_R} (H : ((jr_I h p0 10 1 0).bind fun x1 => some (.inl (some (.int x1)), h)) = some r) : jm_D (d + 1) mX11_tapeBytes [.ref p0] h = some r := by
  rw [jm_D_body (Nat.le_of_ble_eq_true rfl)]
  show jm_B d mX11_tapeBytes (0, [some (.ref p0)], []) h = some r
  refine Eq.trans (jb_nx (i := .aload_n 0) (n := 1) (q := (1, [some (.ref p0)], [.ref p0])) (jq qX11_tapeBytes 0 rfl) rfl) ?_
  obtain ⟨x1, e2, H⟩ := jbd H
  refine Eq.trans (jb_nx (i := .getfield 9) (n := 3) (q := (4, [some (.ref p0)], [.int x1])) (jq qX11_tapeBytes 1 rfl) (jo_gf rfl (jr_I_inv e2))) ?_
  exact Eq.trans (jb_rt (i := .ireturn) (n := 1) (jq qX11_tapeBytes 2 rfl) (jo_iret rfl rfl)) H
/-! MaskPlays meanSize ()D -/
def tX11_meanSize : List (Nat × Instr × Nat) := [(0, .iconst 0, 1), (1, .istore_n 1, 1), (2, .iconst 0, 1), (3, .istore_n 2, 1), (4, .iload_n 2, 1), (5, .aload_n 0, 1), (6, .getfield 19, 3), (9, .getfield 135, 3), (12, .if_icmp .ge 23, 3), (15, .iload_n 1, 1), (16, .aload_n 0, 1), (17, .getfield 84, 3), (20, .iload_n 2, 1), (21, .invokevirtual 255, 3), (24, .getfield 151, 3), (27, .iadd, 1), (28, .istore_n 1, 1), (29, .iinc 2 1, 3), (32, .goto (-28), 3), (35, .aload_n 0, 1), (36, .getfield 19, 3), (39, .getfield 135, 3), (42, .ifCond .le 17, 3), (45, .iload_n 1, 1), (46, .i2d, 1), (47, .aload_n 0, 1), (48, .getfield 19, 3), (51, .getfield 135, 3), (54, .i2d, 1), (55, .ddiv, 1), (56, .goto 4, 3), (59, .dconst 0, 1), (60, .dreturn, 1)]
set_option maxRecDepth 100000 in
theorem qX11_meanSize : ∀ q ∈ tX11_meanSize, decode cX11_meanSize q.1 = .ok (q.2.1, q.2.2) := by decide +kernel
noncomputable def kX11_meanSize_4 (d : Nat) (p0 : Nat) (i1 : Int32) (i2 : Int32) (h : jm_H) : Option jm_R := jm_B d mX11_meanSize (4, [some (.ref p0), some (.int i1), some (.int i2)], []) h
theorem gX11_meanSize_4 {d : Nat} {p0 : Nat} {i1 : Int32} {i2 : Int32} {h : jm_H} {r : jm_R} (H : ((jr_R h p0 10 6 2).bind fun a1 => (jr_I h a1 0 1 0).bind fun x3 => (if i2 < x3 then (jr_R h p0 10 9 2).bind fun a16 => jm_O h a16 4 (jc_R (jm_D d mX4_partAt [.ref a16, .int i2] h) (fun a20 h18 => (jr_I h18 a20 3 0 0).bind fun x21 => kX11_meanSize_4 d p0 (i1 + x21) (i2 + 1) h18) jx) else (jr_R h p0 10 6 2).bind fun a6 => (jr_I h a6 0 1 0).bind fun x8 => (if 0 < x8 then (jr_R h p0 10 6 2).bind fun a11 => (jr_I h a11 0 1 0).bind fun x13 => (if FP.ddiv (FP.i2d i1) (FP.i2d x13) &&& 0x7fffffffffffffff ≤ 0x7ff0000000000000 then some (.inl (some (.double (FP.ddiv (FP.i2d i1) (FP.i2d x13)))), h) else none) else some (.inl (some (.double FP.dconst0)), h)))) = some r) : kX11_meanSize_4 d p0 i1 i2 h = some r := by
  show jm_B d mX11_meanSize (4, [some (.ref p0), some (.int i1), some (.int i2)], []) h = some r
  refine Eq.trans (jb_nx (i := .iload_n 2) (n := 1) (q := (5, [some (.ref p0), some (.int i1), some (.int i2)], [.int i2])) (jq qX11_meanSize 4 rfl) rfl) ?_
  refine Eq.trans (jb_nx (i := .aload_n 0) (n := 1) (q := (6, [some (.ref p0), some (.int i1), some (.int i2)], [.ref p0, .int i2])) (jq qX11_meanSize 5 rfl) rfl) ?_
  obtain ⟨a1, e2, H⟩ := jbd H
  refine Eq.trans (jb_nx (i := .getfield 19) (n := 3) (q := (9, [some (.ref p0), some (.int i1), some (.int i2)], [.ref a1, .int i2])) (jq qX11_meanSize 6 rfl) (jo_gf rfl (jr_R_inv e2))) ?_
  obtain ⟨x3, e4, H⟩ := jbd H
  refine Eq.trans (jb_nx (i := .getfield 135) (n := 3) (q := (12, [some (.ref p0), some (.int i1), some (.int i2)], [.int x3, .int i2])) (jq qX11_meanSize 7 rfl) (jo_gf rfl (jr_I_inv e4))) ?_
  by_cases c5 : i2 < x3
  · rw [if_pos c5] at H
    refine Eq.trans (jb_nx (i := .if_icmp .ge 23) (n := 3) (q := (15, [some (.ref p0), some (.int i1), some (.int i2)], [])) (jq qX11_meanSize 8 rfl) (jo_icF (jz_geF c5))) ?_
    refine Eq.trans (jb_nx (i := .iload_n 1) (n := 1) (q := (16, [some (.ref p0), some (.int i1), some (.int i2)], [.int i1])) (jq qX11_meanSize 9 rfl) rfl) ?_
    refine Eq.trans (jb_nx (i := .aload_n 0) (n := 1) (q := (17, [some (.ref p0), some (.int i1), some (.int i2)], [.ref p0, .int i1])) (jq qX11_meanSize 10 rfl) rfl) ?_
    obtain ⟨a16, e17, H⟩ := jbd H
    refine Eq.trans (jb_nx (i := .getfield 84) (n := 3) (q := (20, [some (.ref p0), some (.int i1), some (.int i2)], [.ref a16, .int i1])) (jq qX11_meanSize 11 rfl) (jo_gf rfl (jr_R_inv e17))) ?_
    refine Eq.trans (jb_nx (i := .iload_n 2) (n := 1) (q := (21, [some (.ref p0), some (.int i1), some (.int i2)], [.int i2, .ref a16, .int i1])) (jq qX11_meanSize 12 rfl) rfl) ?_
    obtain ⟨b23, H⟩ := jm_O_inv H
    rcases jcR H with ⟨a20, h18, r19, H⟩ | ⟨w24, h25, r19, H⟩
    · refine Eq.trans (jb_nx (i := .invokevirtual 255) (n := 3) (q := (24, [some (.ref p0), some (.int i1), some (.int i2)], [.ref a20, .int i1])) (jq qX11_meanSize 13 rfl) (jo_cv (y := mX4_partAt) rfl (Nat.le_of_ble_eq_true rfl) rfl (Nat.le_of_ble_eq_true rfl) b23 rfl r19 jo_ret)) ?_
      obtain ⟨x21, e22, H⟩ := jbd H
      refine Eq.trans (jb_nx (i := .getfield 151) (n := 3) (q := (27, [some (.ref p0), some (.int i1), some (.int i2)], [.int x21, .int i1])) (jq qX11_meanSize 14 rfl) (jo_gf rfl (jr_I_inv e22))) ?_
      refine Eq.trans (jb_nx (i := .iadd) (n := 1) (q := (28, [some (.ref p0), some (.int i1), some (.int i2)], [.int (i1 + x21)])) (jq qX11_meanSize 15 rfl) rfl) ?_
      refine Eq.trans (jb_nx (i := .istore_n 1) (n := 1) (q := (29, [some (.ref p0), some (.int (i1 + x21)), some (.int i2)], [])) (jq qX11_meanSize 16 rfl) rfl) ?_
      refine Eq.trans (jb_nx (i := .iinc 2 1) (n := 3) (q := (32, [some (.ref p0), some (.int (i1 + x21)), some (.int (i2 + 1))], [])) (jq qX11_meanSize 17 rfl) rfl) ?_
      refine Eq.trans (jb_nx (i := .goto (-28)) (n := 3) (q := (4, [some (.ref p0), some (.int (i1 + x21)), some (.int (i2 + 1))], [])) (jq qX11_meanSize 18 rfl) rfl) ?_
      exact H
    · exact Eq.trans (jb_rt (i := .invokevirtual 255) (n := 3) (jq qX11_meanSize 13 rfl) (jo_cv (y := mX4_partAt) rfl (Nat.le_of_ble_eq_true rfl) rfl (Nat.le_of_ble_eq_true rfl) b23 rfl r19 (jo_exn rfl))) H
  · rw [if_neg c5] at H
    refine Eq.trans (jb_nx (i := .if_icmp .ge 23) (n := 3) (q := (35, [some (.ref p0), some (.int i1), some (.int i2)], [])) (jq qX11_meanSize 8 rfl) (jo_icT (jz_geT c5) rfl)) ?_
    refine Eq.trans (jb_nx (i := .aload_n 0) (n := 1) (q := (36, [some (.ref p0), some (.int i1), some (.int i2)], [.ref p0])) (jq qX11_meanSize 19 rfl) rfl) ?_
    obtain ⟨a6, e7, H⟩ := jbd H
    refine Eq.trans (jb_nx (i := .getfield 19) (n := 3) (q := (39, [some (.ref p0), some (.int i1), some (.int i2)], [.ref a6])) (jq qX11_meanSize 20 rfl) (jo_gf rfl (jr_R_inv e7))) ?_
    obtain ⟨x8, e9, H⟩ := jbd H
    refine Eq.trans (jb_nx (i := .getfield 135) (n := 3) (q := (42, [some (.ref p0), some (.int i1), some (.int i2)], [.int x8])) (jq qX11_meanSize 21 rfl) (jo_gf rfl (jr_I_inv e9))) ?_
    by_cases c10 : 0 < x8
    · rw [if_pos c10] at H
      refine Eq.trans (jb_nx (i := .ifCond .le 17) (n := 3) (q := (45, [some (.ref p0), some (.int i1), some (.int i2)], [])) (jq qX11_meanSize 22 rfl) (jo_ifF (jz_leF c10))) ?_
      refine Eq.trans (jb_nx (i := .iload_n 1) (n := 1) (q := (46, [some (.ref p0), some (.int i1), some (.int i2)], [.int i1])) (jq qX11_meanSize 23 rfl) rfl) ?_
      refine Eq.trans (jb_nx (i := .i2d) (n := 1) (q := (47, [some (.ref p0), some (.int i1), some (.int i2)], [.double (FP.i2d i1)])) (jq qX11_meanSize 24 rfl) rfl) ?_
      refine Eq.trans (jb_nx (i := .aload_n 0) (n := 1) (q := (48, [some (.ref p0), some (.int i1), some (.int i2)], [.ref p0, .double (FP.i2d i1)])) (jq qX11_meanSize 25 rfl) rfl) ?_
      obtain ⟨a11, e12, H⟩ := jbd H
      refine Eq.trans (jb_nx (i := .getfield 19) (n := 3) (q := (51, [some (.ref p0), some (.int i1), some (.int i2)], [.ref a11, .double (FP.i2d i1)])) (jq qX11_meanSize 26 rfl) (jo_gf rfl (jr_R_inv e12))) ?_
      obtain ⟨x13, e14, H⟩ := jbd H
      refine Eq.trans (jb_nx (i := .getfield 135) (n := 3) (q := (54, [some (.ref p0), some (.int i1), some (.int i2)], [.int x13, .double (FP.i2d i1)])) (jq qX11_meanSize 27 rfl) (jo_gf rfl (jr_I_inv e14))) ?_
      refine Eq.trans (jb_nx (i := .i2d) (n := 1) (q := (55, [some (.ref p0), some (.int i1), some (.int i2)], [.double (FP.i2d x13), .double (FP.i2d i1)])) (jq qX11_meanSize 28 rfl) rfl) ?_
      by_cases c15 : FP.ddiv (FP.i2d i1) (FP.i2d x13) &&& 0x7fffffffffffffff ≤ 0x7ff0000000000000
      · rw [if_pos c15] at H
        refine Eq.trans (jb_nx (i := .ddiv) (n := 1) (q := (56, [some (.ref p0), some (.int i1), some (.int i2)], [.double (FP.ddiv (FP.i2d i1) (FP.i2d x13))])) (jq qX11_meanSize 29 rfl) (jo_ddiv c15)) ?_
        refine Eq.trans (jb_nx (i := .goto 4) (n := 3) (q := (60, [some (.ref p0), some (.int i1), some (.int i2)], [.double (FP.ddiv (FP.i2d i1) (FP.i2d x13))])) (jq qX11_meanSize 30 rfl) rfl) ?_
        exact Eq.trans (jb_rt (i := .dreturn) (n := 1) (jq qX11_meanSize 32 rfl) rfl) H
      · rw [if_neg c15] at H; cases H
    · rw [if_neg c10] at H
      refine Eq.trans (jb_nx (i := .ifCond .le 17) (n := 3) (q := (59, [some (.ref p0), some (.int i1), some (.int i2)], [])) (jq qX11_meanSize 22 rfl) (jo_ifT (jz_leT c10) rfl)) ?_
      refine Eq.trans (jb_nx (i := .dconst 0) (n := 1) (q := (60, [some (.ref p0), some (.int i1), some (.int i2)], [.double FP.dconst0])) (jq qX11_meanSize 31 rfl) rfl) ?_
      exact Eq.trans (jb_rt (i := .dreturn) (n := 1) (jq qX11_meanSize 32 rfl) rfl) H
theorem gX11_meanSize {d : Nat} {p0 : Nat} {h : jm_H} {r : jm_R} (H : (kX11_meanSize_4 d p0 0 0 h) = some r) : jm_D (d + 1) mX11_meanSize [.ref p0] h = some r := by
  rw [jm_D_body (Nat.le_of_ble_eq_true rfl)]
  show jm_B d mX11_meanSize (0, [some (.ref p0), none, none], []) h = some r
  refine Eq.trans (jb_nx (i := .iconst 0) (n := 1) (q := (1, [some (.ref p0), none, none], [.int 0])) (jq qX11_meanSize 0 rfl) rfl) ?_
  refine Eq.trans (jb_nx (i := .istore_n 1) (n := 1) (q := (2, [some (.ref p0), some (.int 0), none], [])) (jq qX11_meanSize 1 rfl) rfl) ?_
  refine Eq.trans (jb_nx (i := .iconst 0) (n := 1) (q := (3, [some (.ref p0), some (.int 0), none], [.int 0])) (jq qX11_meanSize 2 rfl) rfl) ?_
  refine Eq.trans (jb_nx (i := .istore_n 2) (n := 1) (q := (4, [some (.ref p0), some (.int 0), some (.int 0)], [])) (jq qX11_meanSize 3 rfl) rfl) ?_
  exact H
/-! MaskPlays digest ()J -/
def tX11_digest : List (Nat × Instr × Nat) := [(0, .ldc2_w 266, 3), (3, .lstore_n 1, 1), (4, .lload_n 1, 1), (5, .ldc2_w 268, 3), (8, .lmul, 1), (9, .aload_n 0, 1), (10, .invokevirtual 270, 3), (13, .i2l, 1), (14, .ladd, 1), (15, .lstore_n 1, 1), (16, .lload_n 1, 1), (17, .ldc2_w 268, 3), (20, .lmul, 1), (21, .aload_n 0, 1), (22, .invokevirtual 273, 3), (25, .i2l, 1), (26, .ladd, 1), (27, .lstore_n 1, 1), (28, .lload_n 1, 1), (29, .ldc2_w 268, 3), (32, .lmul, 1), (33, .aload_n 0, 1), (34, .invokevirtual 276, 3), (37, .i2l, 1), (38, .ladd, 1), (39, .lstore_n 1, 1), (40, .lload_n 1, 1), (41, .ldc2_w 268, 3), (44, .lmul, 1), (45, .aload_n 0, 1), (46, .invokevirtual 279, 3), (49, .i2l, 1), (50, .ladd, 1), (51, .lstore_n 1, 1), (52, .lload_n 1, 1), (53, .ldc2_w 268, 3), (56, .lmul, 1), (57, .aload_n 0, 1), (58, .invokevirtual 282, 3), (61, .i2l, 1), (62, .ladd, 1), (63, .lstore_n 1, 1), (64, .lload_n 1, 1), (65, .ldc2_w 268, 3), (68, .lmul, 1), (69, .aload_n 0, 1), (70, .invokevirtual 285, 3), (73, .i2l, 1), (74, .ladd, 1), (75, .lstore_n 1, 1), (76, .iconst 0, 1), (77, .istore_n 3, 1), (78, .iload_n 3, 1), (79, .aload_n 0, 1), (80, .getfield 19, 3), (83, .getfield 135, 3), (86, .if_icmp .ge 16, 3), (89, .aload_n 0, 1), (90, .lload_n 1, 1), (91, .iload_n 3, 1), (92, .invokevirtual 288, 3), (95, .lstore_n 1, 1), (96, .iinc 3 1, 3), (99, .goto (-21), 3), (102, .lload_n 1, 1), (103, .lreturn, 1)]
set_option maxRecDepth 100000 in
theorem qX11_digest : ∀ q ∈ tX11_digest, decode cX11_digest q.1 = .ok (q.2.1, q.2.2) := by decide +kernel
noncomputable def kX11_digest_78 (d : Nat) (p0 : Nat) (j1 : Int64) (i3 : Int32) (h : jm_H) : Option jm_R := jm_B d mX11_digest (78, [some (.ref p0), some (.long j1), none, some (.int i3)], []) h
theorem gX11_digest_78 {d : Nat} {p0 : Nat} {j1 : Int64} {i3 : Int32} {h : jm_H} {r : jm_R} (H : ((jr_R h p0 10 6 2).bind fun a37 => (jr_I h a37 0 1 0).bind fun x39 => (if i3 < x39 then jm_O h p0 11 (jc_L (jm_D d mX11_withPlay [.ref p0, .long j1, .int i3] h) (fun y44 h42 => kX11_digest_78 d p0 y44 (i3 + 1) h42) jx) else some (.inl (some (.long j1)), h))) = some r) : kX11_digest_78 d p0 j1 i3 h = some r := by
  show jm_B d mX11_digest (78, [some (.ref p0), some (.long j1), none, some (.int i3)], []) h = some r
  refine Eq.trans (jb_nx (i := .iload_n 3) (n := 1) (q := (79, [some (.ref p0), some (.long j1), none, some (.int i3)], [.int i3])) (jq qX11_digest 52 rfl) rfl) ?_
  refine Eq.trans (jb_nx (i := .aload_n 0) (n := 1) (q := (80, [some (.ref p0), some (.long j1), none, some (.int i3)], [.ref p0, .int i3])) (jq qX11_digest 53 rfl) rfl) ?_
  obtain ⟨a37, e38, H⟩ := jbd H
  refine Eq.trans (jb_nx (i := .getfield 19) (n := 3) (q := (83, [some (.ref p0), some (.long j1), none, some (.int i3)], [.ref a37, .int i3])) (jq qX11_digest 54 rfl) (jo_gf rfl (jr_R_inv e38))) ?_
  obtain ⟨x39, e40, H⟩ := jbd H
  refine Eq.trans (jb_nx (i := .getfield 135) (n := 3) (q := (86, [some (.ref p0), some (.long j1), none, some (.int i3)], [.int x39, .int i3])) (jq qX11_digest 55 rfl) (jo_gf rfl (jr_I_inv e40))) ?_
  by_cases c41 : i3 < x39
  · rw [if_pos c41] at H
    refine Eq.trans (jb_nx (i := .if_icmp .ge 16) (n := 3) (q := (89, [some (.ref p0), some (.long j1), none, some (.int i3)], [])) (jq qX11_digest 56 rfl) (jo_icF (jz_geF c41))) ?_
    refine Eq.trans (jb_nx (i := .aload_n 0) (n := 1) (q := (90, [some (.ref p0), some (.long j1), none, some (.int i3)], [.ref p0])) (jq qX11_digest 57 rfl) rfl) ?_
    refine Eq.trans (jb_nx (i := .lload_n 1) (n := 1) (q := (91, [some (.ref p0), some (.long j1), none, some (.int i3)], [.long j1, .ref p0])) (jq qX11_digest 58 rfl) rfl) ?_
    refine Eq.trans (jb_nx (i := .iload_n 3) (n := 1) (q := (92, [some (.ref p0), some (.long j1), none, some (.int i3)], [.int i3, .long j1, .ref p0])) (jq qX11_digest 59 rfl) rfl) ?_
    obtain ⟨b45, H⟩ := jm_O_inv H
    rcases jcL H with ⟨y44, h42, r43, H⟩ | ⟨w46, h47, r43, H⟩
    · refine Eq.trans (jb_nx (i := .invokevirtual 288) (n := 3) (q := (95, [some (.ref p0), some (.long j1), none, some (.int i3)], [.long y44])) (jq qX11_digest 60 rfl) (jo_cv (y := mX11_withPlay) rfl (Nat.le_of_ble_eq_true rfl) rfl (Nat.le_of_ble_eq_true rfl) b45 rfl r43 jo_ret)) ?_
      refine Eq.trans (jb_nx (i := .lstore_n 1) (n := 1) (q := (96, [some (.ref p0), some (.long y44), none, some (.int i3)], [])) (jq qX11_digest 61 rfl) rfl) ?_
      refine Eq.trans (jb_nx (i := .iinc 3 1) (n := 3) (q := (99, [some (.ref p0), some (.long y44), none, some (.int (i3 + 1))], [])) (jq qX11_digest 62 rfl) rfl) ?_
      refine Eq.trans (jb_nx (i := .goto (-21)) (n := 3) (q := (78, [some (.ref p0), some (.long y44), none, some (.int (i3 + 1))], [])) (jq qX11_digest 63 rfl) rfl) ?_
      exact H
    · exact Eq.trans (jb_rt (i := .invokevirtual 288) (n := 3) (jq qX11_digest 60 rfl) (jo_cv (y := mX11_withPlay) rfl (Nat.le_of_ble_eq_true rfl) rfl (Nat.le_of_ble_eq_true rfl) b45 rfl r43 (jo_exn rfl))) H
  · rw [if_neg c41] at H
    refine Eq.trans (jb_nx (i := .if_icmp .ge 16) (n := 3) (q := (102, [some (.ref p0), some (.long j1), none, some (.int i3)], [])) (jq qX11_digest 56 rfl) (jo_icT (jz_geT c41) rfl)) ?_
    refine Eq.trans (jb_nx (i := .lload_n 1) (n := 1) (q := (103, [some (.ref p0), some (.long j1), none, some (.int i3)], [.long j1])) (jq qX11_digest 64 rfl) rfl) ?_
    exact Eq.trans (jb_rt (i := .lreturn) (n := 1) (jq qX11_digest 65 rfl) rfl) H
theorem gX11_digest {d : Nat} {p0 : Nat} {h : jm_H} {r : jm_R} (H : (jm_O h p0 11 (jc_I (jm_D d mX11_actors [.ref p0] h) (fun x3 h1 => jm_O h1 p0 11 (jc_I (jm_D d mX11_plays [.ref p0] h1) (fun x6 h4 => jm_O h4 p0 11 (jc_I (jm_D d mX11_notes [.ref p0] h4) (fun x9 h7 => jm_O h7 p0 11 (jc_I (jm_D d mX11_evenings [.ref p0] h7) (fun x12 h10 => jm_O h10 p0 11 (jc_I (jm_D d mX11_notesCarriedOut [.ref p0] h10) (fun x15 h13 => jm_O h13 p0 11 (jc_I (jm_D d mX11_tapeBytes [.ref p0] h13) (fun x18 h16 => kX11_digest_78 d p0 ((((((((((((941 * 31) + x3.toInt64) * 31) + x6.toInt64) * 31) + x9.toInt64) * 31) + x12.toInt64) * 31) + x15.toInt64) * 31) + x18.toInt64) 0 h16) jx)) jx)) jx)) jx)) jx)) jx)) = some r) : jm_D (d + 1) mX11_digest [.ref p0] h = some r := by
  rw [jm_D_body (Nat.le_of_ble_eq_true rfl)]
  show jm_B d mX11_digest (0, [some (.ref p0), none, none, none], []) h = some r
  refine Eq.trans (jb_nx (i := .ldc2_w 266) (n := 3) (q := (3, [some (.ref p0), none, none, none], [.long 941])) (jq qX11_digest 0 rfl) rfl) ?_
  refine Eq.trans (jb_nx (i := .lstore_n 1) (n := 1) (q := (4, [some (.ref p0), some (.long 941), none, none], [])) (jq qX11_digest 1 rfl) rfl) ?_
  refine Eq.trans (jb_nx (i := .lload_n 1) (n := 1) (q := (5, [some (.ref p0), some (.long 941), none, none], [.long 941])) (jq qX11_digest 2 rfl) rfl) ?_
  refine Eq.trans (jb_nx (i := .ldc2_w 268) (n := 3) (q := (8, [some (.ref p0), some (.long 941), none, none], [.long 31, .long 941])) (jq qX11_digest 3 rfl) rfl) ?_
  refine Eq.trans (jb_nx (i := .lmul) (n := 1) (q := (9, [some (.ref p0), some (.long 941), none, none], [.long (941 * 31)])) (jq qX11_digest 4 rfl) rfl) ?_
  refine Eq.trans (jb_nx (i := .aload_n 0) (n := 1) (q := (10, [some (.ref p0), some (.long 941), none, none], [.ref p0, .long (941 * 31)])) (jq qX11_digest 5 rfl) rfl) ?_
  obtain ⟨b34, H⟩ := jm_O_inv H
  rcases jcI H with ⟨x3, h1, r2, H⟩ | ⟨w35, h36, r2, H⟩
  · refine Eq.trans (jb_nx (i := .invokevirtual 270) (n := 3) (q := (13, [some (.ref p0), some (.long 941), none, none], [.int x3, .long (941 * 31)])) (jq qX11_digest 6 rfl) (jo_cv (y := mX11_actors) rfl (Nat.le_of_ble_eq_true rfl) rfl (Nat.le_of_ble_eq_true rfl) b34 rfl r2 jo_ret)) ?_
    refine Eq.trans (jb_nx (i := .i2l) (n := 1) (q := (14, [some (.ref p0), some (.long 941), none, none], [.long x3.toInt64, .long (941 * 31)])) (jq qX11_digest 7 rfl) rfl) ?_
    refine Eq.trans (jb_nx (i := .ladd) (n := 1) (q := (15, [some (.ref p0), some (.long 941), none, none], [.long ((941 * 31) + x3.toInt64)])) (jq qX11_digest 8 rfl) rfl) ?_
    refine Eq.trans (jb_nx (i := .lstore_n 1) (n := 1) (q := (16, [some (.ref p0), some (.long ((941 * 31) + x3.toInt64)), none, none], [])) (jq qX11_digest 9 rfl) rfl) ?_
    refine Eq.trans (jb_nx (i := .lload_n 1) (n := 1) (q := (17, [some (.ref p0), some (.long ((941 * 31) + x3.toInt64)), none, none], [.long ((941 * 31) + x3.toInt64)])) (jq qX11_digest 10 rfl) rfl) ?_
    refine Eq.trans (jb_nx (i := .ldc2_w 268) (n := 3) (q := (20, [some (.ref p0), some (.long ((941 * 31) + x3.toInt64)), none, none], [.long 31, .long ((941 * 31) + x3.toInt64)])) (jq qX11_digest 11 rfl) rfl) ?_
    refine Eq.trans (jb_nx (i := .lmul) (n := 1) (q := (21, [some (.ref p0), some (.long ((941 * 31) + x3.toInt64)), none, none], [.long (((941 * 31) + x3.toInt64) * 31)])) (jq qX11_digest 12 rfl) rfl) ?_
    refine Eq.trans (jb_nx (i := .aload_n 0) (n := 1) (q := (22, [some (.ref p0), some (.long ((941 * 31) + x3.toInt64)), none, none], [.ref p0, .long (((941 * 31) + x3.toInt64) * 31)])) (jq qX11_digest 13 rfl) rfl) ?_
    obtain ⟨b31, H⟩ := jm_O_inv H
    rcases jcI H with ⟨x6, h4, r5, H⟩ | ⟨w32, h33, r5, H⟩
    · refine Eq.trans (jb_nx (i := .invokevirtual 273) (n := 3) (q := (25, [some (.ref p0), some (.long ((941 * 31) + x3.toInt64)), none, none], [.int x6, .long (((941 * 31) + x3.toInt64) * 31)])) (jq qX11_digest 14 rfl) (jo_cv (y := mX11_plays) rfl (Nat.le_of_ble_eq_true rfl) rfl (Nat.le_of_ble_eq_true rfl) b31 rfl r5 jo_ret)) ?_
      refine Eq.trans (jb_nx (i := .i2l) (n := 1) (q := (26, [some (.ref p0), some (.long ((941 * 31) + x3.toInt64)), none, none], [.long x6.toInt64, .long (((941 * 31) + x3.toInt64) * 31)])) (jq qX11_digest 15 rfl) rfl) ?_
      refine Eq.trans (jb_nx (i := .ladd) (n := 1) (q := (27, [some (.ref p0), some (.long ((941 * 31) + x3.toInt64)), none, none], [.long ((((941 * 31) + x3.toInt64) * 31) + x6.toInt64)])) (jq qX11_digest 16 rfl) rfl) ?_
      refine Eq.trans (jb_nx (i := .lstore_n 1) (n := 1) (q := (28, [some (.ref p0), some (.long ((((941 * 31) + x3.toInt64) * 31) + x6.toInt64)), none, none], [])) (jq qX11_digest 17 rfl) rfl) ?_
      refine Eq.trans (jb_nx (i := .lload_n 1) (n := 1) (q := (29, [some (.ref p0), some (.long ((((941 * 31) + x3.toInt64) * 31) + x6.toInt64)), none, none], [.long ((((941 * 31) + x3.toInt64) * 31) + x6.toInt64)])) (jq qX11_digest 18 rfl) rfl) ?_
      refine Eq.trans (jb_nx (i := .ldc2_w 268) (n := 3) (q := (32, [some (.ref p0), some (.long ((((941 * 31) + x3.toInt64) * 31) + x6.toInt64)), none, none], [.long 31, .long ((((941 * 31) + x3.toInt64) * 31) + x6.toInt64)])) (jq qX11_digest 19 rfl) rfl) ?_
      refine Eq.trans (jb_nx (i := .lmul) (n := 1) (q := (33, [some (.ref p0), some (.long ((((941 * 31) + x3.toInt64) * 31) + x6.toInt64)), none, none], [.long (((((941 * 31) + x3.toInt64) * 31) + x6.toInt64) * 31)])) (jq qX11_digest 20 rfl) rfl) ?_
      refine Eq.trans (jb_nx (i := .aload_n 0) (n := 1) (q := (34, [some (.ref p0), some (.long ((((941 * 31) + x3.toInt64) * 31) + x6.toInt64)), none, none], [.ref p0, .long (((((941 * 31) + x3.toInt64) * 31) + x6.toInt64) * 31)])) (jq qX11_digest 21 rfl) rfl) ?_
      obtain ⟨b28, H⟩ := jm_O_inv H
      rcases jcI H with ⟨x9, h7, r8, H⟩ | ⟨w29, h30, r8, H⟩
      · refine Eq.trans (jb_nx (i := .invokevirtual 276) (n := 3) (q := (37, [some (.ref p0), some (.long ((((941 * 31) + x3.toInt64) * 31) + x6.toInt64)), none, none], [.int x9, .long (((((941 * 31) + x3.toInt64) * 31) + x6.toInt64) * 31)])) (jq qX11_digest 22 rfl) (jo_cv (y := mX11_notes) rfl (Nat.le_of_ble_eq_true rfl) rfl (Nat.le_of_ble_eq_true rfl) b28 rfl r8 jo_ret)) ?_
        refine Eq.trans (jb_nx (i := .i2l) (n := 1) (q := (38, [some (.ref p0), some (.long ((((941 * 31) + x3.toInt64) * 31) + x6.toInt64)), none, none], [.long x9.toInt64, .long (((((941 * 31) + x3.toInt64) * 31) + x6.toInt64) * 31)])) (jq qX11_digest 23 rfl) rfl) ?_
        refine Eq.trans (jb_nx (i := .ladd) (n := 1) (q := (39, [some (.ref p0), some (.long ((((941 * 31) + x3.toInt64) * 31) + x6.toInt64)), none, none], [.long ((((((941 * 31) + x3.toInt64) * 31) + x6.toInt64) * 31) + x9.toInt64)])) (jq qX11_digest 24 rfl) rfl) ?_
        refine Eq.trans (jb_nx (i := .lstore_n 1) (n := 1) (q := (40, [some (.ref p0), some (.long ((((((941 * 31) + x3.toInt64) * 31) + x6.toInt64) * 31) + x9.toInt64)), none, none], [])) (jq qX11_digest 25 rfl) rfl) ?_
        refine Eq.trans (jb_nx (i := .lload_n 1) (n := 1) (q := (41, [some (.ref p0), some (.long ((((((941 * 31) + x3.toInt64) * 31) + x6.toInt64) * 31) + x9.toInt64)), none, none], [.long ((((((941 * 31) + x3.toInt64) * 31) + x6.toInt64) * 31) + x9.toInt64)])) (jq qX11_digest 26 rfl) rfl) ?_
        refine Eq.trans (jb_nx (i := .ldc2_w 268) (n := 3) (q := (44, [some (.ref p0), some (.long ((((((941 * 31) + x3.toInt64) * 31) + x6.toInt64) * 31) + x9.toInt64)), none, none], [.long 31, .long ((((((941 * 31) + x3.toInt64) * 31) + x6.toInt64) * 31) + x9.toInt64)])) (jq qX11_digest 27 rfl) rfl) ?_
        refine Eq.trans (jb_nx (i := .lmul) (n := 1) (q := (45, [some (.ref p0), some (.long ((((((941 * 31) + x3.toInt64) * 31) + x6.toInt64) * 31) + x9.toInt64)), none, none], [.long (((((((941 * 31) + x3.toInt64) * 31) + x6.toInt64) * 31) + x9.toInt64) * 31)])) (jq qX11_digest 28 rfl) rfl) ?_
        refine Eq.trans (jb_nx (i := .aload_n 0) (n := 1) (q := (46, [some (.ref p0), some (.long ((((((941 * 31) + x3.toInt64) * 31) + x6.toInt64) * 31) + x9.toInt64)), none, none], [.ref p0, .long (((((((941 * 31) + x3.toInt64) * 31) + x6.toInt64) * 31) + x9.toInt64) * 31)])) (jq qX11_digest 29 rfl) rfl) ?_
        obtain ⟨b25, H⟩ := jm_O_inv H
        rcases jcI H with ⟨x12, h10, r11, H⟩ | ⟨w26, h27, r11, H⟩
        · refine Eq.trans (jb_nx (i := .invokevirtual 279) (n := 3) (q := (49, [some (.ref p0), some (.long ((((((941 * 31) + x3.toInt64) * 31) + x6.toInt64) * 31) + x9.toInt64)), none, none], [.int x12, .long (((((((941 * 31) + x3.toInt64) * 31) + x6.toInt64) * 31) + x9.toInt64) * 31)])) (jq qX11_digest 30 rfl) (jo_cv (y := mX11_evenings) rfl (Nat.le_of_ble_eq_true rfl) rfl (Nat.le_of_ble_eq_true rfl) b25 rfl r11 jo_ret)) ?_
          refine Eq.trans (jb_nx (i := .i2l) (n := 1) (q := (50, [some (.ref p0), some (.long ((((((941 * 31) + x3.toInt64) * 31) + x6.toInt64) * 31) + x9.toInt64)), none, none], [.long x12.toInt64, .long (((((((941 * 31) + x3.toInt64) * 31) + x6.toInt64) * 31) + x9.toInt64) * 31)])) (jq qX11_digest 31 rfl) rfl) ?_
          refine Eq.trans (jb_nx (i := .ladd) (n := 1) (q := (51, [some (.ref p0), some (.long ((((((941 * 31) + x3.toInt64) * 31) + x6.toInt64) * 31) + x9.toInt64)), none, none], [.long ((((((((941 * 31) + x3.toInt64) * 31) + x6.toInt64) * 31) + x9.toInt64) * 31) + x12.toInt64)])) (jq qX11_digest 32 rfl) rfl) ?_
          refine Eq.trans (jb_nx (i := .lstore_n 1) (n := 1) (q := (52, [some (.ref p0), some (.long ((((((((941 * 31) + x3.toInt64) * 31) + x6.toInt64) * 31) + x9.toInt64) * 31) + x12.toInt64)), none, none], [])) (jq qX11_digest 33 rfl) rfl) ?_
          refine Eq.trans (jb_nx (i := .lload_n 1) (n := 1) (q := (53, [some (.ref p0), some (.long ((((((((941 * 31) + x3.toInt64) * 31) + x6.toInt64) * 31) + x9.toInt64) * 31) + x12.toInt64)), none, none], [.long ((((((((941 * 31) + x3.toInt64) * 31) + x6.toInt64) * 31) + x9.toInt64) * 31) + x12.toInt64)])) (jq qX11_digest 34 rfl) rfl) ?_
          refine Eq.trans (jb_nx (i := .ldc2_w 268) (n := 3) (q := (56, [some (.ref p0), some (.long ((((((((941 * 31) + x3.toInt64) * 31) + x6.toInt64) * 31) + x9.toInt64) * 31) + x12.toInt64)), none, none], [.long 31, .long ((((((((941 * 31) + x3.toInt64) * 31) + x6.toInt64) * 31) + x9.toInt64) * 31) + x12.toInt64)])) (jq qX11_digest 35 rfl) rfl) ?_
          refine Eq.trans (jb_nx (i := .lmul) (n := 1) (q := (57, [some (.ref p0), some (.long ((((((((941 * 31) + x3.toInt64) * 31) + x6.toInt64) * 31) + x9.toInt64) * 31) + x12.toInt64)), none, none], [.long (((((((((941 * 31) + x3.toInt64) * 31) + x6.toInt64) * 31) + x9.toInt64) * 31) + x12.toInt64) * 31)])) (jq qX11_digest 36 rfl) rfl) ?_
          refine Eq.trans (jb_nx (i := .aload_n 0) (n := 1) (q := (58, [some (.ref p0), some (.long ((((((((941 * 31) + x3.toInt64) * 31) + x6.toInt64) * 31) + x9.toInt64) * 31) + x12.toInt64)), none, none], [.ref p0, .long (((((((((941 * 31) + x3.toInt64) * 31) + x6.toInt64) * 31) + x9.toInt64) * 31) + x12.toInt64) * 31)])) (jq qX11_digest 37 rfl) rfl) ?_
          obtain ⟨b22, H⟩ := jm_O_inv H
          rcases jcI H with ⟨x15, h13, r14, H⟩ | ⟨w23, h24, r14, H⟩
          · refine Eq.trans (jb_nx (i := .invokevirtual 282) (n := 3) (q := (61, [some (.ref p0), some (.long ((((((((941 * 31) + x3.toInt64) * 31) + x6.toInt64) * 31) + x9.toInt64) * 31) + x12.toInt64)), none, none], [.int x15, .long (((((((((941 * 31) + x3.toInt64) * 31) + x6.toInt64) * 31) + x9.toInt64) * 31) + x12.toInt64) * 31)])) (jq qX11_digest 38 rfl) (jo_cv (y := mX11_notesCarriedOut) rfl (Nat.le_of_ble_eq_true rfl) rfl (Nat.le_of_ble_eq_true rfl) b22 rfl r14 jo_ret)) ?_
            refine Eq.trans (jb_nx (i := .i2l) (n := 1) (q := (62, [some (.ref p0), some (.long ((((((((941 * 31) + x3.toInt64) * 31) + x6.toInt64) * 31) + x9.toInt64) * 31) + x12.toInt64)), none, none], [.long x15.toInt64, .long (((((((((941 * 31) + x3.toInt64) * 31) + x6.toInt64) * 31) + x9.toInt64) * 31) + x12.toInt64) * 31)])) (jq qX11_digest 39 rfl) rfl) ?_
            refine Eq.trans (jb_nx (i := .ladd) (n := 1) (q := (63, [some (.ref p0), some (.long ((((((((941 * 31) + x3.toInt64) * 31) + x6.toInt64) * 31) + x9.toInt64) * 31) + x12.toInt64)), none, none], [.long ((((((((((941 * 31) + x3.toInt64) * 31) + x6.toInt64) * 31) + x9.toInt64) * 31) + x12.toInt64) * 31) + x15.toInt64)])) (jq qX11_digest 40 rfl) rfl) ?_
            refine Eq.trans (jb_nx (i := .lstore_n 1) (n := 1) (q := (64, [some (.ref p0), some (.long ((((((((((941 * 31) + x3.toInt64) * 31) + x6.toInt64) * 31) + x9.toInt64) * 31) + x12.toInt64) * 31) + x15.toInt64)), none, none], [])) (jq qX11_digest 41 rfl) rfl) ?_
            refine Eq.trans (jb_nx (i := .lload_n 1) (n := 1) (q := (65, [some (.ref p0), some (.long ((((((((((941 * 31) + x3.toInt64) * 31) + x6.toInt64) * 31) + x9.toInt64) * 31) + x12.toInt64) * 31) + x15.toInt64)), none, none], [.long ((((((((((941 * 31) + x3.toInt64) * 31) + x6.toInt64) * 31) + x9.toInt64) * 31) + x12.toInt64) * 31) + x15.toInt64)])) (jq qX11_digest 42 rfl) rfl) ?_
            refine Eq.trans (jb_nx (i := .ldc2_w 268) (n := 3) (q := (68, [some (.ref p0), some (.long ((((((((((941 * 31) + x3.toInt64) * 31) + x6.toInt64) * 31) + x9.toInt64) * 31) + x12.toInt64) * 31) + x15.toInt64)), none, none], [.long 31, .long ((((((((((941 * 31) + x3.toInt64) * 31) + x6.toInt64) * 31) + x9.toInt64) * 31) + x12.toInt64) * 31) + x15.toInt64)])) (jq qX11_digest 43 rfl) rfl) ?_
            refine Eq.trans (jb_nx (i := .lmul) (n := 1) (q := (69, [some (.ref p0), some (.long ((((((((((941 * 31) + x3.toInt64) * 31) + x6.toInt64) * 31) + x9.toInt64) * 31) + x12.toInt64) * 31) + x15.toInt64)), none, none], [.long (((((((((((941 * 31) + x3.toInt64) * 31) + x6.toInt64) * 31) + x9.toInt64) * 31) + x12.toInt64) * 31) + x15.toInt64) * 31)])) (jq qX11_digest 44 rfl) rfl) ?_
            refine Eq.trans (jb_nx (i := .aload_n 0) (n := 1) (q := (70, [some (.ref p0), some (.long ((((((((((941 * 31) + x3.toInt64) * 31) + x6.toInt64) * 31) + x9.toInt64) * 31) + x12.toInt64) * 31) + x15.toInt64)), none, none], [.ref p0, .long (((((((((((941 * 31) + x3.toInt64) * 31) + x6.toInt64) * 31) + x9.toInt64) * 31) + x12.toInt64) * 31) + x15.toInt64) * 31)])) (jq qX11_digest 45 rfl) rfl) ?_
            obtain ⟨b19, H⟩ := jm_O_inv H
            rcases jcI H with ⟨x18, h16, r17, H⟩ | ⟨w20, h21, r17, H⟩
            · refine Eq.trans (jb_nx (i := .invokevirtual 285) (n := 3) (q := (73, [some (.ref p0), some (.long ((((((((((941 * 31) + x3.toInt64) * 31) + x6.toInt64) * 31) + x9.toInt64) * 31) + x12.toInt64) * 31) + x15.toInt64)), none, none], [.int x18, .long (((((((((((941 * 31) + x3.toInt64) * 31) + x6.toInt64) * 31) + x9.toInt64) * 31) + x12.toInt64) * 31) + x15.toInt64) * 31)])) (jq qX11_digest 46 rfl) (jo_cv (y := mX11_tapeBytes) rfl (Nat.le_of_ble_eq_true rfl) rfl (Nat.le_of_ble_eq_true rfl) b19 rfl r17 jo_ret)) ?_
              refine Eq.trans (jb_nx (i := .i2l) (n := 1) (q := (74, [some (.ref p0), some (.long ((((((((((941 * 31) + x3.toInt64) * 31) + x6.toInt64) * 31) + x9.toInt64) * 31) + x12.toInt64) * 31) + x15.toInt64)), none, none], [.long x18.toInt64, .long (((((((((((941 * 31) + x3.toInt64) * 31) + x6.toInt64) * 31) + x9.toInt64) * 31) + x12.toInt64) * 31) + x15.toInt64) * 31)])) (jq qX11_digest 47 rfl) rfl) ?_
              refine Eq.trans (jb_nx (i := .ladd) (n := 1) (q := (75, [some (.ref p0), some (.long ((((((((((941 * 31) + x3.toInt64) * 31) + x6.toInt64) * 31) + x9.toInt64) * 31) + x12.toInt64) * 31) + x15.toInt64)), none, none], [.long ((((((((((((941 * 31) + x3.toInt64) * 31) + x6.toInt64) * 31) + x9.toInt64) * 31) + x12.toInt64) * 31) + x15.toInt64) * 31) + x18.toInt64)])) (jq qX11_digest 48 rfl) rfl) ?_
              refine Eq.trans (jb_nx (i := .lstore_n 1) (n := 1) (q := (76, [some (.ref p0), some (.long ((((((((((((941 * 31) + x3.toInt64) * 31) + x6.toInt64) * 31) + x9.toInt64) * 31) + x12.toInt64) * 31) + x15.toInt64) * 31) + x18.toInt64)), none, none], [])) (jq qX11_digest 49 rfl) rfl) ?_
              refine Eq.trans (jb_nx (i := .iconst 0) (n := 1) (q := (77, [some (.ref p0), some (.long ((((((((((((941 * 31) + x3.toInt64) * 31) + x6.toInt64) * 31) + x9.toInt64) * 31) + x12.toInt64) * 31) + x15.toInt64) * 31) + x18.toInt64)), none, none], [.int 0])) (jq qX11_digest 50 rfl) rfl) ?_
              refine Eq.trans (jb_nx (i := .istore_n 3) (n := 1) (q := (78, [some (.ref p0), some (.long ((((((((((((941 * 31) + x3.toInt64) * 31) + x6.toInt64) * 31) + x9.toInt64) * 31) + x12.toInt64) * 31) + x15.toInt64) * 31) + x18.toInt64)), none, some (.int 0)], [])) (jq qX11_digest 51 rfl) rfl) ?_
              exact H
            · exact Eq.trans (jb_rt (i := .invokevirtual 285) (n := 3) (jq qX11_digest 46 rfl) (jo_cv (y := mX11_tapeBytes) rfl (Nat.le_of_ble_eq_true rfl) rfl (Nat.le_of_ble_eq_true rfl) b19 rfl r17 (jo_exn rfl))) H
          · exact Eq.trans (jb_rt (i := .invokevirtual 282) (n := 3) (jq qX11_digest 38 rfl) (jo_cv (y := mX11_notesCarriedOut) rfl (Nat.le_of_ble_eq_true rfl) rfl (Nat.le_of_ble_eq_true rfl) b22 rfl r14 (jo_exn rfl))) H
        · exact Eq.trans (jb_rt (i := .invokevirtual 279) (n := 3) (jq qX11_digest 30 rfl) (jo_cv (y := mX11_evenings) rfl (Nat.le_of_ble_eq_true rfl) rfl (Nat.le_of_ble_eq_true rfl) b25 rfl r11 (jo_exn rfl))) H
      · exact Eq.trans (jb_rt (i := .invokevirtual 276) (n := 3) (jq qX11_digest 22 rfl) (jo_cv (y := mX11_notes) rfl (Nat.le_of_ble_eq_true rfl) rfl (Nat.le_of_ble_eq_true rfl) b28 rfl r8 (jo_exn rfl))) H
    · exact Eq.trans (jb_rt (i := .invokevirtual 273) (n := 3) (jq qX11_digest 14 rfl) (jo_cv (y := mX11_plays) rfl (Nat.le_of_ble_eq_true rfl) rfl (Nat.le_of_ble_eq_true rfl) b31 rfl r5 (jo_exn rfl))) H
  · exact Eq.trans (jb_rt (i := .invokevirtual 270) (n := 3) (jq qX11_digest 6 rfl) (jo_cv (y := mX11_actors) rfl (Nat.le_of_ble_eq_true rfl) rfl (Nat.le_of_ble_eq_true rfl) b34 rfl r2 (jo_exn rfl))) H
/-! MaskPlays withPlay (JI)J -/
def tX11_withPlay : List (Nat × Instr × Nat) := [(0, .lload_n 1, 1), (1, .lstore 4, 2), (3, .lload 4, 2), (5, .ldc2_w 268, 3), (8, .lmul, 1), (9, .aload_n 0, 1), (10, .iload_n 3, 1), (11, .invokevirtual 292, 3), (14, .i2l, 1), (15, .ladd, 1), (16, .lstore 4, 2), (18, .lload 4, 2), (20, .ldc2_w 268, 3), (23, .lmul, 1), (24, .aload_n 0, 1), (25, .iload_n 3, 1), (26, .invokevirtual 295, 3), (29, .i2l, 1), (30, .ladd, 1), (31, .lstore 4, 2), (33, .lload 4, 2), (35, .ldc2_w 268, 3), (38, .lmul, 1), (39, .aload_n 0, 1), (40, .iload_n 3, 1), (41, .invokevirtual 298, 3), (44, .i2l, 1), (45, .ladd, 1), (46, .lstore 4, 2), (48, .lload 4, 2), (50, .ldc2_w 268, 3), (53, .lmul, 1), (54, .aload_n 0, 1), (55, .iload_n 3, 1), (56, .invokevirtual 301, 3), (59, .i2l, 1), (60, .ladd, 1), (61, .lstore 4, 2), (63, .lload 4, 2), (65, .ldc2_w 268, 3), (68, .lmul, 1), (69, .aload_n 0, 1), (70, .iload_n 3, 1), (71, .invokevirtual 304, 3), (74, .i2l, 1), (75, .ladd, 1), (76, .lstore 4, 2), (78, .lload 4, 2), (80, .ldc2_w 268, 3), (83, .lmul, 1), (84, .aload_n 0, 1), (85, .iload_n 3, 1), (86, .invokevirtual 307, 3), (89, .ifCond .eq 7, 3), (92, .iconst 1, 1), (93, .goto 4, 3), (96, .iconst 0, 1), (97, .i2l, 1), (98, .ladd, 1), (99, .lstore 4, 2), (101, .lload 4, 2), (103, .ldc2_w 268, 3), (106, .lmul, 1), (107, .aload_n 0, 1), (108, .iload_n 3, 1), (109, .invokevirtual 310, 3), (112, .ifCond .eq 7, 3), (115, .iconst 1, 1), (116, .goto 4, 3), (119, .iconst 0, 1), (120, .i2l, 1), (121, .ladd, 1), (122, .lstore 4, 2), (124, .lload 4, 2), (126, .ldc2_w 268, 3), (129, .lmul, 1), (130, .aload_n 0, 1), (131, .iload_n 3, 1), (132, .invokevirtual 313, 3), (135, .i2l, 1), (136, .ladd, 1), (137, .lstore 4, 2), (139, .iconst 0, 1), (140, .istore 6, 2), (142, .iload 6, 2), (144, .aload_n 0, 1), (145, .getfield 36, 3), (148, .getfield 190, 3), (151, .if_icmp .ge 28, 3), (154, .lload 4, 2), (156, .ldc2_w 268, 3), (159, .lmul, 1), (160, .aload_n 0, 1), (161, .getfield 36, 3), (164, .iload 6, 2), (166, .invokevirtual 195, 3), (169, .i2l, 1), (170, .ladd, 1), (171, .lstore 4, 2), (173, .iinc 6 1, 3), (176, .goto (-34), 3), (179, .iconst 0, 1), (180, .istore 6, 2), (182, .iload 6, 2), (184, .aload_n 0, 1), (185, .getfield 19, 3), (188, .getfield 132, 3), (191, .if_icmp .ge 26, 3), (194, .lload 4, 2), (196, .ldc2_w 268, 3), (199, .lmul, 1), (200, .aload_n 0, 1), (201, .iload_n 3, 1), (202, .iload 6, 2), (204, .invokevirtual 316, 3), (207, .i2l, 1), (208, .ladd, 1), (209, .lstore 4, 2), (211, .iinc 6 1, 3), (214, .goto (-32), 3), (217, .lload 4, 2), (219, .lreturn, 1)]
set_option maxRecDepth 100000 in
theorem qX11_withPlay : ∀ q ∈ tX11_withPlay, decode cX11_withPlay q.1 = .ok (q.2.1, q.2.2) := by decide +kernel
noncomputable def kX11_withPlay_97 (d : Nat) (p0 : Nat) (o1 : Option Value) (o2 : Option Value) (i3 : Int32) (o4 : Option Value) (o5 : Option Value) (o6 : Option Value) (si0 : Int32) (sj1 : Int64) (h : jm_H) : Option jm_R := jm_B d mX11_withPlay (97, [some (.ref p0), o1, o2, some (.int i3), o4, o5, o6], [.int si0, .long sj1]) h
noncomputable def kX11_withPlay_120 (d : Nat) (p0 : Nat) (o1 : Option Value) (o2 : Option Value) (i3 : Int32) (o4 : Option Value) (o5 : Option Value) (o6 : Option Value) (si0 : Int32) (sj1 : Int64) (h : jm_H) : Option jm_R := jm_B d mX11_withPlay (120, [some (.ref p0), o1, o2, some (.int i3), o4, o5, o6], [.int si0, .long sj1]) h
noncomputable def kX11_withPlay_142 (d : Nat) (p0 : Nat) (o1 : Option Value) (o2 : Option Value) (i3 : Int32) (j4 : Int64) (i6 : Int32) (h : jm_H) : Option jm_R := jm_B d mX11_withPlay (142, [some (.ref p0), o1, o2, some (.int i3), some (.long j4), none, some (.int i6)], []) h
noncomputable def kX11_withPlay_182 (d : Nat) (p0 : Nat) (o1 : Option Value) (o2 : Option Value) (i3 : Int32) (j4 : Int64) (i6 : Int32) (h : jm_H) : Option jm_R := jm_B d mX11_withPlay (182, [some (.ref p0), o1, o2, some (.int i3), some (.long j4), none, some (.int i6)], []) h
theorem gX11_withPlay_97 {d : Nat} {p0 : Nat} {o1 : Option Value} {o2 : Option Value} {i3 : Int32} {o4 : Option Value} {o5 : Option Value} {o6 : Option Value} {si0 : Int32} {sj1 : Int64} {h : jm_H} {r : jm_R} (H : (jm_O h p0 11 (jc_I (jm_D d mX11_isAsTold [.ref p0, .int i3] h) (fun x40 h38 => (if x40 = 0 then kX11_withPlay_120 d p0 o1 o2 i3 (some (.long (sj1 + si0.toInt64))) none o6 0 ((sj1 + si0.toInt64) * 31) h38 else kX11_withPlay_120 d p0 o1 o2 i3 (some (.long (sj1 + si0.toInt64))) none o6 1 ((sj1 + si0.toInt64) * 31) h38)) jx)) = some r) : kX11_withPlay_97 d p0 o1 o2 i3 o4 o5 o6 si0 sj1 h = some r := by
  show jm_B d mX11_withPlay (97, [some (.ref p0), o1, o2, some (.int i3), o4, o5, o6], [.int si0, .long sj1]) h = some r
  refine Eq.trans (jb_nx (i := .i2l) (n := 1) (q := (98, [some (.ref p0), o1, o2, some (.int i3), o4, o5, o6], [.long si0.toInt64, .long sj1])) (jq qX11_withPlay 57 rfl) rfl) ?_
  refine Eq.trans (jb_nx (i := .ladd) (n := 1) (q := (99, [some (.ref p0), o1, o2, some (.int i3), o4, o5, o6], [.long (sj1 + si0.toInt64)])) (jq qX11_withPlay 58 rfl) rfl) ?_
  refine Eq.trans (jb_nx (i := .lstore 4) (n := 2) (q := (101, [some (.ref p0), o1, o2, some (.int i3), some (.long (sj1 + si0.toInt64)), none, o6], [])) (jq qX11_withPlay 59 rfl) rfl) ?_
  refine Eq.trans (jb_nx (i := .lload 4) (n := 2) (q := (103, [some (.ref p0), o1, o2, some (.int i3), some (.long (sj1 + si0.toInt64)), none, o6], [.long (sj1 + si0.toInt64)])) (jq qX11_withPlay 60 rfl) rfl) ?_
  refine Eq.trans (jb_nx (i := .ldc2_w 268) (n := 3) (q := (106, [some (.ref p0), o1, o2, some (.int i3), some (.long (sj1 + si0.toInt64)), none, o6], [.long 31, .long (sj1 + si0.toInt64)])) (jq qX11_withPlay 61 rfl) rfl) ?_
  refine Eq.trans (jb_nx (i := .lmul) (n := 1) (q := (107, [some (.ref p0), o1, o2, some (.int i3), some (.long (sj1 + si0.toInt64)), none, o6], [.long ((sj1 + si0.toInt64) * 31)])) (jq qX11_withPlay 62 rfl) rfl) ?_
  refine Eq.trans (jb_nx (i := .aload_n 0) (n := 1) (q := (108, [some (.ref p0), o1, o2, some (.int i3), some (.long (sj1 + si0.toInt64)), none, o6], [.ref p0, .long ((sj1 + si0.toInt64) * 31)])) (jq qX11_withPlay 63 rfl) rfl) ?_
  refine Eq.trans (jb_nx (i := .iload_n 3) (n := 1) (q := (109, [some (.ref p0), o1, o2, some (.int i3), some (.long (sj1 + si0.toInt64)), none, o6], [.int i3, .ref p0, .long ((sj1 + si0.toInt64) * 31)])) (jq qX11_withPlay 64 rfl) rfl) ?_
  obtain ⟨b42, H⟩ := jm_O_inv H
  rcases jcI H with ⟨x40, h38, r39, H⟩ | ⟨w43, h44, r39, H⟩
  · refine Eq.trans (jb_nx (i := .invokevirtual 310) (n := 3) (q := (112, [some (.ref p0), o1, o2, some (.int i3), some (.long (sj1 + si0.toInt64)), none, o6], [.int x40, .long ((sj1 + si0.toInt64) * 31)])) (jq qX11_withPlay 65 rfl) (jo_cv (y := mX11_isAsTold) rfl (Nat.le_of_ble_eq_true rfl) rfl (Nat.le_of_ble_eq_true rfl) b42 rfl r39 jo_ret)) ?_
    by_cases c41 : x40 = 0
    · rw [if_pos c41] at H
      refine Eq.trans (jb_nx (i := .ifCond .eq 7) (n := 3) (q := (119, [some (.ref p0), o1, o2, some (.int i3), some (.long (sj1 + si0.toInt64)), none, o6], [.long ((sj1 + si0.toInt64) * 31)])) (jq qX11_withPlay 66 rfl) (jo_ifT (jz_eqT c41) rfl)) ?_
      refine Eq.trans (jb_nx (i := .iconst 0) (n := 1) (q := (120, [some (.ref p0), o1, o2, some (.int i3), some (.long (sj1 + si0.toInt64)), none, o6], [.int 0, .long ((sj1 + si0.toInt64) * 31)])) (jq qX11_withPlay 69 rfl) rfl) ?_
      exact H
    · rw [if_neg c41] at H
      refine Eq.trans (jb_nx (i := .ifCond .eq 7) (n := 3) (q := (115, [some (.ref p0), o1, o2, some (.int i3), some (.long (sj1 + si0.toInt64)), none, o6], [.long ((sj1 + si0.toInt64) * 31)])) (jq qX11_withPlay 66 rfl) (jo_ifF (jz_eqF c41))) ?_
      refine Eq.trans (jb_nx (i := .iconst 1) (n := 1) (q := (116, [some (.ref p0), o1, o2, some (.int i3), some (.long (sj1 + si0.toInt64)), none, o6], [.int 1, .long ((sj1 + si0.toInt64) * 31)])) (jq qX11_withPlay 67 rfl) rfl) ?_
      refine Eq.trans (jb_nx (i := .goto 4) (n := 3) (q := (120, [some (.ref p0), o1, o2, some (.int i3), some (.long (sj1 + si0.toInt64)), none, o6], [.int 1, .long ((sj1 + si0.toInt64) * 31)])) (jq qX11_withPlay 68 rfl) rfl) ?_
      exact H
  · exact Eq.trans (jb_rt (i := .invokevirtual 310) (n := 3) (jq qX11_withPlay 65 rfl) (jo_cv (y := mX11_isAsTold) rfl (Nat.le_of_ble_eq_true rfl) rfl (Nat.le_of_ble_eq_true rfl) b42 rfl r39 (jo_exn rfl))) H
theorem gX11_withPlay_120 {d : Nat} {p0 : Nat} {o1 : Option Value} {o2 : Option Value} {i3 : Int32} {o4 : Option Value} {o5 : Option Value} {o6 : Option Value} {si0 : Int32} {sj1 : Int64} {h : jm_H} {r : jm_R} (H : (jm_O h p0 11 (jc_I (jm_D d mX11_textLength [.ref p0, .int i3] h) (fun x47 h45 => kX11_withPlay_142 d p0 o1 o2 i3 (((sj1 + si0.toInt64) * 31) + x47.toInt64) 0 h45) jx)) = some r) : kX11_withPlay_120 d p0 o1 o2 i3 o4 o5 o6 si0 sj1 h = some r := by
  show jm_B d mX11_withPlay (120, [some (.ref p0), o1, o2, some (.int i3), o4, o5, o6], [.int si0, .long sj1]) h = some r
  refine Eq.trans (jb_nx (i := .i2l) (n := 1) (q := (121, [some (.ref p0), o1, o2, some (.int i3), o4, o5, o6], [.long si0.toInt64, .long sj1])) (jq qX11_withPlay 70 rfl) rfl) ?_
  refine Eq.trans (jb_nx (i := .ladd) (n := 1) (q := (122, [some (.ref p0), o1, o2, some (.int i3), o4, o5, o6], [.long (sj1 + si0.toInt64)])) (jq qX11_withPlay 71 rfl) rfl) ?_
  refine Eq.trans (jb_nx (i := .lstore 4) (n := 2) (q := (124, [some (.ref p0), o1, o2, some (.int i3), some (.long (sj1 + si0.toInt64)), none, o6], [])) (jq qX11_withPlay 72 rfl) rfl) ?_
  refine Eq.trans (jb_nx (i := .lload 4) (n := 2) (q := (126, [some (.ref p0), o1, o2, some (.int i3), some (.long (sj1 + si0.toInt64)), none, o6], [.long (sj1 + si0.toInt64)])) (jq qX11_withPlay 73 rfl) rfl) ?_
  refine Eq.trans (jb_nx (i := .ldc2_w 268) (n := 3) (q := (129, [some (.ref p0), o1, o2, some (.int i3), some (.long (sj1 + si0.toInt64)), none, o6], [.long 31, .long (sj1 + si0.toInt64)])) (jq qX11_withPlay 74 rfl) rfl) ?_
  refine Eq.trans (jb_nx (i := .lmul) (n := 1) (q := (130, [some (.ref p0), o1, o2, some (.int i3), some (.long (sj1 + si0.toInt64)), none, o6], [.long ((sj1 + si0.toInt64) * 31)])) (jq qX11_withPlay 75 rfl) rfl) ?_
  refine Eq.trans (jb_nx (i := .aload_n 0) (n := 1) (q := (131, [some (.ref p0), o1, o2, some (.int i3), some (.long (sj1 + si0.toInt64)), none, o6], [.ref p0, .long ((sj1 + si0.toInt64) * 31)])) (jq qX11_withPlay 76 rfl) rfl) ?_
  refine Eq.trans (jb_nx (i := .iload_n 3) (n := 1) (q := (132, [some (.ref p0), o1, o2, some (.int i3), some (.long (sj1 + si0.toInt64)), none, o6], [.int i3, .ref p0, .long ((sj1 + si0.toInt64) * 31)])) (jq qX11_withPlay 77 rfl) rfl) ?_
  obtain ⟨b48, H⟩ := jm_O_inv H
  rcases jcI H with ⟨x47, h45, r46, H⟩ | ⟨w49, h50, r46, H⟩
  · refine Eq.trans (jb_nx (i := .invokevirtual 313) (n := 3) (q := (135, [some (.ref p0), o1, o2, some (.int i3), some (.long (sj1 + si0.toInt64)), none, o6], [.int x47, .long ((sj1 + si0.toInt64) * 31)])) (jq qX11_withPlay 78 rfl) (jo_cv (y := mX11_textLength) rfl (Nat.le_of_ble_eq_true rfl) rfl (Nat.le_of_ble_eq_true rfl) b48 rfl r46 jo_ret)) ?_
    refine Eq.trans (jb_nx (i := .i2l) (n := 1) (q := (136, [some (.ref p0), o1, o2, some (.int i3), some (.long (sj1 + si0.toInt64)), none, o6], [.long x47.toInt64, .long ((sj1 + si0.toInt64) * 31)])) (jq qX11_withPlay 79 rfl) rfl) ?_
    refine Eq.trans (jb_nx (i := .ladd) (n := 1) (q := (137, [some (.ref p0), o1, o2, some (.int i3), some (.long (sj1 + si0.toInt64)), none, o6], [.long (((sj1 + si0.toInt64) * 31) + x47.toInt64)])) (jq qX11_withPlay 80 rfl) rfl) ?_
    refine Eq.trans (jb_nx (i := .lstore 4) (n := 2) (q := (139, [some (.ref p0), o1, o2, some (.int i3), some (.long (((sj1 + si0.toInt64) * 31) + x47.toInt64)), none, o6], [])) (jq qX11_withPlay 81 rfl) rfl) ?_
    refine Eq.trans (jb_nx (i := .iconst 0) (n := 1) (q := (140, [some (.ref p0), o1, o2, some (.int i3), some (.long (((sj1 + si0.toInt64) * 31) + x47.toInt64)), none, o6], [.int 0])) (jq qX11_withPlay 82 rfl) rfl) ?_
    refine Eq.trans (jb_nx (i := .istore 6) (n := 2) (q := (142, [some (.ref p0), o1, o2, some (.int i3), some (.long (((sj1 + si0.toInt64) * 31) + x47.toInt64)), none, some (.int 0)], [])) (jq qX11_withPlay 83 rfl) rfl) ?_
    exact H
  · exact Eq.trans (jb_rt (i := .invokevirtual 313) (n := 3) (jq qX11_withPlay 78 rfl) (jo_cv (y := mX11_textLength) rfl (Nat.le_of_ble_eq_true rfl) rfl (Nat.le_of_ble_eq_true rfl) b48 rfl r46 (jo_exn rfl))) H
theorem gX11_withPlay_142 {d : Nat} {p0 : Nat} {o1 : Option Value} {o2 : Option Value} {i3 : Int32} {j4 : Int64} {i6 : Int32} {h : jm_H} {r : jm_R} (H : ((jr_R h p0 10 13 2).bind fun a51 => (jr_I h a51 8 0 0).bind fun x53 => (if i6 < x53 then (jr_R h p0 10 13 2).bind fun a56 => jm_O h a56 8 (jc_I (jm_D d mX8_letter [.ref a56, .int i6] h) (fun x60 h58 => kX11_withPlay_142 d p0 o1 o2 i3 ((j4 * 31) + x60.toInt64) (i6 + 1) h58) jx) else kX11_withPlay_182 d p0 o1 o2 i3 j4 0 h)) = some r) : kX11_withPlay_142 d p0 o1 o2 i3 j4 i6 h = some r := by
  show jm_B d mX11_withPlay (142, [some (.ref p0), o1, o2, some (.int i3), some (.long j4), none, some (.int i6)], []) h = some r
  refine Eq.trans (jb_nx (i := .iload 6) (n := 2) (q := (144, [some (.ref p0), o1, o2, some (.int i3), some (.long j4), none, some (.int i6)], [.int i6])) (jq qX11_withPlay 84 rfl) rfl) ?_
  refine Eq.trans (jb_nx (i := .aload_n 0) (n := 1) (q := (145, [some (.ref p0), o1, o2, some (.int i3), some (.long j4), none, some (.int i6)], [.ref p0, .int i6])) (jq qX11_withPlay 85 rfl) rfl) ?_
  obtain ⟨a51, e52, H⟩ := jbd H
  refine Eq.trans (jb_nx (i := .getfield 36) (n := 3) (q := (148, [some (.ref p0), o1, o2, some (.int i3), some (.long j4), none, some (.int i6)], [.ref a51, .int i6])) (jq qX11_withPlay 86 rfl) (jo_gf rfl (jr_R_inv e52))) ?_
  obtain ⟨x53, e54, H⟩ := jbd H
  refine Eq.trans (jb_nx (i := .getfield 190) (n := 3) (q := (151, [some (.ref p0), o1, o2, some (.int i3), some (.long j4), none, some (.int i6)], [.int x53, .int i6])) (jq qX11_withPlay 87 rfl) (jo_gf rfl (jr_I_inv e54))) ?_
  by_cases c55 : i6 < x53
  · rw [if_pos c55] at H
    refine Eq.trans (jb_nx (i := .if_icmp .ge 28) (n := 3) (q := (154, [some (.ref p0), o1, o2, some (.int i3), some (.long j4), none, some (.int i6)], [])) (jq qX11_withPlay 88 rfl) (jo_icF (jz_geF c55))) ?_
    refine Eq.trans (jb_nx (i := .lload 4) (n := 2) (q := (156, [some (.ref p0), o1, o2, some (.int i3), some (.long j4), none, some (.int i6)], [.long j4])) (jq qX11_withPlay 89 rfl) rfl) ?_
    refine Eq.trans (jb_nx (i := .ldc2_w 268) (n := 3) (q := (159, [some (.ref p0), o1, o2, some (.int i3), some (.long j4), none, some (.int i6)], [.long 31, .long j4])) (jq qX11_withPlay 90 rfl) rfl) ?_
    refine Eq.trans (jb_nx (i := .lmul) (n := 1) (q := (160, [some (.ref p0), o1, o2, some (.int i3), some (.long j4), none, some (.int i6)], [.long (j4 * 31)])) (jq qX11_withPlay 91 rfl) rfl) ?_
    refine Eq.trans (jb_nx (i := .aload_n 0) (n := 1) (q := (161, [some (.ref p0), o1, o2, some (.int i3), some (.long j4), none, some (.int i6)], [.ref p0, .long (j4 * 31)])) (jq qX11_withPlay 92 rfl) rfl) ?_
    obtain ⟨a56, e57, H⟩ := jbd H
    refine Eq.trans (jb_nx (i := .getfield 36) (n := 3) (q := (164, [some (.ref p0), o1, o2, some (.int i3), some (.long j4), none, some (.int i6)], [.ref a56, .long (j4 * 31)])) (jq qX11_withPlay 93 rfl) (jo_gf rfl (jr_R_inv e57))) ?_
    refine Eq.trans (jb_nx (i := .iload 6) (n := 2) (q := (166, [some (.ref p0), o1, o2, some (.int i3), some (.long j4), none, some (.int i6)], [.int i6, .ref a56, .long (j4 * 31)])) (jq qX11_withPlay 94 rfl) rfl) ?_
    obtain ⟨b61, H⟩ := jm_O_inv H
    rcases jcI H with ⟨x60, h58, r59, H⟩ | ⟨w62, h63, r59, H⟩
    · refine Eq.trans (jb_nx (i := .invokevirtual 195) (n := 3) (q := (169, [some (.ref p0), o1, o2, some (.int i3), some (.long j4), none, some (.int i6)], [.int x60, .long (j4 * 31)])) (jq qX11_withPlay 95 rfl) (jo_cv (y := mX8_letter) rfl (Nat.le_of_ble_eq_true rfl) rfl (Nat.le_of_ble_eq_true rfl) b61 rfl r59 jo_ret)) ?_
      refine Eq.trans (jb_nx (i := .i2l) (n := 1) (q := (170, [some (.ref p0), o1, o2, some (.int i3), some (.long j4), none, some (.int i6)], [.long x60.toInt64, .long (j4 * 31)])) (jq qX11_withPlay 96 rfl) rfl) ?_
      refine Eq.trans (jb_nx (i := .ladd) (n := 1) (q := (171, [some (.ref p0), o1, o2, some (.int i3), some (.long j4), none, some (.int i6)], [.long ((j4 * 31) + x60.toInt64)])) (jq qX11_withPlay 97 rfl) rfl) ?_
      refine Eq.trans (jb_nx (i := .lstore 4) (n := 2) (q := (173, [some (.ref p0), o1, o2, some (.int i3), some (.long ((j4 * 31) + x60.toInt64)), none, some (.int i6)], [])) (jq qX11_withPlay 98 rfl) rfl) ?_
      refine Eq.trans (jb_nx (i := .iinc 6 1) (n := 3) (q := (176, [some (.ref p0), o1, o2, some (.int i3), some (.long ((j4 * 31) + x60.toInt64)), none, some (.int (i6 + 1))], [])) (jq qX11_withPlay 99 rfl) rfl) ?_
      refine Eq.trans (jb_nx (i := .goto (-34)) (n := 3) (q := (142, [some (.ref p0), o1, o2, some (.int i3), some (.long ((j4 * 31) + x60.toInt64)), none, some (.int (i6 + 1))], [])) (jq qX11_withPlay 100 rfl) rfl) ?_
      exact H
    · exact Eq.trans (jb_rt (i := .invokevirtual 195) (n := 3) (jq qX11_withPlay 95 rfl) (jo_cv (y := mX8_letter) rfl (Nat.le_of_ble_eq_true rfl) rfl (Nat.le_of_ble_eq_true rfl) b61 rfl r59 (jo_exn rfl))) H
  · rw [if_neg c55] at H
    refine Eq.trans (jb_nx (i := .if_icmp .ge 28) (n := 3) (q := (179, [some (.ref p0), o1, o2, some (.int i3), some (.long j4), none, some (.int i6)], [])) (jq qX11_withPlay 88 rfl) (jo_icT (jz_geT c55) rfl)) ?_
    refine Eq.trans (jb_nx (i := .iconst 0) (n := 1) (q := (180, [some (.ref p0), o1, o2, some (.int i3), some (.long j4), none, some (.int i6)], [.int 0])) (jq qX11_withPlay 101 rfl) rfl) ?_
    refine Eq.trans (jb_nx (i := .istore 6) (n := 2) (q := (182, [some (.ref p0), o1, o2, some (.int i3), some (.long j4), none, some (.int 0)], [])) (jq qX11_withPlay 102 rfl) rfl) ?_
    exact H
theorem gX11_withPlay_182 {d : Nat} {p0 : Nat} {o1 : Option Value} {o2 : Option Value} {i3 : Int32} {j4 : Int64} {i6 : Int32} {h : jm_H} {r : jm_R} (H : ((jr_R h p0 10 6 2).bind fun a64 => (jr_I h a64 0 0 0).bind fun x66 => (if i6 < x66 then jm_O h p0 11 (jc_I (jm_D d mX11_standsIn [.ref p0, .int i3, .int i6] h) (fun x71 h69 => kX11_withPlay_182 d p0 o1 o2 i3 ((j4 * 31) + x71.toInt64) (i6 + 1) h69) jx) else some (.inl (some (.long j4)), h))) = some r) : kX11_withPlay_182 d p0 o1 o2 i3 j4 i6 h = some r := by
  show jm_B d mX11_withPlay (182, [some (.ref p0), o1, o2, some (.int i3), some (.long j4), none, some (.int i6)], []) h = some r
  refine Eq.trans (jb_nx (i := .iload 6) (n := 2) (q := (184, [some (.ref p0), o1, o2, some (.int i3), some (.long j4), none, some (.int i6)], [.int i6])) (jq qX11_withPlay 103 rfl) rfl) ?_
  refine Eq.trans (jb_nx (i := .aload_n 0) (n := 1) (q := (185, [some (.ref p0), o1, o2, some (.int i3), some (.long j4), none, some (.int i6)], [.ref p0, .int i6])) (jq qX11_withPlay 104 rfl) rfl) ?_
  obtain ⟨a64, e65, H⟩ := jbd H
  refine Eq.trans (jb_nx (i := .getfield 19) (n := 3) (q := (188, [some (.ref p0), o1, o2, some (.int i3), some (.long j4), none, some (.int i6)], [.ref a64, .int i6])) (jq qX11_withPlay 105 rfl) (jo_gf rfl (jr_R_inv e65))) ?_
  obtain ⟨x66, e67, H⟩ := jbd H
  refine Eq.trans (jb_nx (i := .getfield 132) (n := 3) (q := (191, [some (.ref p0), o1, o2, some (.int i3), some (.long j4), none, some (.int i6)], [.int x66, .int i6])) (jq qX11_withPlay 106 rfl) (jo_gf rfl (jr_I_inv e67))) ?_
  by_cases c68 : i6 < x66
  · rw [if_pos c68] at H
    refine Eq.trans (jb_nx (i := .if_icmp .ge 26) (n := 3) (q := (194, [some (.ref p0), o1, o2, some (.int i3), some (.long j4), none, some (.int i6)], [])) (jq qX11_withPlay 107 rfl) (jo_icF (jz_geF c68))) ?_
    refine Eq.trans (jb_nx (i := .lload 4) (n := 2) (q := (196, [some (.ref p0), o1, o2, some (.int i3), some (.long j4), none, some (.int i6)], [.long j4])) (jq qX11_withPlay 108 rfl) rfl) ?_
    refine Eq.trans (jb_nx (i := .ldc2_w 268) (n := 3) (q := (199, [some (.ref p0), o1, o2, some (.int i3), some (.long j4), none, some (.int i6)], [.long 31, .long j4])) (jq qX11_withPlay 109 rfl) rfl) ?_
    refine Eq.trans (jb_nx (i := .lmul) (n := 1) (q := (200, [some (.ref p0), o1, o2, some (.int i3), some (.long j4), none, some (.int i6)], [.long (j4 * 31)])) (jq qX11_withPlay 110 rfl) rfl) ?_
    refine Eq.trans (jb_nx (i := .aload_n 0) (n := 1) (q := (201, [some (.ref p0), o1, o2, some (.int i3), some (.long j4), none, some (.int i6)], [.ref p0, .long (j4 * 31)])) (jq qX11_withPlay 111 rfl) rfl) ?_
    refine Eq.trans (jb_nx (i := .iload_n 3) (n := 1) (q := (202, [some (.ref p0), o1, o2, some (.int i3), some (.long j4), none, some (.int i6)], [.int i3, .ref p0, .long (j4 * 31)])) (jq qX11_withPlay 112 rfl) rfl) ?_
    refine Eq.trans (jb_nx (i := .iload 6) (n := 2) (q := (204, [some (.ref p0), o1, o2, some (.int i3), some (.long j4), none, some (.int i6)], [.int i6, .int i3, .ref p0, .long (j4 * 31)])) (jq qX11_withPlay 113 rfl) rfl) ?_
    obtain ⟨b72, H⟩ := jm_O_inv H
    rcases jcI H with ⟨x71, h69, r70, H⟩ | ⟨w73, h74, r70, H⟩
    · refine Eq.trans (jb_nx (i := .invokevirtual 316) (n := 3) (q := (207, [some (.ref p0), o1, o2, some (.int i3), some (.long j4), none, some (.int i6)], [.int x71, .long (j4 * 31)])) (jq qX11_withPlay 114 rfl) (jo_cv (y := mX11_standsIn) rfl (Nat.le_of_ble_eq_true rfl) rfl (Nat.le_of_ble_eq_true rfl) b72 rfl r70 jo_ret)) ?_
      refine Eq.trans (jb_nx (i := .i2l) (n := 1) (q := (208, [some (.ref p0), o1, o2, some (.int i3), some (.long j4), none, some (.int i6)], [.long x71.toInt64, .long (j4 * 31)])) (jq qX11_withPlay 115 rfl) rfl) ?_
      refine Eq.trans (jb_nx (i := .ladd) (n := 1) (q := (209, [some (.ref p0), o1, o2, some (.int i3), some (.long j4), none, some (.int i6)], [.long ((j4 * 31) + x71.toInt64)])) (jq qX11_withPlay 116 rfl) rfl) ?_
      refine Eq.trans (jb_nx (i := .lstore 4) (n := 2) (q := (211, [some (.ref p0), o1, o2, some (.int i3), some (.long ((j4 * 31) + x71.toInt64)), none, some (.int i6)], [])) (jq qX11_withPlay 117 rfl) rfl) ?_
      refine Eq.trans (jb_nx (i := .iinc 6 1) (n := 3) (q := (214, [some (.ref p0), o1, o2, some (.int i3), some (.long ((j4 * 31) + x71.toInt64)), none, some (.int (i6 + 1))], [])) (jq qX11_withPlay 118 rfl) rfl) ?_
      refine Eq.trans (jb_nx (i := .goto (-32)) (n := 3) (q := (182, [some (.ref p0), o1, o2, some (.int i3), some (.long ((j4 * 31) + x71.toInt64)), none, some (.int (i6 + 1))], [])) (jq qX11_withPlay 119 rfl) rfl) ?_
      exact H
    · exact Eq.trans (jb_rt (i := .invokevirtual 316) (n := 3) (jq qX11_withPlay 114 rfl) (jo_cv (y := mX11_standsIn) rfl (Nat.le_of_ble_eq_true rfl) rfl (Nat.le_of_ble_eq_true rfl) b72 rfl r70 (jo_exn rfl))) H
  · rw [if_neg c68] at H
    refine Eq.trans (jb_nx (i := .if_icmp .ge 26) (n := 3) (q := (217, [some (.ref p0), o1, o2, some (.int i3), some (.long j4), none, some (.int i6)], [])) (jq qX11_withPlay 107 rfl) (jo_icT (jz_geT c68) rfl)) ?_
    refine Eq.trans (jb_nx (i := .lload 4) (n := 2) (q := (219, [some (.ref p0), o1, o2, some (.int i3), some (.long j4), none, some (.int i6)], [.long j4])) (jq qX11_withPlay 120 rfl) rfl) ?_
    exact Eq.trans (jb_rt (i := .lreturn) (n := 1) (jq qX11_withPlay 121 rfl) rfl) H
theorem gX11_withPlay {d : Nat} {p0 : Nat} {j1 : Int64} {i3 : Int32} {h : jm_H} {r : jm_R} (H : (jm_O h p0 11 (jc_I (jm_D d mX11_sizeOf [.ref p0, .int i3] h) (fun x3 h1 => jm_O h1 p0 11 (jc_I (jm_D d mX11_masksIn [.ref p0, .int i3] h1) (fun x6 h4 => jm_O h4 p0 11 (jc_I (jm_D d mX11_scenesIn [.ref p0, .int i3] h4) (fun x9 h7 => jm_O h7 p0 11 (jc_I (jm_D d mX11_mostMasksAround [.ref p0, .int i3] h7) (fun x12 h10 => jm_O h10 p0 11 (jc_I (jm_D d mX11_stepsDone [.ref p0, .int i3] h10) (fun x15 h13 => jm_O h13 p0 11 (jc_I (jm_D d mX11_isFinished [.ref p0, .int i3] h13) (fun x18 h16 => (if x18 = 0 then kX11_withPlay_97 d p0 (some (.long j1)) none i3 (some (.long ((((((((((j1 * 31) + x3.toInt64) * 31) + x6.toInt64) * 31) + x9.toInt64) * 31) + x12.toInt64) * 31) + x15.toInt64))) none none 0 (((((((((((j1 * 31) + x3.toInt64) * 31) + x6.toInt64) * 31) + x9.toInt64) * 31) + x12.toInt64) * 31) + x15.toInt64) * 31) h16 else kX11_withPlay_97 d p0 (some (.long j1)) none i3 (some (.long ((((((((((j1 * 31) + x3.toInt64) * 31) + x6.toInt64) * 31) + x9.toInt64) * 31) + x12.toInt64) * 31) + x15.toInt64))) none none 1 (((((((((((j1 * 31) + x3.toInt64) * 31) + x6.toInt64) * 31) + x9.toInt64) * 31) + x12.toInt64) * 31) + x15.toInt64) * 31) h16)) jx)) jx)) jx)) jx)) jx)) jx)) = some r) : jm_D (d + 1) mX11_withPlay [.ref p0, .long j1, .int i3] h = some r := by
  rw [jm_D_body (Nat.le_of_ble_eq_true rfl)]
  show jm_B d mX11_withPlay (0, [some (.ref p0), some (.long j1), none, some (.int i3), none, none, none], []) h = some r
  refine Eq.trans (jb_nx (i := .lload_n 1) (n := 1) (q := (1, [some (.ref p0), some (.long j1), none, some (.int i3), none, none, none], [.long j1])) (jq qX11_withPlay 0 rfl) rfl) ?_
  refine Eq.trans (jb_nx (i := .lstore 4) (n := 2) (q := (3, [some (.ref p0), some (.long j1), none, some (.int i3), some (.long j1), none, none], [])) (jq qX11_withPlay 1 rfl) rfl) ?_
  refine Eq.trans (jb_nx (i := .lload 4) (n := 2) (q := (5, [some (.ref p0), some (.long j1), none, some (.int i3), some (.long j1), none, none], [.long j1])) (jq qX11_withPlay 2 rfl) rfl) ?_
  refine Eq.trans (jb_nx (i := .ldc2_w 268) (n := 3) (q := (8, [some (.ref p0), some (.long j1), none, some (.int i3), some (.long j1), none, none], [.long 31, .long j1])) (jq qX11_withPlay 3 rfl) rfl) ?_
  refine Eq.trans (jb_nx (i := .lmul) (n := 1) (q := (9, [some (.ref p0), some (.long j1), none, some (.int i3), some (.long j1), none, none], [.long (j1 * 31)])) (jq qX11_withPlay 4 rfl) rfl) ?_
  refine Eq.trans (jb_nx (i := .aload_n 0) (n := 1) (q := (10, [some (.ref p0), some (.long j1), none, some (.int i3), some (.long j1), none, none], [.ref p0, .long (j1 * 31)])) (jq qX11_withPlay 5 rfl) rfl) ?_
  refine Eq.trans (jb_nx (i := .iload_n 3) (n := 1) (q := (11, [some (.ref p0), some (.long j1), none, some (.int i3), some (.long j1), none, none], [.int i3, .ref p0, .long (j1 * 31)])) (jq qX11_withPlay 6 rfl) rfl) ?_
  obtain ⟨b35, H⟩ := jm_O_inv H
  rcases jcI H with ⟨x3, h1, r2, H⟩ | ⟨w36, h37, r2, H⟩
  · refine Eq.trans (jb_nx (i := .invokevirtual 292) (n := 3) (q := (14, [some (.ref p0), some (.long j1), none, some (.int i3), some (.long j1), none, none], [.int x3, .long (j1 * 31)])) (jq qX11_withPlay 7 rfl) (jo_cv (y := mX11_sizeOf) rfl (Nat.le_of_ble_eq_true rfl) rfl (Nat.le_of_ble_eq_true rfl) b35 rfl r2 jo_ret)) ?_
    refine Eq.trans (jb_nx (i := .i2l) (n := 1) (q := (15, [some (.ref p0), some (.long j1), none, some (.int i3), some (.long j1), none, none], [.long x3.toInt64, .long (j1 * 31)])) (jq qX11_withPlay 8 rfl) rfl) ?_
    refine Eq.trans (jb_nx (i := .ladd) (n := 1) (q := (16, [some (.ref p0), some (.long j1), none, some (.int i3), some (.long j1), none, none], [.long ((j1 * 31) + x3.toInt64)])) (jq qX11_withPlay 9 rfl) rfl) ?_
    refine Eq.trans (jb_nx (i := .lstore 4) (n := 2) (q := (18, [some (.ref p0), some (.long j1), none, some (.int i3), some (.long ((j1 * 31) + x3.toInt64)), none, none], [])) (jq qX11_withPlay 10 rfl) rfl) ?_
    refine Eq.trans (jb_nx (i := .lload 4) (n := 2) (q := (20, [some (.ref p0), some (.long j1), none, some (.int i3), some (.long ((j1 * 31) + x3.toInt64)), none, none], [.long ((j1 * 31) + x3.toInt64)])) (jq qX11_withPlay 11 rfl) rfl) ?_
    refine Eq.trans (jb_nx (i := .ldc2_w 268) (n := 3) (q := (23, [some (.ref p0), some (.long j1), none, some (.int i3), some (.long ((j1 * 31) + x3.toInt64)), none, none], [.long 31, .long ((j1 * 31) + x3.toInt64)])) (jq qX11_withPlay 12 rfl) rfl) ?_
    refine Eq.trans (jb_nx (i := .lmul) (n := 1) (q := (24, [some (.ref p0), some (.long j1), none, some (.int i3), some (.long ((j1 * 31) + x3.toInt64)), none, none], [.long (((j1 * 31) + x3.toInt64) * 31)])) (jq qX11_withPlay 13 rfl) rfl) ?_
    refine Eq.trans (jb_nx (i := .aload_n 0) (n := 1) (q := (25, [some (.ref p0), some (.long j1), none, some (.int i3), some (.long ((j1 * 31) + x3.toInt64)), none, none], [.ref p0, .long (((j1 * 31) + x3.toInt64) * 31)])) (jq qX11_withPlay 14 rfl) rfl) ?_
    refine Eq.trans (jb_nx (i := .iload_n 3) (n := 1) (q := (26, [some (.ref p0), some (.long j1), none, some (.int i3), some (.long ((j1 * 31) + x3.toInt64)), none, none], [.int i3, .ref p0, .long (((j1 * 31) + x3.toInt64) * 31)])) (jq qX11_withPlay 15 rfl) rfl) ?_
    obtain ⟨b32, H⟩ := jm_O_inv H
    rcases jcI H with ⟨x6, h4, r5, H⟩ | ⟨w33, h34, r5, H⟩
    · refine Eq.trans (jb_nx (i := .invokevirtual 295) (n := 3) (q := (29, [some (.ref p0), some (.long j1), none, some (.int i3), some (.long ((j1 * 31) + x3.toInt64)), none, none], [.int x6, .long (((j1 * 31) + x3.toInt64) * 31)])) (jq qX11_withPlay 16 rfl) (jo_cv (y := mX11_masksIn) rfl (Nat.le_of_ble_eq_true rfl) rfl (Nat.le_of_ble_eq_true rfl) b32 rfl r5 jo_ret)) ?_
      refine Eq.trans (jb_nx (i := .i2l) (n := 1) (q := (30, [some (.ref p0), some (.long j1), none, some (.int i3), some (.long ((j1 * 31) + x3.toInt64)), none, none], [.long x6.toInt64, .long (((j1 * 31) + x3.toInt64) * 31)])) (jq qX11_withPlay 17 rfl) rfl) ?_
      refine Eq.trans (jb_nx (i := .ladd) (n := 1) (q := (31, [some (.ref p0), some (.long j1), none, some (.int i3), some (.long ((j1 * 31) + x3.toInt64)), none, none], [.long ((((j1 * 31) + x3.toInt64) * 31) + x6.toInt64)])) (jq qX11_withPlay 18 rfl) rfl) ?_
      refine Eq.trans (jb_nx (i := .lstore 4) (n := 2) (q := (33, [some (.ref p0), some (.long j1), none, some (.int i3), some (.long ((((j1 * 31) + x3.toInt64) * 31) + x6.toInt64)), none, none], [])) (jq qX11_withPlay 19 rfl) rfl) ?_
      refine Eq.trans (jb_nx (i := .lload 4) (n := 2) (q := (35, [some (.ref p0), some (.long j1), none, some (.int i3), some (.long ((((j1 * 31) + x3.toInt64) * 31) + x6.toInt64)), none, none], [.long ((((j1 * 31) + x3.toInt64) * 31) + x6.toInt64)])) (jq qX11_withPlay 20 rfl) rfl) ?_
      refine Eq.trans (jb_nx (i := .ldc2_w 268) (n := 3) (q := (38, [some (.ref p0), some (.long j1), none, some (.int i3), some (.long ((((j1 * 31) + x3.toInt64) * 31) + x6.toInt64)), none, none], [.long 31, .long ((((j1 * 31) + x3.toInt64) * 31) + x6.toInt64)])) (jq qX11_withPlay 21 rfl) rfl) ?_
      refine Eq.trans (jb_nx (i := .lmul) (n := 1) (q := (39, [some (.ref p0), some (.long j1), none, some (.int i3), some (.long ((((j1 * 31) + x3.toInt64) * 31) + x6.toInt64)), none, none], [.long (((((j1 * 31) + x3.toInt64) * 31) + x6.toInt64) * 31)])) (jq qX11_withPlay 22 rfl) rfl) ?_
      refine Eq.trans (jb_nx (i := .aload_n 0) (n := 1) (q := (40, [some (.ref p0), some (.long j1), none, some (.int i3), some (.long ((((j1 * 31) + x3.toInt64) * 31) + x6.toInt64)), none, none], [.ref p0, .long (((((j1 * 31) + x3.toInt64) * 31) + x6.toInt64) * 31)])) (jq qX11_withPlay 23 rfl) rfl) ?_
      refine Eq.trans (jb_nx (i := .iload_n 3) (n := 1) (q := (41, [some (.ref p0), some (.long j1), none, some (.int i3), some (.long ((((j1 * 31) + x3.toInt64) * 31) + x6.toInt64)), none, none], [.int i3, .ref p0, .long (((((j1 * 31) + x3.toInt64) * 31) + x6.toInt64) * 31)])) (jq qX11_withPlay 24 rfl) rfl) ?_
      obtain ⟨b29, H⟩ := jm_O_inv H
      rcases jcI H with ⟨x9, h7, r8, H⟩ | ⟨w30, h31, r8, H⟩
      · refine Eq.trans (jb_nx (i := .invokevirtual 298) (n := 3) (q := (44, [some (.ref p0), some (.long j1), none, some (.int i3), some (.long ((((j1 * 31) + x3.toInt64) * 31) + x6.toInt64)), none, none], [.int x9, .long (((((j1 * 31) + x3.toInt64) * 31) + x6.toInt64) * 31)])) (jq qX11_withPlay 25 rfl) (jo_cv (y := mX11_scenesIn) rfl (Nat.le_of_ble_eq_true rfl) rfl (Nat.le_of_ble_eq_true rfl) b29 rfl r8 jo_ret)) ?_
        refine Eq.trans (jb_nx (i := .i2l) (n := 1) (q := (45, [some (.ref p0), some (.long j1), none, some (.int i3), some (.long ((((j1 * 31) + x3.toInt64) * 31) + x6.toInt64)), none, none], [.long x9.toInt64, .long (((((j1 * 31) + x3.toInt64) * 31) + x6.toInt64) * 31)])) (jq qX11_withPlay 26 rfl) rfl) ?_
        refine Eq.trans (jb_nx (i := .ladd) (n := 1) (q := (46, [some (.ref p0), some (.long j1), none, some (.int i3), some (.long ((((j1 * 31) + x3.toInt64) * 31) + x6.toInt64)), none, none], [.long ((((((j1 * 31) + x3.toInt64) * 31) + x6.toInt64) * 31) + x9.toInt64)])) (jq qX11_withPlay 27 rfl) rfl) ?_
        refine Eq.trans (jb_nx (i := .lstore 4) (n := 2) (q := (48, [some (.ref p0), some (.long j1), none, some (.int i3), some (.long ((((((j1 * 31) + x3.toInt64) * 31) + x6.toInt64) * 31) + x9.toInt64)), none, none], [])) (jq qX11_withPlay 28 rfl) rfl) ?_
        refine Eq.trans (jb_nx (i := .lload 4) (n := 2) (q := (50, [some (.ref p0), some (.long j1), none, some (.int i3), some (.long ((((((j1 * 31) + x3.toInt64) * 31) + x6.toInt64) * 31) + x9.toInt64)), none, none], [.long ((((((j1 * 31) + x3.toInt64) * 31) + x6.toInt64) * 31) + x9.toInt64)])) (jq qX11_withPlay 29 rfl) rfl) ?_
        refine Eq.trans (jb_nx (i := .ldc2_w 268) (n := 3) (q := (53, [some (.ref p0), some (.long j1), none, some (.int i3), some (.long ((((((j1 * 31) + x3.toInt64) * 31) + x6.toInt64) * 31) + x9.toInt64)), none, none], [.long 31, .long ((((((j1 * 31) + x3.toInt64) * 31) + x6.toInt64) * 31) + x9.toInt64)])) (jq qX11_withPlay 30 rfl) rfl) ?_
        refine Eq.trans (jb_nx (i := .lmul) (n := 1) (q := (54, [some (.ref p0), some (.long j1), none, some (.int i3), some (.long ((((((j1 * 31) + x3.toInt64) * 31) + x6.toInt64) * 31) + x9.toInt64)), none, none], [.long (((((((j1 * 31) + x3.toInt64) * 31) + x6.toInt64) * 31) + x9.toInt64) * 31)])) (jq qX11_withPlay 31 rfl) rfl) ?_
        refine Eq.trans (jb_nx (i := .aload_n 0) (n := 1) (q := (55, [some (.ref p0), some (.long j1), none, some (.int i3), some (.long ((((((j1 * 31) + x3.toInt64) * 31) + x6.toInt64) * 31) + x9.toInt64)), none, none], [.ref p0, .long (((((((j1 * 31) + x3.toInt64) * 31) + x6.toInt64) * 31) + x9.toInt64) * 31)])) (jq qX11_withPlay 32 rfl) rfl) ?_
        refine Eq.trans (jb_nx (i := .iload_n 3) (n := 1) (q := (56, [some (.ref p0), some (.long j1), none, some (.int i3), some (.long ((((((j1 * 31) + x3.toInt64) * 31) + x6.toInt64) * 31) + x9.toInt64)), none, none], [.int i3, .ref p0, .long (((((((j1 * 31) + x3.toInt64) * 31) + x6.toInt64) * 31) + x9.toInt64) * 31)])) (jq qX11_withPlay 33 rfl) rfl) ?_
        obtain ⟨b26, H⟩ := jm_O_inv H
        rcases jcI H with ⟨x12, h10, r11, H⟩ | ⟨w27, h28, r11, H⟩
        · refine Eq.trans (jb_nx (i := .invokevirtual 301) (n := 3) (q := (59, [some (.ref p0), some (.long j1), none, some (.int i3), some (.long ((((((j1 * 31) + x3.toInt64) * 31) + x6.toInt64) * 31) + x9.toInt64)), none, none], [.int x12, .long (((((((j1 * 31) + x3.toInt64) * 31) + x6.toInt64) * 31) + x9.toInt64) * 31)])) (jq qX11_withPlay 34 rfl) (jo_cv (y := mX11_mostMasksAround) rfl (Nat.le_of_ble_eq_true rfl) rfl (Nat.le_of_ble_eq_true rfl) b26 rfl r11 jo_ret)) ?_
          refine Eq.trans (jb_nx (i := .i2l) (n := 1) (q := (60, [some (.ref p0), some (.long j1), none, some (.int i3), some (.long ((((((j1 * 31) + x3.toInt64) * 31) + x6.toInt64) * 31) + x9.toInt64)), none, none], [.long x12.toInt64, .long (((((((j1 * 31) + x3.toInt64) * 31) + x6.toInt64) * 31) + x9.toInt64) * 31)])) (jq qX11_withPlay 35 rfl) rfl) ?_
          refine Eq.trans (jb_nx (i := .ladd) (n := 1) (q := (61, [some (.ref p0), some (.long j1), none, some (.int i3), some (.long ((((((j1 * 31) + x3.toInt64) * 31) + x6.toInt64) * 31) + x9.toInt64)), none, none], [.long ((((((((j1 * 31) + x3.toInt64) * 31) + x6.toInt64) * 31) + x9.toInt64) * 31) + x12.toInt64)])) (jq qX11_withPlay 36 rfl) rfl) ?_
          refine Eq.trans (jb_nx (i := .lstore 4) (n := 2) (q := (63, [some (.ref p0), some (.long j1), none, some (.int i3), some (.long ((((((((j1 * 31) + x3.toInt64) * 31) + x6.toInt64) * 31) + x9.toInt64) * 31) + x12.toInt64)), none, none], [])) (jq qX11_withPlay 37 rfl) rfl) ?_
          refine Eq.trans (jb_nx (i := .lload 4) (n := 2) (q := (65, [some (.ref p0), some (.long j1), none, some (.int i3), some (.long ((((((((j1 * 31) + x3.toInt64) * 31) + x6.toInt64) * 31) + x9.toInt64) * 31) + x12.toInt64)), none, none], [.long ((((((((j1 * 31) + x3.toInt64) * 31) + x6.toInt64) * 31) + x9.toInt64) * 31) + x12.toInt64)])) (jq qX11_withPlay 38 rfl) rfl) ?_
          refine Eq.trans (jb_nx (i := .ldc2_w 268) (n := 3) (q := (68, [some (.ref p0), some (.long j1), none, some (.int i3), some (.long ((((((((j1 * 31) + x3.toInt64) * 31) + x6.toInt64) * 31) + x9.toInt64) * 31) + x12.toInt64)), none, none], [.long 31, .long ((((((((j1 * 31) + x3.toInt64) * 31) + x6.toInt64) * 31) + x9.toInt64) * 31) + x12.toInt64)])) (jq qX11_withPlay 39 rfl) rfl) ?_
          refine Eq.trans (jb_nx (i := .lmul) (n := 1) (q := (69, [some (.ref p0), some (.long j1), none, some (.int i3), some (.long ((((((((j1 * 31) + x3.toInt64) * 31) + x6.toInt64) * 31) + x9.toInt64) * 31) + x12.toInt64)), none, none], [.long (((((((((j1 * 31) + x3.toInt64) * 31) + x6.toInt64) * 31) + x9.toInt64) * 31) + x12.toInt64) * 31)])) (jq qX11_withPlay 40 rfl) rfl) ?_
          refine Eq.trans (jb_nx (i := .aload_n 0) (n := 1) (q := (70, [some (.ref p0), some (.long j1), none, some (.int i3), some (.long ((((((((j1 * 31) + x3.toInt64) * 31) + x6.toInt64) * 31) + x9.toInt64) * 31) + x12.toInt64)), none, none], [.ref p0, .long (((((((((j1 * 31) + x3.toInt64) * 31) + x6.toInt64) * 31) + x9.toInt64) * 31) + x12.toInt64) * 31)])) (jq qX11_withPlay 41 rfl) rfl) ?_
          refine Eq.trans (jb_nx (i := .iload_n 3) (n := 1) (q := (71, [some (.ref p0), some (.long j1), none, some (.int i3), some (.long ((((((((j1 * 31) + x3.toInt64) * 31) + x6.toInt64) * 31) + x9.toInt64) * 31) + x12.toInt64)), none, none], [.int i3, .ref p0, .long (((((((((j1 * 31) + x3.toInt64) * 31) + x6.toInt64) * 31) + x9.toInt64) * 31) + x12.toInt64) * 31)])) (jq qX11_withPlay 42 rfl) rfl) ?_
          obtain ⟨b23, H⟩ := jm_O_inv H
          rcases jcI H with ⟨x15, h13, r14, H⟩ | ⟨w24, h25, r14, H⟩
          · refine Eq.trans (jb_nx (i := .invokevirtual 304) (n := 3) (q := (74, [some (.ref p0), some (.long j1), none, some (.int i3), some (.long ((((((((j1 * 31) + x3.toInt64) * 31) + x6.toInt64) * 31) + x9.toInt64) * 31) + x12.toInt64)), none, none], [.int x15, .long (((((((((j1 * 31) + x3.toInt64) * 31) + x6.toInt64) * 31) + x9.toInt64) * 31) + x12.toInt64) * 31)])) (jq qX11_withPlay 43 rfl) (jo_cv (y := mX11_stepsDone) rfl (Nat.le_of_ble_eq_true rfl) rfl (Nat.le_of_ble_eq_true rfl) b23 rfl r14 jo_ret)) ?_
            refine Eq.trans (jb_nx (i := .i2l) (n := 1) (q := (75, [some (.ref p0), some (.long j1), none, some (.int i3), some (.long ((((((((j1 * 31) + x3.toInt64) * 31) + x6.toInt64) * 31) + x9.toInt64) * 31) + x12.toInt64)), none, none], [.long x15.toInt64, .long (((((((((j1 * 31) + x3.toInt64) * 31) + x6.toInt64) * 31) + x9.toInt64) * 31) + x12.toInt64) * 31)])) (jq qX11_withPlay 44 rfl) rfl) ?_
            refine Eq.trans (jb_nx (i := .ladd) (n := 1) (q := (76, [some (.ref p0), some (.long j1), none, some (.int i3), some (.long ((((((((j1 * 31) + x3.toInt64) * 31) + x6.toInt64) * 31) + x9.toInt64) * 31) + x12.toInt64)), none, none], [.long ((((((((((j1 * 31) + x3.toInt64) * 31) + x6.toInt64) * 31) + x9.toInt64) * 31) + x12.toInt64) * 31) + x15.toInt64)])) (jq qX11_withPlay 45 rfl) rfl) ?_
            refine Eq.trans (jb_nx (i := .lstore 4) (n := 2) (q := (78, [some (.ref p0), some (.long j1), none, some (.int i3), some (.long ((((((((((j1 * 31) + x3.toInt64) * 31) + x6.toInt64) * 31) + x9.toInt64) * 31) + x12.toInt64) * 31) + x15.toInt64)), none, none], [])) (jq qX11_withPlay 46 rfl) rfl) ?_
            refine Eq.trans (jb_nx (i := .lload 4) (n := 2) (q := (80, [some (.ref p0), some (.long j1), none, some (.int i3), some (.long ((((((((((j1 * 31) + x3.toInt64) * 31) + x6.toInt64) * 31) + x9.toInt64) * 31) + x12.toInt64) * 31) + x15.toInt64)), none, none], [.long ((((((((((j1 * 31) + x3.toInt64) * 31) + x6.toInt64) * 31) + x9.toInt64) * 31) + x12.toInt64) * 31) + x15.toInt64)])) (jq qX11_withPlay 47 rfl) rfl) ?_
            refine Eq.trans (jb_nx (i := .ldc2_w 268) (n := 3) (q := (83, [some (.ref p0), some (.long j1), none, some (.int i3), some (.long ((((((((((j1 * 31) + x3.toInt64) * 31) + x6.toInt64) * 31) + x9.toInt64) * 31) + x12.toInt64) * 31) + x15.toInt64)), none, none], [.long 31, .long ((((((((((j1 * 31) + x3.toInt64) * 31) + x6.toInt64) * 31) + x9.toInt64) * 31) + x12.toInt64) * 31) + x15.toInt64)])) (jq qX11_withPlay 48 rfl) rfl) ?_
            refine Eq.trans (jb_nx (i := .lmul) (n := 1) (q := (84, [some (.ref p0), some (.long j1), none, some (.int i3), some (.long ((((((((((j1 * 31) + x3.toInt64) * 31) + x6.toInt64) * 31) + x9.toInt64) * 31) + x12.toInt64) * 31) + x15.toInt64)), none, none], [.long (((((((((((j1 * 31) + x3.toInt64) * 31) + x6.toInt64) * 31) + x9.toInt64) * 31) + x12.toInt64) * 31) + x15.toInt64) * 31)])) (jq qX11_withPlay 49 rfl) rfl) ?_
            refine Eq.trans (jb_nx (i := .aload_n 0) (n := 1) (q := (85, [some (.ref p0), some (.long j1), none, some (.int i3), some (.long ((((((((((j1 * 31) + x3.toInt64) * 31) + x6.toInt64) * 31) + x9.toInt64) * 31) + x12.toInt64) * 31) + x15.toInt64)), none, none], [.ref p0, .long (((((((((((j1 * 31) + x3.toInt64) * 31) + x6.toInt64) * 31) + x9.toInt64) * 31) + x12.toInt64) * 31) + x15.toInt64) * 31)])) (jq qX11_withPlay 50 rfl) rfl) ?_
            refine Eq.trans (jb_nx (i := .iload_n 3) (n := 1) (q := (86, [some (.ref p0), some (.long j1), none, some (.int i3), some (.long ((((((((((j1 * 31) + x3.toInt64) * 31) + x6.toInt64) * 31) + x9.toInt64) * 31) + x12.toInt64) * 31) + x15.toInt64)), none, none], [.int i3, .ref p0, .long (((((((((((j1 * 31) + x3.toInt64) * 31) + x6.toInt64) * 31) + x9.toInt64) * 31) + x12.toInt64) * 31) + x15.toInt64) * 31)])) (jq qX11_withPlay 51 rfl) rfl) ?_
            obtain ⟨b20, H⟩ := jm_O_inv H
            rcases jcI H with ⟨x18, h16, r17, H⟩ | ⟨w21, h22, r17, H⟩
            · refine Eq.trans (jb_nx (i := .invokevirtual 307) (n := 3) (q := (89, [some (.ref p0), some (.long j1), none, some (.int i3), some (.long ((((((((((j1 * 31) + x3.toInt64) * 31) + x6.toInt64) * 31) + x9.toInt64) * 31) + x12.toInt64) * 31) + x15.toInt64)), none, none], [.int x18, .long (((((((((((j1 * 31) + x3.toInt64) * 31) + x6.toInt64) * 31) + x9.toInt64) * 31) + x12.toInt64) * 31) + x15.toInt64) * 31)])) (jq qX11_withPlay 52 rfl) (jo_cv (y := mX11_isFinished) rfl (Nat.le_of_ble_eq_true rfl) rfl (Nat.le_of_ble_eq_true rfl) b20 rfl r17 jo_ret)) ?_
              by_cases c19 : x18 = 0
              · rw [if_pos c19] at H
                refine Eq.trans (jb_nx (i := .ifCond .eq 7) (n := 3) (q := (96, [some (.ref p0), some (.long j1), none, some (.int i3), some (.long ((((((((((j1 * 31) + x3.toInt64) * 31) + x6.toInt64) * 31) + x9.toInt64) * 31) + x12.toInt64) * 31) + x15.toInt64)), none, none], [.long (((((((((((j1 * 31) + x3.toInt64) * 31) + x6.toInt64) * 31) + x9.toInt64) * 31) + x12.toInt64) * 31) + x15.toInt64) * 31)])) (jq qX11_withPlay 53 rfl) (jo_ifT (jz_eqT c19) rfl)) ?_
                refine Eq.trans (jb_nx (i := .iconst 0) (n := 1) (q := (97, [some (.ref p0), some (.long j1), none, some (.int i3), some (.long ((((((((((j1 * 31) + x3.toInt64) * 31) + x6.toInt64) * 31) + x9.toInt64) * 31) + x12.toInt64) * 31) + x15.toInt64)), none, none], [.int 0, .long (((((((((((j1 * 31) + x3.toInt64) * 31) + x6.toInt64) * 31) + x9.toInt64) * 31) + x12.toInt64) * 31) + x15.toInt64) * 31)])) (jq qX11_withPlay 56 rfl) rfl) ?_
                exact H
              · rw [if_neg c19] at H
                refine Eq.trans (jb_nx (i := .ifCond .eq 7) (n := 3) (q := (92, [some (.ref p0), some (.long j1), none, some (.int i3), some (.long ((((((((((j1 * 31) + x3.toInt64) * 31) + x6.toInt64) * 31) + x9.toInt64) * 31) + x12.toInt64) * 31) + x15.toInt64)), none, none], [.long (((((((((((j1 * 31) + x3.toInt64) * 31) + x6.toInt64) * 31) + x9.toInt64) * 31) + x12.toInt64) * 31) + x15.toInt64) * 31)])) (jq qX11_withPlay 53 rfl) (jo_ifF (jz_eqF c19))) ?_
                refine Eq.trans (jb_nx (i := .iconst 1) (n := 1) (q := (93, [some (.ref p0), some (.long j1), none, some (.int i3), some (.long ((((((((((j1 * 31) + x3.toInt64) * 31) + x6.toInt64) * 31) + x9.toInt64) * 31) + x12.toInt64) * 31) + x15.toInt64)), none, none], [.int 1, .long (((((((((((j1 * 31) + x3.toInt64) * 31) + x6.toInt64) * 31) + x9.toInt64) * 31) + x12.toInt64) * 31) + x15.toInt64) * 31)])) (jq qX11_withPlay 54 rfl) rfl) ?_
                refine Eq.trans (jb_nx (i := .goto 4) (n := 3) (q := (97, [some (.ref p0), some (.long j1), none, some (.int i3), some (.long ((((((((((j1 * 31) + x3.toInt64) * 31) + x6.toInt64) * 31) + x9.toInt64) * 31) + x12.toInt64) * 31) + x15.toInt64)), none, none], [.int 1, .long (((((((((((j1 * 31) + x3.toInt64) * 31) + x6.toInt64) * 31) + x9.toInt64) * 31) + x12.toInt64) * 31) + x15.toInt64) * 31)])) (jq qX11_withPlay 55 rfl) rfl) ?_
                exact H
            · exact Eq.trans (jb_rt (i := .invokevirtual 307) (n := 3) (jq qX11_withPlay 52 rfl) (jo_cv (y := mX11_isFinished) rfl (Nat.le_of_ble_eq_true rfl) rfl (Nat.le_of_ble_eq_true rfl) b20 rfl r17 (jo_exn rfl))) H
          · exact Eq.trans (jb_rt (i := .invokevirtual 304) (n := 3) (jq qX11_withPlay 43 rfl) (jo_cv (y := mX11_stepsDone) rfl (Nat.le_of_ble_eq_true rfl) rfl (Nat.le_of_ble_eq_true rfl) b23 rfl r14 (jo_exn rfl))) H
        · exact Eq.trans (jb_rt (i := .invokevirtual 301) (n := 3) (jq qX11_withPlay 34 rfl) (jo_cv (y := mX11_mostMasksAround) rfl (Nat.le_of_ble_eq_true rfl) rfl (Nat.le_of_ble_eq_true rfl) b26 rfl r11 (jo_exn rfl))) H
      · exact Eq.trans (jb_rt (i := .invokevirtual 298) (n := 3) (jq qX11_withPlay 25 rfl) (jo_cv (y := mX11_scenesIn) rfl (Nat.le_of_ble_eq_true rfl) rfl (Nat.le_of_ble_eq_true rfl) b29 rfl r8 (jo_exn rfl))) H
    · exact Eq.trans (jb_rt (i := .invokevirtual 295) (n := 3) (jq qX11_withPlay 16 rfl) (jo_cv (y := mX11_masksIn) rfl (Nat.le_of_ble_eq_true rfl) rfl (Nat.le_of_ble_eq_true rfl) b32 rfl r5 (jo_exn rfl))) H
  · exact Eq.trans (jb_rt (i := .invokevirtual 292) (n := 3) (jq qX11_withPlay 7 rfl) (jo_cv (y := mX11_sizeOf) rfl (Nat.le_of_ble_eq_true rfl) rfl (Nat.le_of_ble_eq_true rfl) b35 rfl r2 (jo_exn rfl))) H
/-! MaskPlays sizeOf (I)I -/
def tX11_sizeOf : List (Nat × Instr × Nat) := [(0, .aload_n 0, 1), (1, .iload_n 1, 1), (2, .invokevirtual 147, 3), (5, .getfield 151, 3), (8, .ireturn, 1)]
set_option maxRecDepth 100000 in
theorem qX11_sizeOf : ∀ q ∈ tX11_sizeOf, decode cX11_sizeOf q.1 = .ok (q.2.1, q.2.2) := by decide +kernel
theorem gX11_sizeOf {d : Nat} {p0 : Nat} {i1 : Int32} {h : jm_H} {r : jm_R} (H : (jm_O h p0 11 (jc_R (jm_D d mX11_partOf [.ref p0, .int i1] h) (fun a3 h1 => (jr_I h1 a3 3 0 0).bind fun x4 => some (.inl (some (.int x4)), h1)) jx)) = some r) : jm_D (d + 1) mX11_sizeOf [.ref p0, .int i1] h = some r := by
  rw [jm_D_body (Nat.le_of_ble_eq_true rfl)]
  show jm_B d mX11_sizeOf (0, [some (.ref p0), some (.int i1)], []) h = some r
  refine Eq.trans (jb_nx (i := .aload_n 0) (n := 1) (q := (1, [some (.ref p0), some (.int i1)], [.ref p0])) (jq qX11_sizeOf 0 rfl) rfl) ?_
  refine Eq.trans (jb_nx (i := .iload_n 1) (n := 1) (q := (2, [some (.ref p0), some (.int i1)], [.int i1, .ref p0])) (jq qX11_sizeOf 1 rfl) rfl) ?_
  obtain ⟨b6, H⟩ := jm_O_inv H
  rcases jcR H with ⟨a3, h1, r2, H⟩ | ⟨w7, h8, r2, H⟩
  · refine Eq.trans (jb_nx (i := .invokevirtual 147) (n := 3) (q := (5, [some (.ref p0), some (.int i1)], [.ref a3])) (jq qX11_sizeOf 2 rfl) (jo_cv (y := mX11_partOf) rfl (Nat.le_of_ble_eq_true rfl) rfl (Nat.le_of_ble_eq_true rfl) b6 rfl r2 jo_ret)) ?_
    obtain ⟨x4, e5, H⟩ := jbd H
    refine Eq.trans (jb_nx (i := .getfield 151) (n := 3) (q := (8, [some (.ref p0), some (.int i1)], [.int x4])) (jq qX11_sizeOf 3 rfl) (jo_gf rfl (jr_I_inv e5))) ?_
    exact Eq.trans (jb_rt (i := .ireturn) (n := 1) (jq qX11_sizeOf 4 rfl) (jo_iret rfl rfl)) H
  · exact Eq.trans (jb_rt (i := .invokevirtual 147) (n := 3) (jq qX11_sizeOf 2 rfl) (jo_cv (y := mX11_partOf) rfl (Nat.le_of_ble_eq_true rfl) rfl (Nat.le_of_ble_eq_true rfl) b6 rfl r2 (jo_exn rfl))) H
/-! MaskPlays partOf (I)LMaskPlays$Part; -/
def tX11_partOf : List (Nat × Instr × Nat) := [(0, .aload_n 0, 1), (1, .iload_n 1, 1), (2, .invokevirtual 173, 3), (5, .aload_n 0, 1), (6, .getfield 84, 3), (9, .iload_n 1, 1), (10, .invokevirtual 255, 3), (13, .areturn, 1)]
set_option maxRecDepth 100000 in
theorem qX11_partOf : ∀ q ∈ tX11_partOf, decode cX11_partOf q.1 = .ok (q.2.1, q.2.2) := by decide +kernel
theorem gX11_partOf {d : Nat} {p0 : Nat} {i1 : Int32} {h : jm_H} {r : jm_R} (H : (jm_O h p0 11 (jc_V (jm_D d mX11_checkPlay [.ref p0, .int i1] h) (fun h1 => (jr_R h1 p0 10 9 2).bind fun a3 => jm_O h1 a3 4 (jc_R (jm_D d mX4_partAt [.ref a3, .int i1] h1) (fun a7 h5 => some (.inl (some (.ref a7)), h5)) jx)) jx)) = some r) : jm_D (d + 1) mX11_partOf [.ref p0, .int i1] h = some r := by
  rw [jm_D_body (Nat.le_of_ble_eq_true rfl)]
  show jm_B d mX11_partOf (0, [some (.ref p0), some (.int i1)], []) h = some r
  refine Eq.trans (jb_nx (i := .aload_n 0) (n := 1) (q := (1, [some (.ref p0), some (.int i1)], [.ref p0])) (jq qX11_partOf 0 rfl) rfl) ?_
  refine Eq.trans (jb_nx (i := .iload_n 1) (n := 1) (q := (2, [some (.ref p0), some (.int i1)], [.int i1, .ref p0])) (jq qX11_partOf 1 rfl) rfl) ?_
  obtain ⟨b11, H⟩ := jm_O_inv H
  rcases jcV H with ⟨h1, r2, H⟩ | ⟨w12, h13, r2, H⟩
  · refine Eq.trans (jb_nx (i := .invokevirtual 173) (n := 3) (q := (5, [some (.ref p0), some (.int i1)], [])) (jq qX11_partOf 2 rfl) (jo_cv (y := mX11_checkPlay) rfl (Nat.le_of_ble_eq_true rfl) rfl (Nat.le_of_ble_eq_true rfl) b11 rfl r2 jo_ret)) ?_
    refine Eq.trans (jb_nx (i := .aload_n 0) (n := 1) (q := (6, [some (.ref p0), some (.int i1)], [.ref p0])) (jq qX11_partOf 3 rfl) rfl) ?_
    obtain ⟨a3, e4, H⟩ := jbd H
    refine Eq.trans (jb_nx (i := .getfield 84) (n := 3) (q := (9, [some (.ref p0), some (.int i1)], [.ref a3])) (jq qX11_partOf 4 rfl) (jo_gf rfl (jr_R_inv e4))) ?_
    refine Eq.trans (jb_nx (i := .iload_n 1) (n := 1) (q := (10, [some (.ref p0), some (.int i1)], [.int i1, .ref a3])) (jq qX11_partOf 5 rfl) rfl) ?_
    obtain ⟨b8, H⟩ := jm_O_inv H
    rcases jcR H with ⟨a7, h5, r6, H⟩ | ⟨w9, h10, r6, H⟩
    · refine Eq.trans (jb_nx (i := .invokevirtual 255) (n := 3) (q := (13, [some (.ref p0), some (.int i1)], [.ref a7])) (jq qX11_partOf 6 rfl) (jo_cv (y := mX4_partAt) rfl (Nat.le_of_ble_eq_true rfl) rfl (Nat.le_of_ble_eq_true rfl) b8 rfl r6 jo_ret)) ?_
      exact Eq.trans (jb_rt (i := .areturn) (n := 1) (jq qX11_partOf 7 rfl) rfl) H
    · exact Eq.trans (jb_rt (i := .invokevirtual 255) (n := 3) (jq qX11_partOf 6 rfl) (jo_cv (y := mX4_partAt) rfl (Nat.le_of_ble_eq_true rfl) rfl (Nat.le_of_ble_eq_true rfl) b8 rfl r6 (jo_exn rfl))) H
  · exact Eq.trans (jb_rt (i := .invokevirtual 173) (n := 3) (jq qX11_partOf 2 rfl) (jo_cv (y := mX11_checkPlay) rfl (Nat.le_of_ble_eq_true rfl) rfl (Nat.le_of_ble_eq_true rfl) b11 rfl r2 (jo_exn rfl))) H
/-! MaskPlays checkPlay (I)V -/
def tX11_checkPlay : List (Nat × Instr × Nat) := [(0, .iload_n 1, 1), (1, .ifCond .lt 14, 3), (4, .iload_n 1, 1), (5, .aload_n 0, 1), (6, .getfield 19, 3), (9, .getfield 135, 3), (12, .if_icmp .lt 14, 3), (15, .new 160, 3), (18, .dup, 1), (19, .ldc_w 320, 3), (22, .invokespecial 164, 3), (25, .athrow, 1), (26, .return_, 1)]
set_option maxRecDepth 100000 in
theorem qX11_checkPlay : ∀ q ∈ tX11_checkPlay, decode cX11_checkPlay q.1 = .ok (q.2.1, q.2.2) := by decide +kernel
theorem gX11_checkPlay {d : Nat} {p0 : Nat} {i1 : Int32} {h : jm_H} {r : jm_R} (H : ((if i1 < 0 then some (.inr 2, jm_gap h) else (jr_R h p0 10 6 2).bind fun a2 => (jr_I h a2 0 1 0).bind fun x4 => (if i1 < x4 then some (.inl none, h) else some (.inr 2, jm_gap h)))) = some r) : jm_D (d + 1) mX11_checkPlay [.ref p0, .int i1] h = some r := by
  rw [jm_D_body (Nat.le_of_ble_eq_true rfl)]
  show jm_B d mX11_checkPlay (0, [some (.ref p0), some (.int i1)], []) h = some r
  refine Eq.trans (jb_nx (i := .iload_n 1) (n := 1) (q := (1, [some (.ref p0), some (.int i1)], [.int i1])) (jq qX11_checkPlay 0 rfl) rfl) ?_
  by_cases c1 : i1 < 0
  · rw [if_pos c1] at H
    refine Eq.trans (jb_nx (i := .ifCond .lt 14) (n := 3) (q := (15, [some (.ref p0), some (.int i1)], [])) (jq qX11_checkPlay 1 rfl) (jo_ifT (jz_ltT c1) rfl)) ?_
    exact Eq.trans (jb_rt (i := .new 160) (n := 3) (jq qX11_checkPlay 7 rfl) (jo_thr rfl (jo_throwW (k := 320) (j := 164) ⟨rfl, rfl, by decide, Nat.le_of_ble_eq_true rfl⟩ (jq qX11_checkPlay 8 rfl) (jq qX11_checkPlay 9 rfl) rfl (jq qX11_checkPlay 10 rfl) (jq qX11_checkPlay 11 rfl) rfl))) H
  · rw [if_neg c1] at H
    refine Eq.trans (jb_nx (i := .ifCond .lt 14) (n := 3) (q := (4, [some (.ref p0), some (.int i1)], [])) (jq qX11_checkPlay 1 rfl) (jo_ifF (jz_ltF c1))) ?_
    refine Eq.trans (jb_nx (i := .iload_n 1) (n := 1) (q := (5, [some (.ref p0), some (.int i1)], [.int i1])) (jq qX11_checkPlay 2 rfl) rfl) ?_
    refine Eq.trans (jb_nx (i := .aload_n 0) (n := 1) (q := (6, [some (.ref p0), some (.int i1)], [.ref p0, .int i1])) (jq qX11_checkPlay 3 rfl) rfl) ?_
    obtain ⟨a2, e3, H⟩ := jbd H
    refine Eq.trans (jb_nx (i := .getfield 19) (n := 3) (q := (9, [some (.ref p0), some (.int i1)], [.ref a2, .int i1])) (jq qX11_checkPlay 4 rfl) (jo_gf rfl (jr_R_inv e3))) ?_
    obtain ⟨x4, e5, H⟩ := jbd H
    refine Eq.trans (jb_nx (i := .getfield 135) (n := 3) (q := (12, [some (.ref p0), some (.int i1)], [.int x4, .int i1])) (jq qX11_checkPlay 5 rfl) (jo_gf rfl (jr_I_inv e5))) ?_
    by_cases c6 : i1 < x4
    · rw [if_pos c6] at H
      refine Eq.trans (jb_nx (i := .if_icmp .lt 14) (n := 3) (q := (26, [some (.ref p0), some (.int i1)], [])) (jq qX11_checkPlay 6 rfl) (jo_icT (jz_ltT c6) rfl)) ?_
      exact Eq.trans (jb_rt (i := .return_) (n := 1) (jq qX11_checkPlay 12 rfl) rfl) H
    · rw [if_neg c6] at H
      refine Eq.trans (jb_nx (i := .if_icmp .lt 14) (n := 3) (q := (15, [some (.ref p0), some (.int i1)], [])) (jq qX11_checkPlay 6 rfl) (jo_icF (jz_ltF c6))) ?_
      exact Eq.trans (jb_rt (i := .new 160) (n := 3) (jq qX11_checkPlay 7 rfl) (jo_thr rfl (jo_throwW (k := 320) (j := 164) ⟨rfl, rfl, by decide, Nat.le_of_ble_eq_true rfl⟩ (jq qX11_checkPlay 8 rfl) (jq qX11_checkPlay 9 rfl) rfl (jq qX11_checkPlay 10 rfl) (jq qX11_checkPlay 11 rfl) rfl))) H
/-! MaskPlays masksIn (I)I -/
def tX11_masksIn : List (Nat × Instr × Nat) := [(0, .aload_n 0, 1), (1, .iload_n 1, 1), (2, .invokevirtual 147, 3), (5, .iconst 1, 1), (6, .invokevirtual 154, 3), (9, .ireturn, 1)]
set_option maxRecDepth 100000 in
theorem qX11_masksIn : ∀ q ∈ tX11_masksIn, decode cX11_masksIn q.1 = .ok (q.2.1, q.2.2) := by decide +kernel
theorem gX11_masksIn {d : Nat} {p0 : Nat} {i1 : Int32} {h : jm_H} {r : jm_R} (H : (jm_O h p0 11 (jc_R (jm_D d mX11_partOf [.ref p0, .int i1] h) (fun a3 h1 => jm_O h1 a3 3 (jc_I (jm_D d mX3_countOf [.ref a3, .int 1] h1) (fun x6 h4 => some (.inl (some (.int x6)), h4)) jx)) jx)) = some r) : jm_D (d + 1) mX11_masksIn [.ref p0, .int i1] h = some r := by
  rw [jm_D_body (Nat.le_of_ble_eq_true rfl)]
  show jm_B d mX11_masksIn (0, [some (.ref p0), some (.int i1)], []) h = some r
  refine Eq.trans (jb_nx (i := .aload_n 0) (n := 1) (q := (1, [some (.ref p0), some (.int i1)], [.ref p0])) (jq qX11_masksIn 0 rfl) rfl) ?_
  refine Eq.trans (jb_nx (i := .iload_n 1) (n := 1) (q := (2, [some (.ref p0), some (.int i1)], [.int i1, .ref p0])) (jq qX11_masksIn 1 rfl) rfl) ?_
  obtain ⟨b10, H⟩ := jm_O_inv H
  rcases jcR H with ⟨a3, h1, r2, H⟩ | ⟨w11, h12, r2, H⟩
  · refine Eq.trans (jb_nx (i := .invokevirtual 147) (n := 3) (q := (5, [some (.ref p0), some (.int i1)], [.ref a3])) (jq qX11_masksIn 2 rfl) (jo_cv (y := mX11_partOf) rfl (Nat.le_of_ble_eq_true rfl) rfl (Nat.le_of_ble_eq_true rfl) b10 rfl r2 jo_ret)) ?_
    refine Eq.trans (jb_nx (i := .iconst 1) (n := 1) (q := (6, [some (.ref p0), some (.int i1)], [.int 1, .ref a3])) (jq qX11_masksIn 3 rfl) rfl) ?_
    obtain ⟨b7, H⟩ := jm_O_inv H
    rcases jcI H with ⟨x6, h4, r5, H⟩ | ⟨w8, h9, r5, H⟩
    · refine Eq.trans (jb_nx (i := .invokevirtual 154) (n := 3) (q := (9, [some (.ref p0), some (.int i1)], [.int x6])) (jq qX11_masksIn 4 rfl) (jo_cv (y := mX3_countOf) rfl (Nat.le_of_ble_eq_true rfl) rfl (Nat.le_of_ble_eq_true rfl) b7 rfl r5 jo_ret)) ?_
      exact Eq.trans (jb_rt (i := .ireturn) (n := 1) (jq qX11_masksIn 5 rfl) (jo_iret rfl rfl)) H
    · exact Eq.trans (jb_rt (i := .invokevirtual 154) (n := 3) (jq qX11_masksIn 4 rfl) (jo_cv (y := mX3_countOf) rfl (Nat.le_of_ble_eq_true rfl) rfl (Nat.le_of_ble_eq_true rfl) b7 rfl r5 (jo_exn rfl))) H
  · exact Eq.trans (jb_rt (i := .invokevirtual 147) (n := 3) (jq qX11_masksIn 2 rfl) (jo_cv (y := mX11_partOf) rfl (Nat.le_of_ble_eq_true rfl) rfl (Nat.le_of_ble_eq_true rfl) b10 rfl r2 (jo_exn rfl))) H
/-! MaskPlays scenesIn (I)I -/
def tX11_scenesIn : List (Nat × Instr × Nat) := [(0, .aload_n 0, 1), (1, .iload_n 1, 1), (2, .invokevirtual 147, 3), (5, .iconst 2, 1), (6, .invokevirtual 154, 3), (9, .ireturn, 1)]
set_option maxRecDepth 100000 in
theorem qX11_scenesIn : ∀ q ∈ tX11_scenesIn, decode cX11_scenesIn q.1 = .ok (q.2.1, q.2.2) := by decide +kernel
theorem gX11_scenesIn {d : Nat} {p0 : Nat} {i1 : Int32} {h : jm_H} {r : jm_R} (H : (jm_O h p0 11 (jc_R (jm_D d mX11_partOf [.ref p0, .int i1] h) (fun a3 h1 => jm_O h1 a3 3 (jc_I (jm_D d mX3_countOf [.ref a3, .int 2] h1) (fun x6 h4 => some (.inl (some (.int x6)), h4)) jx)) jx)) = some r) : jm_D (d + 1) mX11_scenesIn [.ref p0, .int i1] h = some r := by
  rw [jm_D_body (Nat.le_of_ble_eq_true rfl)]
  show jm_B d mX11_scenesIn (0, [some (.ref p0), some (.int i1)], []) h = some r
  refine Eq.trans (jb_nx (i := .aload_n 0) (n := 1) (q := (1, [some (.ref p0), some (.int i1)], [.ref p0])) (jq qX11_scenesIn 0 rfl) rfl) ?_
  refine Eq.trans (jb_nx (i := .iload_n 1) (n := 1) (q := (2, [some (.ref p0), some (.int i1)], [.int i1, .ref p0])) (jq qX11_scenesIn 1 rfl) rfl) ?_
  obtain ⟨b10, H⟩ := jm_O_inv H
  rcases jcR H with ⟨a3, h1, r2, H⟩ | ⟨w11, h12, r2, H⟩
  · refine Eq.trans (jb_nx (i := .invokevirtual 147) (n := 3) (q := (5, [some (.ref p0), some (.int i1)], [.ref a3])) (jq qX11_scenesIn 2 rfl) (jo_cv (y := mX11_partOf) rfl (Nat.le_of_ble_eq_true rfl) rfl (Nat.le_of_ble_eq_true rfl) b10 rfl r2 jo_ret)) ?_
    refine Eq.trans (jb_nx (i := .iconst 2) (n := 1) (q := (6, [some (.ref p0), some (.int i1)], [.int 2, .ref a3])) (jq qX11_scenesIn 3 rfl) rfl) ?_
    obtain ⟨b7, H⟩ := jm_O_inv H
    rcases jcI H with ⟨x6, h4, r5, H⟩ | ⟨w8, h9, r5, H⟩
    · refine Eq.trans (jb_nx (i := .invokevirtual 154) (n := 3) (q := (9, [some (.ref p0), some (.int i1)], [.int x6])) (jq qX11_scenesIn 4 rfl) (jo_cv (y := mX3_countOf) rfl (Nat.le_of_ble_eq_true rfl) rfl (Nat.le_of_ble_eq_true rfl) b7 rfl r5 jo_ret)) ?_
      exact Eq.trans (jb_rt (i := .ireturn) (n := 1) (jq qX11_scenesIn 5 rfl) (jo_iret rfl rfl)) H
    · exact Eq.trans (jb_rt (i := .invokevirtual 154) (n := 3) (jq qX11_scenesIn 4 rfl) (jo_cv (y := mX3_countOf) rfl (Nat.le_of_ble_eq_true rfl) rfl (Nat.le_of_ble_eq_true rfl) b7 rfl r5 (jo_exn rfl))) H
  · exact Eq.trans (jb_rt (i := .invokevirtual 147) (n := 3) (jq qX11_scenesIn 2 rfl) (jo_cv (y := mX11_partOf) rfl (Nat.le_of_ble_eq_true rfl) rfl (Nat.le_of_ble_eq_true rfl) b10 rfl r2 (jo_exn rfl))) H
/-! MaskPlays mostMasksAround (I)I -/
def tX11_mostMasksAround : List (Nat × Instr × Nat) := [(0, .aload_n 0, 1), (1, .iload_n 1, 1), (2, .invokevirtual 147, 3), (5, .invokevirtual 157, 3), (8, .ireturn, 1)]
set_option maxRecDepth 100000 in
theorem qX11_mostMasksAround : ∀ q ∈ tX11_mostMasksAround, decode cX11_mostMasksAround q.1 = .ok (q.2.1, q.2.2) := by decide +kernel
theorem gX11_mostMasksAround {d : Nat} {p0 : Nat} {i1 : Int32} {h : jm_H} {r : jm_R} (H : (jm_O h p0 11 (jc_R (jm_D d mX11_partOf [.ref p0, .int i1] h) (fun a3 h1 => jm_O h1 a3 3 (jc_I (jm_D d mX3_mostMasks [.ref a3] h1) (fun x6 h4 => some (.inl (some (.int x6)), h4)) jx)) jx)) = some r) : jm_D (d + 1) mX11_mostMasksAround [.ref p0, .int i1] h = some r := by
  rw [jm_D_body (Nat.le_of_ble_eq_true rfl)]
  show jm_B d mX11_mostMasksAround (0, [some (.ref p0), some (.int i1)], []) h = some r
  refine Eq.trans (jb_nx (i := .aload_n 0) (n := 1) (q := (1, [some (.ref p0), some (.int i1)], [.ref p0])) (jq qX11_mostMasksAround 0 rfl) rfl) ?_
  refine Eq.trans (jb_nx (i := .iload_n 1) (n := 1) (q := (2, [some (.ref p0), some (.int i1)], [.int i1, .ref p0])) (jq qX11_mostMasksAround 1 rfl) rfl) ?_
  obtain ⟨b10, H⟩ := jm_O_inv H
  rcases jcR H with ⟨a3, h1, r2, H⟩ | ⟨w11, h12, r2, H⟩
  · refine Eq.trans (jb_nx (i := .invokevirtual 147) (n := 3) (q := (5, [some (.ref p0), some (.int i1)], [.ref a3])) (jq qX11_mostMasksAround 2 rfl) (jo_cv (y := mX11_partOf) rfl (Nat.le_of_ble_eq_true rfl) rfl (Nat.le_of_ble_eq_true rfl) b10 rfl r2 jo_ret)) ?_
    obtain ⟨b7, H⟩ := jm_O_inv H
    rcases jcI H with ⟨x6, h4, r5, H⟩ | ⟨w8, h9, r5, H⟩
    · refine Eq.trans (jb_nx (i := .invokevirtual 157) (n := 3) (q := (8, [some (.ref p0), some (.int i1)], [.int x6])) (jq qX11_mostMasksAround 3 rfl) (jo_cv (y := mX3_mostMasks) rfl (Nat.le_of_ble_eq_true rfl) rfl (Nat.le_of_ble_eq_true rfl) b7 rfl r5 jo_ret)) ?_
      exact Eq.trans (jb_rt (i := .ireturn) (n := 1) (jq qX11_mostMasksAround 4 rfl) (jo_iret rfl rfl)) H
    · exact Eq.trans (jb_rt (i := .invokevirtual 157) (n := 3) (jq qX11_mostMasksAround 3 rfl) (jo_cv (y := mX3_mostMasks) rfl (Nat.le_of_ble_eq_true rfl) rfl (Nat.le_of_ble_eq_true rfl) b7 rfl r5 (jo_exn rfl))) H
  · exact Eq.trans (jb_rt (i := .invokevirtual 147) (n := 3) (jq qX11_mostMasksAround 2 rfl) (jo_cv (y := mX11_partOf) rfl (Nat.le_of_ble_eq_true rfl) rfl (Nat.le_of_ble_eq_true rfl) b10 rfl r2 (jo_exn rfl))) H
/-! MaskPlays stepsDone (I)I -/
def tX11_stepsDone : List (Nat × Instr × Nat) := [(0, .aload_n 0, 1), (1, .iload_n 1, 1), (2, .invokevirtual 173, 3), (5, .aload_n 0, 1), (6, .getfield 84, 3), (9, .iload_n 1, 1), (10, .invokevirtual 176, 3), (13, .ireturn, 1)]
set_option maxRecDepth 100000 in
theorem qX11_stepsDone : ∀ q ∈ tX11_stepsDone, decode cX11_stepsDone q.1 = .ok (q.2.1, q.2.2) := by decide +kernel
theorem gX11_stepsDone {d : Nat} {p0 : Nat} {i1 : Int32} {h : jm_H} {r : jm_R} (H : (jm_O h p0 11 (jc_V (jm_D d mX11_checkPlay [.ref p0, .int i1] h) (fun h1 => (jr_R h1 p0 10 9 2).bind fun a3 => jm_O h1 a3 4 (jc_I (jm_D d mX4_stepsAt [.ref a3, .int i1] h1) (fun x7 h5 => some (.inl (some (.int x7)), h5)) jx)) jx)) = some r) : jm_D (d + 1) mX11_stepsDone [.ref p0, .int i1] h = some r := by
  rw [jm_D_body (Nat.le_of_ble_eq_true rfl)]
  show jm_B d mX11_stepsDone (0, [some (.ref p0), some (.int i1)], []) h = some r
  refine Eq.trans (jb_nx (i := .aload_n 0) (n := 1) (q := (1, [some (.ref p0), some (.int i1)], [.ref p0])) (jq qX11_stepsDone 0 rfl) rfl) ?_
  refine Eq.trans (jb_nx (i := .iload_n 1) (n := 1) (q := (2, [some (.ref p0), some (.int i1)], [.int i1, .ref p0])) (jq qX11_stepsDone 1 rfl) rfl) ?_
  obtain ⟨b11, H⟩ := jm_O_inv H
  rcases jcV H with ⟨h1, r2, H⟩ | ⟨w12, h13, r2, H⟩
  · refine Eq.trans (jb_nx (i := .invokevirtual 173) (n := 3) (q := (5, [some (.ref p0), some (.int i1)], [])) (jq qX11_stepsDone 2 rfl) (jo_cv (y := mX11_checkPlay) rfl (Nat.le_of_ble_eq_true rfl) rfl (Nat.le_of_ble_eq_true rfl) b11 rfl r2 jo_ret)) ?_
    refine Eq.trans (jb_nx (i := .aload_n 0) (n := 1) (q := (6, [some (.ref p0), some (.int i1)], [.ref p0])) (jq qX11_stepsDone 3 rfl) rfl) ?_
    obtain ⟨a3, e4, H⟩ := jbd H
    refine Eq.trans (jb_nx (i := .getfield 84) (n := 3) (q := (9, [some (.ref p0), some (.int i1)], [.ref a3])) (jq qX11_stepsDone 4 rfl) (jo_gf rfl (jr_R_inv e4))) ?_
    refine Eq.trans (jb_nx (i := .iload_n 1) (n := 1) (q := (10, [some (.ref p0), some (.int i1)], [.int i1, .ref a3])) (jq qX11_stepsDone 5 rfl) rfl) ?_
    obtain ⟨b8, H⟩ := jm_O_inv H
    rcases jcI H with ⟨x7, h5, r6, H⟩ | ⟨w9, h10, r6, H⟩
    · refine Eq.trans (jb_nx (i := .invokevirtual 176) (n := 3) (q := (13, [some (.ref p0), some (.int i1)], [.int x7])) (jq qX11_stepsDone 6 rfl) (jo_cv (y := mX4_stepsAt) rfl (Nat.le_of_ble_eq_true rfl) rfl (Nat.le_of_ble_eq_true rfl) b8 rfl r6 jo_ret)) ?_
      exact Eq.trans (jb_rt (i := .ireturn) (n := 1) (jq qX11_stepsDone 7 rfl) (jo_iret rfl rfl)) H
    · exact Eq.trans (jb_rt (i := .invokevirtual 176) (n := 3) (jq qX11_stepsDone 6 rfl) (jo_cv (y := mX4_stepsAt) rfl (Nat.le_of_ble_eq_true rfl) rfl (Nat.le_of_ble_eq_true rfl) b8 rfl r6 (jo_exn rfl))) H
  · exact Eq.trans (jb_rt (i := .invokevirtual 173) (n := 3) (jq qX11_stepsDone 2 rfl) (jo_cv (y := mX11_checkPlay) rfl (Nat.le_of_ble_eq_true rfl) rfl (Nat.le_of_ble_eq_true rfl) b11 rfl r2 (jo_exn rfl))) H
/-! MaskPlays isFinished (I)Z -/
def tX11_isFinished : List (Nat × Instr × Nat) := [(0, .aload_n 0, 1), (1, .iload_n 1, 1), (2, .invokevirtual 147, 3), (5, .invokevirtual 179, 3), (8, .ifCond .ge 7, 3), (11, .iconst 1, 1), (12, .goto 4, 3), (15, .iconst 0, 1), (16, .ireturn, 1)]
set_option maxRecDepth 100000 in
theorem qX11_isFinished : ∀ q ∈ tX11_isFinished, decode cX11_isFinished q.1 = .ok (q.2.1, q.2.2) := by decide +kernel
theorem gX11_isFinished {d : Nat} {p0 : Nat} {i1 : Int32} {h : jm_H} {r : jm_R} (H : (jm_O h p0 11 (jc_R (jm_D d mX11_partOf [.ref p0, .int i1] h) (fun a3 h1 => jm_O h1 a3 3 (jc_I (jm_D d mX3_readyScene [.ref a3] h1) (fun x6 h4 => (if x6 < 0 then some (.inl (some (.int 1)), h4) else some (.inl (some (.int 0)), h4))) jx)) jx)) = some r) : jm_D (d + 1) mX11_isFinished [.ref p0, .int i1] h = some r := by
  rw [jm_D_body (Nat.le_of_ble_eq_true rfl)]
  show jm_B d mX11_isFinished (0, [some (.ref p0), some (.int i1)], []) h = some r
  refine Eq.trans (jb_nx (i := .aload_n 0) (n := 1) (q := (1, [some (.ref p0), some (.int i1)], [.ref p0])) (jq qX11_isFinished 0 rfl) rfl) ?_
  refine Eq.trans (jb_nx (i := .iload_n 1) (n := 1) (q := (2, [some (.ref p0), some (.int i1)], [.int i1, .ref p0])) (jq qX11_isFinished 1 rfl) rfl) ?_
  obtain ⟨b11, H⟩ := jm_O_inv H
  rcases jcR H with ⟨a3, h1, r2, H⟩ | ⟨w12, h13, r2, H⟩
  · refine Eq.trans (jb_nx (i := .invokevirtual 147) (n := 3) (q := (5, [some (.ref p0), some (.int i1)], [.ref a3])) (jq qX11_isFinished 2 rfl) (jo_cv (y := mX11_partOf) rfl (Nat.le_of_ble_eq_true rfl) rfl (Nat.le_of_ble_eq_true rfl) b11 rfl r2 jo_ret)) ?_
    obtain ⟨b8, H⟩ := jm_O_inv H
    rcases jcI H with ⟨x6, h4, r5, H⟩ | ⟨w9, h10, r5, H⟩
    · refine Eq.trans (jb_nx (i := .invokevirtual 179) (n := 3) (q := (8, [some (.ref p0), some (.int i1)], [.int x6])) (jq qX11_isFinished 3 rfl) (jo_cv (y := mX3_readyScene) rfl (Nat.le_of_ble_eq_true rfl) rfl (Nat.le_of_ble_eq_true rfl) b8 rfl r5 jo_ret)) ?_
      by_cases c7 : x6 < 0
      · rw [if_pos c7] at H
        refine Eq.trans (jb_nx (i := .ifCond .ge 7) (n := 3) (q := (11, [some (.ref p0), some (.int i1)], [])) (jq qX11_isFinished 4 rfl) (jo_ifF (jz_geF c7))) ?_
        refine Eq.trans (jb_nx (i := .iconst 1) (n := 1) (q := (12, [some (.ref p0), some (.int i1)], [.int 1])) (jq qX11_isFinished 5 rfl) rfl) ?_
        refine Eq.trans (jb_nx (i := .goto 4) (n := 3) (q := (16, [some (.ref p0), some (.int i1)], [.int 1])) (jq qX11_isFinished 6 rfl) rfl) ?_
        exact Eq.trans (jb_rt (i := .ireturn) (n := 1) (jq qX11_isFinished 8 rfl) (jo_iret rfl (by decide))) H
      · rw [if_neg c7] at H
        refine Eq.trans (jb_nx (i := .ifCond .ge 7) (n := 3) (q := (15, [some (.ref p0), some (.int i1)], [])) (jq qX11_isFinished 4 rfl) (jo_ifT (jz_geT c7) rfl)) ?_
        refine Eq.trans (jb_nx (i := .iconst 0) (n := 1) (q := (16, [some (.ref p0), some (.int i1)], [.int 0])) (jq qX11_isFinished 7 rfl) rfl) ?_
        exact Eq.trans (jb_rt (i := .ireturn) (n := 1) (jq qX11_isFinished 8 rfl) (jo_iret rfl (by decide))) H
    · exact Eq.trans (jb_rt (i := .invokevirtual 179) (n := 3) (jq qX11_isFinished 3 rfl) (jo_cv (y := mX3_readyScene) rfl (Nat.le_of_ble_eq_true rfl) rfl (Nat.le_of_ble_eq_true rfl) b8 rfl r5 (jo_exn rfl))) H
  · exact Eq.trans (jb_rt (i := .invokevirtual 147) (n := 3) (jq qX11_isFinished 2 rfl) (jo_cv (y := mX11_partOf) rfl (Nat.le_of_ble_eq_true rfl) rfl (Nat.le_of_ble_eq_true rfl) b11 rfl r2 (jo_exn rfl))) H
/-! MaskPlays isAsTold (I)Z -/
def tX11_isAsTold : List (Nat × Instr × Nat) := [(0, .aload_n 0, 1), (1, .iload_n 1, 1), (2, .invokevirtual 147, 3), (5, .aload_n 0, 1), (6, .getfield 19, 3), (9, .iload_n 1, 1), (10, .invokevirtual 217, 3), (13, .invokevirtual 214, 3), (16, .ireturn, 1)]
set_option maxRecDepth 100000 in
theorem qX11_isAsTold : ∀ q ∈ tX11_isAsTold, decode cX11_isAsTold q.1 = .ok (q.2.1, q.2.2) := by decide +kernel
theorem gX11_isAsTold {d : Nat} {p0 : Nat} {i1 : Int32} {h : jm_H} {r : jm_R} (H : (jm_O h p0 11 (jc_R (jm_D d mX11_partOf [.ref p0, .int i1] h) (fun a3 h1 => (jr_R h1 p0 10 6 2).bind fun a4 => jm_O h1 a4 0 (jc_R (jm_D d mX0_toldAt [.ref a4, .int i1] h1) (fun a8 h6 => jm_O h6 a3 3 (jc_I (jm_D d mX3_isLike [.ref a3, .ref a8] h6) (fun x11 h9 => jm_Y .boolean x11 (some (.inl (some (.int x11)), h9))) jx)) jx)) jx)) = some r) : jm_D (d + 1) mX11_isAsTold [.ref p0, .int i1] h = some r := by
  rw [jm_D_body (Nat.le_of_ble_eq_true rfl)]
  show jm_B d mX11_isAsTold (0, [some (.ref p0), some (.int i1)], []) h = some r
  refine Eq.trans (jb_nx (i := .aload_n 0) (n := 1) (q := (1, [some (.ref p0), some (.int i1)], [.ref p0])) (jq qX11_isAsTold 0 rfl) rfl) ?_
  refine Eq.trans (jb_nx (i := .iload_n 1) (n := 1) (q := (2, [some (.ref p0), some (.int i1)], [.int i1, .ref p0])) (jq qX11_isAsTold 1 rfl) rfl) ?_
  obtain ⟨b19, H⟩ := jm_O_inv H
  rcases jcR H with ⟨a3, h1, r2, H⟩ | ⟨w20, h21, r2, H⟩
  · refine Eq.trans (jb_nx (i := .invokevirtual 147) (n := 3) (q := (5, [some (.ref p0), some (.int i1)], [.ref a3])) (jq qX11_isAsTold 2 rfl) (jo_cv (y := mX11_partOf) rfl (Nat.le_of_ble_eq_true rfl) rfl (Nat.le_of_ble_eq_true rfl) b19 rfl r2 jo_ret)) ?_
    refine Eq.trans (jb_nx (i := .aload_n 0) (n := 1) (q := (6, [some (.ref p0), some (.int i1)], [.ref p0, .ref a3])) (jq qX11_isAsTold 3 rfl) rfl) ?_
    obtain ⟨a4, e5, H⟩ := jbd H
    refine Eq.trans (jb_nx (i := .getfield 19) (n := 3) (q := (9, [some (.ref p0), some (.int i1)], [.ref a4, .ref a3])) (jq qX11_isAsTold 4 rfl) (jo_gf rfl (jr_R_inv e5))) ?_
    refine Eq.trans (jb_nx (i := .iload_n 1) (n := 1) (q := (10, [some (.ref p0), some (.int i1)], [.int i1, .ref a4, .ref a3])) (jq qX11_isAsTold 5 rfl) rfl) ?_
    obtain ⟨b16, H⟩ := jm_O_inv H
    rcases jcR H with ⟨a8, h6, r7, H⟩ | ⟨w17, h18, r7, H⟩
    · refine Eq.trans (jb_nx (i := .invokevirtual 217) (n := 3) (q := (13, [some (.ref p0), some (.int i1)], [.ref a8, .ref a3])) (jq qX11_isAsTold 6 rfl) (jo_cv (y := mX0_toldAt) rfl (Nat.le_of_ble_eq_true rfl) rfl (Nat.le_of_ble_eq_true rfl) b16 rfl r7 jo_ret)) ?_
      obtain ⟨b13, H⟩ := jm_O_inv H
      rcases jcI H with ⟨x11, h9, r10, H⟩ | ⟨w14, h15, r10, H⟩
      · refine Eq.trans (jb_nx (i := .invokevirtual 214) (n := 3) (q := (16, [some (.ref p0), some (.int i1)], [.int x11])) (jq qX11_isAsTold 7 rfl) (jo_cv (y := mX3_isLike) rfl (Nat.le_of_ble_eq_true rfl) rfl (Nat.le_of_ble_eq_true rfl) b13 rfl r10 jo_ret)) ?_
        obtain ⟨u12, H⟩ := jm_Y_inv H
        exact Eq.trans (jb_rt (i := .ireturn) (n := 1) (jq qX11_isAsTold 8 rfl) (jo_iret rfl u12)) H
      · exact Eq.trans (jb_rt (i := .invokevirtual 214) (n := 3) (jq qX11_isAsTold 7 rfl) (jo_cv (y := mX3_isLike) rfl (Nat.le_of_ble_eq_true rfl) rfl (Nat.le_of_ble_eq_true rfl) b13 rfl r10 (jo_exn rfl))) H
    · exact Eq.trans (jb_rt (i := .invokevirtual 217) (n := 3) (jq qX11_isAsTold 6 rfl) (jo_cv (y := mX0_toldAt) rfl (Nat.le_of_ble_eq_true rfl) rfl (Nat.le_of_ble_eq_true rfl) b16 rfl r7 (jo_exn rfl))) H
  · exact Eq.trans (jb_rt (i := .invokevirtual 147) (n := 3) (jq qX11_isAsTold 2 rfl) (jo_cv (y := mX11_partOf) rfl (Nat.le_of_ble_eq_true rfl) rfl (Nat.le_of_ble_eq_true rfl) b19 rfl r2 (jo_exn rfl))) H
/-! MaskPlays textLength (I)I -/
def tX11_textLength : List (Nat × Instr × Nat) := [(0, .aload_n 0, 1), (1, .getfield 36, 3), (4, .aload_n 0, 1), (5, .iload_n 1, 1), (6, .invokevirtual 147, 3), (9, .invokevirtual 186, 3), (12, .aload_n 0, 1), (13, .getfield 36, 3), (16, .getfield 190, 3), (19, .ireturn, 1)]
set_option maxRecDepth 100000 in
theorem qX11_textLength : ∀ q ∈ tX11_textLength, decode cX11_textLength q.1 = .ok (q.2.1, q.2.2) := by decide +kernel
theorem gX11_textLength {d : Nat} {p0 : Nat} {i1 : Int32} {h : jm_H} {r : jm_R} (H : ((jr_R h p0 10 13 2).bind fun a1 => jm_O h p0 11 (jc_R (jm_D d mX11_partOf [.ref p0, .int i1] h) (fun a5 h3 => jm_O h3 a1 8 (jc_V (jm_D d mX8_write [.ref a1, .ref a5] h3) (fun h6 => (jr_R h6 p0 10 13 2).bind fun a8 => (jr_I h6 a8 8 0 0).bind fun x10 => some (.inl (some (.int x10)), h6)) jx)) jx)) = some r) : jm_D (d + 1) mX11_textLength [.ref p0, .int i1] h = some r := by
  rw [jm_D_body (Nat.le_of_ble_eq_true rfl)]
  show jm_B d mX11_textLength (0, [some (.ref p0), some (.int i1)], []) h = some r
  refine Eq.trans (jb_nx (i := .aload_n 0) (n := 1) (q := (1, [some (.ref p0), some (.int i1)], [.ref p0])) (jq qX11_textLength 0 rfl) rfl) ?_
  obtain ⟨a1, e2, H⟩ := jbd H
  refine Eq.trans (jb_nx (i := .getfield 36) (n := 3) (q := (4, [some (.ref p0), some (.int i1)], [.ref a1])) (jq qX11_textLength 1 rfl) (jo_gf rfl (jr_R_inv e2))) ?_
  refine Eq.trans (jb_nx (i := .aload_n 0) (n := 1) (q := (5, [some (.ref p0), some (.int i1)], [.ref p0, .ref a1])) (jq qX11_textLength 2 rfl) rfl) ?_
  refine Eq.trans (jb_nx (i := .iload_n 1) (n := 1) (q := (6, [some (.ref p0), some (.int i1)], [.int i1, .ref p0, .ref a1])) (jq qX11_textLength 3 rfl) rfl) ?_
  obtain ⟨b15, H⟩ := jm_O_inv H
  rcases jcR H with ⟨a5, h3, r4, H⟩ | ⟨w16, h17, r4, H⟩
  · refine Eq.trans (jb_nx (i := .invokevirtual 147) (n := 3) (q := (9, [some (.ref p0), some (.int i1)], [.ref a5, .ref a1])) (jq qX11_textLength 4 rfl) (jo_cv (y := mX11_partOf) rfl (Nat.le_of_ble_eq_true rfl) rfl (Nat.le_of_ble_eq_true rfl) b15 rfl r4 jo_ret)) ?_
    obtain ⟨b12, H⟩ := jm_O_inv H
    rcases jcV H with ⟨h6, r7, H⟩ | ⟨w13, h14, r7, H⟩
    · refine Eq.trans (jb_nx (i := .invokevirtual 186) (n := 3) (q := (12, [some (.ref p0), some (.int i1)], [])) (jq qX11_textLength 5 rfl) (jo_cv (y := mX8_write) rfl (Nat.le_of_ble_eq_true rfl) rfl (Nat.le_of_ble_eq_true rfl) b12 rfl r7 jo_ret)) ?_
      refine Eq.trans (jb_nx (i := .aload_n 0) (n := 1) (q := (13, [some (.ref p0), some (.int i1)], [.ref p0])) (jq qX11_textLength 6 rfl) rfl) ?_
      obtain ⟨a8, e9, H⟩ := jbd H
      refine Eq.trans (jb_nx (i := .getfield 36) (n := 3) (q := (16, [some (.ref p0), some (.int i1)], [.ref a8])) (jq qX11_textLength 7 rfl) (jo_gf rfl (jr_R_inv e9))) ?_
      obtain ⟨x10, e11, H⟩ := jbd H
      refine Eq.trans (jb_nx (i := .getfield 190) (n := 3) (q := (19, [some (.ref p0), some (.int i1)], [.int x10])) (jq qX11_textLength 8 rfl) (jo_gf rfl (jr_I_inv e11))) ?_
      exact Eq.trans (jb_rt (i := .ireturn) (n := 1) (jq qX11_textLength 9 rfl) (jo_iret rfl rfl)) H
    · exact Eq.trans (jb_rt (i := .invokevirtual 186) (n := 3) (jq qX11_textLength 5 rfl) (jo_cv (y := mX8_write) rfl (Nat.le_of_ble_eq_true rfl) rfl (Nat.le_of_ble_eq_true rfl) b12 rfl r7 (jo_exn rfl))) H
  · exact Eq.trans (jb_rt (i := .invokevirtual 147) (n := 3) (jq qX11_textLength 4 rfl) (jo_cv (y := mX11_partOf) rfl (Nat.le_of_ble_eq_true rfl) rfl (Nat.le_of_ble_eq_true rfl) b15 rfl r4 (jo_exn rfl))) H
/-! MaskPlays standsIn (II)I -/
def tX11_standsIn : List (Nat × Instr × Nat) := [(0, .aload_n 0, 1), (1, .iload_n 1, 1), (2, .invokevirtual 147, 3), (5, .astore_n 3, 1), (6, .iload_n 2, 1), (7, .ifCond .lt 14, 3), (10, .iload_n 2, 1), (11, .aload_n 0, 1), (12, .getfield 19, 3), (15, .getfield 132, 3), (18, .if_icmp .lt 13, 3), (21, .new 160, 3), (24, .dup, 1), (25, .ldc 162, 2), (27, .invokespecial 164, 3), (30, .athrow, 1), (31, .aload_n 3, 1), (32, .aload_n 0, 1), (33, .getfield 19, 3), (36, .iload_n 2, 1), (37, .invokevirtual 165, 3), (40, .invokevirtual 169, 3), (43, .ireturn, 1)]
set_option maxRecDepth 100000 in
theorem qX11_standsIn : ∀ q ∈ tX11_standsIn, decode cX11_standsIn q.1 = .ok (q.2.1, q.2.2) := by decide +kernel
theorem gX11_standsIn {d : Nat} {p0 : Nat} {i1 : Int32} {i2 : Int32} {h : jm_H} {r : jm_R} (H : (jm_O h p0 11 (jc_R (jm_D d mX11_partOf [.ref p0, .int i1] h) (fun a3 h1 => (if i2 < 0 then some (.inr 2, jm_gap h1) else (jr_R h1 p0 10 6 2).bind fun a5 => (jr_I h1 a5 0 0 0).bind fun x7 => (if i2 < x7 then (jr_R h1 p0 10 6 2).bind fun a10 => jm_O h1 a10 0 (jc_L (jm_D d mX0_actorNameAt [.ref a10, .int i2] h1) (fun y14 h12 => jm_O h12 a3 3 (jc_I (jm_D d mX3_countOfOpen [.ref a3, .long y14] h12) (fun x17 h15 => some (.inl (some (.int x17)), h15)) jx)) jx) else some (.inr 2, jm_gap h1)))) jx)) = some r) : jm_D (d + 1) mX11_standsIn [.ref p0, .int i1, .int i2] h = some r := by
  rw [jm_D_body (Nat.le_of_ble_eq_true rfl)]
  show jm_B d mX11_standsIn (0, [some (.ref p0), some (.int i1), some (.int i2), none], []) h = some r
  refine Eq.trans (jb_nx (i := .aload_n 0) (n := 1) (q := (1, [some (.ref p0), some (.int i1), some (.int i2), none], [.ref p0])) (jq qX11_standsIn 0 rfl) rfl) ?_
  refine Eq.trans (jb_nx (i := .iload_n 1) (n := 1) (q := (2, [some (.ref p0), some (.int i1), some (.int i2), none], [.int i1, .ref p0])) (jq qX11_standsIn 1 rfl) rfl) ?_
  obtain ⟨b24, H⟩ := jm_O_inv H
  rcases jcR H with ⟨a3, h1, r2, H⟩ | ⟨w25, h26, r2, H⟩
  · refine Eq.trans (jb_nx (i := .invokevirtual 147) (n := 3) (q := (5, [some (.ref p0), some (.int i1), some (.int i2), none], [.ref a3])) (jq qX11_standsIn 2 rfl) (jo_cv (y := mX11_partOf) rfl (Nat.le_of_ble_eq_true rfl) rfl (Nat.le_of_ble_eq_true rfl) b24 rfl r2 jo_ret)) ?_
    refine Eq.trans (jb_nx (i := .astore_n 3) (n := 1) (q := (6, [some (.ref p0), some (.int i1), some (.int i2), some (.ref a3)], [])) (jq qX11_standsIn 3 rfl) rfl) ?_
    refine Eq.trans (jb_nx (i := .iload_n 2) (n := 1) (q := (7, [some (.ref p0), some (.int i1), some (.int i2), some (.ref a3)], [.int i2])) (jq qX11_standsIn 4 rfl) rfl) ?_
    by_cases c4 : i2 < 0
    · rw [if_pos c4] at H
      refine Eq.trans (jb_nx (i := .ifCond .lt 14) (n := 3) (q := (21, [some (.ref p0), some (.int i1), some (.int i2), some (.ref a3)], [])) (jq qX11_standsIn 5 rfl) (jo_ifT (jz_ltT c4) rfl)) ?_
      exact Eq.trans (jb_rt (i := .new 160) (n := 3) (jq qX11_standsIn 11 rfl) (jo_thr rfl (jo_throw (k := 162) (j := 164) ⟨rfl, rfl, by decide, Nat.le_of_ble_eq_true rfl⟩ (jq qX11_standsIn 12 rfl) (jq qX11_standsIn 13 rfl) rfl (jq qX11_standsIn 14 rfl) (jq qX11_standsIn 15 rfl) rfl))) H
    · rw [if_neg c4] at H
      refine Eq.trans (jb_nx (i := .ifCond .lt 14) (n := 3) (q := (10, [some (.ref p0), some (.int i1), some (.int i2), some (.ref a3)], [])) (jq qX11_standsIn 5 rfl) (jo_ifF (jz_ltF c4))) ?_
      refine Eq.trans (jb_nx (i := .iload_n 2) (n := 1) (q := (11, [some (.ref p0), some (.int i1), some (.int i2), some (.ref a3)], [.int i2])) (jq qX11_standsIn 6 rfl) rfl) ?_
      refine Eq.trans (jb_nx (i := .aload_n 0) (n := 1) (q := (12, [some (.ref p0), some (.int i1), some (.int i2), some (.ref a3)], [.ref p0, .int i2])) (jq qX11_standsIn 7 rfl) rfl) ?_
      obtain ⟨a5, e6, H⟩ := jbd H
      refine Eq.trans (jb_nx (i := .getfield 19) (n := 3) (q := (15, [some (.ref p0), some (.int i1), some (.int i2), some (.ref a3)], [.ref a5, .int i2])) (jq qX11_standsIn 8 rfl) (jo_gf rfl (jr_R_inv e6))) ?_
      obtain ⟨x7, e8, H⟩ := jbd H
      refine Eq.trans (jb_nx (i := .getfield 132) (n := 3) (q := (18, [some (.ref p0), some (.int i1), some (.int i2), some (.ref a3)], [.int x7, .int i2])) (jq qX11_standsIn 9 rfl) (jo_gf rfl (jr_I_inv e8))) ?_
      by_cases c9 : i2 < x7
      · rw [if_pos c9] at H
        refine Eq.trans (jb_nx (i := .if_icmp .lt 13) (n := 3) (q := (31, [some (.ref p0), some (.int i1), some (.int i2), some (.ref a3)], [])) (jq qX11_standsIn 10 rfl) (jo_icT (jz_ltT c9) rfl)) ?_
        refine Eq.trans (jb_nx (i := .aload_n 3) (n := 1) (q := (32, [some (.ref p0), some (.int i1), some (.int i2), some (.ref a3)], [.ref a3])) (jq qX11_standsIn 16 rfl) rfl) ?_
        refine Eq.trans (jb_nx (i := .aload_n 0) (n := 1) (q := (33, [some (.ref p0), some (.int i1), some (.int i2), some (.ref a3)], [.ref p0, .ref a3])) (jq qX11_standsIn 17 rfl) rfl) ?_
        obtain ⟨a10, e11, H⟩ := jbd H
        refine Eq.trans (jb_nx (i := .getfield 19) (n := 3) (q := (36, [some (.ref p0), some (.int i1), some (.int i2), some (.ref a3)], [.ref a10, .ref a3])) (jq qX11_standsIn 18 rfl) (jo_gf rfl (jr_R_inv e11))) ?_
        refine Eq.trans (jb_nx (i := .iload_n 2) (n := 1) (q := (37, [some (.ref p0), some (.int i1), some (.int i2), some (.ref a3)], [.int i2, .ref a10, .ref a3])) (jq qX11_standsIn 19 rfl) rfl) ?_
        obtain ⟨b21, H⟩ := jm_O_inv H
        rcases jcL H with ⟨y14, h12, r13, H⟩ | ⟨w22, h23, r13, H⟩
        · refine Eq.trans (jb_nx (i := .invokevirtual 165) (n := 3) (q := (40, [some (.ref p0), some (.int i1), some (.int i2), some (.ref a3)], [.long y14, .ref a3])) (jq qX11_standsIn 20 rfl) (jo_cv (y := mX0_actorNameAt) rfl (Nat.le_of_ble_eq_true rfl) rfl (Nat.le_of_ble_eq_true rfl) b21 rfl r13 jo_ret)) ?_
          obtain ⟨b18, H⟩ := jm_O_inv H
          rcases jcI H with ⟨x17, h15, r16, H⟩ | ⟨w19, h20, r16, H⟩
          · refine Eq.trans (jb_nx (i := .invokevirtual 169) (n := 3) (q := (43, [some (.ref p0), some (.int i1), some (.int i2), some (.ref a3)], [.int x17])) (jq qX11_standsIn 21 rfl) (jo_cv (y := mX3_countOfOpen) rfl (Nat.le_of_ble_eq_true rfl) rfl (Nat.le_of_ble_eq_true rfl) b18 rfl r16 jo_ret)) ?_
            exact Eq.trans (jb_rt (i := .ireturn) (n := 1) (jq qX11_standsIn 22 rfl) (jo_iret rfl rfl)) H
          · exact Eq.trans (jb_rt (i := .invokevirtual 169) (n := 3) (jq qX11_standsIn 21 rfl) (jo_cv (y := mX3_countOfOpen) rfl (Nat.le_of_ble_eq_true rfl) rfl (Nat.le_of_ble_eq_true rfl) b18 rfl r16 (jo_exn rfl))) H
        · exact Eq.trans (jb_rt (i := .invokevirtual 165) (n := 3) (jq qX11_standsIn 20 rfl) (jo_cv (y := mX0_actorNameAt) rfl (Nat.le_of_ble_eq_true rfl) rfl (Nat.le_of_ble_eq_true rfl) b21 rfl r13 (jo_exn rfl))) H
      · rw [if_neg c9] at H
        refine Eq.trans (jb_nx (i := .if_icmp .lt 13) (n := 3) (q := (21, [some (.ref p0), some (.int i1), some (.int i2), some (.ref a3)], [])) (jq qX11_standsIn 10 rfl) (jo_icF (jz_ltF c9))) ?_
        exact Eq.trans (jb_rt (i := .new 160) (n := 3) (jq qX11_standsIn 11 rfl) (jo_thr rfl (jo_throw (k := 162) (j := 164) ⟨rfl, rfl, by decide, Nat.le_of_ble_eq_true rfl⟩ (jq qX11_standsIn 12 rfl) (jq qX11_standsIn 13 rfl) rfl (jq qX11_standsIn 14 rfl) (jq qX11_standsIn 15 rfl) rfl))) H
  · exact Eq.trans (jb_rt (i := .invokevirtual 147) (n := 3) (jq qX11_standsIn 2 rfl) (jo_cv (y := mX11_partOf) rfl (Nat.le_of_ble_eq_true rfl) rfl (Nat.le_of_ble_eq_true rfl) b24 rfl r2 (jo_exn rfl))) H
/-! MaskPlays feed (IIIII)I -/
def tX11_feed : List (Nat × Instr × Nat) := [(0, .aload_n 0, 1), (1, .getfield 9, 3), (4, .bipush 20, 2), (6, .iadd, 1), (7, .sipush 2000, 3), (10, .if_icmp .le 13, 3), (13, .new 91, 3), (16, .dup, 1), (17, .ldc 93, 2), (19, .invokespecial 95, 3), (22, .athrow, 1), (23, .aload_n 0, 1), (24, .iload_n 1, 1), (25, .invokevirtual 98, 3), (28, .aload_n 0, 1), (29, .iload_n 2, 1), (30, .invokevirtual 98, 3), (33, .aload_n 0, 1), (34, .iload_n 3, 1), (35, .invokevirtual 98, 3), (38, .aload_n 0, 1), (39, .iload 4, 2), (41, .invokevirtual 98, 3), (44, .aload_n 0, 1), (45, .iload 5, 2), (47, .invokevirtual 98, 3), (50, .aload_n 0, 1), (51, .getfield 9, 3), (54, .ireturn, 1)]
set_option maxRecDepth 100000 in
theorem qX11_feed : ∀ q ∈ tX11_feed, decode cX11_feed q.1 = .ok (q.2.1, q.2.2) := by decide +kernel
theorem gX11_feed {d : Nat} {p0 : Nat} {i1 : Int32} {i2 : Int32} {i3 : Int32} {i4 : Int32} {i5 : Int32} {h : jm_H} {r : jm_R} (H : ((jr_I h p0 10 1 0).bind fun x1 => (if 2000 < (x1 + 20) then some (.inr 0, jm_gap h) else jm_O h p0 11 (jc_V (jm_D d mX11_appendBytes [.ref p0, .int i1] h) (fun h4 => jm_O h4 p0 11 (jc_V (jm_D d mX11_appendBytes [.ref p0, .int i2] h4) (fun h6 => jm_O h6 p0 11 (jc_V (jm_D d mX11_appendBytes [.ref p0, .int i3] h6) (fun h8 => jm_O h8 p0 11 (jc_V (jm_D d mX11_appendBytes [.ref p0, .int i4] h8) (fun h10 => jm_O h10 p0 11 (jc_V (jm_D d mX11_appendBytes [.ref p0, .int i5] h10) (fun h12 => (jr_I h12 p0 10 1 0).bind fun x14 => some (.inl (some (.int x14)), h12)) jx)) jx)) jx)) jx)) jx))) = some r) : jm_D (d + 1) mX11_feed [.ref p0, .int i1, .int i2, .int i3, .int i4, .int i5] h = some r := by
  rw [jm_D_body (Nat.le_of_ble_eq_true rfl)]
  show jm_B d mX11_feed (0, [some (.ref p0), some (.int i1), some (.int i2), some (.int i3), some (.int i4), some (.int i5)], []) h = some r
  refine Eq.trans (jb_nx (i := .aload_n 0) (n := 1) (q := (1, [some (.ref p0), some (.int i1), some (.int i2), some (.int i3), some (.int i4), some (.int i5)], [.ref p0])) (jq qX11_feed 0 rfl) rfl) ?_
  obtain ⟨x1, e2, H⟩ := jbd H
  refine Eq.trans (jb_nx (i := .getfield 9) (n := 3) (q := (4, [some (.ref p0), some (.int i1), some (.int i2), some (.int i3), some (.int i4), some (.int i5)], [.int x1])) (jq qX11_feed 1 rfl) (jo_gf rfl (jr_I_inv e2))) ?_
  refine Eq.trans (jb_nx (i := .bipush 20) (n := 2) (q := (6, [some (.ref p0), some (.int i1), some (.int i2), some (.int i3), some (.int i4), some (.int i5)], [.int 20, .int x1])) (jq qX11_feed 2 rfl) rfl) ?_
  refine Eq.trans (jb_nx (i := .iadd) (n := 1) (q := (7, [some (.ref p0), some (.int i1), some (.int i2), some (.int i3), some (.int i4), some (.int i5)], [.int (x1 + 20)])) (jq qX11_feed 3 rfl) rfl) ?_
  refine Eq.trans (jb_nx (i := .sipush 2000) (n := 3) (q := (10, [some (.ref p0), some (.int i1), some (.int i2), some (.int i3), some (.int i4), some (.int i5)], [.int 2000, .int (x1 + 20)])) (jq qX11_feed 4 rfl) rfl) ?_
  by_cases c3 : 2000 < (x1 + 20)
  · rw [if_pos c3] at H
    refine Eq.trans (jb_nx (i := .if_icmp .le 13) (n := 3) (q := (13, [some (.ref p0), some (.int i1), some (.int i2), some (.int i3), some (.int i4), some (.int i5)], [])) (jq qX11_feed 5 rfl) (jo_icF (jz_leF c3))) ?_
    exact Eq.trans (jb_rt (i := .new 91) (n := 3) (jq qX11_feed 6 rfl) (jo_thr rfl (jo_throw (k := 93) (j := 95) ⟨rfl, rfl, by decide, Nat.le_of_ble_eq_true rfl⟩ (jq qX11_feed 7 rfl) (jq qX11_feed 8 rfl) rfl (jq qX11_feed 9 rfl) (jq qX11_feed 10 rfl) rfl))) H
  · rw [if_neg c3] at H
    refine Eq.trans (jb_nx (i := .if_icmp .le 13) (n := 3) (q := (23, [some (.ref p0), some (.int i1), some (.int i2), some (.int i3), some (.int i4), some (.int i5)], [])) (jq qX11_feed 5 rfl) (jo_icT (jz_leT c3) rfl)) ?_
    refine Eq.trans (jb_nx (i := .aload_n 0) (n := 1) (q := (24, [some (.ref p0), some (.int i1), some (.int i2), some (.int i3), some (.int i4), some (.int i5)], [.ref p0])) (jq qX11_feed 11 rfl) rfl) ?_
    refine Eq.trans (jb_nx (i := .iload_n 1) (n := 1) (q := (25, [some (.ref p0), some (.int i1), some (.int i2), some (.int i3), some (.int i4), some (.int i5)], [.int i1, .ref p0])) (jq qX11_feed 12 rfl) rfl) ?_
    obtain ⟨b28, H⟩ := jm_O_inv H
    rcases jcV H with ⟨h4, r5, H⟩ | ⟨w29, h30, r5, H⟩
    · refine Eq.trans (jb_nx (i := .invokevirtual 98) (n := 3) (q := (28, [some (.ref p0), some (.int i1), some (.int i2), some (.int i3), some (.int i4), some (.int i5)], [])) (jq qX11_feed 13 rfl) (jo_cv (y := mX11_appendBytes) rfl (Nat.le_of_ble_eq_true rfl) rfl (Nat.le_of_ble_eq_true rfl) b28 rfl r5 jo_ret)) ?_
      refine Eq.trans (jb_nx (i := .aload_n 0) (n := 1) (q := (29, [some (.ref p0), some (.int i1), some (.int i2), some (.int i3), some (.int i4), some (.int i5)], [.ref p0])) (jq qX11_feed 14 rfl) rfl) ?_
      refine Eq.trans (jb_nx (i := .iload_n 2) (n := 1) (q := (30, [some (.ref p0), some (.int i1), some (.int i2), some (.int i3), some (.int i4), some (.int i5)], [.int i2, .ref p0])) (jq qX11_feed 15 rfl) rfl) ?_
      obtain ⟨b25, H⟩ := jm_O_inv H
      rcases jcV H with ⟨h6, r7, H⟩ | ⟨w26, h27, r7, H⟩
      · refine Eq.trans (jb_nx (i := .invokevirtual 98) (n := 3) (q := (33, [some (.ref p0), some (.int i1), some (.int i2), some (.int i3), some (.int i4), some (.int i5)], [])) (jq qX11_feed 16 rfl) (jo_cv (y := mX11_appendBytes) rfl (Nat.le_of_ble_eq_true rfl) rfl (Nat.le_of_ble_eq_true rfl) b25 rfl r7 jo_ret)) ?_
        refine Eq.trans (jb_nx (i := .aload_n 0) (n := 1) (q := (34, [some (.ref p0), some (.int i1), some (.int i2), some (.int i3), some (.int i4), some (.int i5)], [.ref p0])) (jq qX11_feed 17 rfl) rfl) ?_
        refine Eq.trans (jb_nx (i := .iload_n 3) (n := 1) (q := (35, [some (.ref p0), some (.int i1), some (.int i2), some (.int i3), some (.int i4), some (.int i5)], [.int i3, .ref p0])) (jq qX11_feed 18 rfl) rfl) ?_
        obtain ⟨b22, H⟩ := jm_O_inv H
        rcases jcV H with ⟨h8, r9, H⟩ | ⟨w23, h24, r9, H⟩
        · refine Eq.trans (jb_nx (i := .invokevirtual 98) (n := 3) (q := (38, [some (.ref p0), some (.int i1), some (.int i2), some (.int i3), some (.int i4), some (.int i5)], [])) (jq qX11_feed 19 rfl) (jo_cv (y := mX11_appendBytes) rfl (Nat.le_of_ble_eq_true rfl) rfl (Nat.le_of_ble_eq_true rfl) b22 rfl r9 jo_ret)) ?_
          refine Eq.trans (jb_nx (i := .aload_n 0) (n := 1) (q := (39, [some (.ref p0), some (.int i1), some (.int i2), some (.int i3), some (.int i4), some (.int i5)], [.ref p0])) (jq qX11_feed 20 rfl) rfl) ?_
          refine Eq.trans (jb_nx (i := .iload 4) (n := 2) (q := (41, [some (.ref p0), some (.int i1), some (.int i2), some (.int i3), some (.int i4), some (.int i5)], [.int i4, .ref p0])) (jq qX11_feed 21 rfl) rfl) ?_
          obtain ⟨b19, H⟩ := jm_O_inv H
          rcases jcV H with ⟨h10, r11, H⟩ | ⟨w20, h21, r11, H⟩
          · refine Eq.trans (jb_nx (i := .invokevirtual 98) (n := 3) (q := (44, [some (.ref p0), some (.int i1), some (.int i2), some (.int i3), some (.int i4), some (.int i5)], [])) (jq qX11_feed 22 rfl) (jo_cv (y := mX11_appendBytes) rfl (Nat.le_of_ble_eq_true rfl) rfl (Nat.le_of_ble_eq_true rfl) b19 rfl r11 jo_ret)) ?_
            refine Eq.trans (jb_nx (i := .aload_n 0) (n := 1) (q := (45, [some (.ref p0), some (.int i1), some (.int i2), some (.int i3), some (.int i4), some (.int i5)], [.ref p0])) (jq qX11_feed 23 rfl) rfl) ?_
            refine Eq.trans (jb_nx (i := .iload 5) (n := 2) (q := (47, [some (.ref p0), some (.int i1), some (.int i2), some (.int i3), some (.int i4), some (.int i5)], [.int i5, .ref p0])) (jq qX11_feed 24 rfl) rfl) ?_
            obtain ⟨b16, H⟩ := jm_O_inv H
            rcases jcV H with ⟨h12, r13, H⟩ | ⟨w17, h18, r13, H⟩
            · refine Eq.trans (jb_nx (i := .invokevirtual 98) (n := 3) (q := (50, [some (.ref p0), some (.int i1), some (.int i2), some (.int i3), some (.int i4), some (.int i5)], [])) (jq qX11_feed 25 rfl) (jo_cv (y := mX11_appendBytes) rfl (Nat.le_of_ble_eq_true rfl) rfl (Nat.le_of_ble_eq_true rfl) b16 rfl r13 jo_ret)) ?_
              refine Eq.trans (jb_nx (i := .aload_n 0) (n := 1) (q := (51, [some (.ref p0), some (.int i1), some (.int i2), some (.int i3), some (.int i4), some (.int i5)], [.ref p0])) (jq qX11_feed 26 rfl) rfl) ?_
              obtain ⟨x14, e15, H⟩ := jbd H
              refine Eq.trans (jb_nx (i := .getfield 9) (n := 3) (q := (54, [some (.ref p0), some (.int i1), some (.int i2), some (.int i3), some (.int i4), some (.int i5)], [.int x14])) (jq qX11_feed 27 rfl) (jo_gf rfl (jr_I_inv e15))) ?_
              exact Eq.trans (jb_rt (i := .ireturn) (n := 1) (jq qX11_feed 28 rfl) (jo_iret rfl rfl)) H
            · exact Eq.trans (jb_rt (i := .invokevirtual 98) (n := 3) (jq qX11_feed 25 rfl) (jo_cv (y := mX11_appendBytes) rfl (Nat.le_of_ble_eq_true rfl) rfl (Nat.le_of_ble_eq_true rfl) b16 rfl r13 (jo_exn rfl))) H
          · exact Eq.trans (jb_rt (i := .invokevirtual 98) (n := 3) (jq qX11_feed 22 rfl) (jo_cv (y := mX11_appendBytes) rfl (Nat.le_of_ble_eq_true rfl) rfl (Nat.le_of_ble_eq_true rfl) b19 rfl r11 (jo_exn rfl))) H
        · exact Eq.trans (jb_rt (i := .invokevirtual 98) (n := 3) (jq qX11_feed 19 rfl) (jo_cv (y := mX11_appendBytes) rfl (Nat.le_of_ble_eq_true rfl) rfl (Nat.le_of_ble_eq_true rfl) b22 rfl r9 (jo_exn rfl))) H
      · exact Eq.trans (jb_rt (i := .invokevirtual 98) (n := 3) (jq qX11_feed 16 rfl) (jo_cv (y := mX11_appendBytes) rfl (Nat.le_of_ble_eq_true rfl) rfl (Nat.le_of_ble_eq_true rfl) b25 rfl r7 (jo_exn rfl))) H
    · exact Eq.trans (jb_rt (i := .invokevirtual 98) (n := 3) (jq qX11_feed 13 rfl) (jo_cv (y := mX11_appendBytes) rfl (Nat.le_of_ble_eq_true rfl) rfl (Nat.le_of_ble_eq_true rfl) b28 rfl r5 (jo_exn rfl))) H
/-! MaskPlays appendBytes (I)V -/
def tX11_appendBytes : List (Nat × Instr × Nat) := [(0, .bipush 24, 2), (2, .istore_n 2, 1), (3, .iload_n 2, 1), (4, .ifCond .lt 51, 3), (7, .aload_n 0, 1), (8, .getfield 9, 3), (11, .ifCond .lt 38, 3), (14, .aload_n 0, 1), (15, .getfield 9, 3), (18, .aload_n 0, 1), (19, .getfield 48, 3), (22, .arraylength, 1), (23, .if_icmp .ge 26, 3), (26, .aload_n 0, 1), (27, .getfield 48, 3), (30, .aload_n 0, 1), (31, .getfield 9, 3), (34, .iload_n 1, 1), (35, .iload_n 2, 1), (36, .ishr, 1), (37, .i2b, 1), (38, .bastore, 1), (39, .aload_n 0, 1), (40, .dup, 1), (41, .getfield 9, 3), (44, .iconst 1, 1), (45, .iadd, 1), (46, .putfield 9, 3), (49, .iinc 2 (-8), 3), (52, .goto (-49), 3), (55, .return_, 1)]
set_option maxRecDepth 100000 in
theorem qX11_appendBytes : ∀ q ∈ tX11_appendBytes, decode cX11_appendBytes q.1 = .ok (q.2.1, q.2.2) := by decide +kernel
noncomputable def kX11_appendBytes_3 (d : Nat) (p0 : Nat) (i1 : Int32) (i2 : Int32) (h : jm_H) : Option jm_R := jm_B d mX11_appendBytes (3, [some (.ref p0), some (.int i1), some (.int i2)], []) h
theorem gX11_appendBytes_3 {d : Nat} {p0 : Nat} {i1 : Int32} {i2 : Int32} {h : jm_H} {r : jm_R} (H : ((if i2 < 0 then some (.inl none, h) else (jr_I h p0 10 1 0).bind fun x2 => (if x2 < 0 then kX11_appendBytes_3 d p0 i1 (i2 + (-8)) h else (jr_I h p0 10 1 0).bind fun x5 => (jr_R h p0 10 0 2).bind fun a7 => (jm_len h a7).bind fun n9 => (if x5 < (Int32.ofNat n9) then (jr_R h p0 10 0 2).bind fun a12 => (jr_I h p0 10 1 0).bind fun x14 => (jm_asi h a12 2 x14 (Int8.toInt32 (Int32.toInt8 (i1 >>> (i2 &&& 31))))).bind fun h16 => (jr_I h16 p0 10 1 0).bind fun x18 => (jm_pf h16 p0 10 1 0 (.int (x18 + 1))).bind fun h20 => kX11_appendBytes_3 d p0 i1 (i2 + (-8)) h20 else kX11_appendBytes_3 d p0 i1 (i2 + (-8)) h)))) = some r) : kX11_appendBytes_3 d p0 i1 i2 h = some r := by
  show jm_B d mX11_appendBytes (3, [some (.ref p0), some (.int i1), some (.int i2)], []) h = some r
  refine Eq.trans (jb_nx (i := .iload_n 2) (n := 1) (q := (4, [some (.ref p0), some (.int i1), some (.int i2)], [.int i2])) (jq qX11_appendBytes 2 rfl) rfl) ?_
  by_cases c1 : i2 < 0
  · rw [if_pos c1] at H
    refine Eq.trans (jb_nx (i := .ifCond .lt 51) (n := 3) (q := (55, [some (.ref p0), some (.int i1), some (.int i2)], [])) (jq qX11_appendBytes 3 rfl) (jo_ifT (jz_ltT c1) rfl)) ?_
    exact Eq.trans (jb_rt (i := .return_) (n := 1) (jq qX11_appendBytes 30 rfl) rfl) H
  · rw [if_neg c1] at H
    refine Eq.trans (jb_nx (i := .ifCond .lt 51) (n := 3) (q := (7, [some (.ref p0), some (.int i1), some (.int i2)], [])) (jq qX11_appendBytes 3 rfl) (jo_ifF (jz_ltF c1))) ?_
    refine Eq.trans (jb_nx (i := .aload_n 0) (n := 1) (q := (8, [some (.ref p0), some (.int i1), some (.int i2)], [.ref p0])) (jq qX11_appendBytes 4 rfl) rfl) ?_
    obtain ⟨x2, e3, H⟩ := jbd H
    refine Eq.trans (jb_nx (i := .getfield 9) (n := 3) (q := (11, [some (.ref p0), some (.int i1), some (.int i2)], [.int x2])) (jq qX11_appendBytes 5 rfl) (jo_gf rfl (jr_I_inv e3))) ?_
    by_cases c4 : x2 < 0
    · rw [if_pos c4] at H
      refine Eq.trans (jb_nx (i := .ifCond .lt 38) (n := 3) (q := (49, [some (.ref p0), some (.int i1), some (.int i2)], [])) (jq qX11_appendBytes 6 rfl) (jo_ifT (jz_ltT c4) rfl)) ?_
      refine Eq.trans (jb_nx (i := .iinc 2 (-8)) (n := 3) (q := (52, [some (.ref p0), some (.int i1), some (.int (i2 + (-8)))], [])) (jq qX11_appendBytes 28 rfl) rfl) ?_
      refine Eq.trans (jb_nx (i := .goto (-49)) (n := 3) (q := (3, [some (.ref p0), some (.int i1), some (.int (i2 + (-8)))], [])) (jq qX11_appendBytes 29 rfl) rfl) ?_
      exact H
    · rw [if_neg c4] at H
      refine Eq.trans (jb_nx (i := .ifCond .lt 38) (n := 3) (q := (14, [some (.ref p0), some (.int i1), some (.int i2)], [])) (jq qX11_appendBytes 6 rfl) (jo_ifF (jz_ltF c4))) ?_
      refine Eq.trans (jb_nx (i := .aload_n 0) (n := 1) (q := (15, [some (.ref p0), some (.int i1), some (.int i2)], [.ref p0])) (jq qX11_appendBytes 7 rfl) rfl) ?_
      obtain ⟨x5, e6, H⟩ := jbd H
      refine Eq.trans (jb_nx (i := .getfield 9) (n := 3) (q := (18, [some (.ref p0), some (.int i1), some (.int i2)], [.int x5])) (jq qX11_appendBytes 8 rfl) (jo_gf rfl (jr_I_inv e6))) ?_
      refine Eq.trans (jb_nx (i := .aload_n 0) (n := 1) (q := (19, [some (.ref p0), some (.int i1), some (.int i2)], [.ref p0, .int x5])) (jq qX11_appendBytes 9 rfl) rfl) ?_
      obtain ⟨a7, e8, H⟩ := jbd H
      refine Eq.trans (jb_nx (i := .getfield 48) (n := 3) (q := (22, [some (.ref p0), some (.int i1), some (.int i2)], [.ref a7, .int x5])) (jq qX11_appendBytes 10 rfl) (jo_gf rfl (jr_R_inv e8))) ?_
      obtain ⟨n9, e10, H⟩ := jbd H
      refine Eq.trans (jb_nx (i := .arraylength) (n := 1) (q := (23, [some (.ref p0), some (.int i1), some (.int i2)], [.int (Int32.ofNat n9), .int x5])) (jq qX11_appendBytes 11 rfl) (jo_len e10)) ?_
      by_cases c11 : x5 < (Int32.ofNat n9)
      · rw [if_pos c11] at H
        refine Eq.trans (jb_nx (i := .if_icmp .ge 26) (n := 3) (q := (26, [some (.ref p0), some (.int i1), some (.int i2)], [])) (jq qX11_appendBytes 12 rfl) (jo_icF (jz_geF c11))) ?_
        refine Eq.trans (jb_nx (i := .aload_n 0) (n := 1) (q := (27, [some (.ref p0), some (.int i1), some (.int i2)], [.ref p0])) (jq qX11_appendBytes 13 rfl) rfl) ?_
        obtain ⟨a12, e13, H⟩ := jbd H
        refine Eq.trans (jb_nx (i := .getfield 48) (n := 3) (q := (30, [some (.ref p0), some (.int i1), some (.int i2)], [.ref a12])) (jq qX11_appendBytes 14 rfl) (jo_gf rfl (jr_R_inv e13))) ?_
        refine Eq.trans (jb_nx (i := .aload_n 0) (n := 1) (q := (31, [some (.ref p0), some (.int i1), some (.int i2)], [.ref p0, .ref a12])) (jq qX11_appendBytes 15 rfl) rfl) ?_
        obtain ⟨x14, e15, H⟩ := jbd H
        refine Eq.trans (jb_nx (i := .getfield 9) (n := 3) (q := (34, [some (.ref p0), some (.int i1), some (.int i2)], [.int x14, .ref a12])) (jq qX11_appendBytes 16 rfl) (jo_gf rfl (jr_I_inv e15))) ?_
        refine Eq.trans (jb_nx (i := .iload_n 1) (n := 1) (q := (35, [some (.ref p0), some (.int i1), some (.int i2)], [.int i1, .int x14, .ref a12])) (jq qX11_appendBytes 17 rfl) rfl) ?_
        refine Eq.trans (jb_nx (i := .iload_n 2) (n := 1) (q := (36, [some (.ref p0), some (.int i1), some (.int i2)], [.int i2, .int i1, .int x14, .ref a12])) (jq qX11_appendBytes 18 rfl) rfl) ?_
        refine Eq.trans (jb_nx (i := .ishr) (n := 1) (q := (37, [some (.ref p0), some (.int i1), some (.int i2)], [.int (i1 >>> (i2 &&& 31)), .int x14, .ref a12])) (jq qX11_appendBytes 19 rfl) rfl) ?_
        refine Eq.trans (jb_nx (i := .i2b) (n := 1) (q := (38, [some (.ref p0), some (.int i1), some (.int i2)], [.int (Int8.toInt32 (Int32.toInt8 (i1 >>> (i2 &&& 31)))), .int x14, .ref a12])) (jq qX11_appendBytes 20 rfl) rfl) ?_
        obtain ⟨h16, e17, H⟩ := jbd H
        refine Eq.trans (jb_nx (i := .bastore) (n := 1) (q := (39, [some (.ref p0), some (.int i1), some (.int i2)], [])) (jq qX11_appendBytes 21 rfl) (jo_bas e17)) ?_
        refine Eq.trans (jb_nx (i := .aload_n 0) (n := 1) (q := (40, [some (.ref p0), some (.int i1), some (.int i2)], [.ref p0])) (jq qX11_appendBytes 22 rfl) rfl) ?_
        refine Eq.trans (jb_nx (i := .dup) (n := 1) (q := (41, [some (.ref p0), some (.int i1), some (.int i2)], [.ref p0, .ref p0])) (jq qX11_appendBytes 23 rfl) rfl) ?_
        obtain ⟨x18, e19, H⟩ := jbd H
        refine Eq.trans (jb_nx (i := .getfield 9) (n := 3) (q := (44, [some (.ref p0), some (.int i1), some (.int i2)], [.int x18, .ref p0])) (jq qX11_appendBytes 24 rfl) (jo_gf rfl (jr_I_inv e19))) ?_
        refine Eq.trans (jb_nx (i := .iconst 1) (n := 1) (q := (45, [some (.ref p0), some (.int i1), some (.int i2)], [.int 1, .int x18, .ref p0])) (jq qX11_appendBytes 25 rfl) rfl) ?_
        refine Eq.trans (jb_nx (i := .iadd) (n := 1) (q := (46, [some (.ref p0), some (.int i1), some (.int i2)], [.int (x18 + 1), .ref p0])) (jq qX11_appendBytes 26 rfl) rfl) ?_
        obtain ⟨h20, e21, H⟩ := jbd H
        refine Eq.trans (jb_nx (i := .putfield 9) (n := 3) (q := (49, [some (.ref p0), some (.int i1), some (.int i2)], [])) (jq qX11_appendBytes 27 rfl) (jo_pf rfl (Or.inl rfl) e21)) ?_
        refine Eq.trans (jb_nx (i := .iinc 2 (-8)) (n := 3) (q := (52, [some (.ref p0), some (.int i1), some (.int (i2 + (-8)))], [])) (jq qX11_appendBytes 28 rfl) rfl) ?_
        refine Eq.trans (jb_nx (i := .goto (-49)) (n := 3) (q := (3, [some (.ref p0), some (.int i1), some (.int (i2 + (-8)))], [])) (jq qX11_appendBytes 29 rfl) rfl) ?_
        exact H
      · rw [if_neg c11] at H
        refine Eq.trans (jb_nx (i := .if_icmp .ge 26) (n := 3) (q := (49, [some (.ref p0), some (.int i1), some (.int i2)], [])) (jq qX11_appendBytes 12 rfl) (jo_icT (jz_geT c11) rfl)) ?_
        refine Eq.trans (jb_nx (i := .iinc 2 (-8)) (n := 3) (q := (52, [some (.ref p0), some (.int i1), some (.int (i2 + (-8)))], [])) (jq qX11_appendBytes 28 rfl) rfl) ?_
        refine Eq.trans (jb_nx (i := .goto (-49)) (n := 3) (q := (3, [some (.ref p0), some (.int i1), some (.int (i2 + (-8)))], [])) (jq qX11_appendBytes 29 rfl) rfl) ?_
        exact H
theorem gX11_appendBytes {d : Nat} {p0 : Nat} {i1 : Int32} {h : jm_H} {r : jm_R} (H : (kX11_appendBytes_3 d p0 i1 24 h) = some r) : jm_D (d + 1) mX11_appendBytes [.ref p0, .int i1] h = some r := by
  rw [jm_D_body (Nat.le_of_ble_eq_true rfl)]
  show jm_B d mX11_appendBytes (0, [some (.ref p0), some (.int i1), none], []) h = some r
  refine Eq.trans (jb_nx (i := .bipush 24) (n := 2) (q := (2, [some (.ref p0), some (.int i1), none], [.int 24])) (jq qX11_appendBytes 0 rfl) rfl) ?_
  refine Eq.trans (jb_nx (i := .istore_n 2) (n := 1) (q := (3, [some (.ref p0), some (.int i1), some (.int 24)], [])) (jq qX11_appendBytes 1 rfl) rfl) ?_
  exact H
/-! MaskPlays trim (I)I -/
def tX11_trim : List (Nat × Instr × Nat) := [(0, .iload_n 1, 1), (1, .ifCond .lt 11, 3), (4, .iload_n 1, 1), (5, .aload_n 0, 1), (6, .getfield 9, 3), (9, .if_icmp .le 13, 3), (12, .new 102, 3), (15, .dup, 1), (16, .ldc 104, 2), (18, .invokespecial 106, 3), (21, .athrow, 1), (22, .aload_n 0, 1), (23, .iload_n 1, 1), (24, .putfield 9, 3), (27, .iload_n 1, 1), (28, .ireturn, 1)]
set_option maxRecDepth 100000 in
theorem qX11_trim : ∀ q ∈ tX11_trim, decode cX11_trim q.1 = .ok (q.2.1, q.2.2) := by decide +kernel
theorem gX11_trim {d : Nat} {p0 : Nat} {i1 : Int32} {h : jm_H} {r : jm_R} (H : ((if i1 < 0 then some (.inr 1, jm_gap h) else (jr_I h p0 10 1 0).bind fun x2 => (if x2 < i1 then some (.inr 1, jm_gap h) else (jm_pf h p0 10 1 0 (.int i1)).bind fun h5 => some (.inl (some (.int i1)), h5)))) = some r) : jm_D (d + 1) mX11_trim [.ref p0, .int i1] h = some r := by
  rw [jm_D_body (Nat.le_of_ble_eq_true rfl)]
  show jm_B d mX11_trim (0, [some (.ref p0), some (.int i1)], []) h = some r
  refine Eq.trans (jb_nx (i := .iload_n 1) (n := 1) (q := (1, [some (.ref p0), some (.int i1)], [.int i1])) (jq qX11_trim 0 rfl) rfl) ?_
  by_cases c1 : i1 < 0
  · rw [if_pos c1] at H
    refine Eq.trans (jb_nx (i := .ifCond .lt 11) (n := 3) (q := (12, [some (.ref p0), some (.int i1)], [])) (jq qX11_trim 1 rfl) (jo_ifT (jz_ltT c1) rfl)) ?_
    exact Eq.trans (jb_rt (i := .new 102) (n := 3) (jq qX11_trim 6 rfl) (jo_thr rfl (jo_throw (k := 104) (j := 106) ⟨rfl, rfl, by decide, Nat.le_of_ble_eq_true rfl⟩ (jq qX11_trim 7 rfl) (jq qX11_trim 8 rfl) rfl (jq qX11_trim 9 rfl) (jq qX11_trim 10 rfl) rfl))) H
  · rw [if_neg c1] at H
    refine Eq.trans (jb_nx (i := .ifCond .lt 11) (n := 3) (q := (4, [some (.ref p0), some (.int i1)], [])) (jq qX11_trim 1 rfl) (jo_ifF (jz_ltF c1))) ?_
    refine Eq.trans (jb_nx (i := .iload_n 1) (n := 1) (q := (5, [some (.ref p0), some (.int i1)], [.int i1])) (jq qX11_trim 2 rfl) rfl) ?_
    refine Eq.trans (jb_nx (i := .aload_n 0) (n := 1) (q := (6, [some (.ref p0), some (.int i1)], [.ref p0, .int i1])) (jq qX11_trim 3 rfl) rfl) ?_
    obtain ⟨x2, e3, H⟩ := jbd H
    refine Eq.trans (jb_nx (i := .getfield 9) (n := 3) (q := (9, [some (.ref p0), some (.int i1)], [.int x2, .int i1])) (jq qX11_trim 4 rfl) (jo_gf rfl (jr_I_inv e3))) ?_
    by_cases c4 : x2 < i1
    · rw [if_pos c4] at H
      refine Eq.trans (jb_nx (i := .if_icmp .le 13) (n := 3) (q := (12, [some (.ref p0), some (.int i1)], [])) (jq qX11_trim 5 rfl) (jo_icF (jz_leF c4))) ?_
      exact Eq.trans (jb_rt (i := .new 102) (n := 3) (jq qX11_trim 6 rfl) (jo_thr rfl (jo_throw (k := 104) (j := 106) ⟨rfl, rfl, by decide, Nat.le_of_ble_eq_true rfl⟩ (jq qX11_trim 7 rfl) (jq qX11_trim 8 rfl) rfl (jq qX11_trim 9 rfl) (jq qX11_trim 10 rfl) rfl))) H
    · rw [if_neg c4] at H
      refine Eq.trans (jb_nx (i := .if_icmp .le 13) (n := 3) (q := (22, [some (.ref p0), some (.int i1)], [])) (jq qX11_trim 5 rfl) (jo_icT (jz_leT c4) rfl)) ?_
      refine Eq.trans (jb_nx (i := .aload_n 0) (n := 1) (q := (23, [some (.ref p0), some (.int i1)], [.ref p0])) (jq qX11_trim 11 rfl) rfl) ?_
      refine Eq.trans (jb_nx (i := .iload_n 1) (n := 1) (q := (24, [some (.ref p0), some (.int i1)], [.int i1, .ref p0])) (jq qX11_trim 12 rfl) rfl) ?_
      obtain ⟨h5, e6, H⟩ := jbd H
      refine Eq.trans (jb_nx (i := .putfield 9) (n := 3) (q := (27, [some (.ref p0), some (.int i1)], [])) (jq qX11_trim 13 rfl) (jo_pf rfl (Or.inl rfl) e6)) ?_
      refine Eq.trans (jb_nx (i := .iload_n 1) (n := 1) (q := (28, [some (.ref p0), some (.int i1)], [.int i1])) (jq qX11_trim 14 rfl) rfl) ?_
      exact Eq.trans (jb_rt (i := .ireturn) (n := 1) (jq qX11_trim 15 rfl) (jo_iret rfl rfl)) H
/-! MaskPlays canStep (I)Z -/
def tX11_canStep : List (Nat × Instr × Nat) := [(0, .aload_n 0, 1), (1, .getfield 75, 3), (4, .aload_n 0, 1), (5, .iload_n 1, 1), (6, .invokevirtual 147, 3), (9, .invokevirtual 182, 3), (12, .ireturn, 1)]
set_option maxRecDepth 100000 in
theorem qX11_canStep : ∀ q ∈ tX11_canStep, decode cX11_canStep q.1 = .ok (q.2.1, q.2.2) := by decide +kernel
theorem gX11_canStep {d : Nat} {p0 : Nat} {i1 : Int32} {h : jm_H} {r : jm_R} (H : ((jr_R h p0 10 8 2).bind fun a1 => jm_O h p0 11 (jc_R (jm_D d mX11_partOf [.ref p0, .int i1] h) (fun a5 h3 => jm_O h3 a1 5 (jc_I (jm_D d mX5_canBeTaken [.ref a1, .ref a5] h3) (fun x8 h6 => jm_Y .boolean x8 (some (.inl (some (.int x8)), h6))) jx)) jx)) = some r) : jm_D (d + 1) mX11_canStep [.ref p0, .int i1] h = some r := by
  rw [jm_D_body (Nat.le_of_ble_eq_true rfl)]
  show jm_B d mX11_canStep (0, [some (.ref p0), some (.int i1)], []) h = some r
  refine Eq.trans (jb_nx (i := .aload_n 0) (n := 1) (q := (1, [some (.ref p0), some (.int i1)], [.ref p0])) (jq qX11_canStep 0 rfl) rfl) ?_
  obtain ⟨a1, e2, H⟩ := jbd H
  refine Eq.trans (jb_nx (i := .getfield 75) (n := 3) (q := (4, [some (.ref p0), some (.int i1)], [.ref a1])) (jq qX11_canStep 1 rfl) (jo_gf rfl (jr_R_inv e2))) ?_
  refine Eq.trans (jb_nx (i := .aload_n 0) (n := 1) (q := (5, [some (.ref p0), some (.int i1)], [.ref p0, .ref a1])) (jq qX11_canStep 2 rfl) rfl) ?_
  refine Eq.trans (jb_nx (i := .iload_n 1) (n := 1) (q := (6, [some (.ref p0), some (.int i1)], [.int i1, .ref p0, .ref a1])) (jq qX11_canStep 3 rfl) rfl) ?_
  obtain ⟨b13, H⟩ := jm_O_inv H
  rcases jcR H with ⟨a5, h3, r4, H⟩ | ⟨w14, h15, r4, H⟩
  · refine Eq.trans (jb_nx (i := .invokevirtual 147) (n := 3) (q := (9, [some (.ref p0), some (.int i1)], [.ref a5, .ref a1])) (jq qX11_canStep 4 rfl) (jo_cv (y := mX11_partOf) rfl (Nat.le_of_ble_eq_true rfl) rfl (Nat.le_of_ble_eq_true rfl) b13 rfl r4 jo_ret)) ?_
    obtain ⟨b10, H⟩ := jm_O_inv H
    rcases jcI H with ⟨x8, h6, r7, H⟩ | ⟨w11, h12, r7, H⟩
    · refine Eq.trans (jb_nx (i := .invokevirtual 182) (n := 3) (q := (12, [some (.ref p0), some (.int i1)], [.int x8])) (jq qX11_canStep 5 rfl) (jo_cv (y := mX5_canBeTaken) rfl (Nat.le_of_ble_eq_true rfl) rfl (Nat.le_of_ble_eq_true rfl) b10 rfl r7 jo_ret)) ?_
      obtain ⟨u9, H⟩ := jm_Y_inv H
      exact Eq.trans (jb_rt (i := .ireturn) (n := 1) (jq qX11_canStep 6 rfl) (jo_iret rfl u9)) H
    · exact Eq.trans (jb_rt (i := .invokevirtual 182) (n := 3) (jq qX11_canStep 5 rfl) (jo_cv (y := mX5_canBeTaken) rfl (Nat.le_of_ble_eq_true rfl) rfl (Nat.le_of_ble_eq_true rfl) b10 rfl r7 (jo_exn rfl))) H
  · exact Eq.trans (jb_rt (i := .invokevirtual 147) (n := 3) (jq qX11_canStep 4 rfl) (jo_cv (y := mX11_partOf) rfl (Nat.le_of_ble_eq_true rfl) rfl (Nat.le_of_ble_eq_true rfl) b13 rfl r4 (jo_exn rfl))) H
/-! MaskPlays letterAt (II)I -/
def tX11_letterAt : List (Nat × Instr × Nat) := [(0, .aload_n 0, 1), (1, .getfield 36, 3), (4, .aload_n 0, 1), (5, .iload_n 1, 1), (6, .invokevirtual 147, 3), (9, .invokevirtual 186, 3), (12, .iload_n 2, 1), (13, .ifCond .lt 14, 3), (16, .iload_n 2, 1), (17, .aload_n 0, 1), (18, .getfield 36, 3), (21, .getfield 190, 3), (24, .if_icmp .lt 13, 3), (27, .new 160, 3), (30, .dup, 1), (31, .ldc 193, 2), (33, .invokespecial 164, 3), (36, .athrow, 1), (37, .aload_n 0, 1), (38, .getfield 36, 3), (41, .iload_n 2, 1), (42, .invokevirtual 195, 3), (45, .ireturn, 1)]
set_option maxRecDepth 100000 in
theorem qX11_letterAt : ∀ q ∈ tX11_letterAt, decode cX11_letterAt q.1 = .ok (q.2.1, q.2.2) := by decide +kernel
theorem gX11_letterAt {d : Nat} {p0 : Nat} {i1 : Int32} {i2 : Int32} {h : jm_H} {r : jm_R} (H : ((jr_R h p0 10 13 2).bind fun a1 => jm_O h p0 11 (jc_R (jm_D d mX11_partOf [.ref p0, .int i1] h) (fun a5 h3 => jm_O h3 a1 8 (jc_V (jm_D d mX8_write [.ref a1, .ref a5] h3) (fun h6 => (if i2 < 0 then some (.inr 2, jm_gap h6) else (jr_R h6 p0 10 13 2).bind fun a9 => (jr_I h6 a9 8 0 0).bind fun x11 => (if i2 < x11 then (jr_R h6 p0 10 13 2).bind fun a14 => jm_O h6 a14 8 (jc_I (jm_D d mX8_letter [.ref a14, .int i2] h6) (fun x18 h16 => some (.inl (some (.int x18)), h16)) jx) else some (.inr 2, jm_gap h6)))) jx)) jx)) = some r) : jm_D (d + 1) mX11_letterAt [.ref p0, .int i1, .int i2] h = some r := by
  rw [jm_D_body (Nat.le_of_ble_eq_true rfl)]
  show jm_B d mX11_letterAt (0, [some (.ref p0), some (.int i1), some (.int i2)], []) h = some r
  refine Eq.trans (jb_nx (i := .aload_n 0) (n := 1) (q := (1, [some (.ref p0), some (.int i1), some (.int i2)], [.ref p0])) (jq qX11_letterAt 0 rfl) rfl) ?_
  obtain ⟨a1, e2, H⟩ := jbd H
  refine Eq.trans (jb_nx (i := .getfield 36) (n := 3) (q := (4, [some (.ref p0), some (.int i1), some (.int i2)], [.ref a1])) (jq qX11_letterAt 1 rfl) (jo_gf rfl (jr_R_inv e2))) ?_
  refine Eq.trans (jb_nx (i := .aload_n 0) (n := 1) (q := (5, [some (.ref p0), some (.int i1), some (.int i2)], [.ref p0, .ref a1])) (jq qX11_letterAt 2 rfl) rfl) ?_
  refine Eq.trans (jb_nx (i := .iload_n 1) (n := 1) (q := (6, [some (.ref p0), some (.int i1), some (.int i2)], [.int i1, .ref p0, .ref a1])) (jq qX11_letterAt 3 rfl) rfl) ?_
  obtain ⟨b25, H⟩ := jm_O_inv H
  rcases jcR H with ⟨a5, h3, r4, H⟩ | ⟨w26, h27, r4, H⟩
  · refine Eq.trans (jb_nx (i := .invokevirtual 147) (n := 3) (q := (9, [some (.ref p0), some (.int i1), some (.int i2)], [.ref a5, .ref a1])) (jq qX11_letterAt 4 rfl) (jo_cv (y := mX11_partOf) rfl (Nat.le_of_ble_eq_true rfl) rfl (Nat.le_of_ble_eq_true rfl) b25 rfl r4 jo_ret)) ?_
    obtain ⟨b22, H⟩ := jm_O_inv H
    rcases jcV H with ⟨h6, r7, H⟩ | ⟨w23, h24, r7, H⟩
    · refine Eq.trans (jb_nx (i := .invokevirtual 186) (n := 3) (q := (12, [some (.ref p0), some (.int i1), some (.int i2)], [])) (jq qX11_letterAt 5 rfl) (jo_cv (y := mX8_write) rfl (Nat.le_of_ble_eq_true rfl) rfl (Nat.le_of_ble_eq_true rfl) b22 rfl r7 jo_ret)) ?_
      refine Eq.trans (jb_nx (i := .iload_n 2) (n := 1) (q := (13, [some (.ref p0), some (.int i1), some (.int i2)], [.int i2])) (jq qX11_letterAt 6 rfl) rfl) ?_
      by_cases c8 : i2 < 0
      · rw [if_pos c8] at H
        refine Eq.trans (jb_nx (i := .ifCond .lt 14) (n := 3) (q := (27, [some (.ref p0), some (.int i1), some (.int i2)], [])) (jq qX11_letterAt 7 rfl) (jo_ifT (jz_ltT c8) rfl)) ?_
        exact Eq.trans (jb_rt (i := .new 160) (n := 3) (jq qX11_letterAt 13 rfl) (jo_thr rfl (jo_throw (k := 193) (j := 164) ⟨rfl, rfl, by decide, Nat.le_of_ble_eq_true rfl⟩ (jq qX11_letterAt 14 rfl) (jq qX11_letterAt 15 rfl) rfl (jq qX11_letterAt 16 rfl) (jq qX11_letterAt 17 rfl) rfl))) H
      · rw [if_neg c8] at H
        refine Eq.trans (jb_nx (i := .ifCond .lt 14) (n := 3) (q := (16, [some (.ref p0), some (.int i1), some (.int i2)], [])) (jq qX11_letterAt 7 rfl) (jo_ifF (jz_ltF c8))) ?_
        refine Eq.trans (jb_nx (i := .iload_n 2) (n := 1) (q := (17, [some (.ref p0), some (.int i1), some (.int i2)], [.int i2])) (jq qX11_letterAt 8 rfl) rfl) ?_
        refine Eq.trans (jb_nx (i := .aload_n 0) (n := 1) (q := (18, [some (.ref p0), some (.int i1), some (.int i2)], [.ref p0, .int i2])) (jq qX11_letterAt 9 rfl) rfl) ?_
        obtain ⟨a9, e10, H⟩ := jbd H
        refine Eq.trans (jb_nx (i := .getfield 36) (n := 3) (q := (21, [some (.ref p0), some (.int i1), some (.int i2)], [.ref a9, .int i2])) (jq qX11_letterAt 10 rfl) (jo_gf rfl (jr_R_inv e10))) ?_
        obtain ⟨x11, e12, H⟩ := jbd H
        refine Eq.trans (jb_nx (i := .getfield 190) (n := 3) (q := (24, [some (.ref p0), some (.int i1), some (.int i2)], [.int x11, .int i2])) (jq qX11_letterAt 11 rfl) (jo_gf rfl (jr_I_inv e12))) ?_
        by_cases c13 : i2 < x11
        · rw [if_pos c13] at H
          refine Eq.trans (jb_nx (i := .if_icmp .lt 13) (n := 3) (q := (37, [some (.ref p0), some (.int i1), some (.int i2)], [])) (jq qX11_letterAt 12 rfl) (jo_icT (jz_ltT c13) rfl)) ?_
          refine Eq.trans (jb_nx (i := .aload_n 0) (n := 1) (q := (38, [some (.ref p0), some (.int i1), some (.int i2)], [.ref p0])) (jq qX11_letterAt 18 rfl) rfl) ?_
          obtain ⟨a14, e15, H⟩ := jbd H
          refine Eq.trans (jb_nx (i := .getfield 36) (n := 3) (q := (41, [some (.ref p0), some (.int i1), some (.int i2)], [.ref a14])) (jq qX11_letterAt 19 rfl) (jo_gf rfl (jr_R_inv e15))) ?_
          refine Eq.trans (jb_nx (i := .iload_n 2) (n := 1) (q := (42, [some (.ref p0), some (.int i1), some (.int i2)], [.int i2, .ref a14])) (jq qX11_letterAt 20 rfl) rfl) ?_
          obtain ⟨b19, H⟩ := jm_O_inv H
          rcases jcI H with ⟨x18, h16, r17, H⟩ | ⟨w20, h21, r17, H⟩
          · refine Eq.trans (jb_nx (i := .invokevirtual 195) (n := 3) (q := (45, [some (.ref p0), some (.int i1), some (.int i2)], [.int x18])) (jq qX11_letterAt 21 rfl) (jo_cv (y := mX8_letter) rfl (Nat.le_of_ble_eq_true rfl) rfl (Nat.le_of_ble_eq_true rfl) b19 rfl r17 jo_ret)) ?_
            exact Eq.trans (jb_rt (i := .ireturn) (n := 1) (jq qX11_letterAt 22 rfl) (jo_iret rfl rfl)) H
          · exact Eq.trans (jb_rt (i := .invokevirtual 195) (n := 3) (jq qX11_letterAt 21 rfl) (jo_cv (y := mX8_letter) rfl (Nat.le_of_ble_eq_true rfl) rfl (Nat.le_of_ble_eq_true rfl) b19 rfl r17 (jo_exn rfl))) H
        · rw [if_neg c13] at H
          refine Eq.trans (jb_nx (i := .if_icmp .lt 13) (n := 3) (q := (27, [some (.ref p0), some (.int i1), some (.int i2)], [])) (jq qX11_letterAt 12 rfl) (jo_icF (jz_ltF c13))) ?_
          exact Eq.trans (jb_rt (i := .new 160) (n := 3) (jq qX11_letterAt 13 rfl) (jo_thr rfl (jo_throw (k := 193) (j := 164) ⟨rfl, rfl, by decide, Nat.le_of_ble_eq_true rfl⟩ (jq qX11_letterAt 14 rfl) (jq qX11_letterAt 15 rfl) rfl (jq qX11_letterAt 16 rfl) (jq qX11_letterAt 17 rfl) rfl))) H
    · exact Eq.trans (jb_rt (i := .invokevirtual 186) (n := 3) (jq qX11_letterAt 5 rfl) (jo_cv (y := mX8_write) rfl (Nat.le_of_ble_eq_true rfl) rfl (Nat.le_of_ble_eq_true rfl) b22 rfl r7 (jo_exn rfl))) H
  · exact Eq.trans (jb_rt (i := .invokevirtual 147) (n := 3) (jq qX11_letterAt 4 rfl) (jo_cv (y := mX11_partOf) rfl (Nat.le_of_ble_eq_true rfl) rfl (Nat.le_of_ble_eq_true rfl) b25 rfl r4 (jo_exn rfl))) H
/-! MaskPlays nextSceneAt (I)I -/
def tX11_nextSceneAt : List (Nat × Instr × Nat) := [(0, .aload_n 0, 1), (1, .iload_n 1, 1), (2, .invokevirtual 147, 3), (5, .astore_n 2, 1), (6, .aload_n 2, 1), (7, .invokevirtual 179, 3), (10, .istore_n 3, 1), (11, .iload_n 3, 1), (12, .ifCond .ge 13, 3), (15, .new 91, 3), (18, .dup, 1), (19, .ldc 198, 2), (21, .invokespecial 95, 3), (24, .athrow, 1), (25, .aload_n 0, 1), (26, .getfield 36, 3), (29, .aload_n 2, 1), (30, .invokevirtual 186, 3), (33, .aload_n 0, 1), (34, .getfield 36, 3), (37, .iload_n 3, 1), (38, .invokevirtual 200, 3), (41, .ireturn, 1)]
set_option maxRecDepth 100000 in
theorem qX11_nextSceneAt : ∀ q ∈ tX11_nextSceneAt, decode cX11_nextSceneAt q.1 = .ok (q.2.1, q.2.2) := by decide +kernel
theorem gX11_nextSceneAt {d : Nat} {p0 : Nat} {i1 : Int32} {h : jm_H} {r : jm_R} (H : (jm_O h p0 11 (jc_R (jm_D d mX11_partOf [.ref p0, .int i1] h) (fun a3 h1 => jm_O h1 a3 3 (jc_I (jm_D d mX3_readyScene [.ref a3] h1) (fun x6 h4 => (if x6 < 0 then some (.inr 0, jm_gap h4) else (jr_R h4 p0 10 13 2).bind fun a8 => jm_O h4 a8 8 (jc_V (jm_D d mX8_write [.ref a8, .ref a3] h4) (fun h10 => (jr_R h10 p0 10 13 2).bind fun a12 => jm_O h10 a12 8 (jc_I (jm_D d mX8_beginningOf [.ref a12, .int x6] h10) (fun x16 h14 => some (.inl (some (.int x16)), h14)) jx)) jx))) jx)) jx)) = some r) : jm_D (d + 1) mX11_nextSceneAt [.ref p0, .int i1] h = some r := by
  rw [jm_D_body (Nat.le_of_ble_eq_true rfl)]
  show jm_B d mX11_nextSceneAt (0, [some (.ref p0), some (.int i1), none, none], []) h = some r
  refine Eq.trans (jb_nx (i := .aload_n 0) (n := 1) (q := (1, [some (.ref p0), some (.int i1), none, none], [.ref p0])) (jq qX11_nextSceneAt 0 rfl) rfl) ?_
  refine Eq.trans (jb_nx (i := .iload_n 1) (n := 1) (q := (2, [some (.ref p0), some (.int i1), none, none], [.int i1, .ref p0])) (jq qX11_nextSceneAt 1 rfl) rfl) ?_
  obtain ⟨b26, H⟩ := jm_O_inv H
  rcases jcR H with ⟨a3, h1, r2, H⟩ | ⟨w27, h28, r2, H⟩
  · refine Eq.trans (jb_nx (i := .invokevirtual 147) (n := 3) (q := (5, [some (.ref p0), some (.int i1), none, none], [.ref a3])) (jq qX11_nextSceneAt 2 rfl) (jo_cv (y := mX11_partOf) rfl (Nat.le_of_ble_eq_true rfl) rfl (Nat.le_of_ble_eq_true rfl) b26 rfl r2 jo_ret)) ?_
    refine Eq.trans (jb_nx (i := .astore_n 2) (n := 1) (q := (6, [some (.ref p0), some (.int i1), some (.ref a3), none], [])) (jq qX11_nextSceneAt 3 rfl) rfl) ?_
    refine Eq.trans (jb_nx (i := .aload_n 2) (n := 1) (q := (7, [some (.ref p0), some (.int i1), some (.ref a3), none], [.ref a3])) (jq qX11_nextSceneAt 4 rfl) rfl) ?_
    obtain ⟨b23, H⟩ := jm_O_inv H
    rcases jcI H with ⟨x6, h4, r5, H⟩ | ⟨w24, h25, r5, H⟩
    · refine Eq.trans (jb_nx (i := .invokevirtual 179) (n := 3) (q := (10, [some (.ref p0), some (.int i1), some (.ref a3), none], [.int x6])) (jq qX11_nextSceneAt 5 rfl) (jo_cv (y := mX3_readyScene) rfl (Nat.le_of_ble_eq_true rfl) rfl (Nat.le_of_ble_eq_true rfl) b23 rfl r5 jo_ret)) ?_
      refine Eq.trans (jb_nx (i := .istore_n 3) (n := 1) (q := (11, [some (.ref p0), some (.int i1), some (.ref a3), some (.int x6)], [])) (jq qX11_nextSceneAt 6 rfl) rfl) ?_
      refine Eq.trans (jb_nx (i := .iload_n 3) (n := 1) (q := (12, [some (.ref p0), some (.int i1), some (.ref a3), some (.int x6)], [.int x6])) (jq qX11_nextSceneAt 7 rfl) rfl) ?_
      by_cases c7 : x6 < 0
      · rw [if_pos c7] at H
        refine Eq.trans (jb_nx (i := .ifCond .ge 13) (n := 3) (q := (15, [some (.ref p0), some (.int i1), some (.ref a3), some (.int x6)], [])) (jq qX11_nextSceneAt 8 rfl) (jo_ifF (jz_geF c7))) ?_
        exact Eq.trans (jb_rt (i := .new 91) (n := 3) (jq qX11_nextSceneAt 9 rfl) (jo_thr rfl (jo_throw (k := 198) (j := 95) ⟨rfl, rfl, by decide, Nat.le_of_ble_eq_true rfl⟩ (jq qX11_nextSceneAt 10 rfl) (jq qX11_nextSceneAt 11 rfl) rfl (jq qX11_nextSceneAt 12 rfl) (jq qX11_nextSceneAt 13 rfl) rfl))) H
      · rw [if_neg c7] at H
        refine Eq.trans (jb_nx (i := .ifCond .ge 13) (n := 3) (q := (25, [some (.ref p0), some (.int i1), some (.ref a3), some (.int x6)], [])) (jq qX11_nextSceneAt 8 rfl) (jo_ifT (jz_geT c7) rfl)) ?_
        refine Eq.trans (jb_nx (i := .aload_n 0) (n := 1) (q := (26, [some (.ref p0), some (.int i1), some (.ref a3), some (.int x6)], [.ref p0])) (jq qX11_nextSceneAt 14 rfl) rfl) ?_
        obtain ⟨a8, e9, H⟩ := jbd H
        refine Eq.trans (jb_nx (i := .getfield 36) (n := 3) (q := (29, [some (.ref p0), some (.int i1), some (.ref a3), some (.int x6)], [.ref a8])) (jq qX11_nextSceneAt 15 rfl) (jo_gf rfl (jr_R_inv e9))) ?_
        refine Eq.trans (jb_nx (i := .aload_n 2) (n := 1) (q := (30, [some (.ref p0), some (.int i1), some (.ref a3), some (.int x6)], [.ref a3, .ref a8])) (jq qX11_nextSceneAt 16 rfl) rfl) ?_
        obtain ⟨b20, H⟩ := jm_O_inv H
        rcases jcV H with ⟨h10, r11, H⟩ | ⟨w21, h22, r11, H⟩
        · refine Eq.trans (jb_nx (i := .invokevirtual 186) (n := 3) (q := (33, [some (.ref p0), some (.int i1), some (.ref a3), some (.int x6)], [])) (jq qX11_nextSceneAt 17 rfl) (jo_cv (y := mX8_write) rfl (Nat.le_of_ble_eq_true rfl) rfl (Nat.le_of_ble_eq_true rfl) b20 rfl r11 jo_ret)) ?_
          refine Eq.trans (jb_nx (i := .aload_n 0) (n := 1) (q := (34, [some (.ref p0), some (.int i1), some (.ref a3), some (.int x6)], [.ref p0])) (jq qX11_nextSceneAt 18 rfl) rfl) ?_
          obtain ⟨a12, e13, H⟩ := jbd H
          refine Eq.trans (jb_nx (i := .getfield 36) (n := 3) (q := (37, [some (.ref p0), some (.int i1), some (.ref a3), some (.int x6)], [.ref a12])) (jq qX11_nextSceneAt 19 rfl) (jo_gf rfl (jr_R_inv e13))) ?_
          refine Eq.trans (jb_nx (i := .iload_n 3) (n := 1) (q := (38, [some (.ref p0), some (.int i1), some (.ref a3), some (.int x6)], [.int x6, .ref a12])) (jq qX11_nextSceneAt 20 rfl) rfl) ?_
          obtain ⟨b17, H⟩ := jm_O_inv H
          rcases jcI H with ⟨x16, h14, r15, H⟩ | ⟨w18, h19, r15, H⟩
          · refine Eq.trans (jb_nx (i := .invokevirtual 200) (n := 3) (q := (41, [some (.ref p0), some (.int i1), some (.ref a3), some (.int x6)], [.int x16])) (jq qX11_nextSceneAt 21 rfl) (jo_cv (y := mX8_beginningOf) rfl (Nat.le_of_ble_eq_true rfl) rfl (Nat.le_of_ble_eq_true rfl) b17 rfl r15 jo_ret)) ?_
            exact Eq.trans (jb_rt (i := .ireturn) (n := 1) (jq qX11_nextSceneAt 22 rfl) (jo_iret rfl rfl)) H
          · exact Eq.trans (jb_rt (i := .invokevirtual 200) (n := 3) (jq qX11_nextSceneAt 21 rfl) (jo_cv (y := mX8_beginningOf) rfl (Nat.le_of_ble_eq_true rfl) rfl (Nat.le_of_ble_eq_true rfl) b17 rfl r15 (jo_exn rfl))) H
        · exact Eq.trans (jb_rt (i := .invokevirtual 186) (n := 3) (jq qX11_nextSceneAt 17 rfl) (jo_cv (y := mX8_write) rfl (Nat.le_of_ble_eq_true rfl) rfl (Nat.le_of_ble_eq_true rfl) b20 rfl r11 (jo_exn rfl))) H
    · exact Eq.trans (jb_rt (i := .invokevirtual 179) (n := 3) (jq qX11_nextSceneAt 5 rfl) (jo_cv (y := mX3_readyScene) rfl (Nat.le_of_ble_eq_true rfl) rfl (Nat.le_of_ble_eq_true rfl) b23 rfl r5 (jo_exn rfl))) H
  · exact Eq.trans (jb_rt (i := .invokevirtual 147) (n := 3) (jq qX11_nextSceneAt 2 rfl) (jo_cv (y := mX11_partOf) rfl (Nat.le_of_ble_eq_true rfl) rfl (Nat.le_of_ble_eq_true rfl) b26 rfl r2 (jo_exn rfl))) H
/-! MaskPlays renamedByStep (I)I -/
def tX11_renamedByStep : List (Nat × Instr × Nat) := [(0, .aload_n 0, 1), (1, .getfield 26, 3), (4, .aload_n 0, 1), (5, .iload_n 1, 1), (6, .invokevirtual 147, 3), (9, .invokevirtual 203, 3), (12, .aload_n 0, 1), (13, .getfield 75, 3), (16, .aload_n 0, 1), (17, .getfield 26, 3), (20, .invokevirtual 206, 3), (23, .ifCond .ne 13, 3), (26, .new 91, 3), (29, .dup, 1), (30, .ldc 209, 2), (32, .invokespecial 95, 3), (35, .athrow, 1), (36, .aload_n 0, 1), (37, .getfield 75, 3), (40, .getfield 211, 3), (43, .ireturn, 1)]
set_option maxRecDepth 100000 in
theorem qX11_renamedByStep : ∀ q ∈ tX11_renamedByStep, decode cX11_renamedByStep q.1 = .ok (q.2.1, q.2.2) := by decide +kernel
theorem gX11_renamedByStep {d : Nat} {p0 : Nat} {i1 : Int32} {h : jm_H} {r : jm_R} (H : ((jr_R h p0 10 11 2).bind fun a1 => jm_O h p0 11 (jc_R (jm_D d mX11_partOf [.ref p0, .int i1] h) (fun a5 h3 => jm_O h3 a1 3 (jc_V (jm_D d mX3_setTo [.ref a1, .ref a5] h3) (fun h6 => (jr_R h6 p0 10 8 2).bind fun a8 => (jr_R h6 p0 10 11 2).bind fun a10 => jm_O h6 a8 5 (jc_I (jm_D d mX5_take [.ref a8, .ref a10] h6) (fun x14 h12 => (if x14 = 0 then some (.inr 0, jm_gap h12) else (jr_R h12 p0 10 8 2).bind fun a16 => (jr_I h12 a16 5 0 0).bind fun x18 => some (.inl (some (.int x18)), h12))) jx)) jx)) jx)) = some r) : jm_D (d + 1) mX11_renamedByStep [.ref p0, .int i1] h = some r := by
  rw [jm_D_body (Nat.le_of_ble_eq_true rfl)]
  show jm_B d mX11_renamedByStep (0, [some (.ref p0), some (.int i1)], []) h = some r
  refine Eq.trans (jb_nx (i := .aload_n 0) (n := 1) (q := (1, [some (.ref p0), some (.int i1)], [.ref p0])) (jq qX11_renamedByStep 0 rfl) rfl) ?_
  obtain ⟨a1, e2, H⟩ := jbd H
  refine Eq.trans (jb_nx (i := .getfield 26) (n := 3) (q := (4, [some (.ref p0), some (.int i1)], [.ref a1])) (jq qX11_renamedByStep 1 rfl) (jo_gf rfl (jr_R_inv e2))) ?_
  refine Eq.trans (jb_nx (i := .aload_n 0) (n := 1) (q := (5, [some (.ref p0), some (.int i1)], [.ref p0, .ref a1])) (jq qX11_renamedByStep 2 rfl) rfl) ?_
  refine Eq.trans (jb_nx (i := .iload_n 1) (n := 1) (q := (6, [some (.ref p0), some (.int i1)], [.int i1, .ref p0, .ref a1])) (jq qX11_renamedByStep 3 rfl) rfl) ?_
  obtain ⟨b26, H⟩ := jm_O_inv H
  rcases jcR H with ⟨a5, h3, r4, H⟩ | ⟨w27, h28, r4, H⟩
  · refine Eq.trans (jb_nx (i := .invokevirtual 147) (n := 3) (q := (9, [some (.ref p0), some (.int i1)], [.ref a5, .ref a1])) (jq qX11_renamedByStep 4 rfl) (jo_cv (y := mX11_partOf) rfl (Nat.le_of_ble_eq_true rfl) rfl (Nat.le_of_ble_eq_true rfl) b26 rfl r4 jo_ret)) ?_
    obtain ⟨b23, H⟩ := jm_O_inv H
    rcases jcV H with ⟨h6, r7, H⟩ | ⟨w24, h25, r7, H⟩
    · refine Eq.trans (jb_nx (i := .invokevirtual 203) (n := 3) (q := (12, [some (.ref p0), some (.int i1)], [])) (jq qX11_renamedByStep 5 rfl) (jo_cv (y := mX3_setTo) rfl (Nat.le_of_ble_eq_true rfl) rfl (Nat.le_of_ble_eq_true rfl) b23 rfl r7 jo_ret)) ?_
      refine Eq.trans (jb_nx (i := .aload_n 0) (n := 1) (q := (13, [some (.ref p0), some (.int i1)], [.ref p0])) (jq qX11_renamedByStep 6 rfl) rfl) ?_
      obtain ⟨a8, e9, H⟩ := jbd H
      refine Eq.trans (jb_nx (i := .getfield 75) (n := 3) (q := (16, [some (.ref p0), some (.int i1)], [.ref a8])) (jq qX11_renamedByStep 7 rfl) (jo_gf rfl (jr_R_inv e9))) ?_
      refine Eq.trans (jb_nx (i := .aload_n 0) (n := 1) (q := (17, [some (.ref p0), some (.int i1)], [.ref p0, .ref a8])) (jq qX11_renamedByStep 8 rfl) rfl) ?_
      obtain ⟨a10, e11, H⟩ := jbd H
      refine Eq.trans (jb_nx (i := .getfield 26) (n := 3) (q := (20, [some (.ref p0), some (.int i1)], [.ref a10, .ref a8])) (jq qX11_renamedByStep 9 rfl) (jo_gf rfl (jr_R_inv e11))) ?_
      obtain ⟨b20, H⟩ := jm_O_inv H
      rcases jcI H with ⟨x14, h12, r13, H⟩ | ⟨w21, h22, r13, H⟩
      · refine Eq.trans (jb_nx (i := .invokevirtual 206) (n := 3) (q := (23, [some (.ref p0), some (.int i1)], [.int x14])) (jq qX11_renamedByStep 10 rfl) (jo_cv (y := mX5_take) rfl (Nat.le_of_ble_eq_true rfl) rfl (Nat.le_of_ble_eq_true rfl) b20 rfl r13 jo_ret)) ?_
        by_cases c15 : x14 = 0
        · rw [if_pos c15] at H
          refine Eq.trans (jb_nx (i := .ifCond .ne 13) (n := 3) (q := (26, [some (.ref p0), some (.int i1)], [])) (jq qX11_renamedByStep 11 rfl) (jo_ifF (jz_neF c15))) ?_
          exact Eq.trans (jb_rt (i := .new 91) (n := 3) (jq qX11_renamedByStep 12 rfl) (jo_thr rfl (jo_throw (k := 209) (j := 95) ⟨rfl, rfl, by decide, Nat.le_of_ble_eq_true rfl⟩ (jq qX11_renamedByStep 13 rfl) (jq qX11_renamedByStep 14 rfl) rfl (jq qX11_renamedByStep 15 rfl) (jq qX11_renamedByStep 16 rfl) rfl))) H
        · rw [if_neg c15] at H
          refine Eq.trans (jb_nx (i := .ifCond .ne 13) (n := 3) (q := (36, [some (.ref p0), some (.int i1)], [])) (jq qX11_renamedByStep 11 rfl) (jo_ifT (jz_neT c15) rfl)) ?_
          refine Eq.trans (jb_nx (i := .aload_n 0) (n := 1) (q := (37, [some (.ref p0), some (.int i1)], [.ref p0])) (jq qX11_renamedByStep 17 rfl) rfl) ?_
          obtain ⟨a16, e17, H⟩ := jbd H
          refine Eq.trans (jb_nx (i := .getfield 75) (n := 3) (q := (40, [some (.ref p0), some (.int i1)], [.ref a16])) (jq qX11_renamedByStep 18 rfl) (jo_gf rfl (jr_R_inv e17))) ?_
          obtain ⟨x18, e19, H⟩ := jbd H
          refine Eq.trans (jb_nx (i := .getfield 211) (n := 3) (q := (43, [some (.ref p0), some (.int i1)], [.int x18])) (jq qX11_renamedByStep 19 rfl) (jo_gf rfl (jr_I_inv e19))) ?_
          exact Eq.trans (jb_rt (i := .ireturn) (n := 1) (jq qX11_renamedByStep 20 rfl) (jo_iret rfl rfl)) H
      · exact Eq.trans (jb_rt (i := .invokevirtual 206) (n := 3) (jq qX11_renamedByStep 10 rfl) (jo_cv (y := mX5_take) rfl (Nat.le_of_ble_eq_true rfl) rfl (Nat.le_of_ble_eq_true rfl) b20 rfl r13 (jo_exn rfl))) H
    · exact Eq.trans (jb_rt (i := .invokevirtual 203) (n := 3) (jq qX11_renamedByStep 5 rfl) (jo_cv (y := mX3_setTo) rfl (Nat.le_of_ble_eq_true rfl) rfl (Nat.le_of_ble_eq_true rfl) b23 rfl r7 (jo_exn rfl))) H
  · exact Eq.trans (jb_rt (i := .invokevirtual 147) (n := 3) (jq qX11_renamedByStep 4 rfl) (jo_cv (y := mX11_partOf) rfl (Nat.le_of_ble_eq_true rfl) rfl (Nat.le_of_ble_eq_true rfl) b26 rfl r4 (jo_exn rfl))) H
/-! MaskPlays isSame (II)Z -/
def tX11_isSame : List (Nat × Instr × Nat) := [(0, .aload_n 0, 1), (1, .iload_n 1, 1), (2, .invokevirtual 147, 3), (5, .aload_n 0, 1), (6, .iload_n 2, 1), (7, .invokevirtual 147, 3), (10, .invokevirtual 214, 3), (13, .ireturn, 1)]
set_option maxRecDepth 100000 in
theorem qX11_isSame : ∀ q ∈ tX11_isSame, decode cX11_isSame q.1 = .ok (q.2.1, q.2.2) := by decide +kernel
theorem gX11_isSame {d : Nat} {p0 : Nat} {i1 : Int32} {i2 : Int32} {h : jm_H} {r : jm_R} (H : (jm_O h p0 11 (jc_R (jm_D d mX11_partOf [.ref p0, .int i1] h) (fun a3 h1 => jm_O h1 p0 11 (jc_R (jm_D d mX11_partOf [.ref p0, .int i2] h1) (fun a6 h4 => jm_O h4 a3 3 (jc_I (jm_D d mX3_isLike [.ref a3, .ref a6] h4) (fun x9 h7 => jm_Y .boolean x9 (some (.inl (some (.int x9)), h7))) jx)) jx)) jx)) = some r) : jm_D (d + 1) mX11_isSame [.ref p0, .int i1, .int i2] h = some r := by
  rw [jm_D_body (Nat.le_of_ble_eq_true rfl)]
  show jm_B d mX11_isSame (0, [some (.ref p0), some (.int i1), some (.int i2)], []) h = some r
  refine Eq.trans (jb_nx (i := .aload_n 0) (n := 1) (q := (1, [some (.ref p0), some (.int i1), some (.int i2)], [.ref p0])) (jq qX11_isSame 0 rfl) rfl) ?_
  refine Eq.trans (jb_nx (i := .iload_n 1) (n := 1) (q := (2, [some (.ref p0), some (.int i1), some (.int i2)], [.int i1, .ref p0])) (jq qX11_isSame 1 rfl) rfl) ?_
  obtain ⟨b17, H⟩ := jm_O_inv H
  rcases jcR H with ⟨a3, h1, r2, H⟩ | ⟨w18, h19, r2, H⟩
  · refine Eq.trans (jb_nx (i := .invokevirtual 147) (n := 3) (q := (5, [some (.ref p0), some (.int i1), some (.int i2)], [.ref a3])) (jq qX11_isSame 2 rfl) (jo_cv (y := mX11_partOf) rfl (Nat.le_of_ble_eq_true rfl) rfl (Nat.le_of_ble_eq_true rfl) b17 rfl r2 jo_ret)) ?_
    refine Eq.trans (jb_nx (i := .aload_n 0) (n := 1) (q := (6, [some (.ref p0), some (.int i1), some (.int i2)], [.ref p0, .ref a3])) (jq qX11_isSame 3 rfl) rfl) ?_
    refine Eq.trans (jb_nx (i := .iload_n 2) (n := 1) (q := (7, [some (.ref p0), some (.int i1), some (.int i2)], [.int i2, .ref p0, .ref a3])) (jq qX11_isSame 4 rfl) rfl) ?_
    obtain ⟨b14, H⟩ := jm_O_inv H
    rcases jcR H with ⟨a6, h4, r5, H⟩ | ⟨w15, h16, r5, H⟩
    · refine Eq.trans (jb_nx (i := .invokevirtual 147) (n := 3) (q := (10, [some (.ref p0), some (.int i1), some (.int i2)], [.ref a6, .ref a3])) (jq qX11_isSame 5 rfl) (jo_cv (y := mX11_partOf) rfl (Nat.le_of_ble_eq_true rfl) rfl (Nat.le_of_ble_eq_true rfl) b14 rfl r5 jo_ret)) ?_
      obtain ⟨b11, H⟩ := jm_O_inv H
      rcases jcI H with ⟨x9, h7, r8, H⟩ | ⟨w12, h13, r8, H⟩
      · refine Eq.trans (jb_nx (i := .invokevirtual 214) (n := 3) (q := (13, [some (.ref p0), some (.int i1), some (.int i2)], [.int x9])) (jq qX11_isSame 6 rfl) (jo_cv (y := mX3_isLike) rfl (Nat.le_of_ble_eq_true rfl) rfl (Nat.le_of_ble_eq_true rfl) b11 rfl r8 jo_ret)) ?_
        obtain ⟨u10, H⟩ := jm_Y_inv H
        exact Eq.trans (jb_rt (i := .ireturn) (n := 1) (jq qX11_isSame 7 rfl) (jo_iret rfl u10)) H
      · exact Eq.trans (jb_rt (i := .invokevirtual 214) (n := 3) (jq qX11_isSame 6 rfl) (jo_cv (y := mX3_isLike) rfl (Nat.le_of_ble_eq_true rfl) rfl (Nat.le_of_ble_eq_true rfl) b11 rfl r8 (jo_exn rfl))) H
    · exact Eq.trans (jb_rt (i := .invokevirtual 147) (n := 3) (jq qX11_isSame 5 rfl) (jo_cv (y := mX11_partOf) rfl (Nat.le_of_ble_eq_true rfl) rfl (Nat.le_of_ble_eq_true rfl) b14 rfl r5 (jo_exn rfl))) H
  · exact Eq.trans (jb_rt (i := .invokevirtual 147) (n := 3) (jq qX11_isSame 2 rfl) (jo_cv (y := mX11_partOf) rfl (Nat.le_of_ble_eq_true rfl) rfl (Nat.le_of_ble_eq_true rfl) b17 rfl r2 (jo_exn rfl))) H
/-! MaskPlays doStep (I)I -/
def tX11_doStep : List (Nat × Instr × Nat) := [(0, .aload_n 0, 1), (1, .iload_n 1, 1), (2, .invokevirtual 147, 3), (5, .astore_n 2, 1), (6, .aload_n 0, 1), (7, .getfield 75, 3), (10, .aload_n 2, 1), (11, .invokevirtual 182, 3), (14, .ifCond .ne 13, 3), (17, .new 91, 3), (20, .dup, 1), (21, .ldc 209, 2), (23, .invokespecial 95, 3), (26, .athrow, 1), (27, .aload_n 0, 1), (28, .getfield 84, 3), (31, .iload_n 1, 1), (32, .invokevirtual 220, 3), (35, .pop, 1), (36, .aload_n 2, 1), (37, .getfield 151, 3), (40, .ireturn, 1)]
set_option maxRecDepth 100000 in
theorem qX11_doStep : ∀ q ∈ tX11_doStep, decode cX11_doStep q.1 = .ok (q.2.1, q.2.2) := by decide +kernel
theorem gX11_doStep {d : Nat} {p0 : Nat} {i1 : Int32} {h : jm_H} {r : jm_R} (H : (jm_O h p0 11 (jc_R (jm_D d mX11_partOf [.ref p0, .int i1] h) (fun a3 h1 => (jr_R h1 p0 10 8 2).bind fun a4 => jm_O h1 a4 5 (jc_I (jm_D d mX5_canBeTaken [.ref a4, .ref a3] h1) (fun x8 h6 => (if x8 = 0 then some (.inr 0, jm_gap h6) else (jr_R h6 p0 10 9 2).bind fun a10 => jm_O h6 a10 4 (jc_I (jm_D d mX4_stepPlay [.ref a10, .int i1] h6) (fun x14 h12 => (jr_I h12 a3 3 0 0).bind fun x15 => some (.inl (some (.int x15)), h12)) jx))) jx)) jx)) = some r) : jm_D (d + 1) mX11_doStep [.ref p0, .int i1] h = some r := by
  rw [jm_D_body (Nat.le_of_ble_eq_true rfl)]
  show jm_B d mX11_doStep (0, [some (.ref p0), some (.int i1), none], []) h = some r
  refine Eq.trans (jb_nx (i := .aload_n 0) (n := 1) (q := (1, [some (.ref p0), some (.int i1), none], [.ref p0])) (jq qX11_doStep 0 rfl) rfl) ?_
  refine Eq.trans (jb_nx (i := .iload_n 1) (n := 1) (q := (2, [some (.ref p0), some (.int i1), none], [.int i1, .ref p0])) (jq qX11_doStep 1 rfl) rfl) ?_
  obtain ⟨b23, H⟩ := jm_O_inv H
  rcases jcR H with ⟨a3, h1, r2, H⟩ | ⟨w24, h25, r2, H⟩
  · refine Eq.trans (jb_nx (i := .invokevirtual 147) (n := 3) (q := (5, [some (.ref p0), some (.int i1), none], [.ref a3])) (jq qX11_doStep 2 rfl) (jo_cv (y := mX11_partOf) rfl (Nat.le_of_ble_eq_true rfl) rfl (Nat.le_of_ble_eq_true rfl) b23 rfl r2 jo_ret)) ?_
    refine Eq.trans (jb_nx (i := .astore_n 2) (n := 1) (q := (6, [some (.ref p0), some (.int i1), some (.ref a3)], [])) (jq qX11_doStep 3 rfl) rfl) ?_
    refine Eq.trans (jb_nx (i := .aload_n 0) (n := 1) (q := (7, [some (.ref p0), some (.int i1), some (.ref a3)], [.ref p0])) (jq qX11_doStep 4 rfl) rfl) ?_
    obtain ⟨a4, e5, H⟩ := jbd H
    refine Eq.trans (jb_nx (i := .getfield 75) (n := 3) (q := (10, [some (.ref p0), some (.int i1), some (.ref a3)], [.ref a4])) (jq qX11_doStep 5 rfl) (jo_gf rfl (jr_R_inv e5))) ?_
    refine Eq.trans (jb_nx (i := .aload_n 2) (n := 1) (q := (11, [some (.ref p0), some (.int i1), some (.ref a3)], [.ref a3, .ref a4])) (jq qX11_doStep 6 rfl) rfl) ?_
    obtain ⟨b20, H⟩ := jm_O_inv H
    rcases jcI H with ⟨x8, h6, r7, H⟩ | ⟨w21, h22, r7, H⟩
    · refine Eq.trans (jb_nx (i := .invokevirtual 182) (n := 3) (q := (14, [some (.ref p0), some (.int i1), some (.ref a3)], [.int x8])) (jq qX11_doStep 7 rfl) (jo_cv (y := mX5_canBeTaken) rfl (Nat.le_of_ble_eq_true rfl) rfl (Nat.le_of_ble_eq_true rfl) b20 rfl r7 jo_ret)) ?_
      by_cases c9 : x8 = 0
      · rw [if_pos c9] at H
        refine Eq.trans (jb_nx (i := .ifCond .ne 13) (n := 3) (q := (17, [some (.ref p0), some (.int i1), some (.ref a3)], [])) (jq qX11_doStep 8 rfl) (jo_ifF (jz_neF c9))) ?_
        exact Eq.trans (jb_rt (i := .new 91) (n := 3) (jq qX11_doStep 9 rfl) (jo_thr rfl (jo_throw (k := 209) (j := 95) ⟨rfl, rfl, by decide, Nat.le_of_ble_eq_true rfl⟩ (jq qX11_doStep 10 rfl) (jq qX11_doStep 11 rfl) rfl (jq qX11_doStep 12 rfl) (jq qX11_doStep 13 rfl) rfl))) H
      · rw [if_neg c9] at H
        refine Eq.trans (jb_nx (i := .ifCond .ne 13) (n := 3) (q := (27, [some (.ref p0), some (.int i1), some (.ref a3)], [])) (jq qX11_doStep 8 rfl) (jo_ifT (jz_neT c9) rfl)) ?_
        refine Eq.trans (jb_nx (i := .aload_n 0) (n := 1) (q := (28, [some (.ref p0), some (.int i1), some (.ref a3)], [.ref p0])) (jq qX11_doStep 14 rfl) rfl) ?_
        obtain ⟨a10, e11, H⟩ := jbd H
        refine Eq.trans (jb_nx (i := .getfield 84) (n := 3) (q := (31, [some (.ref p0), some (.int i1), some (.ref a3)], [.ref a10])) (jq qX11_doStep 15 rfl) (jo_gf rfl (jr_R_inv e11))) ?_
        refine Eq.trans (jb_nx (i := .iload_n 1) (n := 1) (q := (32, [some (.ref p0), some (.int i1), some (.ref a3)], [.int i1, .ref a10])) (jq qX11_doStep 16 rfl) rfl) ?_
        obtain ⟨b17, H⟩ := jm_O_inv H
        rcases jcI H with ⟨x14, h12, r13, H⟩ | ⟨w18, h19, r13, H⟩
        · refine Eq.trans (jb_nx (i := .invokevirtual 220) (n := 3) (q := (35, [some (.ref p0), some (.int i1), some (.ref a3)], [.int x14])) (jq qX11_doStep 17 rfl) (jo_cv (y := mX4_stepPlay) rfl (Nat.le_of_ble_eq_true rfl) rfl (Nat.le_of_ble_eq_true rfl) b17 rfl r13 jo_ret)) ?_
          refine Eq.trans (jb_nx (i := .pop) (n := 1) (q := (36, [some (.ref p0), some (.int i1), some (.ref a3)], [])) (jq qX11_doStep 18 rfl) rfl) ?_
          refine Eq.trans (jb_nx (i := .aload_n 2) (n := 1) (q := (37, [some (.ref p0), some (.int i1), some (.ref a3)], [.ref a3])) (jq qX11_doStep 19 rfl) rfl) ?_
          obtain ⟨x15, e16, H⟩ := jbd H
          refine Eq.trans (jb_nx (i := .getfield 151) (n := 3) (q := (40, [some (.ref p0), some (.int i1), some (.ref a3)], [.int x15])) (jq qX11_doStep 20 rfl) (jo_gf rfl (jr_I_inv e16))) ?_
          exact Eq.trans (jb_rt (i := .ireturn) (n := 1) (jq qX11_doStep 21 rfl) (jo_iret rfl rfl)) H
        · exact Eq.trans (jb_rt (i := .invokevirtual 220) (n := 3) (jq qX11_doStep 17 rfl) (jo_cv (y := mX4_stepPlay) rfl (Nat.le_of_ble_eq_true rfl) rfl (Nat.le_of_ble_eq_true rfl) b17 rfl r13 (jo_exn rfl))) H
    · exact Eq.trans (jb_rt (i := .invokevirtual 182) (n := 3) (jq qX11_doStep 7 rfl) (jo_cv (y := mX5_canBeTaken) rfl (Nat.le_of_ble_eq_true rfl) rfl (Nat.le_of_ble_eq_true rfl) b20 rfl r7 (jo_exn rfl))) H
  · exact Eq.trans (jb_rt (i := .invokevirtual 147) (n := 3) (jq qX11_doStep 2 rfl) (jo_cv (y := mX11_partOf) rfl (Nat.le_of_ble_eq_true rfl) rfl (Nat.le_of_ble_eq_true rfl) b23 rfl r2 (jo_exn rfl))) H
/-! MaskPlays give (II)I -/
def tX11_give : List (Nat × Instr × Nat) := [(0, .aload_n 0, 1), (1, .iload_n 1, 1), (2, .invokevirtual 147, 3), (5, .astore_n 3, 1), (6, .aload_n 0, 1), (7, .iload_n 2, 1), (8, .invokevirtual 147, 3), (11, .astore 4, 2), (13, .aload 4, 2), (15, .aload_n 3, 1), (16, .invokestatic 224, 3), (19, .ifCond .ne 13, 3), (22, .new 91, 3), (25, .dup, 1), (26, .ldc 228, 2), (28, .invokespecial 95, 3), (31, .athrow, 1), (32, .aload_n 0, 1), (33, .getfield 84, 3), (36, .iload_n 1, 1), (37, .iload_n 2, 1), (38, .invokevirtual 230, 3), (41, .pop, 1), (42, .aload 4, 2), (44, .getfield 151, 3), (47, .ireturn, 1)]
set_option maxRecDepth 100000 in
theorem qX11_give : ∀ q ∈ tX11_give, decode cX11_give q.1 = .ok (q.2.1, q.2.2) := by decide +kernel
theorem gX11_give {d : Nat} {p0 : Nat} {i1 : Int32} {i2 : Int32} {h : jm_H} {r : jm_R} (H : (jm_O h p0 11 (jc_R (jm_D d mX11_partOf [.ref p0, .int i1] h) (fun a3 h1 => jm_O h1 p0 11 (jc_R (jm_D d mX11_partOf [.ref p0, .int i2] h1) (fun a6 h4 => jc_I (jm_D d mX3_fitInScene [.ref a6, .ref a3] h4) (fun x9 h7 => (if x9 = 0 then some (.inr 0, jm_gap h7) else (jr_R h7 p0 10 9 2).bind fun a11 => jm_O h7 a11 4 (jc_I (jm_D d mX4_givePlay [.ref a11, .int i1, .int i2] h7) (fun x15 h13 => (jr_I h13 a6 3 0 0).bind fun x16 => some (.inl (some (.int x16)), h13)) jx))) jx) jx)) jx)) = some r) : jm_D (d + 1) mX11_give [.ref p0, .int i1, .int i2] h = some r := by
  rw [jm_D_body (Nat.le_of_ble_eq_true rfl)]
  show jm_B d mX11_give (0, [some (.ref p0), some (.int i1), some (.int i2), none, none], []) h = some r
  refine Eq.trans (jb_nx (i := .aload_n 0) (n := 1) (q := (1, [some (.ref p0), some (.int i1), some (.int i2), none, none], [.ref p0])) (jq qX11_give 0 rfl) rfl) ?_
  refine Eq.trans (jb_nx (i := .iload_n 1) (n := 1) (q := (2, [some (.ref p0), some (.int i1), some (.int i2), none, none], [.int i1, .ref p0])) (jq qX11_give 1 rfl) rfl) ?_
  obtain ⟨b26, H⟩ := jm_O_inv H
  rcases jcR H with ⟨a3, h1, r2, H⟩ | ⟨w27, h28, r2, H⟩
  · refine Eq.trans (jb_nx (i := .invokevirtual 147) (n := 3) (q := (5, [some (.ref p0), some (.int i1), some (.int i2), none, none], [.ref a3])) (jq qX11_give 2 rfl) (jo_cv (y := mX11_partOf) rfl (Nat.le_of_ble_eq_true rfl) rfl (Nat.le_of_ble_eq_true rfl) b26 rfl r2 jo_ret)) ?_
    refine Eq.trans (jb_nx (i := .astore_n 3) (n := 1) (q := (6, [some (.ref p0), some (.int i1), some (.int i2), some (.ref a3), none], [])) (jq qX11_give 3 rfl) rfl) ?_
    refine Eq.trans (jb_nx (i := .aload_n 0) (n := 1) (q := (7, [some (.ref p0), some (.int i1), some (.int i2), some (.ref a3), none], [.ref p0])) (jq qX11_give 4 rfl) rfl) ?_
    refine Eq.trans (jb_nx (i := .iload_n 2) (n := 1) (q := (8, [some (.ref p0), some (.int i1), some (.int i2), some (.ref a3), none], [.int i2, .ref p0])) (jq qX11_give 5 rfl) rfl) ?_
    obtain ⟨b23, H⟩ := jm_O_inv H
    rcases jcR H with ⟨a6, h4, r5, H⟩ | ⟨w24, h25, r5, H⟩
    · refine Eq.trans (jb_nx (i := .invokevirtual 147) (n := 3) (q := (11, [some (.ref p0), some (.int i1), some (.int i2), some (.ref a3), none], [.ref a6])) (jq qX11_give 6 rfl) (jo_cv (y := mX11_partOf) rfl (Nat.le_of_ble_eq_true rfl) rfl (Nat.le_of_ble_eq_true rfl) b23 rfl r5 jo_ret)) ?_
      refine Eq.trans (jb_nx (i := .astore 4) (n := 2) (q := (13, [some (.ref p0), some (.int i1), some (.int i2), some (.ref a3), some (.ref a6)], [])) (jq qX11_give 7 rfl) rfl) ?_
      refine Eq.trans (jb_nx (i := .aload 4) (n := 2) (q := (15, [some (.ref p0), some (.int i1), some (.int i2), some (.ref a3), some (.ref a6)], [.ref a6])) (jq qX11_give 8 rfl) rfl) ?_
      refine Eq.trans (jb_nx (i := .aload_n 3) (n := 1) (q := (16, [some (.ref p0), some (.int i1), some (.int i2), some (.ref a3), some (.ref a6)], [.ref a3, .ref a6])) (jq qX11_give 9 rfl) rfl) ?_
      rcases jcI H with ⟨x9, h7, r8, H⟩ | ⟨w21, h22, r8, H⟩
      · refine Eq.trans (jb_nx (i := .invokestatic 224) (n := 3) (q := (19, [some (.ref p0), some (.int i1), some (.int i2), some (.ref a3), some (.ref a6)], [.int x9])) (jq qX11_give 10 rfl) (jo_cs (y := mX3_fitInScene) (w := 1) (by decide) rfl (Nat.le_of_ble_eq_true rfl) rfl (Nat.le_of_ble_eq_true rfl) rfl r8 jo_ret)) ?_
        by_cases c10 : x9 = 0
        · rw [if_pos c10] at H
          refine Eq.trans (jb_nx (i := .ifCond .ne 13) (n := 3) (q := (22, [some (.ref p0), some (.int i1), some (.int i2), some (.ref a3), some (.ref a6)], [])) (jq qX11_give 11 rfl) (jo_ifF (jz_neF c10))) ?_
          exact Eq.trans (jb_rt (i := .new 91) (n := 3) (jq qX11_give 12 rfl) (jo_thr rfl (jo_throw (k := 228) (j := 95) ⟨rfl, rfl, by decide, Nat.le_of_ble_eq_true rfl⟩ (jq qX11_give 13 rfl) (jq qX11_give 14 rfl) rfl (jq qX11_give 15 rfl) (jq qX11_give 16 rfl) rfl))) H
        · rw [if_neg c10] at H
          refine Eq.trans (jb_nx (i := .ifCond .ne 13) (n := 3) (q := (32, [some (.ref p0), some (.int i1), some (.int i2), some (.ref a3), some (.ref a6)], [])) (jq qX11_give 11 rfl) (jo_ifT (jz_neT c10) rfl)) ?_
          refine Eq.trans (jb_nx (i := .aload_n 0) (n := 1) (q := (33, [some (.ref p0), some (.int i1), some (.int i2), some (.ref a3), some (.ref a6)], [.ref p0])) (jq qX11_give 17 rfl) rfl) ?_
          obtain ⟨a11, e12, H⟩ := jbd H
          refine Eq.trans (jb_nx (i := .getfield 84) (n := 3) (q := (36, [some (.ref p0), some (.int i1), some (.int i2), some (.ref a3), some (.ref a6)], [.ref a11])) (jq qX11_give 18 rfl) (jo_gf rfl (jr_R_inv e12))) ?_
          refine Eq.trans (jb_nx (i := .iload_n 1) (n := 1) (q := (37, [some (.ref p0), some (.int i1), some (.int i2), some (.ref a3), some (.ref a6)], [.int i1, .ref a11])) (jq qX11_give 19 rfl) rfl) ?_
          refine Eq.trans (jb_nx (i := .iload_n 2) (n := 1) (q := (38, [some (.ref p0), some (.int i1), some (.int i2), some (.ref a3), some (.ref a6)], [.int i2, .int i1, .ref a11])) (jq qX11_give 20 rfl) rfl) ?_
          obtain ⟨b18, H⟩ := jm_O_inv H
          rcases jcI H with ⟨x15, h13, r14, H⟩ | ⟨w19, h20, r14, H⟩
          · refine Eq.trans (jb_nx (i := .invokevirtual 230) (n := 3) (q := (41, [some (.ref p0), some (.int i1), some (.int i2), some (.ref a3), some (.ref a6)], [.int x15])) (jq qX11_give 21 rfl) (jo_cv (y := mX4_givePlay) rfl (Nat.le_of_ble_eq_true rfl) rfl (Nat.le_of_ble_eq_true rfl) b18 rfl r14 jo_ret)) ?_
            refine Eq.trans (jb_nx (i := .pop) (n := 1) (q := (42, [some (.ref p0), some (.int i1), some (.int i2), some (.ref a3), some (.ref a6)], [])) (jq qX11_give 22 rfl) rfl) ?_
            refine Eq.trans (jb_nx (i := .aload 4) (n := 2) (q := (44, [some (.ref p0), some (.int i1), some (.int i2), some (.ref a3), some (.ref a6)], [.ref a6])) (jq qX11_give 23 rfl) rfl) ?_
            obtain ⟨x16, e17, H⟩ := jbd H
            refine Eq.trans (jb_nx (i := .getfield 151) (n := 3) (q := (47, [some (.ref p0), some (.int i1), some (.int i2), some (.ref a3), some (.ref a6)], [.int x16])) (jq qX11_give 24 rfl) (jo_gf rfl (jr_I_inv e17))) ?_
            exact Eq.trans (jb_rt (i := .ireturn) (n := 1) (jq qX11_give 25 rfl) (jo_iret rfl rfl)) H
          · exact Eq.trans (jb_rt (i := .invokevirtual 230) (n := 3) (jq qX11_give 21 rfl) (jo_cv (y := mX4_givePlay) rfl (Nat.le_of_ble_eq_true rfl) rfl (Nat.le_of_ble_eq_true rfl) b18 rfl r14 (jo_exn rfl))) H
      · exact Eq.trans (jb_rt (i := .invokestatic 224) (n := 3) (jq qX11_give 10 rfl) (jo_cs (y := mX3_fitInScene) (w := 1) (by decide) rfl (Nat.le_of_ble_eq_true rfl) rfl (Nat.le_of_ble_eq_true rfl) rfl r8 (jo_exn rfl))) H
    · exact Eq.trans (jb_rt (i := .invokevirtual 147) (n := 3) (jq qX11_give 6 rfl) (jo_cv (y := mX11_partOf) rfl (Nat.le_of_ble_eq_true rfl) rfl (Nat.le_of_ble_eq_true rfl) b23 rfl r5 (jo_exn rfl))) H
  · exact Eq.trans (jb_rt (i := .invokevirtual 147) (n := 3) (jq qX11_give 2 rfl) (jo_cv (y := mX11_partOf) rfl (Nat.le_of_ble_eq_true rfl) rfl (Nat.le_of_ble_eq_true rfl) b26 rfl r2 (jo_exn rfl))) H
/-! MaskPlays renew (I)I -/
def tX11_renew : List (Nat × Instr × Nat) := [(0, .aload_n 0, 1), (1, .iload_n 1, 1), (2, .invokevirtual 147, 3), (5, .astore_n 2, 1), (6, .aload_n 2, 1), (7, .aload_n 0, 1), (8, .getfield 19, 3), (11, .iload_n 1, 1), (12, .invokevirtual 217, 3), (15, .invokevirtual 203, 3), (18, .aload_n 2, 1), (19, .getfield 151, 3), (22, .ireturn, 1)]
set_option maxRecDepth 100000 in
theorem qX11_renew : ∀ q ∈ tX11_renew, decode cX11_renew q.1 = .ok (q.2.1, q.2.2) := by decide +kernel
theorem gX11_renew {d : Nat} {p0 : Nat} {i1 : Int32} {h : jm_H} {r : jm_R} (H : (jm_O h p0 11 (jc_R (jm_D d mX11_partOf [.ref p0, .int i1] h) (fun a3 h1 => (jr_R h1 p0 10 6 2).bind fun a4 => jm_O h1 a4 0 (jc_R (jm_D d mX0_toldAt [.ref a4, .int i1] h1) (fun a8 h6 => jm_O h6 a3 3 (jc_V (jm_D d mX3_setTo [.ref a3, .ref a8] h6) (fun h9 => (jr_I h9 a3 3 0 0).bind fun x11 => some (.inl (some (.int x11)), h9)) jx)) jx)) jx)) = some r) : jm_D (d + 1) mX11_renew [.ref p0, .int i1] h = some r := by
  rw [jm_D_body (Nat.le_of_ble_eq_true rfl)]
  show jm_B d mX11_renew (0, [some (.ref p0), some (.int i1), none], []) h = some r
  refine Eq.trans (jb_nx (i := .aload_n 0) (n := 1) (q := (1, [some (.ref p0), some (.int i1), none], [.ref p0])) (jq qX11_renew 0 rfl) rfl) ?_
  refine Eq.trans (jb_nx (i := .iload_n 1) (n := 1) (q := (2, [some (.ref p0), some (.int i1), none], [.int i1, .ref p0])) (jq qX11_renew 1 rfl) rfl) ?_
  obtain ⟨b19, H⟩ := jm_O_inv H
  rcases jcR H with ⟨a3, h1, r2, H⟩ | ⟨w20, h21, r2, H⟩
  · refine Eq.trans (jb_nx (i := .invokevirtual 147) (n := 3) (q := (5, [some (.ref p0), some (.int i1), none], [.ref a3])) (jq qX11_renew 2 rfl) (jo_cv (y := mX11_partOf) rfl (Nat.le_of_ble_eq_true rfl) rfl (Nat.le_of_ble_eq_true rfl) b19 rfl r2 jo_ret)) ?_
    refine Eq.trans (jb_nx (i := .astore_n 2) (n := 1) (q := (6, [some (.ref p0), some (.int i1), some (.ref a3)], [])) (jq qX11_renew 3 rfl) rfl) ?_
    refine Eq.trans (jb_nx (i := .aload_n 2) (n := 1) (q := (7, [some (.ref p0), some (.int i1), some (.ref a3)], [.ref a3])) (jq qX11_renew 4 rfl) rfl) ?_
    refine Eq.trans (jb_nx (i := .aload_n 0) (n := 1) (q := (8, [some (.ref p0), some (.int i1), some (.ref a3)], [.ref p0, .ref a3])) (jq qX11_renew 5 rfl) rfl) ?_
    obtain ⟨a4, e5, H⟩ := jbd H
    refine Eq.trans (jb_nx (i := .getfield 19) (n := 3) (q := (11, [some (.ref p0), some (.int i1), some (.ref a3)], [.ref a4, .ref a3])) (jq qX11_renew 6 rfl) (jo_gf rfl (jr_R_inv e5))) ?_
    refine Eq.trans (jb_nx (i := .iload_n 1) (n := 1) (q := (12, [some (.ref p0), some (.int i1), some (.ref a3)], [.int i1, .ref a4, .ref a3])) (jq qX11_renew 7 rfl) rfl) ?_
    obtain ⟨b16, H⟩ := jm_O_inv H
    rcases jcR H with ⟨a8, h6, r7, H⟩ | ⟨w17, h18, r7, H⟩
    · refine Eq.trans (jb_nx (i := .invokevirtual 217) (n := 3) (q := (15, [some (.ref p0), some (.int i1), some (.ref a3)], [.ref a8, .ref a3])) (jq qX11_renew 8 rfl) (jo_cv (y := mX0_toldAt) rfl (Nat.le_of_ble_eq_true rfl) rfl (Nat.le_of_ble_eq_true rfl) b16 rfl r7 jo_ret)) ?_
      obtain ⟨b13, H⟩ := jm_O_inv H
      rcases jcV H with ⟨h9, r10, H⟩ | ⟨w14, h15, r10, H⟩
      · refine Eq.trans (jb_nx (i := .invokevirtual 203) (n := 3) (q := (18, [some (.ref p0), some (.int i1), some (.ref a3)], [])) (jq qX11_renew 9 rfl) (jo_cv (y := mX3_setTo) rfl (Nat.le_of_ble_eq_true rfl) rfl (Nat.le_of_ble_eq_true rfl) b13 rfl r10 jo_ret)) ?_
        refine Eq.trans (jb_nx (i := .aload_n 2) (n := 1) (q := (19, [some (.ref p0), some (.int i1), some (.ref a3)], [.ref a3])) (jq qX11_renew 10 rfl) rfl) ?_
        obtain ⟨x11, e12, H⟩ := jbd H
        refine Eq.trans (jb_nx (i := .getfield 151) (n := 3) (q := (22, [some (.ref p0), some (.int i1), some (.ref a3)], [.int x11])) (jq qX11_renew 11 rfl) (jo_gf rfl (jr_I_inv e12))) ?_
        exact Eq.trans (jb_rt (i := .ireturn) (n := 1) (jq qX11_renew 12 rfl) (jo_iret rfl rfl)) H
      · exact Eq.trans (jb_rt (i := .invokevirtual 203) (n := 3) (jq qX11_renew 9 rfl) (jo_cv (y := mX3_setTo) rfl (Nat.le_of_ble_eq_true rfl) rfl (Nat.le_of_ble_eq_true rfl) b13 rfl r10 (jo_exn rfl))) H
    · exact Eq.trans (jb_rt (i := .invokevirtual 217) (n := 3) (jq qX11_renew 8 rfl) (jo_cv (y := mX0_toldAt) rfl (Nat.le_of_ble_eq_true rfl) rfl (Nat.le_of_ble_eq_true rfl) b16 rfl r7 (jo_exn rfl))) H
  · exact Eq.trans (jb_rt (i := .invokevirtual 147) (n := 3) (jq qX11_renew 2 rfl) (jo_cv (y := mX11_partOf) rfl (Nat.le_of_ble_eq_true rfl) rfl (Nat.le_of_ble_eq_true rfl) b19 rfl r2 (jo_exn rfl))) H
/-! MaskPlays passEvenings (I)I -/
def tX11_passEvenings : List (Nat × Instr × Nat) := [(0, .aload_n 0, 1), (1, .iload_n 1, 1), (2, .invokevirtual 234, 3), (5, .iconst 0, 1), (6, .istore_n 2, 1), (7, .iconst 0, 1), (8, .istore_n 3, 1), (9, .iload_n 3, 1), (10, .iload_n 1, 1), (11, .if_icmp .ge 23, 3), (14, .iload_n 2, 1), (15, .aload_n 0, 1), (16, .getfield 84, 3), (19, .aload_n 0, 1), (20, .getfield 19, 3), (23, .invokevirtual 237, 3), (26, .iadd, 1), (27, .istore_n 2, 1), (28, .iinc 3 1, 3), (31, .goto (-22), 3), (34, .iload_n 2, 1), (35, .ireturn, 1)]
set_option maxRecDepth 100000 in
theorem qX11_passEvenings : ∀ q ∈ tX11_passEvenings, decode cX11_passEvenings q.1 = .ok (q.2.1, q.2.2) := by decide +kernel
noncomputable def kX11_passEvenings_9 (d : Nat) (p0 : Nat) (i1 : Int32) (i2 : Int32) (i3 : Int32) (h : jm_H) : Option jm_R := jm_B d mX11_passEvenings (9, [some (.ref p0), some (.int i1), some (.int i2), some (.int i3)], []) h
theorem gX11_passEvenings_9 {d : Nat} {p0 : Nat} {i1 : Int32} {i2 : Int32} {i3 : Int32} {h : jm_H} {r : jm_R} (H : ((if i3 < i1 then (jr_R h p0 10 9 2).bind fun a7 => (jr_R h p0 10 6 2).bind fun a9 => jm_O h a7 4 (jc_I (jm_D d mX4_passEvening [.ref a7, .ref a9] h) (fun x13 h11 => kX11_passEvenings_9 d p0 i1 (i2 + x13) (i3 + 1) h11) jx) else some (.inl (some (.int i2)), h))) = some r) : kX11_passEvenings_9 d p0 i1 i2 i3 h = some r := by
  show jm_B d mX11_passEvenings (9, [some (.ref p0), some (.int i1), some (.int i2), some (.int i3)], []) h = some r
  refine Eq.trans (jb_nx (i := .iload_n 3) (n := 1) (q := (10, [some (.ref p0), some (.int i1), some (.int i2), some (.int i3)], [.int i3])) (jq qX11_passEvenings 7 rfl) rfl) ?_
  refine Eq.trans (jb_nx (i := .iload_n 1) (n := 1) (q := (11, [some (.ref p0), some (.int i1), some (.int i2), some (.int i3)], [.int i1, .int i3])) (jq qX11_passEvenings 8 rfl) rfl) ?_
  by_cases c6 : i3 < i1
  · rw [if_pos c6] at H
    refine Eq.trans (jb_nx (i := .if_icmp .ge 23) (n := 3) (q := (14, [some (.ref p0), some (.int i1), some (.int i2), some (.int i3)], [])) (jq qX11_passEvenings 9 rfl) (jo_icF (jz_geF c6))) ?_
    refine Eq.trans (jb_nx (i := .iload_n 2) (n := 1) (q := (15, [some (.ref p0), some (.int i1), some (.int i2), some (.int i3)], [.int i2])) (jq qX11_passEvenings 10 rfl) rfl) ?_
    refine Eq.trans (jb_nx (i := .aload_n 0) (n := 1) (q := (16, [some (.ref p0), some (.int i1), some (.int i2), some (.int i3)], [.ref p0, .int i2])) (jq qX11_passEvenings 11 rfl) rfl) ?_
    obtain ⟨a7, e8, H⟩ := jbd H
    refine Eq.trans (jb_nx (i := .getfield 84) (n := 3) (q := (19, [some (.ref p0), some (.int i1), some (.int i2), some (.int i3)], [.ref a7, .int i2])) (jq qX11_passEvenings 12 rfl) (jo_gf rfl (jr_R_inv e8))) ?_
    refine Eq.trans (jb_nx (i := .aload_n 0) (n := 1) (q := (20, [some (.ref p0), some (.int i1), some (.int i2), some (.int i3)], [.ref p0, .ref a7, .int i2])) (jq qX11_passEvenings 13 rfl) rfl) ?_
    obtain ⟨a9, e10, H⟩ := jbd H
    refine Eq.trans (jb_nx (i := .getfield 19) (n := 3) (q := (23, [some (.ref p0), some (.int i1), some (.int i2), some (.int i3)], [.ref a9, .ref a7, .int i2])) (jq qX11_passEvenings 14 rfl) (jo_gf rfl (jr_R_inv e10))) ?_
    obtain ⟨b14, H⟩ := jm_O_inv H
    rcases jcI H with ⟨x13, h11, r12, H⟩ | ⟨w15, h16, r12, H⟩
    · refine Eq.trans (jb_nx (i := .invokevirtual 237) (n := 3) (q := (26, [some (.ref p0), some (.int i1), some (.int i2), some (.int i3)], [.int x13, .int i2])) (jq qX11_passEvenings 15 rfl) (jo_cv (y := mX4_passEvening) rfl (Nat.le_of_ble_eq_true rfl) rfl (Nat.le_of_ble_eq_true rfl) b14 rfl r12 jo_ret)) ?_
      refine Eq.trans (jb_nx (i := .iadd) (n := 1) (q := (27, [some (.ref p0), some (.int i1), some (.int i2), some (.int i3)], [.int (i2 + x13)])) (jq qX11_passEvenings 16 rfl) rfl) ?_
      refine Eq.trans (jb_nx (i := .istore_n 2) (n := 1) (q := (28, [some (.ref p0), some (.int i1), some (.int (i2 + x13)), some (.int i3)], [])) (jq qX11_passEvenings 17 rfl) rfl) ?_
      refine Eq.trans (jb_nx (i := .iinc 3 1) (n := 3) (q := (31, [some (.ref p0), some (.int i1), some (.int (i2 + x13)), some (.int (i3 + 1))], [])) (jq qX11_passEvenings 18 rfl) rfl) ?_
      refine Eq.trans (jb_nx (i := .goto (-22)) (n := 3) (q := (9, [some (.ref p0), some (.int i1), some (.int (i2 + x13)), some (.int (i3 + 1))], [])) (jq qX11_passEvenings 19 rfl) rfl) ?_
      exact H
    · exact Eq.trans (jb_rt (i := .invokevirtual 237) (n := 3) (jq qX11_passEvenings 15 rfl) (jo_cv (y := mX4_passEvening) rfl (Nat.le_of_ble_eq_true rfl) rfl (Nat.le_of_ble_eq_true rfl) b14 rfl r12 (jo_exn rfl))) H
  · rw [if_neg c6] at H
    refine Eq.trans (jb_nx (i := .if_icmp .ge 23) (n := 3) (q := (34, [some (.ref p0), some (.int i1), some (.int i2), some (.int i3)], [])) (jq qX11_passEvenings 9 rfl) (jo_icT (jz_geT c6) rfl)) ?_
    refine Eq.trans (jb_nx (i := .iload_n 2) (n := 1) (q := (35, [some (.ref p0), some (.int i1), some (.int i2), some (.int i3)], [.int i2])) (jq qX11_passEvenings 20 rfl) rfl) ?_
    exact Eq.trans (jb_rt (i := .ireturn) (n := 1) (jq qX11_passEvenings 21 rfl) (jo_iret rfl rfl)) H
theorem gX11_passEvenings {d : Nat} {p0 : Nat} {i1 : Int32} {h : jm_H} {r : jm_R} (H : (jm_O h p0 11 (jc_V (jm_D d mX11_checkEvenings [.ref p0, .int i1] h) (fun h1 => kX11_passEvenings_9 d p0 i1 0 0 h1) jx)) = some r) : jm_D (d + 1) mX11_passEvenings [.ref p0, .int i1] h = some r := by
  rw [jm_D_body (Nat.le_of_ble_eq_true rfl)]
  show jm_B d mX11_passEvenings (0, [some (.ref p0), some (.int i1), none, none], []) h = some r
  refine Eq.trans (jb_nx (i := .aload_n 0) (n := 1) (q := (1, [some (.ref p0), some (.int i1), none, none], [.ref p0])) (jq qX11_passEvenings 0 rfl) rfl) ?_
  refine Eq.trans (jb_nx (i := .iload_n 1) (n := 1) (q := (2, [some (.ref p0), some (.int i1), none, none], [.int i1, .ref p0])) (jq qX11_passEvenings 1 rfl) rfl) ?_
  obtain ⟨b3, H⟩ := jm_O_inv H
  rcases jcV H with ⟨h1, r2, H⟩ | ⟨w4, h5, r2, H⟩
  · refine Eq.trans (jb_nx (i := .invokevirtual 234) (n := 3) (q := (5, [some (.ref p0), some (.int i1), none, none], [])) (jq qX11_passEvenings 2 rfl) (jo_cv (y := mX11_checkEvenings) rfl (Nat.le_of_ble_eq_true rfl) rfl (Nat.le_of_ble_eq_true rfl) b3 rfl r2 jo_ret)) ?_
    refine Eq.trans (jb_nx (i := .iconst 0) (n := 1) (q := (6, [some (.ref p0), some (.int i1), none, none], [.int 0])) (jq qX11_passEvenings 3 rfl) rfl) ?_
    refine Eq.trans (jb_nx (i := .istore_n 2) (n := 1) (q := (7, [some (.ref p0), some (.int i1), some (.int 0), none], [])) (jq qX11_passEvenings 4 rfl) rfl) ?_
    refine Eq.trans (jb_nx (i := .iconst 0) (n := 1) (q := (8, [some (.ref p0), some (.int i1), some (.int 0), none], [.int 0])) (jq qX11_passEvenings 5 rfl) rfl) ?_
    refine Eq.trans (jb_nx (i := .istore_n 3) (n := 1) (q := (9, [some (.ref p0), some (.int i1), some (.int 0), some (.int 0)], [])) (jq qX11_passEvenings 6 rfl) rfl) ?_
    exact H
  · exact Eq.trans (jb_rt (i := .invokevirtual 234) (n := 3) (jq qX11_passEvenings 2 rfl) (jo_cv (y := mX11_checkEvenings) rfl (Nat.le_of_ble_eq_true rfl) rfl (Nat.le_of_ble_eq_true rfl) b3 rfl r2 (jo_exn rfl))) H
/-! MaskPlays checkEvenings (I)V -/
def tX11_checkEvenings : List (Nat × Instr × Nat) := [(0, .iload_n 1, 1), (1, .iconst 1, 1), (2, .if_icmp .lt 9, 3), (5, .iload_n 1, 1), (6, .bipush 20, 2), (8, .if_icmp .le 14, 3), (11, .new 102, 3), (14, .dup, 1), (15, .ldc_w 322, 3), (18, .invokespecial 106, 3), (21, .athrow, 1), (22, .return_, 1)]
set_option maxRecDepth 100000 in
theorem qX11_checkEvenings : ∀ q ∈ tX11_checkEvenings, decode cX11_checkEvenings q.1 = .ok (q.2.1, q.2.2) := by decide +kernel
theorem gX11_checkEvenings {d : Nat} {p0 : Nat} {i1 : Int32} {h : jm_H} {r : jm_R} (H : ((if i1 < 1 then some (.inr 1, jm_gap h) else (if 20 < i1 then some (.inr 1, jm_gap h) else some (.inl none, h)))) = some r) : jm_D (d + 1) mX11_checkEvenings [.ref p0, .int i1] h = some r := by
  rw [jm_D_body (Nat.le_of_ble_eq_true rfl)]
  show jm_B d mX11_checkEvenings (0, [some (.ref p0), some (.int i1)], []) h = some r
  refine Eq.trans (jb_nx (i := .iload_n 1) (n := 1) (q := (1, [some (.ref p0), some (.int i1)], [.int i1])) (jq qX11_checkEvenings 0 rfl) rfl) ?_
  refine Eq.trans (jb_nx (i := .iconst 1) (n := 1) (q := (2, [some (.ref p0), some (.int i1)], [.int 1, .int i1])) (jq qX11_checkEvenings 1 rfl) rfl) ?_
  by_cases c1 : i1 < 1
  · rw [if_pos c1] at H
    refine Eq.trans (jb_nx (i := .if_icmp .lt 9) (n := 3) (q := (11, [some (.ref p0), some (.int i1)], [])) (jq qX11_checkEvenings 2 rfl) (jo_icT (jz_ltT c1) rfl)) ?_
    exact Eq.trans (jb_rt (i := .new 102) (n := 3) (jq qX11_checkEvenings 6 rfl) (jo_thr rfl (jo_throwW (k := 322) (j := 106) ⟨rfl, rfl, by decide, Nat.le_of_ble_eq_true rfl⟩ (jq qX11_checkEvenings 7 rfl) (jq qX11_checkEvenings 8 rfl) rfl (jq qX11_checkEvenings 9 rfl) (jq qX11_checkEvenings 10 rfl) rfl))) H
  · rw [if_neg c1] at H
    refine Eq.trans (jb_nx (i := .if_icmp .lt 9) (n := 3) (q := (5, [some (.ref p0), some (.int i1)], [])) (jq qX11_checkEvenings 2 rfl) (jo_icF (jz_ltF c1))) ?_
    refine Eq.trans (jb_nx (i := .iload_n 1) (n := 1) (q := (6, [some (.ref p0), some (.int i1)], [.int i1])) (jq qX11_checkEvenings 3 rfl) rfl) ?_
    refine Eq.trans (jb_nx (i := .bipush 20) (n := 2) (q := (8, [some (.ref p0), some (.int i1)], [.int 20, .int i1])) (jq qX11_checkEvenings 4 rfl) rfl) ?_
    by_cases c2 : 20 < i1
    · rw [if_pos c2] at H
      refine Eq.trans (jb_nx (i := .if_icmp .le 14) (n := 3) (q := (11, [some (.ref p0), some (.int i1)], [])) (jq qX11_checkEvenings 5 rfl) (jo_icF (jz_leF c2))) ?_
      exact Eq.trans (jb_rt (i := .new 102) (n := 3) (jq qX11_checkEvenings 6 rfl) (jo_thr rfl (jo_throwW (k := 322) (j := 106) ⟨rfl, rfl, by decide, Nat.le_of_ble_eq_true rfl⟩ (jq qX11_checkEvenings 7 rfl) (jq qX11_checkEvenings 8 rfl) rfl (jq qX11_checkEvenings 9 rfl) (jq qX11_checkEvenings 10 rfl) rfl))) H
    · rw [if_neg c2] at H
      refine Eq.trans (jb_nx (i := .if_icmp .le 14) (n := 3) (q := (22, [some (.ref p0), some (.int i1)], [])) (jq qX11_checkEvenings 5 rfl) (jo_icT (jz_leT c2) rfl)) ?_
      exact Eq.trans (jb_rt (i := .return_) (n := 1) (jq qX11_checkEvenings 11 rfl) rfl) H
/-! MaskPlays stepsToFinish (I)I -/
def tX11_stepsToFinish : List (Nat × Instr × Nat) := [(0, .aload_n 0, 1), (1, .getfield 26, 3), (4, .aload_n 0, 1), (5, .iload_n 1, 1), (6, .invokevirtual 147, 3), (9, .invokevirtual 203, 3), (12, .aload_n 0, 1), (13, .getfield 75, 3), (16, .aload_n 0, 1), (17, .getfield 26, 3), (20, .bipush 40, 2), (22, .invokevirtual 240, 3), (25, .istore_n 2, 1), (26, .iload_n 2, 1), (27, .ifCond .ge 13, 3), (30, .new 91, 3), (33, .dup, 1), (34, .ldc 244, 2), (36, .invokespecial 95, 3), (39, .athrow, 1), (40, .iload_n 2, 1), (41, .ireturn, 1)]
set_option maxRecDepth 100000 in
theorem qX11_stepsToFinish : ∀ q ∈ tX11_stepsToFinish, decode cX11_stepsToFinish q.1 = .ok (q.2.1, q.2.2) := by decide +kernel
theorem gX11_stepsToFinish {d : Nat} {p0 : Nat} {i1 : Int32} {h : jm_H} {r : jm_R} (H : ((jr_R h p0 10 11 2).bind fun a1 => jm_O h p0 11 (jc_R (jm_D d mX11_partOf [.ref p0, .int i1] h) (fun a5 h3 => jm_O h3 a1 3 (jc_V (jm_D d mX3_setTo [.ref a1, .ref a5] h3) (fun h6 => (jr_R h6 p0 10 8 2).bind fun a8 => (jr_R h6 p0 10 11 2).bind fun a10 => jm_O h6 a8 5 (jc_I (jm_D d mX5_takeUntilFinished [.ref a8, .ref a10, .int 40] h6) (fun x14 h12 => (if x14 < 0 then some (.inr 0, jm_gap h12) else some (.inl (some (.int x14)), h12))) jx)) jx)) jx)) = some r) : jm_D (d + 1) mX11_stepsToFinish [.ref p0, .int i1] h = some r := by
  rw [jm_D_body (Nat.le_of_ble_eq_true rfl)]
  show jm_B d mX11_stepsToFinish (0, [some (.ref p0), some (.int i1), none], []) h = some r
  refine Eq.trans (jb_nx (i := .aload_n 0) (n := 1) (q := (1, [some (.ref p0), some (.int i1), none], [.ref p0])) (jq qX11_stepsToFinish 0 rfl) rfl) ?_
  obtain ⟨a1, e2, H⟩ := jbd H
  refine Eq.trans (jb_nx (i := .getfield 26) (n := 3) (q := (4, [some (.ref p0), some (.int i1), none], [.ref a1])) (jq qX11_stepsToFinish 1 rfl) (jo_gf rfl (jr_R_inv e2))) ?_
  refine Eq.trans (jb_nx (i := .aload_n 0) (n := 1) (q := (5, [some (.ref p0), some (.int i1), none], [.ref p0, .ref a1])) (jq qX11_stepsToFinish 2 rfl) rfl) ?_
  refine Eq.trans (jb_nx (i := .iload_n 1) (n := 1) (q := (6, [some (.ref p0), some (.int i1), none], [.int i1, .ref p0, .ref a1])) (jq qX11_stepsToFinish 3 rfl) rfl) ?_
  obtain ⟨b22, H⟩ := jm_O_inv H
  rcases jcR H with ⟨a5, h3, r4, H⟩ | ⟨w23, h24, r4, H⟩
  · refine Eq.trans (jb_nx (i := .invokevirtual 147) (n := 3) (q := (9, [some (.ref p0), some (.int i1), none], [.ref a5, .ref a1])) (jq qX11_stepsToFinish 4 rfl) (jo_cv (y := mX11_partOf) rfl (Nat.le_of_ble_eq_true rfl) rfl (Nat.le_of_ble_eq_true rfl) b22 rfl r4 jo_ret)) ?_
    obtain ⟨b19, H⟩ := jm_O_inv H
    rcases jcV H with ⟨h6, r7, H⟩ | ⟨w20, h21, r7, H⟩
    · refine Eq.trans (jb_nx (i := .invokevirtual 203) (n := 3) (q := (12, [some (.ref p0), some (.int i1), none], [])) (jq qX11_stepsToFinish 5 rfl) (jo_cv (y := mX3_setTo) rfl (Nat.le_of_ble_eq_true rfl) rfl (Nat.le_of_ble_eq_true rfl) b19 rfl r7 jo_ret)) ?_
      refine Eq.trans (jb_nx (i := .aload_n 0) (n := 1) (q := (13, [some (.ref p0), some (.int i1), none], [.ref p0])) (jq qX11_stepsToFinish 6 rfl) rfl) ?_
      obtain ⟨a8, e9, H⟩ := jbd H
      refine Eq.trans (jb_nx (i := .getfield 75) (n := 3) (q := (16, [some (.ref p0), some (.int i1), none], [.ref a8])) (jq qX11_stepsToFinish 7 rfl) (jo_gf rfl (jr_R_inv e9))) ?_
      refine Eq.trans (jb_nx (i := .aload_n 0) (n := 1) (q := (17, [some (.ref p0), some (.int i1), none], [.ref p0, .ref a8])) (jq qX11_stepsToFinish 8 rfl) rfl) ?_
      obtain ⟨a10, e11, H⟩ := jbd H
      refine Eq.trans (jb_nx (i := .getfield 26) (n := 3) (q := (20, [some (.ref p0), some (.int i1), none], [.ref a10, .ref a8])) (jq qX11_stepsToFinish 9 rfl) (jo_gf rfl (jr_R_inv e11))) ?_
      refine Eq.trans (jb_nx (i := .bipush 40) (n := 2) (q := (22, [some (.ref p0), some (.int i1), none], [.int 40, .ref a10, .ref a8])) (jq qX11_stepsToFinish 10 rfl) rfl) ?_
      obtain ⟨b16, H⟩ := jm_O_inv H
      rcases jcI H with ⟨x14, h12, r13, H⟩ | ⟨w17, h18, r13, H⟩
      · refine Eq.trans (jb_nx (i := .invokevirtual 240) (n := 3) (q := (25, [some (.ref p0), some (.int i1), none], [.int x14])) (jq qX11_stepsToFinish 11 rfl) (jo_cv (y := mX5_takeUntilFinished) rfl (Nat.le_of_ble_eq_true rfl) rfl (Nat.le_of_ble_eq_true rfl) b16 rfl r13 jo_ret)) ?_
        refine Eq.trans (jb_nx (i := .istore_n 2) (n := 1) (q := (26, [some (.ref p0), some (.int i1), some (.int x14)], [])) (jq qX11_stepsToFinish 12 rfl) rfl) ?_
        refine Eq.trans (jb_nx (i := .iload_n 2) (n := 1) (q := (27, [some (.ref p0), some (.int i1), some (.int x14)], [.int x14])) (jq qX11_stepsToFinish 13 rfl) rfl) ?_
        by_cases c15 : x14 < 0
        · rw [if_pos c15] at H
          refine Eq.trans (jb_nx (i := .ifCond .ge 13) (n := 3) (q := (30, [some (.ref p0), some (.int i1), some (.int x14)], [])) (jq qX11_stepsToFinish 14 rfl) (jo_ifF (jz_geF c15))) ?_
          exact Eq.trans (jb_rt (i := .new 91) (n := 3) (jq qX11_stepsToFinish 15 rfl) (jo_thr rfl (jo_throw (k := 244) (j := 95) ⟨rfl, rfl, by decide, Nat.le_of_ble_eq_true rfl⟩ (jq qX11_stepsToFinish 16 rfl) (jq qX11_stepsToFinish 17 rfl) rfl (jq qX11_stepsToFinish 18 rfl) (jq qX11_stepsToFinish 19 rfl) rfl))) H
        · rw [if_neg c15] at H
          refine Eq.trans (jb_nx (i := .ifCond .ge 13) (n := 3) (q := (40, [some (.ref p0), some (.int i1), some (.int x14)], [])) (jq qX11_stepsToFinish 14 rfl) (jo_ifT (jz_geT c15) rfl)) ?_
          refine Eq.trans (jb_nx (i := .iload_n 2) (n := 1) (q := (41, [some (.ref p0), some (.int i1), some (.int x14)], [.int x14])) (jq qX11_stepsToFinish 20 rfl) rfl) ?_
          exact Eq.trans (jb_rt (i := .ireturn) (n := 1) (jq qX11_stepsToFinish 21 rfl) (jo_iret rfl rfl)) H
      · exact Eq.trans (jb_rt (i := .invokevirtual 240) (n := 3) (jq qX11_stepsToFinish 11 rfl) (jo_cv (y := mX5_takeUntilFinished) rfl (Nat.le_of_ble_eq_true rfl) rfl (Nat.le_of_ble_eq_true rfl) b16 rfl r13 (jo_exn rfl))) H
    · exact Eq.trans (jb_rt (i := .invokevirtual 203) (n := 3) (jq qX11_stepsToFinish 5 rfl) (jo_cv (y := mX3_setTo) rfl (Nat.le_of_ble_eq_true rfl) rfl (Nat.le_of_ble_eq_true rfl) b19 rfl r7 (jo_exn rfl))) H
  · exact Eq.trans (jb_rt (i := .invokevirtual 147) (n := 3) (jq qX11_stepsToFinish 4 rfl) (jo_cv (y := mX11_partOf) rfl (Nat.le_of_ble_eq_true rfl) rfl (Nat.le_of_ble_eq_true rfl) b22 rfl r4 (jo_exn rfl))) H
/-! MaskPlays sizeAfterSteps (II)I -/
def tX11_sizeAfterSteps : List (Nat × Instr × Nat) := [(0, .aload_n 0, 1), (1, .iload_n 1, 1), (2, .invokevirtual 147, 3), (5, .astore_n 3, 1), (6, .iload_n 2, 1), (7, .ifCond .lt 9, 3), (10, .iload_n 2, 1), (11, .bipush 40, 2), (13, .if_icmp .le 13, 3), (16, .new 102, 3), (19, .dup, 1), (20, .ldc 246, 2), (22, .invokespecial 106, 3), (25, .athrow, 1), (26, .aload_n 0, 1), (27, .getfield 26, 3), (30, .aload_n 3, 1), (31, .invokevirtual 203, 3), (34, .aload_n 0, 1), (35, .getfield 75, 3), (38, .aload_n 0, 1), (39, .getfield 26, 3), (42, .iload_n 2, 1), (43, .invokevirtual 248, 3), (46, .aload_n 0, 1), (47, .getfield 26, 3), (50, .getfield 151, 3), (53, .ireturn, 1)]
set_option maxRecDepth 100000 in
theorem qX11_sizeAfterSteps : ∀ q ∈ tX11_sizeAfterSteps, decode cX11_sizeAfterSteps q.1 = .ok (q.2.1, q.2.2) := by decide +kernel
theorem gX11_sizeAfterSteps {d : Nat} {p0 : Nat} {i1 : Int32} {i2 : Int32} {h : jm_H} {r : jm_R} (H : (jm_O h p0 11 (jc_R (jm_D d mX11_partOf [.ref p0, .int i1] h) (fun a3 h1 => (if i2 < 0 then some (.inr 1, jm_gap h1) else (if 40 < i2 then some (.inr 1, jm_gap h1) else (jr_R h1 p0 10 11 2).bind fun a6 => jm_O h1 a6 3 (jc_V (jm_D d mX3_setTo [.ref a6, .ref a3] h1) (fun h8 => (jr_R h8 p0 10 8 2).bind fun a10 => (jr_R h8 p0 10 11 2).bind fun a12 => jm_O h8 a10 5 (jc_V (jm_D d mX5_takeUpTo [.ref a10, .ref a12, .int i2] h8) (fun h14 => (jr_R h14 p0 10 11 2).bind fun a16 => (jr_I h14 a16 3 0 0).bind fun x18 => some (.inl (some (.int x18)), h14)) jx)) jx)))) jx)) = some r) : jm_D (d + 1) mX11_sizeAfterSteps [.ref p0, .int i1, .int i2] h = some r := by
  rw [jm_D_body (Nat.le_of_ble_eq_true rfl)]
  show jm_B d mX11_sizeAfterSteps (0, [some (.ref p0), some (.int i1), some (.int i2), none], []) h = some r
  refine Eq.trans (jb_nx (i := .aload_n 0) (n := 1) (q := (1, [some (.ref p0), some (.int i1), some (.int i2), none], [.ref p0])) (jq qX11_sizeAfterSteps 0 rfl) rfl) ?_
  refine Eq.trans (jb_nx (i := .iload_n 1) (n := 1) (q := (2, [some (.ref p0), some (.int i1), some (.int i2), none], [.int i1, .ref p0])) (jq qX11_sizeAfterSteps 1 rfl) rfl) ?_
  obtain ⟨b26, H⟩ := jm_O_inv H
  rcases jcR H with ⟨a3, h1, r2, H⟩ | ⟨w27, h28, r2, H⟩
  · refine Eq.trans (jb_nx (i := .invokevirtual 147) (n := 3) (q := (5, [some (.ref p0), some (.int i1), some (.int i2), none], [.ref a3])) (jq qX11_sizeAfterSteps 2 rfl) (jo_cv (y := mX11_partOf) rfl (Nat.le_of_ble_eq_true rfl) rfl (Nat.le_of_ble_eq_true rfl) b26 rfl r2 jo_ret)) ?_
    refine Eq.trans (jb_nx (i := .astore_n 3) (n := 1) (q := (6, [some (.ref p0), some (.int i1), some (.int i2), some (.ref a3)], [])) (jq qX11_sizeAfterSteps 3 rfl) rfl) ?_
    refine Eq.trans (jb_nx (i := .iload_n 2) (n := 1) (q := (7, [some (.ref p0), some (.int i1), some (.int i2), some (.ref a3)], [.int i2])) (jq qX11_sizeAfterSteps 4 rfl) rfl) ?_
    by_cases c4 : i2 < 0
    · rw [if_pos c4] at H
      refine Eq.trans (jb_nx (i := .ifCond .lt 9) (n := 3) (q := (16, [some (.ref p0), some (.int i1), some (.int i2), some (.ref a3)], [])) (jq qX11_sizeAfterSteps 5 rfl) (jo_ifT (jz_ltT c4) rfl)) ?_
      exact Eq.trans (jb_rt (i := .new 102) (n := 3) (jq qX11_sizeAfterSteps 9 rfl) (jo_thr rfl (jo_throw (k := 246) (j := 106) ⟨rfl, rfl, by decide, Nat.le_of_ble_eq_true rfl⟩ (jq qX11_sizeAfterSteps 10 rfl) (jq qX11_sizeAfterSteps 11 rfl) rfl (jq qX11_sizeAfterSteps 12 rfl) (jq qX11_sizeAfterSteps 13 rfl) rfl))) H
    · rw [if_neg c4] at H
      refine Eq.trans (jb_nx (i := .ifCond .lt 9) (n := 3) (q := (10, [some (.ref p0), some (.int i1), some (.int i2), some (.ref a3)], [])) (jq qX11_sizeAfterSteps 5 rfl) (jo_ifF (jz_ltF c4))) ?_
      refine Eq.trans (jb_nx (i := .iload_n 2) (n := 1) (q := (11, [some (.ref p0), some (.int i1), some (.int i2), some (.ref a3)], [.int i2])) (jq qX11_sizeAfterSteps 6 rfl) rfl) ?_
      refine Eq.trans (jb_nx (i := .bipush 40) (n := 2) (q := (13, [some (.ref p0), some (.int i1), some (.int i2), some (.ref a3)], [.int 40, .int i2])) (jq qX11_sizeAfterSteps 7 rfl) rfl) ?_
      by_cases c5 : 40 < i2
      · rw [if_pos c5] at H
        refine Eq.trans (jb_nx (i := .if_icmp .le 13) (n := 3) (q := (16, [some (.ref p0), some (.int i1), some (.int i2), some (.ref a3)], [])) (jq qX11_sizeAfterSteps 8 rfl) (jo_icF (jz_leF c5))) ?_
        exact Eq.trans (jb_rt (i := .new 102) (n := 3) (jq qX11_sizeAfterSteps 9 rfl) (jo_thr rfl (jo_throw (k := 246) (j := 106) ⟨rfl, rfl, by decide, Nat.le_of_ble_eq_true rfl⟩ (jq qX11_sizeAfterSteps 10 rfl) (jq qX11_sizeAfterSteps 11 rfl) rfl (jq qX11_sizeAfterSteps 12 rfl) (jq qX11_sizeAfterSteps 13 rfl) rfl))) H
      · rw [if_neg c5] at H
        refine Eq.trans (jb_nx (i := .if_icmp .le 13) (n := 3) (q := (26, [some (.ref p0), some (.int i1), some (.int i2), some (.ref a3)], [])) (jq qX11_sizeAfterSteps 8 rfl) (jo_icT (jz_leT c5) rfl)) ?_
        refine Eq.trans (jb_nx (i := .aload_n 0) (n := 1) (q := (27, [some (.ref p0), some (.int i1), some (.int i2), some (.ref a3)], [.ref p0])) (jq qX11_sizeAfterSteps 14 rfl) rfl) ?_
        obtain ⟨a6, e7, H⟩ := jbd H
        refine Eq.trans (jb_nx (i := .getfield 26) (n := 3) (q := (30, [some (.ref p0), some (.int i1), some (.int i2), some (.ref a3)], [.ref a6])) (jq qX11_sizeAfterSteps 15 rfl) (jo_gf rfl (jr_R_inv e7))) ?_
        refine Eq.trans (jb_nx (i := .aload_n 3) (n := 1) (q := (31, [some (.ref p0), some (.int i1), some (.int i2), some (.ref a3)], [.ref a3, .ref a6])) (jq qX11_sizeAfterSteps 16 rfl) rfl) ?_
        obtain ⟨b23, H⟩ := jm_O_inv H
        rcases jcV H with ⟨h8, r9, H⟩ | ⟨w24, h25, r9, H⟩
        · refine Eq.trans (jb_nx (i := .invokevirtual 203) (n := 3) (q := (34, [some (.ref p0), some (.int i1), some (.int i2), some (.ref a3)], [])) (jq qX11_sizeAfterSteps 17 rfl) (jo_cv (y := mX3_setTo) rfl (Nat.le_of_ble_eq_true rfl) rfl (Nat.le_of_ble_eq_true rfl) b23 rfl r9 jo_ret)) ?_
          refine Eq.trans (jb_nx (i := .aload_n 0) (n := 1) (q := (35, [some (.ref p0), some (.int i1), some (.int i2), some (.ref a3)], [.ref p0])) (jq qX11_sizeAfterSteps 18 rfl) rfl) ?_
          obtain ⟨a10, e11, H⟩ := jbd H
          refine Eq.trans (jb_nx (i := .getfield 75) (n := 3) (q := (38, [some (.ref p0), some (.int i1), some (.int i2), some (.ref a3)], [.ref a10])) (jq qX11_sizeAfterSteps 19 rfl) (jo_gf rfl (jr_R_inv e11))) ?_
          refine Eq.trans (jb_nx (i := .aload_n 0) (n := 1) (q := (39, [some (.ref p0), some (.int i1), some (.int i2), some (.ref a3)], [.ref p0, .ref a10])) (jq qX11_sizeAfterSteps 20 rfl) rfl) ?_
          obtain ⟨a12, e13, H⟩ := jbd H
          refine Eq.trans (jb_nx (i := .getfield 26) (n := 3) (q := (42, [some (.ref p0), some (.int i1), some (.int i2), some (.ref a3)], [.ref a12, .ref a10])) (jq qX11_sizeAfterSteps 21 rfl) (jo_gf rfl (jr_R_inv e13))) ?_
          refine Eq.trans (jb_nx (i := .iload_n 2) (n := 1) (q := (43, [some (.ref p0), some (.int i1), some (.int i2), some (.ref a3)], [.int i2, .ref a12, .ref a10])) (jq qX11_sizeAfterSteps 22 rfl) rfl) ?_
          obtain ⟨b20, H⟩ := jm_O_inv H
          rcases jcV H with ⟨h14, r15, H⟩ | ⟨w21, h22, r15, H⟩
          · refine Eq.trans (jb_nx (i := .invokevirtual 248) (n := 3) (q := (46, [some (.ref p0), some (.int i1), some (.int i2), some (.ref a3)], [])) (jq qX11_sizeAfterSteps 23 rfl) (jo_cv (y := mX5_takeUpTo) rfl (Nat.le_of_ble_eq_true rfl) rfl (Nat.le_of_ble_eq_true rfl) b20 rfl r15 jo_ret)) ?_
            refine Eq.trans (jb_nx (i := .aload_n 0) (n := 1) (q := (47, [some (.ref p0), some (.int i1), some (.int i2), some (.ref a3)], [.ref p0])) (jq qX11_sizeAfterSteps 24 rfl) rfl) ?_
            obtain ⟨a16, e17, H⟩ := jbd H
            refine Eq.trans (jb_nx (i := .getfield 26) (n := 3) (q := (50, [some (.ref p0), some (.int i1), some (.int i2), some (.ref a3)], [.ref a16])) (jq qX11_sizeAfterSteps 25 rfl) (jo_gf rfl (jr_R_inv e17))) ?_
            obtain ⟨x18, e19, H⟩ := jbd H
            refine Eq.trans (jb_nx (i := .getfield 151) (n := 3) (q := (53, [some (.ref p0), some (.int i1), some (.int i2), some (.ref a3)], [.int x18])) (jq qX11_sizeAfterSteps 26 rfl) (jo_gf rfl (jr_I_inv e19))) ?_
            exact Eq.trans (jb_rt (i := .ireturn) (n := 1) (jq qX11_sizeAfterSteps 27 rfl) (jo_iret rfl rfl)) H
          · exact Eq.trans (jb_rt (i := .invokevirtual 248) (n := 3) (jq qX11_sizeAfterSteps 23 rfl) (jo_cv (y := mX5_takeUpTo) rfl (Nat.le_of_ble_eq_true rfl) rfl (Nat.le_of_ble_eq_true rfl) b20 rfl r15 (jo_exn rfl))) H
        · exact Eq.trans (jb_rt (i := .invokevirtual 203) (n := 3) (jq qX11_sizeAfterSteps 17 rfl) (jo_cv (y := mX3_setTo) rfl (Nat.le_of_ble_eq_true rfl) rfl (Nat.le_of_ble_eq_true rfl) b23 rfl r9 (jo_exn rfl))) H
  · exact Eq.trans (jb_rt (i := .invokevirtual 147) (n := 3) (jq qX11_sizeAfterSteps 2 rfl) (jo_cv (y := mX11_partOf) rfl (Nat.le_of_ble_eq_true rfl) rfl (Nat.le_of_ble_eq_true rfl) b26 rfl r2 (jo_exn rfl))) H
/-! MaskPlays endSame (II)Z -/
def tX11_endSame : List (Nat × Instr × Nat) := [(0, .aload_n 0, 1), (1, .iload_n 1, 1), (2, .invokevirtual 147, 3), (5, .astore_n 3, 1), (6, .aload_n 0, 1), (7, .iload_n 2, 1), (8, .invokevirtual 147, 3), (11, .astore 4, 2), (13, .aload_n 0, 1), (14, .getfield 26, 3), (17, .aload_n 3, 1), (18, .invokevirtual 203, 3), (21, .aload_n 0, 1), (22, .getfield 75, 3), (25, .aload_n 0, 1), (26, .getfield 26, 3), (29, .bipush 40, 2), (31, .invokevirtual 248, 3), (34, .aload_n 0, 1), (35, .getfield 30, 3), (38, .aload 4, 2), (40, .invokevirtual 203, 3), (43, .aload_n 0, 1), (44, .getfield 75, 3), (47, .aload_n 0, 1), (48, .getfield 30, 3), (51, .bipush 40, 2), (53, .invokevirtual 248, 3), (56, .aload_n 0, 1), (57, .getfield 26, 3), (60, .aload_n 0, 1), (61, .getfield 30, 3), (64, .invokevirtual 214, 3), (67, .ireturn, 1)]
set_option maxRecDepth 100000 in
theorem qX11_endSame : ∀ q ∈ tX11_endSame, decode cX11_endSame q.1 = .ok (q.2.1, q.2.2) := by decide +kernel
theorem gX11_endSame {d : Nat} {p0 : Nat} {i1 : Int32} {i2 : Int32} {h : jm_H} {r : jm_R} (H : (jm_O h p0 11 (jc_R (jm_D d mX11_partOf [.ref p0, .int i1] h) (fun a3 h1 => jm_O h1 p0 11 (jc_R (jm_D d mX11_partOf [.ref p0, .int i2] h1) (fun a6 h4 => (jr_R h4 p0 10 11 2).bind fun a7 => jm_O h4 a7 3 (jc_V (jm_D d mX3_setTo [.ref a7, .ref a3] h4) (fun h9 => (jr_R h9 p0 10 8 2).bind fun a11 => (jr_R h9 p0 10 11 2).bind fun a13 => jm_O h9 a11 5 (jc_V (jm_D d mX5_takeUpTo [.ref a11, .ref a13, .int 40] h9) (fun h15 => (jr_R h15 p0 10 12 2).bind fun a17 => jm_O h15 a17 3 (jc_V (jm_D d mX3_setTo [.ref a17, .ref a6] h15) (fun h19 => (jr_R h19 p0 10 8 2).bind fun a21 => (jr_R h19 p0 10 12 2).bind fun a23 => jm_O h19 a21 5 (jc_V (jm_D d mX5_takeUpTo [.ref a21, .ref a23, .int 40] h19) (fun h25 => (jr_R h25 p0 10 11 2).bind fun a27 => (jr_R h25 p0 10 12 2).bind fun a29 => jm_O h25 a27 3 (jc_I (jm_D d mX3_isLike [.ref a27, .ref a29] h25) (fun x33 h31 => jm_Y .boolean x33 (some (.inl (some (.int x33)), h31))) jx)) jx)) jx)) jx)) jx)) jx)) jx)) = some r) : jm_D (d + 1) mX11_endSame [.ref p0, .int i1, .int i2] h = some r := by
  rw [jm_D_body (Nat.le_of_ble_eq_true rfl)]
  show jm_B d mX11_endSame (0, [some (.ref p0), some (.int i1), some (.int i2), none, none], []) h = some r
  refine Eq.trans (jb_nx (i := .aload_n 0) (n := 1) (q := (1, [some (.ref p0), some (.int i1), some (.int i2), none, none], [.ref p0])) (jq qX11_endSame 0 rfl) rfl) ?_
  refine Eq.trans (jb_nx (i := .iload_n 1) (n := 1) (q := (2, [some (.ref p0), some (.int i1), some (.int i2), none, none], [.int i1, .ref p0])) (jq qX11_endSame 1 rfl) rfl) ?_
  obtain ⟨b53, H⟩ := jm_O_inv H
  rcases jcR H with ⟨a3, h1, r2, H⟩ | ⟨w54, h55, r2, H⟩
  · refine Eq.trans (jb_nx (i := .invokevirtual 147) (n := 3) (q := (5, [some (.ref p0), some (.int i1), some (.int i2), none, none], [.ref a3])) (jq qX11_endSame 2 rfl) (jo_cv (y := mX11_partOf) rfl (Nat.le_of_ble_eq_true rfl) rfl (Nat.le_of_ble_eq_true rfl) b53 rfl r2 jo_ret)) ?_
    refine Eq.trans (jb_nx (i := .astore_n 3) (n := 1) (q := (6, [some (.ref p0), some (.int i1), some (.int i2), some (.ref a3), none], [])) (jq qX11_endSame 3 rfl) rfl) ?_
    refine Eq.trans (jb_nx (i := .aload_n 0) (n := 1) (q := (7, [some (.ref p0), some (.int i1), some (.int i2), some (.ref a3), none], [.ref p0])) (jq qX11_endSame 4 rfl) rfl) ?_
    refine Eq.trans (jb_nx (i := .iload_n 2) (n := 1) (q := (8, [some (.ref p0), some (.int i1), some (.int i2), some (.ref a3), none], [.int i2, .ref p0])) (jq qX11_endSame 5 rfl) rfl) ?_
    obtain ⟨b50, H⟩ := jm_O_inv H
    rcases jcR H with ⟨a6, h4, r5, H⟩ | ⟨w51, h52, r5, H⟩
    · refine Eq.trans (jb_nx (i := .invokevirtual 147) (n := 3) (q := (11, [some (.ref p0), some (.int i1), some (.int i2), some (.ref a3), none], [.ref a6])) (jq qX11_endSame 6 rfl) (jo_cv (y := mX11_partOf) rfl (Nat.le_of_ble_eq_true rfl) rfl (Nat.le_of_ble_eq_true rfl) b50 rfl r5 jo_ret)) ?_
      refine Eq.trans (jb_nx (i := .astore 4) (n := 2) (q := (13, [some (.ref p0), some (.int i1), some (.int i2), some (.ref a3), some (.ref a6)], [])) (jq qX11_endSame 7 rfl) rfl) ?_
      refine Eq.trans (jb_nx (i := .aload_n 0) (n := 1) (q := (14, [some (.ref p0), some (.int i1), some (.int i2), some (.ref a3), some (.ref a6)], [.ref p0])) (jq qX11_endSame 8 rfl) rfl) ?_
      obtain ⟨a7, e8, H⟩ := jbd H
      refine Eq.trans (jb_nx (i := .getfield 26) (n := 3) (q := (17, [some (.ref p0), some (.int i1), some (.int i2), some (.ref a3), some (.ref a6)], [.ref a7])) (jq qX11_endSame 9 rfl) (jo_gf rfl (jr_R_inv e8))) ?_
      refine Eq.trans (jb_nx (i := .aload_n 3) (n := 1) (q := (18, [some (.ref p0), some (.int i1), some (.int i2), some (.ref a3), some (.ref a6)], [.ref a3, .ref a7])) (jq qX11_endSame 10 rfl) rfl) ?_
      obtain ⟨b47, H⟩ := jm_O_inv H
      rcases jcV H with ⟨h9, r10, H⟩ | ⟨w48, h49, r10, H⟩
      · refine Eq.trans (jb_nx (i := .invokevirtual 203) (n := 3) (q := (21, [some (.ref p0), some (.int i1), some (.int i2), some (.ref a3), some (.ref a6)], [])) (jq qX11_endSame 11 rfl) (jo_cv (y := mX3_setTo) rfl (Nat.le_of_ble_eq_true rfl) rfl (Nat.le_of_ble_eq_true rfl) b47 rfl r10 jo_ret)) ?_
        refine Eq.trans (jb_nx (i := .aload_n 0) (n := 1) (q := (22, [some (.ref p0), some (.int i1), some (.int i2), some (.ref a3), some (.ref a6)], [.ref p0])) (jq qX11_endSame 12 rfl) rfl) ?_
        obtain ⟨a11, e12, H⟩ := jbd H
        refine Eq.trans (jb_nx (i := .getfield 75) (n := 3) (q := (25, [some (.ref p0), some (.int i1), some (.int i2), some (.ref a3), some (.ref a6)], [.ref a11])) (jq qX11_endSame 13 rfl) (jo_gf rfl (jr_R_inv e12))) ?_
        refine Eq.trans (jb_nx (i := .aload_n 0) (n := 1) (q := (26, [some (.ref p0), some (.int i1), some (.int i2), some (.ref a3), some (.ref a6)], [.ref p0, .ref a11])) (jq qX11_endSame 14 rfl) rfl) ?_
        obtain ⟨a13, e14, H⟩ := jbd H
        refine Eq.trans (jb_nx (i := .getfield 26) (n := 3) (q := (29, [some (.ref p0), some (.int i1), some (.int i2), some (.ref a3), some (.ref a6)], [.ref a13, .ref a11])) (jq qX11_endSame 15 rfl) (jo_gf rfl (jr_R_inv e14))) ?_
        refine Eq.trans (jb_nx (i := .bipush 40) (n := 2) (q := (31, [some (.ref p0), some (.int i1), some (.int i2), some (.ref a3), some (.ref a6)], [.int 40, .ref a13, .ref a11])) (jq qX11_endSame 16 rfl) rfl) ?_
        obtain ⟨b44, H⟩ := jm_O_inv H
        rcases jcV H with ⟨h15, r16, H⟩ | ⟨w45, h46, r16, H⟩
        · refine Eq.trans (jb_nx (i := .invokevirtual 248) (n := 3) (q := (34, [some (.ref p0), some (.int i1), some (.int i2), some (.ref a3), some (.ref a6)], [])) (jq qX11_endSame 17 rfl) (jo_cv (y := mX5_takeUpTo) rfl (Nat.le_of_ble_eq_true rfl) rfl (Nat.le_of_ble_eq_true rfl) b44 rfl r16 jo_ret)) ?_
          refine Eq.trans (jb_nx (i := .aload_n 0) (n := 1) (q := (35, [some (.ref p0), some (.int i1), some (.int i2), some (.ref a3), some (.ref a6)], [.ref p0])) (jq qX11_endSame 18 rfl) rfl) ?_
          obtain ⟨a17, e18, H⟩ := jbd H
          refine Eq.trans (jb_nx (i := .getfield 30) (n := 3) (q := (38, [some (.ref p0), some (.int i1), some (.int i2), some (.ref a3), some (.ref a6)], [.ref a17])) (jq qX11_endSame 19 rfl) (jo_gf rfl (jr_R_inv e18))) ?_
          refine Eq.trans (jb_nx (i := .aload 4) (n := 2) (q := (40, [some (.ref p0), some (.int i1), some (.int i2), some (.ref a3), some (.ref a6)], [.ref a6, .ref a17])) (jq qX11_endSame 20 rfl) rfl) ?_
          obtain ⟨b41, H⟩ := jm_O_inv H
          rcases jcV H with ⟨h19, r20, H⟩ | ⟨w42, h43, r20, H⟩
          · refine Eq.trans (jb_nx (i := .invokevirtual 203) (n := 3) (q := (43, [some (.ref p0), some (.int i1), some (.int i2), some (.ref a3), some (.ref a6)], [])) (jq qX11_endSame 21 rfl) (jo_cv (y := mX3_setTo) rfl (Nat.le_of_ble_eq_true rfl) rfl (Nat.le_of_ble_eq_true rfl) b41 rfl r20 jo_ret)) ?_
            refine Eq.trans (jb_nx (i := .aload_n 0) (n := 1) (q := (44, [some (.ref p0), some (.int i1), some (.int i2), some (.ref a3), some (.ref a6)], [.ref p0])) (jq qX11_endSame 22 rfl) rfl) ?_
            obtain ⟨a21, e22, H⟩ := jbd H
            refine Eq.trans (jb_nx (i := .getfield 75) (n := 3) (q := (47, [some (.ref p0), some (.int i1), some (.int i2), some (.ref a3), some (.ref a6)], [.ref a21])) (jq qX11_endSame 23 rfl) (jo_gf rfl (jr_R_inv e22))) ?_
            refine Eq.trans (jb_nx (i := .aload_n 0) (n := 1) (q := (48, [some (.ref p0), some (.int i1), some (.int i2), some (.ref a3), some (.ref a6)], [.ref p0, .ref a21])) (jq qX11_endSame 24 rfl) rfl) ?_
            obtain ⟨a23, e24, H⟩ := jbd H
            refine Eq.trans (jb_nx (i := .getfield 30) (n := 3) (q := (51, [some (.ref p0), some (.int i1), some (.int i2), some (.ref a3), some (.ref a6)], [.ref a23, .ref a21])) (jq qX11_endSame 25 rfl) (jo_gf rfl (jr_R_inv e24))) ?_
            refine Eq.trans (jb_nx (i := .bipush 40) (n := 2) (q := (53, [some (.ref p0), some (.int i1), some (.int i2), some (.ref a3), some (.ref a6)], [.int 40, .ref a23, .ref a21])) (jq qX11_endSame 26 rfl) rfl) ?_
            obtain ⟨b38, H⟩ := jm_O_inv H
            rcases jcV H with ⟨h25, r26, H⟩ | ⟨w39, h40, r26, H⟩
            · refine Eq.trans (jb_nx (i := .invokevirtual 248) (n := 3) (q := (56, [some (.ref p0), some (.int i1), some (.int i2), some (.ref a3), some (.ref a6)], [])) (jq qX11_endSame 27 rfl) (jo_cv (y := mX5_takeUpTo) rfl (Nat.le_of_ble_eq_true rfl) rfl (Nat.le_of_ble_eq_true rfl) b38 rfl r26 jo_ret)) ?_
              refine Eq.trans (jb_nx (i := .aload_n 0) (n := 1) (q := (57, [some (.ref p0), some (.int i1), some (.int i2), some (.ref a3), some (.ref a6)], [.ref p0])) (jq qX11_endSame 28 rfl) rfl) ?_
              obtain ⟨a27, e28, H⟩ := jbd H
              refine Eq.trans (jb_nx (i := .getfield 26) (n := 3) (q := (60, [some (.ref p0), some (.int i1), some (.int i2), some (.ref a3), some (.ref a6)], [.ref a27])) (jq qX11_endSame 29 rfl) (jo_gf rfl (jr_R_inv e28))) ?_
              refine Eq.trans (jb_nx (i := .aload_n 0) (n := 1) (q := (61, [some (.ref p0), some (.int i1), some (.int i2), some (.ref a3), some (.ref a6)], [.ref p0, .ref a27])) (jq qX11_endSame 30 rfl) rfl) ?_
              obtain ⟨a29, e30, H⟩ := jbd H
              refine Eq.trans (jb_nx (i := .getfield 30) (n := 3) (q := (64, [some (.ref p0), some (.int i1), some (.int i2), some (.ref a3), some (.ref a6)], [.ref a29, .ref a27])) (jq qX11_endSame 31 rfl) (jo_gf rfl (jr_R_inv e30))) ?_
              obtain ⟨b35, H⟩ := jm_O_inv H
              rcases jcI H with ⟨x33, h31, r32, H⟩ | ⟨w36, h37, r32, H⟩
              · refine Eq.trans (jb_nx (i := .invokevirtual 214) (n := 3) (q := (67, [some (.ref p0), some (.int i1), some (.int i2), some (.ref a3), some (.ref a6)], [.int x33])) (jq qX11_endSame 32 rfl) (jo_cv (y := mX3_isLike) rfl (Nat.le_of_ble_eq_true rfl) rfl (Nat.le_of_ble_eq_true rfl) b35 rfl r32 jo_ret)) ?_
                obtain ⟨u34, H⟩ := jm_Y_inv H
                exact Eq.trans (jb_rt (i := .ireturn) (n := 1) (jq qX11_endSame 33 rfl) (jo_iret rfl u34)) H
              · exact Eq.trans (jb_rt (i := .invokevirtual 214) (n := 3) (jq qX11_endSame 32 rfl) (jo_cv (y := mX3_isLike) rfl (Nat.le_of_ble_eq_true rfl) rfl (Nat.le_of_ble_eq_true rfl) b35 rfl r32 (jo_exn rfl))) H
            · exact Eq.trans (jb_rt (i := .invokevirtual 248) (n := 3) (jq qX11_endSame 27 rfl) (jo_cv (y := mX5_takeUpTo) rfl (Nat.le_of_ble_eq_true rfl) rfl (Nat.le_of_ble_eq_true rfl) b38 rfl r26 (jo_exn rfl))) H
          · exact Eq.trans (jb_rt (i := .invokevirtual 203) (n := 3) (jq qX11_endSame 21 rfl) (jo_cv (y := mX3_setTo) rfl (Nat.le_of_ble_eq_true rfl) rfl (Nat.le_of_ble_eq_true rfl) b41 rfl r20 (jo_exn rfl))) H
        · exact Eq.trans (jb_rt (i := .invokevirtual 248) (n := 3) (jq qX11_endSame 17 rfl) (jo_cv (y := mX5_takeUpTo) rfl (Nat.le_of_ble_eq_true rfl) rfl (Nat.le_of_ble_eq_true rfl) b44 rfl r16 (jo_exn rfl))) H
      · exact Eq.trans (jb_rt (i := .invokevirtual 203) (n := 3) (jq qX11_endSame 11 rfl) (jo_cv (y := mX3_setTo) rfl (Nat.le_of_ble_eq_true rfl) rfl (Nat.le_of_ble_eq_true rfl) b47 rfl r10 (jo_exn rfl))) H
    · exact Eq.trans (jb_rt (i := .invokevirtual 147) (n := 3) (jq qX11_endSame 6 rfl) (jo_cv (y := mX11_partOf) rfl (Nat.le_of_ble_eq_true rfl) rfl (Nat.le_of_ble_eq_true rfl) b50 rfl r5 (jo_exn rfl))) H
  · exact Eq.trans (jb_rt (i := .invokevirtual 147) (n := 3) (jq qX11_endSame 2 rfl) (jo_cv (y := mX11_partOf) rfl (Nat.le_of_ble_eq_true rfl) rfl (Nat.le_of_ble_eq_true rfl) b53 rfl r2 (jo_exn rfl))) H
/-! MaskPlays sizeAfterEvenings (II)I -/
def tX11_sizeAfterEvenings : List (Nat × Instr × Nat) := [(0, .aload_n 0, 1), (1, .iload_n 1, 1), (2, .invokevirtual 173, 3), (5, .aload_n 0, 1), (6, .iload_n 2, 1), (7, .invokevirtual 234, 3), (10, .aload_n 0, 1), (11, .getfield 88, 3), (14, .aload_n 0, 1), (15, .getfield 84, 3), (18, .aload_n 0, 1), (19, .getfield 19, 3), (22, .getfield 135, 3), (25, .invokevirtual 252, 3), (28, .iconst 0, 1), (29, .istore_n 3, 1), (30, .iload_n 3, 1), (31, .iload_n 2, 1), (32, .if_icmp .ge 21, 3), (35, .aload_n 0, 1), (36, .getfield 88, 3), (39, .aload_n 0, 1), (40, .getfield 19, 3), (43, .invokevirtual 237, 3), (46, .pop, 1), (47, .iinc 3 1, 3), (50, .goto (-20), 3), (53, .aload_n 0, 1), (54, .getfield 88, 3), (57, .iload_n 1, 1), (58, .invokevirtual 255, 3), (61, .getfield 151, 3), (64, .ireturn, 1)]
set_option maxRecDepth 100000 in
theorem qX11_sizeAfterEvenings : ∀ q ∈ tX11_sizeAfterEvenings, decode cX11_sizeAfterEvenings q.1 = .ok (q.2.1, q.2.2) := by decide +kernel
noncomputable def kX11_sizeAfterEvenings_30 (d : Nat) (p0 : Nat) (i1 : Int32) (i2 : Int32) (i3 : Int32) (h : jm_H) : Option jm_R := jm_B d mX11_sizeAfterEvenings (30, [some (.ref p0), some (.int i1), some (.int i2), some (.int i3)], []) h
theorem gX11_sizeAfterEvenings_30 {d : Nat} {p0 : Nat} {i1 : Int32} {i2 : Int32} {i3 : Int32} {h : jm_H} {r : jm_R} (H : ((if i3 < i2 then (jr_R h p0 10 10 2).bind fun a35 => (jr_R h p0 10 6 2).bind fun a37 => jm_O h a35 4 (jc_I (jm_D d mX4_passEvening [.ref a35, .ref a37] h) (fun x41 h39 => kX11_sizeAfterEvenings_30 d p0 i1 i2 (i3 + 1) h39) jx) else (jr_R h p0 10 10 2).bind fun a25 => jm_O h a25 4 (jc_R (jm_D d mX4_partAt [.ref a25, .int i1] h) (fun a29 h27 => (jr_I h27 a29 3 0 0).bind fun x30 => some (.inl (some (.int x30)), h27)) jx))) = some r) : kX11_sizeAfterEvenings_30 d p0 i1 i2 i3 h = some r := by
  show jm_B d mX11_sizeAfterEvenings (30, [some (.ref p0), some (.int i1), some (.int i2), some (.int i3)], []) h = some r
  refine Eq.trans (jb_nx (i := .iload_n 3) (n := 1) (q := (31, [some (.ref p0), some (.int i1), some (.int i2), some (.int i3)], [.int i3])) (jq qX11_sizeAfterEvenings 16 rfl) rfl) ?_
  refine Eq.trans (jb_nx (i := .iload_n 2) (n := 1) (q := (32, [some (.ref p0), some (.int i1), some (.int i2), some (.int i3)], [.int i2, .int i3])) (jq qX11_sizeAfterEvenings 17 rfl) rfl) ?_
  by_cases c24 : i3 < i2
  · rw [if_pos c24] at H
    refine Eq.trans (jb_nx (i := .if_icmp .ge 21) (n := 3) (q := (35, [some (.ref p0), some (.int i1), some (.int i2), some (.int i3)], [])) (jq qX11_sizeAfterEvenings 18 rfl) (jo_icF (jz_geF c24))) ?_
    refine Eq.trans (jb_nx (i := .aload_n 0) (n := 1) (q := (36, [some (.ref p0), some (.int i1), some (.int i2), some (.int i3)], [.ref p0])) (jq qX11_sizeAfterEvenings 19 rfl) rfl) ?_
    obtain ⟨a35, e36, H⟩ := jbd H
    refine Eq.trans (jb_nx (i := .getfield 88) (n := 3) (q := (39, [some (.ref p0), some (.int i1), some (.int i2), some (.int i3)], [.ref a35])) (jq qX11_sizeAfterEvenings 20 rfl) (jo_gf rfl (jr_R_inv e36))) ?_
    refine Eq.trans (jb_nx (i := .aload_n 0) (n := 1) (q := (40, [some (.ref p0), some (.int i1), some (.int i2), some (.int i3)], [.ref p0, .ref a35])) (jq qX11_sizeAfterEvenings 21 rfl) rfl) ?_
    obtain ⟨a37, e38, H⟩ := jbd H
    refine Eq.trans (jb_nx (i := .getfield 19) (n := 3) (q := (43, [some (.ref p0), some (.int i1), some (.int i2), some (.int i3)], [.ref a37, .ref a35])) (jq qX11_sizeAfterEvenings 22 rfl) (jo_gf rfl (jr_R_inv e38))) ?_
    obtain ⟨b42, H⟩ := jm_O_inv H
    rcases jcI H with ⟨x41, h39, r40, H⟩ | ⟨w43, h44, r40, H⟩
    · refine Eq.trans (jb_nx (i := .invokevirtual 237) (n := 3) (q := (46, [some (.ref p0), some (.int i1), some (.int i2), some (.int i3)], [.int x41])) (jq qX11_sizeAfterEvenings 23 rfl) (jo_cv (y := mX4_passEvening) rfl (Nat.le_of_ble_eq_true rfl) rfl (Nat.le_of_ble_eq_true rfl) b42 rfl r40 jo_ret)) ?_
      refine Eq.trans (jb_nx (i := .pop) (n := 1) (q := (47, [some (.ref p0), some (.int i1), some (.int i2), some (.int i3)], [])) (jq qX11_sizeAfterEvenings 24 rfl) rfl) ?_
      refine Eq.trans (jb_nx (i := .iinc 3 1) (n := 3) (q := (50, [some (.ref p0), some (.int i1), some (.int i2), some (.int (i3 + 1))], [])) (jq qX11_sizeAfterEvenings 25 rfl) rfl) ?_
      refine Eq.trans (jb_nx (i := .goto (-20)) (n := 3) (q := (30, [some (.ref p0), some (.int i1), some (.int i2), some (.int (i3 + 1))], [])) (jq qX11_sizeAfterEvenings 26 rfl) rfl) ?_
      exact H
    · exact Eq.trans (jb_rt (i := .invokevirtual 237) (n := 3) (jq qX11_sizeAfterEvenings 23 rfl) (jo_cv (y := mX4_passEvening) rfl (Nat.le_of_ble_eq_true rfl) rfl (Nat.le_of_ble_eq_true rfl) b42 rfl r40 (jo_exn rfl))) H
  · rw [if_neg c24] at H
    refine Eq.trans (jb_nx (i := .if_icmp .ge 21) (n := 3) (q := (53, [some (.ref p0), some (.int i1), some (.int i2), some (.int i3)], [])) (jq qX11_sizeAfterEvenings 18 rfl) (jo_icT (jz_geT c24) rfl)) ?_
    refine Eq.trans (jb_nx (i := .aload_n 0) (n := 1) (q := (54, [some (.ref p0), some (.int i1), some (.int i2), some (.int i3)], [.ref p0])) (jq qX11_sizeAfterEvenings 27 rfl) rfl) ?_
    obtain ⟨a25, e26, H⟩ := jbd H
    refine Eq.trans (jb_nx (i := .getfield 88) (n := 3) (q := (57, [some (.ref p0), some (.int i1), some (.int i2), some (.int i3)], [.ref a25])) (jq qX11_sizeAfterEvenings 28 rfl) (jo_gf rfl (jr_R_inv e26))) ?_
    refine Eq.trans (jb_nx (i := .iload_n 1) (n := 1) (q := (58, [some (.ref p0), some (.int i1), some (.int i2), some (.int i3)], [.int i1, .ref a25])) (jq qX11_sizeAfterEvenings 29 rfl) rfl) ?_
    obtain ⟨b32, H⟩ := jm_O_inv H
    rcases jcR H with ⟨a29, h27, r28, H⟩ | ⟨w33, h34, r28, H⟩
    · refine Eq.trans (jb_nx (i := .invokevirtual 255) (n := 3) (q := (61, [some (.ref p0), some (.int i1), some (.int i2), some (.int i3)], [.ref a29])) (jq qX11_sizeAfterEvenings 30 rfl) (jo_cv (y := mX4_partAt) rfl (Nat.le_of_ble_eq_true rfl) rfl (Nat.le_of_ble_eq_true rfl) b32 rfl r28 jo_ret)) ?_
      obtain ⟨x30, e31, H⟩ := jbd H
      refine Eq.trans (jb_nx (i := .getfield 151) (n := 3) (q := (64, [some (.ref p0), some (.int i1), some (.int i2), some (.int i3)], [.int x30])) (jq qX11_sizeAfterEvenings 31 rfl) (jo_gf rfl (jr_I_inv e31))) ?_
      exact Eq.trans (jb_rt (i := .ireturn) (n := 1) (jq qX11_sizeAfterEvenings 32 rfl) (jo_iret rfl rfl)) H
    · exact Eq.trans (jb_rt (i := .invokevirtual 255) (n := 3) (jq qX11_sizeAfterEvenings 30 rfl) (jo_cv (y := mX4_partAt) rfl (Nat.le_of_ble_eq_true rfl) rfl (Nat.le_of_ble_eq_true rfl) b32 rfl r28 (jo_exn rfl))) H
theorem gX11_sizeAfterEvenings {d : Nat} {p0 : Nat} {i1 : Int32} {i2 : Int32} {h : jm_H} {r : jm_R} (H : (jm_O h p0 11 (jc_V (jm_D d mX11_checkPlay [.ref p0, .int i1] h) (fun h1 => jm_O h1 p0 11 (jc_V (jm_D d mX11_checkEvenings [.ref p0, .int i2] h1) (fun h3 => (jr_R h3 p0 10 10 2).bind fun a5 => (jr_R h3 p0 10 9 2).bind fun a7 => (jr_R h3 p0 10 6 2).bind fun a9 => (jr_I h3 a9 0 1 0).bind fun x11 => jm_O h3 a5 4 (jc_V (jm_D d mX4_setTo [.ref a5, .ref a7, .int x11] h3) (fun h13 => kX11_sizeAfterEvenings_30 d p0 i1 i2 0 h13) jx)) jx)) jx)) = some r) : jm_D (d + 1) mX11_sizeAfterEvenings [.ref p0, .int i1, .int i2] h = some r := by
  rw [jm_D_body (Nat.le_of_ble_eq_true rfl)]
  show jm_B d mX11_sizeAfterEvenings (0, [some (.ref p0), some (.int i1), some (.int i2), none], []) h = some r
  refine Eq.trans (jb_nx (i := .aload_n 0) (n := 1) (q := (1, [some (.ref p0), some (.int i1), some (.int i2), none], [.ref p0])) (jq qX11_sizeAfterEvenings 0 rfl) rfl) ?_
  refine Eq.trans (jb_nx (i := .iload_n 1) (n := 1) (q := (2, [some (.ref p0), some (.int i1), some (.int i2), none], [.int i1, .ref p0])) (jq qX11_sizeAfterEvenings 1 rfl) rfl) ?_
  obtain ⟨b21, H⟩ := jm_O_inv H
  rcases jcV H with ⟨h1, r2, H⟩ | ⟨w22, h23, r2, H⟩
  · refine Eq.trans (jb_nx (i := .invokevirtual 173) (n := 3) (q := (5, [some (.ref p0), some (.int i1), some (.int i2), none], [])) (jq qX11_sizeAfterEvenings 2 rfl) (jo_cv (y := mX11_checkPlay) rfl (Nat.le_of_ble_eq_true rfl) rfl (Nat.le_of_ble_eq_true rfl) b21 rfl r2 jo_ret)) ?_
    refine Eq.trans (jb_nx (i := .aload_n 0) (n := 1) (q := (6, [some (.ref p0), some (.int i1), some (.int i2), none], [.ref p0])) (jq qX11_sizeAfterEvenings 3 rfl) rfl) ?_
    refine Eq.trans (jb_nx (i := .iload_n 2) (n := 1) (q := (7, [some (.ref p0), some (.int i1), some (.int i2), none], [.int i2, .ref p0])) (jq qX11_sizeAfterEvenings 4 rfl) rfl) ?_
    obtain ⟨b18, H⟩ := jm_O_inv H
    rcases jcV H with ⟨h3, r4, H⟩ | ⟨w19, h20, r4, H⟩
    · refine Eq.trans (jb_nx (i := .invokevirtual 234) (n := 3) (q := (10, [some (.ref p0), some (.int i1), some (.int i2), none], [])) (jq qX11_sizeAfterEvenings 5 rfl) (jo_cv (y := mX11_checkEvenings) rfl (Nat.le_of_ble_eq_true rfl) rfl (Nat.le_of_ble_eq_true rfl) b18 rfl r4 jo_ret)) ?_
      refine Eq.trans (jb_nx (i := .aload_n 0) (n := 1) (q := (11, [some (.ref p0), some (.int i1), some (.int i2), none], [.ref p0])) (jq qX11_sizeAfterEvenings 6 rfl) rfl) ?_
      obtain ⟨a5, e6, H⟩ := jbd H
      refine Eq.trans (jb_nx (i := .getfield 88) (n := 3) (q := (14, [some (.ref p0), some (.int i1), some (.int i2), none], [.ref a5])) (jq qX11_sizeAfterEvenings 7 rfl) (jo_gf rfl (jr_R_inv e6))) ?_
      refine Eq.trans (jb_nx (i := .aload_n 0) (n := 1) (q := (15, [some (.ref p0), some (.int i1), some (.int i2), none], [.ref p0, .ref a5])) (jq qX11_sizeAfterEvenings 8 rfl) rfl) ?_
      obtain ⟨a7, e8, H⟩ := jbd H
      refine Eq.trans (jb_nx (i := .getfield 84) (n := 3) (q := (18, [some (.ref p0), some (.int i1), some (.int i2), none], [.ref a7, .ref a5])) (jq qX11_sizeAfterEvenings 9 rfl) (jo_gf rfl (jr_R_inv e8))) ?_
      refine Eq.trans (jb_nx (i := .aload_n 0) (n := 1) (q := (19, [some (.ref p0), some (.int i1), some (.int i2), none], [.ref p0, .ref a7, .ref a5])) (jq qX11_sizeAfterEvenings 10 rfl) rfl) ?_
      obtain ⟨a9, e10, H⟩ := jbd H
      refine Eq.trans (jb_nx (i := .getfield 19) (n := 3) (q := (22, [some (.ref p0), some (.int i1), some (.int i2), none], [.ref a9, .ref a7, .ref a5])) (jq qX11_sizeAfterEvenings 11 rfl) (jo_gf rfl (jr_R_inv e10))) ?_
      obtain ⟨x11, e12, H⟩ := jbd H
      refine Eq.trans (jb_nx (i := .getfield 135) (n := 3) (q := (25, [some (.ref p0), some (.int i1), some (.int i2), none], [.int x11, .ref a7, .ref a5])) (jq qX11_sizeAfterEvenings 12 rfl) (jo_gf rfl (jr_I_inv e12))) ?_
      obtain ⟨b15, H⟩ := jm_O_inv H
      rcases jcV H with ⟨h13, r14, H⟩ | ⟨w16, h17, r14, H⟩
      · refine Eq.trans (jb_nx (i := .invokevirtual 252) (n := 3) (q := (28, [some (.ref p0), some (.int i1), some (.int i2), none], [])) (jq qX11_sizeAfterEvenings 13 rfl) (jo_cv (y := mX4_setTo) rfl (Nat.le_of_ble_eq_true rfl) rfl (Nat.le_of_ble_eq_true rfl) b15 rfl r14 jo_ret)) ?_
        refine Eq.trans (jb_nx (i := .iconst 0) (n := 1) (q := (29, [some (.ref p0), some (.int i1), some (.int i2), none], [.int 0])) (jq qX11_sizeAfterEvenings 14 rfl) rfl) ?_
        refine Eq.trans (jb_nx (i := .istore_n 3) (n := 1) (q := (30, [some (.ref p0), some (.int i1), some (.int i2), some (.int 0)], [])) (jq qX11_sizeAfterEvenings 15 rfl) rfl) ?_
        exact H
      · exact Eq.trans (jb_rt (i := .invokevirtual 252) (n := 3) (jq qX11_sizeAfterEvenings 13 rfl) (jo_cv (y := mX4_setTo) rfl (Nat.le_of_ble_eq_true rfl) rfl (Nat.le_of_ble_eq_true rfl) b15 rfl r14 (jo_exn rfl))) H
    · exact Eq.trans (jb_rt (i := .invokevirtual 234) (n := 3) (jq qX11_sizeAfterEvenings 5 rfl) (jo_cv (y := mX11_checkEvenings) rfl (Nat.le_of_ble_eq_true rfl) rfl (Nat.le_of_ble_eq_true rfl) b18 rfl r4 (jo_exn rfl))) H
  · exact Eq.trans (jb_rt (i := .invokevirtual 173) (n := 3) (jq qX11_sizeAfterEvenings 2 rfl) (jo_cv (y := mX11_checkPlay) rfl (Nat.le_of_ble_eq_true rfl) rfl (Nat.le_of_ble_eq_true rfl) b21 rfl r2 (jo_exn rfl))) H
/-! MaskPlays eveningsUntilFinished (I)I -/
def tX11_eveningsUntilFinished : List (Nat × Instr × Nat) := [(0, .aload_n 0, 1), (1, .iload_n 1, 1), (2, .invokevirtual 173, 3), (5, .aload_n 0, 1), (6, .getfield 88, 3), (9, .aload_n 0, 1), (10, .getfield 84, 3), (13, .aload_n 0, 1), (14, .getfield 19, 3), (17, .getfield 135, 3), (20, .invokevirtual 252, 3), (23, .iconst 0, 1), (24, .istore_n 2, 1), (25, .iload_n 2, 1), (26, .bipush 20, 2), (28, .if_icmp .ge 37, 3), (31, .aload_n 0, 1), (32, .getfield 88, 3), (35, .iload_n 1, 1), (36, .invokevirtual 255, 3), (39, .invokevirtual 179, 3), (42, .ifCond .ge 5, 3), (45, .iload_n 2, 1), (46, .ireturn, 1), (47, .aload_n 0, 1), (48, .getfield 88, 3), (51, .aload_n 0, 1), (52, .getfield 19, 3), (55, .invokevirtual 237, 3), (58, .pop, 1), (59, .iinc 2 1, 3), (62, .goto (-37), 3), (65, .aload_n 0, 1), (66, .getfield 88, 3), (69, .iload_n 1, 1), (70, .invokevirtual 255, 3), (73, .invokevirtual 179, 3), (76, .ifCond .ge 8, 3), (79, .bipush 20, 2), (81, .goto 4, 3), (84, .iconst (-1), 1), (85, .ireturn, 1)]
set_option maxRecDepth 100000 in
theorem qX11_eveningsUntilFinished : ∀ q ∈ tX11_eveningsUntilFinished, decode cX11_eveningsUntilFinished q.1 = .ok (q.2.1, q.2.2) := by decide +kernel
noncomputable def kX11_eveningsUntilFinished_25 (d : Nat) (p0 : Nat) (i1 : Int32) (i2 : Int32) (h : jm_H) : Option jm_R := jm_B d mX11_eveningsUntilFinished (25, [some (.ref p0), some (.int i1), some (.int i2)], []) h
theorem gX11_eveningsUntilFinished_25 {d : Nat} {p0 : Nat} {i1 : Int32} {i2 : Int32} {h : jm_H} {r : jm_R} (H : ((if i2 < 20 then (jr_R h p0 10 10 2).bind fun a35 => jm_O h a35 4 (jc_R (jm_D d mX4_partAt [.ref a35, .int i1] h) (fun a39 h37 => jm_O h37 a39 3 (jc_I (jm_D d mX3_readyScene [.ref a39] h37) (fun x42 h40 => (if x42 < 0 then some (.inl (some (.int i2)), h40) else (jr_R h40 p0 10 10 2).bind fun a44 => (jr_R h40 p0 10 6 2).bind fun a46 => jm_O h40 a44 4 (jc_I (jm_D d mX4_passEvening [.ref a44, .ref a46] h40) (fun x50 h48 => kX11_eveningsUntilFinished_25 d p0 i1 (i2 + 1) h48) jx))) jx)) jx) else (jr_R h p0 10 10 2).bind fun a20 => jm_O h a20 4 (jc_R (jm_D d mX4_partAt [.ref a20, .int i1] h) (fun a24 h22 => jm_O h22 a24 3 (jc_I (jm_D d mX3_readyScene [.ref a24] h22) (fun x27 h25 => (if x27 < 0 then some (.inl (some (.int 20)), h25) else some (.inl (some (.int (-1))), h25))) jx)) jx))) = some r) : kX11_eveningsUntilFinished_25 d p0 i1 i2 h = some r := by
  show jm_B d mX11_eveningsUntilFinished (25, [some (.ref p0), some (.int i1), some (.int i2)], []) h = some r
  refine Eq.trans (jb_nx (i := .iload_n 2) (n := 1) (q := (26, [some (.ref p0), some (.int i1), some (.int i2)], [.int i2])) (jq qX11_eveningsUntilFinished 13 rfl) rfl) ?_
  refine Eq.trans (jb_nx (i := .bipush 20) (n := 2) (q := (28, [some (.ref p0), some (.int i1), some (.int i2)], [.int 20, .int i2])) (jq qX11_eveningsUntilFinished 14 rfl) rfl) ?_
  by_cases c19 : i2 < 20
  · rw [if_pos c19] at H
    refine Eq.trans (jb_nx (i := .if_icmp .ge 37) (n := 3) (q := (31, [some (.ref p0), some (.int i1), some (.int i2)], [])) (jq qX11_eveningsUntilFinished 15 rfl) (jo_icF (jz_geF c19))) ?_
    refine Eq.trans (jb_nx (i := .aload_n 0) (n := 1) (q := (32, [some (.ref p0), some (.int i1), some (.int i2)], [.ref p0])) (jq qX11_eveningsUntilFinished 16 rfl) rfl) ?_
    obtain ⟨a35, e36, H⟩ := jbd H
    refine Eq.trans (jb_nx (i := .getfield 88) (n := 3) (q := (35, [some (.ref p0), some (.int i1), some (.int i2)], [.ref a35])) (jq qX11_eveningsUntilFinished 17 rfl) (jo_gf rfl (jr_R_inv e36))) ?_
    refine Eq.trans (jb_nx (i := .iload_n 1) (n := 1) (q := (36, [some (.ref p0), some (.int i1), some (.int i2)], [.int i1, .ref a35])) (jq qX11_eveningsUntilFinished 18 rfl) rfl) ?_
    obtain ⟨b57, H⟩ := jm_O_inv H
    rcases jcR H with ⟨a39, h37, r38, H⟩ | ⟨w58, h59, r38, H⟩
    · refine Eq.trans (jb_nx (i := .invokevirtual 255) (n := 3) (q := (39, [some (.ref p0), some (.int i1), some (.int i2)], [.ref a39])) (jq qX11_eveningsUntilFinished 19 rfl) (jo_cv (y := mX4_partAt) rfl (Nat.le_of_ble_eq_true rfl) rfl (Nat.le_of_ble_eq_true rfl) b57 rfl r38 jo_ret)) ?_
      obtain ⟨b54, H⟩ := jm_O_inv H
      rcases jcI H with ⟨x42, h40, r41, H⟩ | ⟨w55, h56, r41, H⟩
      · refine Eq.trans (jb_nx (i := .invokevirtual 179) (n := 3) (q := (42, [some (.ref p0), some (.int i1), some (.int i2)], [.int x42])) (jq qX11_eveningsUntilFinished 20 rfl) (jo_cv (y := mX3_readyScene) rfl (Nat.le_of_ble_eq_true rfl) rfl (Nat.le_of_ble_eq_true rfl) b54 rfl r41 jo_ret)) ?_
        by_cases c43 : x42 < 0
        · rw [if_pos c43] at H
          refine Eq.trans (jb_nx (i := .ifCond .ge 5) (n := 3) (q := (45, [some (.ref p0), some (.int i1), some (.int i2)], [])) (jq qX11_eveningsUntilFinished 21 rfl) (jo_ifF (jz_geF c43))) ?_
          refine Eq.trans (jb_nx (i := .iload_n 2) (n := 1) (q := (46, [some (.ref p0), some (.int i1), some (.int i2)], [.int i2])) (jq qX11_eveningsUntilFinished 22 rfl) rfl) ?_
          exact Eq.trans (jb_rt (i := .ireturn) (n := 1) (jq qX11_eveningsUntilFinished 23 rfl) (jo_iret rfl rfl)) H
        · rw [if_neg c43] at H
          refine Eq.trans (jb_nx (i := .ifCond .ge 5) (n := 3) (q := (47, [some (.ref p0), some (.int i1), some (.int i2)], [])) (jq qX11_eveningsUntilFinished 21 rfl) (jo_ifT (jz_geT c43) rfl)) ?_
          refine Eq.trans (jb_nx (i := .aload_n 0) (n := 1) (q := (48, [some (.ref p0), some (.int i1), some (.int i2)], [.ref p0])) (jq qX11_eveningsUntilFinished 24 rfl) rfl) ?_
          obtain ⟨a44, e45, H⟩ := jbd H
          refine Eq.trans (jb_nx (i := .getfield 88) (n := 3) (q := (51, [some (.ref p0), some (.int i1), some (.int i2)], [.ref a44])) (jq qX11_eveningsUntilFinished 25 rfl) (jo_gf rfl (jr_R_inv e45))) ?_
          refine Eq.trans (jb_nx (i := .aload_n 0) (n := 1) (q := (52, [some (.ref p0), some (.int i1), some (.int i2)], [.ref p0, .ref a44])) (jq qX11_eveningsUntilFinished 26 rfl) rfl) ?_
          obtain ⟨a46, e47, H⟩ := jbd H
          refine Eq.trans (jb_nx (i := .getfield 19) (n := 3) (q := (55, [some (.ref p0), some (.int i1), some (.int i2)], [.ref a46, .ref a44])) (jq qX11_eveningsUntilFinished 27 rfl) (jo_gf rfl (jr_R_inv e47))) ?_
          obtain ⟨b51, H⟩ := jm_O_inv H
          rcases jcI H with ⟨x50, h48, r49, H⟩ | ⟨w52, h53, r49, H⟩
          · refine Eq.trans (jb_nx (i := .invokevirtual 237) (n := 3) (q := (58, [some (.ref p0), some (.int i1), some (.int i2)], [.int x50])) (jq qX11_eveningsUntilFinished 28 rfl) (jo_cv (y := mX4_passEvening) rfl (Nat.le_of_ble_eq_true rfl) rfl (Nat.le_of_ble_eq_true rfl) b51 rfl r49 jo_ret)) ?_
            refine Eq.trans (jb_nx (i := .pop) (n := 1) (q := (59, [some (.ref p0), some (.int i1), some (.int i2)], [])) (jq qX11_eveningsUntilFinished 29 rfl) rfl) ?_
            refine Eq.trans (jb_nx (i := .iinc 2 1) (n := 3) (q := (62, [some (.ref p0), some (.int i1), some (.int (i2 + 1))], [])) (jq qX11_eveningsUntilFinished 30 rfl) rfl) ?_
            refine Eq.trans (jb_nx (i := .goto (-37)) (n := 3) (q := (25, [some (.ref p0), some (.int i1), some (.int (i2 + 1))], [])) (jq qX11_eveningsUntilFinished 31 rfl) rfl) ?_
            exact H
          · exact Eq.trans (jb_rt (i := .invokevirtual 237) (n := 3) (jq qX11_eveningsUntilFinished 28 rfl) (jo_cv (y := mX4_passEvening) rfl (Nat.le_of_ble_eq_true rfl) rfl (Nat.le_of_ble_eq_true rfl) b51 rfl r49 (jo_exn rfl))) H
      · exact Eq.trans (jb_rt (i := .invokevirtual 179) (n := 3) (jq qX11_eveningsUntilFinished 20 rfl) (jo_cv (y := mX3_readyScene) rfl (Nat.le_of_ble_eq_true rfl) rfl (Nat.le_of_ble_eq_true rfl) b54 rfl r41 (jo_exn rfl))) H
    · exact Eq.trans (jb_rt (i := .invokevirtual 255) (n := 3) (jq qX11_eveningsUntilFinished 19 rfl) (jo_cv (y := mX4_partAt) rfl (Nat.le_of_ble_eq_true rfl) rfl (Nat.le_of_ble_eq_true rfl) b57 rfl r38 (jo_exn rfl))) H
  · rw [if_neg c19] at H
    refine Eq.trans (jb_nx (i := .if_icmp .ge 37) (n := 3) (q := (65, [some (.ref p0), some (.int i1), some (.int i2)], [])) (jq qX11_eveningsUntilFinished 15 rfl) (jo_icT (jz_geT c19) rfl)) ?_
    refine Eq.trans (jb_nx (i := .aload_n 0) (n := 1) (q := (66, [some (.ref p0), some (.int i1), some (.int i2)], [.ref p0])) (jq qX11_eveningsUntilFinished 32 rfl) rfl) ?_
    obtain ⟨a20, e21, H⟩ := jbd H
    refine Eq.trans (jb_nx (i := .getfield 88) (n := 3) (q := (69, [some (.ref p0), some (.int i1), some (.int i2)], [.ref a20])) (jq qX11_eveningsUntilFinished 33 rfl) (jo_gf rfl (jr_R_inv e21))) ?_
    refine Eq.trans (jb_nx (i := .iload_n 1) (n := 1) (q := (70, [some (.ref p0), some (.int i1), some (.int i2)], [.int i1, .ref a20])) (jq qX11_eveningsUntilFinished 34 rfl) rfl) ?_
    obtain ⟨b32, H⟩ := jm_O_inv H
    rcases jcR H with ⟨a24, h22, r23, H⟩ | ⟨w33, h34, r23, H⟩
    · refine Eq.trans (jb_nx (i := .invokevirtual 255) (n := 3) (q := (73, [some (.ref p0), some (.int i1), some (.int i2)], [.ref a24])) (jq qX11_eveningsUntilFinished 35 rfl) (jo_cv (y := mX4_partAt) rfl (Nat.le_of_ble_eq_true rfl) rfl (Nat.le_of_ble_eq_true rfl) b32 rfl r23 jo_ret)) ?_
      obtain ⟨b29, H⟩ := jm_O_inv H
      rcases jcI H with ⟨x27, h25, r26, H⟩ | ⟨w30, h31, r26, H⟩
      · refine Eq.trans (jb_nx (i := .invokevirtual 179) (n := 3) (q := (76, [some (.ref p0), some (.int i1), some (.int i2)], [.int x27])) (jq qX11_eveningsUntilFinished 36 rfl) (jo_cv (y := mX3_readyScene) rfl (Nat.le_of_ble_eq_true rfl) rfl (Nat.le_of_ble_eq_true rfl) b29 rfl r26 jo_ret)) ?_
        by_cases c28 : x27 < 0
        · rw [if_pos c28] at H
          refine Eq.trans (jb_nx (i := .ifCond .ge 8) (n := 3) (q := (79, [some (.ref p0), some (.int i1), some (.int i2)], [])) (jq qX11_eveningsUntilFinished 37 rfl) (jo_ifF (jz_geF c28))) ?_
          refine Eq.trans (jb_nx (i := .bipush 20) (n := 2) (q := (81, [some (.ref p0), some (.int i1), some (.int i2)], [.int 20])) (jq qX11_eveningsUntilFinished 38 rfl) rfl) ?_
          refine Eq.trans (jb_nx (i := .goto 4) (n := 3) (q := (85, [some (.ref p0), some (.int i1), some (.int i2)], [.int 20])) (jq qX11_eveningsUntilFinished 39 rfl) rfl) ?_
          exact Eq.trans (jb_rt (i := .ireturn) (n := 1) (jq qX11_eveningsUntilFinished 41 rfl) (jo_iret rfl rfl)) H
        · rw [if_neg c28] at H
          refine Eq.trans (jb_nx (i := .ifCond .ge 8) (n := 3) (q := (84, [some (.ref p0), some (.int i1), some (.int i2)], [])) (jq qX11_eveningsUntilFinished 37 rfl) (jo_ifT (jz_geT c28) rfl)) ?_
          refine Eq.trans (jb_nx (i := .iconst (-1)) (n := 1) (q := (85, [some (.ref p0), some (.int i1), some (.int i2)], [.int (-1)])) (jq qX11_eveningsUntilFinished 40 rfl) rfl) ?_
          exact Eq.trans (jb_rt (i := .ireturn) (n := 1) (jq qX11_eveningsUntilFinished 41 rfl) (jo_iret rfl rfl)) H
      · exact Eq.trans (jb_rt (i := .invokevirtual 179) (n := 3) (jq qX11_eveningsUntilFinished 36 rfl) (jo_cv (y := mX3_readyScene) rfl (Nat.le_of_ble_eq_true rfl) rfl (Nat.le_of_ble_eq_true rfl) b29 rfl r26 (jo_exn rfl))) H
    · exact Eq.trans (jb_rt (i := .invokevirtual 255) (n := 3) (jq qX11_eveningsUntilFinished 35 rfl) (jo_cv (y := mX4_partAt) rfl (Nat.le_of_ble_eq_true rfl) rfl (Nat.le_of_ble_eq_true rfl) b32 rfl r23 (jo_exn rfl))) H
theorem gX11_eveningsUntilFinished {d : Nat} {p0 : Nat} {i1 : Int32} {h : jm_H} {r : jm_R} (H : (jm_O h p0 11 (jc_V (jm_D d mX11_checkPlay [.ref p0, .int i1] h) (fun h1 => (jr_R h1 p0 10 10 2).bind fun a3 => (jr_R h1 p0 10 9 2).bind fun a5 => (jr_R h1 p0 10 6 2).bind fun a7 => (jr_I h1 a7 0 1 0).bind fun x9 => jm_O h1 a3 4 (jc_V (jm_D d mX4_setTo [.ref a3, .ref a5, .int x9] h1) (fun h11 => kX11_eveningsUntilFinished_25 d p0 i1 0 h11) jx)) jx)) = some r) : jm_D (d + 1) mX11_eveningsUntilFinished [.ref p0, .int i1] h = some r := by
  rw [jm_D_body (Nat.le_of_ble_eq_true rfl)]
  show jm_B d mX11_eveningsUntilFinished (0, [some (.ref p0), some (.int i1), none], []) h = some r
  refine Eq.trans (jb_nx (i := .aload_n 0) (n := 1) (q := (1, [some (.ref p0), some (.int i1), none], [.ref p0])) (jq qX11_eveningsUntilFinished 0 rfl) rfl) ?_
  refine Eq.trans (jb_nx (i := .iload_n 1) (n := 1) (q := (2, [some (.ref p0), some (.int i1), none], [.int i1, .ref p0])) (jq qX11_eveningsUntilFinished 1 rfl) rfl) ?_
  obtain ⟨b16, H⟩ := jm_O_inv H
  rcases jcV H with ⟨h1, r2, H⟩ | ⟨w17, h18, r2, H⟩
  · refine Eq.trans (jb_nx (i := .invokevirtual 173) (n := 3) (q := (5, [some (.ref p0), some (.int i1), none], [])) (jq qX11_eveningsUntilFinished 2 rfl) (jo_cv (y := mX11_checkPlay) rfl (Nat.le_of_ble_eq_true rfl) rfl (Nat.le_of_ble_eq_true rfl) b16 rfl r2 jo_ret)) ?_
    refine Eq.trans (jb_nx (i := .aload_n 0) (n := 1) (q := (6, [some (.ref p0), some (.int i1), none], [.ref p0])) (jq qX11_eveningsUntilFinished 3 rfl) rfl) ?_
    obtain ⟨a3, e4, H⟩ := jbd H
    refine Eq.trans (jb_nx (i := .getfield 88) (n := 3) (q := (9, [some (.ref p0), some (.int i1), none], [.ref a3])) (jq qX11_eveningsUntilFinished 4 rfl) (jo_gf rfl (jr_R_inv e4))) ?_
    refine Eq.trans (jb_nx (i := .aload_n 0) (n := 1) (q := (10, [some (.ref p0), some (.int i1), none], [.ref p0, .ref a3])) (jq qX11_eveningsUntilFinished 5 rfl) rfl) ?_
    obtain ⟨a5, e6, H⟩ := jbd H
    refine Eq.trans (jb_nx (i := .getfield 84) (n := 3) (q := (13, [some (.ref p0), some (.int i1), none], [.ref a5, .ref a3])) (jq qX11_eveningsUntilFinished 6 rfl) (jo_gf rfl (jr_R_inv e6))) ?_
    refine Eq.trans (jb_nx (i := .aload_n 0) (n := 1) (q := (14, [some (.ref p0), some (.int i1), none], [.ref p0, .ref a5, .ref a3])) (jq qX11_eveningsUntilFinished 7 rfl) rfl) ?_
    obtain ⟨a7, e8, H⟩ := jbd H
    refine Eq.trans (jb_nx (i := .getfield 19) (n := 3) (q := (17, [some (.ref p0), some (.int i1), none], [.ref a7, .ref a5, .ref a3])) (jq qX11_eveningsUntilFinished 8 rfl) (jo_gf rfl (jr_R_inv e8))) ?_
    obtain ⟨x9, e10, H⟩ := jbd H
    refine Eq.trans (jb_nx (i := .getfield 135) (n := 3) (q := (20, [some (.ref p0), some (.int i1), none], [.int x9, .ref a5, .ref a3])) (jq qX11_eveningsUntilFinished 9 rfl) (jo_gf rfl (jr_I_inv e10))) ?_
    obtain ⟨b13, H⟩ := jm_O_inv H
    rcases jcV H with ⟨h11, r12, H⟩ | ⟨w14, h15, r12, H⟩
    · refine Eq.trans (jb_nx (i := .invokevirtual 252) (n := 3) (q := (23, [some (.ref p0), some (.int i1), none], [])) (jq qX11_eveningsUntilFinished 10 rfl) (jo_cv (y := mX4_setTo) rfl (Nat.le_of_ble_eq_true rfl) rfl (Nat.le_of_ble_eq_true rfl) b13 rfl r12 jo_ret)) ?_
      refine Eq.trans (jb_nx (i := .iconst 0) (n := 1) (q := (24, [some (.ref p0), some (.int i1), none], [.int 0])) (jq qX11_eveningsUntilFinished 11 rfl) rfl) ?_
      refine Eq.trans (jb_nx (i := .istore_n 2) (n := 1) (q := (25, [some (.ref p0), some (.int i1), some (.int 0)], [])) (jq qX11_eveningsUntilFinished 12 rfl) rfl) ?_
      exact H
    · exact Eq.trans (jb_rt (i := .invokevirtual 252) (n := 3) (jq qX11_eveningsUntilFinished 10 rfl) (jo_cv (y := mX4_setTo) rfl (Nat.le_of_ble_eq_true rfl) rfl (Nat.le_of_ble_eq_true rfl) b13 rfl r12 (jo_exn rfl))) H
  · exact Eq.trans (jb_rt (i := .invokevirtual 173) (n := 3) (jq qX11_eveningsUntilFinished 2 rfl) (jo_cv (y := mX11_checkPlay) rfl (Nat.le_of_ble_eq_true rfl) rfl (Nat.le_of_ble_eq_true rfl) b16 rfl r2 (jo_exn rfl))) H
/-! MaskPlays bestGift (I)I -/
def tX11_bestGift : List (Nat × Instr × Nat) := [(0, .aload_n 0, 1), (1, .iload_n 1, 1), (2, .invokevirtual 147, 3), (5, .astore_n 2, 1), (6, .iconst (-1), 1), (7, .istore_n 3, 1), (8, .bipush 41, 2), (10, .istore 4, 2), (12, .iconst 0, 1), (13, .istore 5, 2), (15, .iload 5, 2), (17, .aload_n 0, 1), (18, .getfield 19, 3), (21, .getfield 135, 3), (24, .if_icmp .ge 41, 3), (27, .aload_n 0, 1), (28, .aload_n 2, 1), (29, .aload_n 0, 1), (30, .getfield 84, 3), (33, .iload 5, 2), (35, .invokevirtual 255, 3), (38, .iload 4, 2), (40, .iconst 1, 1), (41, .isub, 1), (42, .invokevirtual 258, 3), (45, .istore 6, 2), (47, .iload 6, 2), (49, .ifCond .lt 10, 3), (52, .iload 5, 2), (54, .istore_n 3, 1), (55, .iload 6, 2), (57, .istore 4, 2), (59, .iinc 5 1, 3), (62, .goto (-47), 3), (65, .iload_n 3, 1), (66, .ireturn, 1)]
set_option maxRecDepth 100000 in
theorem qX11_bestGift : ∀ q ∈ tX11_bestGift, decode cX11_bestGift q.1 = .ok (q.2.1, q.2.2) := by decide +kernel
noncomputable def kX11_bestGift_15 (d : Nat) (p0 : Nat) (o1 : Option Value) (p2 : Nat) (i3 : Int32) (i4 : Int32) (i5 : Int32) (o6 : Option Value) (h : jm_H) : Option jm_R := jm_B d mX11_bestGift (15, [some (.ref p0), o1, some (.ref p2), some (.int i3), some (.int i4), some (.int i5), o6], []) h
theorem gX11_bestGift_15 {d : Nat} {p0 : Nat} {o1 : Option Value} {p2 : Nat} {i3 : Int32} {i4 : Int32} {i5 : Int32} {o6 : Option Value} {h : jm_H} {r : jm_R} (H : ((jr_R h p0 10 6 2).bind fun a7 => (jr_I h a7 0 1 0).bind fun x9 => (if i5 < x9 then (jr_R h p0 10 9 2).bind fun a12 => jm_O h a12 4 (jc_R (jm_D d mX4_partAt [.ref a12, .int i5] h) (fun a16 h14 => jm_O h14 p0 11 (jc_I (jm_D d mX11_stepsWithGift [.ref p0, .ref p2, .ref a16, .int (i4 - 1)] h14) (fun x19 h17 => (if x19 < 0 then kX11_bestGift_15 d p0 o1 p2 i3 i4 (i5 + 1) (some (.int x19)) h17 else kX11_bestGift_15 d p0 o1 p2 i5 x19 (i5 + 1) (some (.int x19)) h17)) jx)) jx) else some (.inl (some (.int i3)), h))) = some r) : kX11_bestGift_15 d p0 o1 p2 i3 i4 i5 o6 h = some r := by
  show jm_B d mX11_bestGift (15, [some (.ref p0), o1, some (.ref p2), some (.int i3), some (.int i4), some (.int i5), o6], []) h = some r
  refine Eq.trans (jb_nx (i := .iload 5) (n := 2) (q := (17, [some (.ref p0), o1, some (.ref p2), some (.int i3), some (.int i4), some (.int i5), o6], [.int i5])) (jq qX11_bestGift 10 rfl) rfl) ?_
  refine Eq.trans (jb_nx (i := .aload_n 0) (n := 1) (q := (18, [some (.ref p0), o1, some (.ref p2), some (.int i3), some (.int i4), some (.int i5), o6], [.ref p0, .int i5])) (jq qX11_bestGift 11 rfl) rfl) ?_
  obtain ⟨a7, e8, H⟩ := jbd H
  refine Eq.trans (jb_nx (i := .getfield 19) (n := 3) (q := (21, [some (.ref p0), o1, some (.ref p2), some (.int i3), some (.int i4), some (.int i5), o6], [.ref a7, .int i5])) (jq qX11_bestGift 12 rfl) (jo_gf rfl (jr_R_inv e8))) ?_
  obtain ⟨x9, e10, H⟩ := jbd H
  refine Eq.trans (jb_nx (i := .getfield 135) (n := 3) (q := (24, [some (.ref p0), o1, some (.ref p2), some (.int i3), some (.int i4), some (.int i5), o6], [.int x9, .int i5])) (jq qX11_bestGift 13 rfl) (jo_gf rfl (jr_I_inv e10))) ?_
  by_cases c11 : i5 < x9
  · rw [if_pos c11] at H
    refine Eq.trans (jb_nx (i := .if_icmp .ge 41) (n := 3) (q := (27, [some (.ref p0), o1, some (.ref p2), some (.int i3), some (.int i4), some (.int i5), o6], [])) (jq qX11_bestGift 14 rfl) (jo_icF (jz_geF c11))) ?_
    refine Eq.trans (jb_nx (i := .aload_n 0) (n := 1) (q := (28, [some (.ref p0), o1, some (.ref p2), some (.int i3), some (.int i4), some (.int i5), o6], [.ref p0])) (jq qX11_bestGift 15 rfl) rfl) ?_
    refine Eq.trans (jb_nx (i := .aload_n 2) (n := 1) (q := (29, [some (.ref p0), o1, some (.ref p2), some (.int i3), some (.int i4), some (.int i5), o6], [.ref p2, .ref p0])) (jq qX11_bestGift 16 rfl) rfl) ?_
    refine Eq.trans (jb_nx (i := .aload_n 0) (n := 1) (q := (30, [some (.ref p0), o1, some (.ref p2), some (.int i3), some (.int i4), some (.int i5), o6], [.ref p0, .ref p2, .ref p0])) (jq qX11_bestGift 17 rfl) rfl) ?_
    obtain ⟨a12, e13, H⟩ := jbd H
    refine Eq.trans (jb_nx (i := .getfield 84) (n := 3) (q := (33, [some (.ref p0), o1, some (.ref p2), some (.int i3), some (.int i4), some (.int i5), o6], [.ref a12, .ref p2, .ref p0])) (jq qX11_bestGift 18 rfl) (jo_gf rfl (jr_R_inv e13))) ?_
    refine Eq.trans (jb_nx (i := .iload 5) (n := 2) (q := (35, [some (.ref p0), o1, some (.ref p2), some (.int i3), some (.int i4), some (.int i5), o6], [.int i5, .ref a12, .ref p2, .ref p0])) (jq qX11_bestGift 19 rfl) rfl) ?_
    obtain ⟨b24, H⟩ := jm_O_inv H
    rcases jcR H with ⟨a16, h14, r15, H⟩ | ⟨w25, h26, r15, H⟩
    · refine Eq.trans (jb_nx (i := .invokevirtual 255) (n := 3) (q := (38, [some (.ref p0), o1, some (.ref p2), some (.int i3), some (.int i4), some (.int i5), o6], [.ref a16, .ref p2, .ref p0])) (jq qX11_bestGift 20 rfl) (jo_cv (y := mX4_partAt) rfl (Nat.le_of_ble_eq_true rfl) rfl (Nat.le_of_ble_eq_true rfl) b24 rfl r15 jo_ret)) ?_
      refine Eq.trans (jb_nx (i := .iload 4) (n := 2) (q := (40, [some (.ref p0), o1, some (.ref p2), some (.int i3), some (.int i4), some (.int i5), o6], [.int i4, .ref a16, .ref p2, .ref p0])) (jq qX11_bestGift 21 rfl) rfl) ?_
      refine Eq.trans (jb_nx (i := .iconst 1) (n := 1) (q := (41, [some (.ref p0), o1, some (.ref p2), some (.int i3), some (.int i4), some (.int i5), o6], [.int 1, .int i4, .ref a16, .ref p2, .ref p0])) (jq qX11_bestGift 22 rfl) rfl) ?_
      refine Eq.trans (jb_nx (i := .isub) (n := 1) (q := (42, [some (.ref p0), o1, some (.ref p2), some (.int i3), some (.int i4), some (.int i5), o6], [.int (i4 - 1), .ref a16, .ref p2, .ref p0])) (jq qX11_bestGift 23 rfl) rfl) ?_
      obtain ⟨b21, H⟩ := jm_O_inv H
      rcases jcI H with ⟨x19, h17, r18, H⟩ | ⟨w22, h23, r18, H⟩
      · refine Eq.trans (jb_nx (i := .invokevirtual 258) (n := 3) (q := (45, [some (.ref p0), o1, some (.ref p2), some (.int i3), some (.int i4), some (.int i5), o6], [.int x19])) (jq qX11_bestGift 24 rfl) (jo_cv (y := mX11_stepsWithGift) rfl (Nat.le_of_ble_eq_true rfl) rfl (Nat.le_of_ble_eq_true rfl) b21 rfl r18 jo_ret)) ?_
        refine Eq.trans (jb_nx (i := .istore 6) (n := 2) (q := (47, [some (.ref p0), o1, some (.ref p2), some (.int i3), some (.int i4), some (.int i5), some (.int x19)], [])) (jq qX11_bestGift 25 rfl) rfl) ?_
        refine Eq.trans (jb_nx (i := .iload 6) (n := 2) (q := (49, [some (.ref p0), o1, some (.ref p2), some (.int i3), some (.int i4), some (.int i5), some (.int x19)], [.int x19])) (jq qX11_bestGift 26 rfl) rfl) ?_
        by_cases c20 : x19 < 0
        · rw [if_pos c20] at H
          refine Eq.trans (jb_nx (i := .ifCond .lt 10) (n := 3) (q := (59, [some (.ref p0), o1, some (.ref p2), some (.int i3), some (.int i4), some (.int i5), some (.int x19)], [])) (jq qX11_bestGift 27 rfl) (jo_ifT (jz_ltT c20) rfl)) ?_
          refine Eq.trans (jb_nx (i := .iinc 5 1) (n := 3) (q := (62, [some (.ref p0), o1, some (.ref p2), some (.int i3), some (.int i4), some (.int (i5 + 1)), some (.int x19)], [])) (jq qX11_bestGift 32 rfl) rfl) ?_
          refine Eq.trans (jb_nx (i := .goto (-47)) (n := 3) (q := (15, [some (.ref p0), o1, some (.ref p2), some (.int i3), some (.int i4), some (.int (i5 + 1)), some (.int x19)], [])) (jq qX11_bestGift 33 rfl) rfl) ?_
          exact H
        · rw [if_neg c20] at H
          refine Eq.trans (jb_nx (i := .ifCond .lt 10) (n := 3) (q := (52, [some (.ref p0), o1, some (.ref p2), some (.int i3), some (.int i4), some (.int i5), some (.int x19)], [])) (jq qX11_bestGift 27 rfl) (jo_ifF (jz_ltF c20))) ?_
          refine Eq.trans (jb_nx (i := .iload 5) (n := 2) (q := (54, [some (.ref p0), o1, some (.ref p2), some (.int i3), some (.int i4), some (.int i5), some (.int x19)], [.int i5])) (jq qX11_bestGift 28 rfl) rfl) ?_
          refine Eq.trans (jb_nx (i := .istore_n 3) (n := 1) (q := (55, [some (.ref p0), o1, some (.ref p2), some (.int i5), some (.int i4), some (.int i5), some (.int x19)], [])) (jq qX11_bestGift 29 rfl) rfl) ?_
          refine Eq.trans (jb_nx (i := .iload 6) (n := 2) (q := (57, [some (.ref p0), o1, some (.ref p2), some (.int i5), some (.int i4), some (.int i5), some (.int x19)], [.int x19])) (jq qX11_bestGift 30 rfl) rfl) ?_
          refine Eq.trans (jb_nx (i := .istore 4) (n := 2) (q := (59, [some (.ref p0), o1, some (.ref p2), some (.int i5), some (.int x19), some (.int i5), some (.int x19)], [])) (jq qX11_bestGift 31 rfl) rfl) ?_
          refine Eq.trans (jb_nx (i := .iinc 5 1) (n := 3) (q := (62, [some (.ref p0), o1, some (.ref p2), some (.int i5), some (.int x19), some (.int (i5 + 1)), some (.int x19)], [])) (jq qX11_bestGift 32 rfl) rfl) ?_
          refine Eq.trans (jb_nx (i := .goto (-47)) (n := 3) (q := (15, [some (.ref p0), o1, some (.ref p2), some (.int i5), some (.int x19), some (.int (i5 + 1)), some (.int x19)], [])) (jq qX11_bestGift 33 rfl) rfl) ?_
          exact H
      · exact Eq.trans (jb_rt (i := .invokevirtual 258) (n := 3) (jq qX11_bestGift 24 rfl) (jo_cv (y := mX11_stepsWithGift) rfl (Nat.le_of_ble_eq_true rfl) rfl (Nat.le_of_ble_eq_true rfl) b21 rfl r18 (jo_exn rfl))) H
    · exact Eq.trans (jb_rt (i := .invokevirtual 255) (n := 3) (jq qX11_bestGift 20 rfl) (jo_cv (y := mX4_partAt) rfl (Nat.le_of_ble_eq_true rfl) rfl (Nat.le_of_ble_eq_true rfl) b24 rfl r15 (jo_exn rfl))) H
  · rw [if_neg c11] at H
    refine Eq.trans (jb_nx (i := .if_icmp .ge 41) (n := 3) (q := (65, [some (.ref p0), o1, some (.ref p2), some (.int i3), some (.int i4), some (.int i5), o6], [])) (jq qX11_bestGift 14 rfl) (jo_icT (jz_geT c11) rfl)) ?_
    refine Eq.trans (jb_nx (i := .iload_n 3) (n := 1) (q := (66, [some (.ref p0), o1, some (.ref p2), some (.int i3), some (.int i4), some (.int i5), o6], [.int i3])) (jq qX11_bestGift 34 rfl) rfl) ?_
    exact Eq.trans (jb_rt (i := .ireturn) (n := 1) (jq qX11_bestGift 35 rfl) (jo_iret rfl rfl)) H
theorem gX11_bestGift {d : Nat} {p0 : Nat} {i1 : Int32} {h : jm_H} {r : jm_R} (H : (jm_O h p0 11 (jc_R (jm_D d mX11_partOf [.ref p0, .int i1] h) (fun a3 h1 => kX11_bestGift_15 d p0 (some (.int i1)) a3 (-1) 41 0 none h1) jx)) = some r) : jm_D (d + 1) mX11_bestGift [.ref p0, .int i1] h = some r := by
  rw [jm_D_body (Nat.le_of_ble_eq_true rfl)]
  show jm_B d mX11_bestGift (0, [some (.ref p0), some (.int i1), none, none, none, none, none], []) h = some r
  refine Eq.trans (jb_nx (i := .aload_n 0) (n := 1) (q := (1, [some (.ref p0), some (.int i1), none, none, none, none, none], [.ref p0])) (jq qX11_bestGift 0 rfl) rfl) ?_
  refine Eq.trans (jb_nx (i := .iload_n 1) (n := 1) (q := (2, [some (.ref p0), some (.int i1), none, none, none, none, none], [.int i1, .ref p0])) (jq qX11_bestGift 1 rfl) rfl) ?_
  obtain ⟨b4, H⟩ := jm_O_inv H
  rcases jcR H with ⟨a3, h1, r2, H⟩ | ⟨w5, h6, r2, H⟩
  · refine Eq.trans (jb_nx (i := .invokevirtual 147) (n := 3) (q := (5, [some (.ref p0), some (.int i1), none, none, none, none, none], [.ref a3])) (jq qX11_bestGift 2 rfl) (jo_cv (y := mX11_partOf) rfl (Nat.le_of_ble_eq_true rfl) rfl (Nat.le_of_ble_eq_true rfl) b4 rfl r2 jo_ret)) ?_
    refine Eq.trans (jb_nx (i := .astore_n 2) (n := 1) (q := (6, [some (.ref p0), some (.int i1), some (.ref a3), none, none, none, none], [])) (jq qX11_bestGift 3 rfl) rfl) ?_
    refine Eq.trans (jb_nx (i := .iconst (-1)) (n := 1) (q := (7, [some (.ref p0), some (.int i1), some (.ref a3), none, none, none, none], [.int (-1)])) (jq qX11_bestGift 4 rfl) rfl) ?_
    refine Eq.trans (jb_nx (i := .istore_n 3) (n := 1) (q := (8, [some (.ref p0), some (.int i1), some (.ref a3), some (.int (-1)), none, none, none], [])) (jq qX11_bestGift 5 rfl) rfl) ?_
    refine Eq.trans (jb_nx (i := .bipush 41) (n := 2) (q := (10, [some (.ref p0), some (.int i1), some (.ref a3), some (.int (-1)), none, none, none], [.int 41])) (jq qX11_bestGift 6 rfl) rfl) ?_
    refine Eq.trans (jb_nx (i := .istore 4) (n := 2) (q := (12, [some (.ref p0), some (.int i1), some (.ref a3), some (.int (-1)), some (.int 41), none, none], [])) (jq qX11_bestGift 7 rfl) rfl) ?_
    refine Eq.trans (jb_nx (i := .iconst 0) (n := 1) (q := (13, [some (.ref p0), some (.int i1), some (.ref a3), some (.int (-1)), some (.int 41), none, none], [.int 0])) (jq qX11_bestGift 8 rfl) rfl) ?_
    refine Eq.trans (jb_nx (i := .istore 5) (n := 2) (q := (15, [some (.ref p0), some (.int i1), some (.ref a3), some (.int (-1)), some (.int 41), some (.int 0), none], [])) (jq qX11_bestGift 9 rfl) rfl) ?_
    exact H
  · exact Eq.trans (jb_rt (i := .invokevirtual 147) (n := 3) (jq qX11_bestGift 2 rfl) (jo_cv (y := mX11_partOf) rfl (Nat.le_of_ble_eq_true rfl) rfl (Nat.le_of_ble_eq_true rfl) b4 rfl r2 (jo_exn rfl))) H
/-! MaskPlays stepsWithGift (LMaskPlays$Part;LMaskPlays$Part;I)I -/
def tX11_stepsWithGift : List (Nat × Instr × Nat) := [(0, .aload_n 1, 1), (1, .aload_n 2, 1), (2, .invokestatic 224, 3), (5, .ifCond .ne 5, 3), (8, .iconst (-1), 1), (9, .ireturn, 1), (10, .aload_n 0, 1), (11, .getfield 26, 3), (14, .aload_n 1, 1), (15, .aload_n 2, 1), (16, .invokevirtual 262, 3), (19, .aload_n 0, 1), (20, .getfield 75, 3), (23, .aload_n 0, 1), (24, .getfield 26, 3), (27, .iload_n 3, 1), (28, .invokevirtual 240, 3), (31, .ireturn, 1)]
set_option maxRecDepth 100000 in
theorem qX11_stepsWithGift : ∀ q ∈ tX11_stepsWithGift, decode cX11_stepsWithGift q.1 = .ok (q.2.1, q.2.2) := by decide +kernel
theorem gX11_stepsWithGift {d : Nat} {p0 : Nat} {p1 : Nat} {p2 : Nat} {i3 : Int32} {h : jm_H} {r : jm_R} (H : (jc_I (jm_D d mX3_fitInScene [.ref p1, .ref p2] h) (fun x3 h1 => (if x3 = 0 then some (.inl (some (.int (-1))), h1) else (jr_R h1 p0 10 11 2).bind fun a5 => jm_O h1 a5 3 (jc_V (jm_D d mX3_setToScene [.ref a5, .ref p1, .ref p2] h1) (fun h7 => (jr_R h7 p0 10 8 2).bind fun a9 => (jr_R h7 p0 10 11 2).bind fun a11 => jm_O h7 a9 5 (jc_I (jm_D d mX5_takeUntilFinished [.ref a9, .ref a11, .int i3] h7) (fun x15 h13 => some (.inl (some (.int x15)), h13)) jx)) jx))) jx) = some r) : jm_D (d + 1) mX11_stepsWithGift [.ref p0, .ref p1, .ref p2, .int i3] h = some r := by
  rw [jm_D_body (Nat.le_of_ble_eq_true rfl)]
  show jm_B d mX11_stepsWithGift (0, [some (.ref p0), some (.ref p1), some (.ref p2), some (.int i3)], []) h = some r
  refine Eq.trans (jb_nx (i := .aload_n 1) (n := 1) (q := (1, [some (.ref p0), some (.ref p1), some (.ref p2), some (.int i3)], [.ref p1])) (jq qX11_stepsWithGift 0 rfl) rfl) ?_
  refine Eq.trans (jb_nx (i := .aload_n 2) (n := 1) (q := (2, [some (.ref p0), some (.ref p1), some (.ref p2), some (.int i3)], [.ref p2, .ref p1])) (jq qX11_stepsWithGift 1 rfl) rfl) ?_
  rcases jcI H with ⟨x3, h1, r2, H⟩ | ⟨w22, h23, r2, H⟩
  · refine Eq.trans (jb_nx (i := .invokestatic 224) (n := 3) (q := (5, [some (.ref p0), some (.ref p1), some (.ref p2), some (.int i3)], [.int x3])) (jq qX11_stepsWithGift 2 rfl) (jo_cs (y := mX3_fitInScene) (w := 1) (by decide) rfl (Nat.le_of_ble_eq_true rfl) rfl (Nat.le_of_ble_eq_true rfl) rfl r2 jo_ret)) ?_
    by_cases c4 : x3 = 0
    · rw [if_pos c4] at H
      refine Eq.trans (jb_nx (i := .ifCond .ne 5) (n := 3) (q := (8, [some (.ref p0), some (.ref p1), some (.ref p2), some (.int i3)], [])) (jq qX11_stepsWithGift 3 rfl) (jo_ifF (jz_neF c4))) ?_
      refine Eq.trans (jb_nx (i := .iconst (-1)) (n := 1) (q := (9, [some (.ref p0), some (.ref p1), some (.ref p2), some (.int i3)], [.int (-1)])) (jq qX11_stepsWithGift 4 rfl) rfl) ?_
      exact Eq.trans (jb_rt (i := .ireturn) (n := 1) (jq qX11_stepsWithGift 5 rfl) (jo_iret rfl rfl)) H
    · rw [if_neg c4] at H
      refine Eq.trans (jb_nx (i := .ifCond .ne 5) (n := 3) (q := (10, [some (.ref p0), some (.ref p1), some (.ref p2), some (.int i3)], [])) (jq qX11_stepsWithGift 3 rfl) (jo_ifT (jz_neT c4) rfl)) ?_
      refine Eq.trans (jb_nx (i := .aload_n 0) (n := 1) (q := (11, [some (.ref p0), some (.ref p1), some (.ref p2), some (.int i3)], [.ref p0])) (jq qX11_stepsWithGift 6 rfl) rfl) ?_
      obtain ⟨a5, e6, H⟩ := jbd H
      refine Eq.trans (jb_nx (i := .getfield 26) (n := 3) (q := (14, [some (.ref p0), some (.ref p1), some (.ref p2), some (.int i3)], [.ref a5])) (jq qX11_stepsWithGift 7 rfl) (jo_gf rfl (jr_R_inv e6))) ?_
      refine Eq.trans (jb_nx (i := .aload_n 1) (n := 1) (q := (15, [some (.ref p0), some (.ref p1), some (.ref p2), some (.int i3)], [.ref p1, .ref a5])) (jq qX11_stepsWithGift 8 rfl) rfl) ?_
      refine Eq.trans (jb_nx (i := .aload_n 2) (n := 1) (q := (16, [some (.ref p0), some (.ref p1), some (.ref p2), some (.int i3)], [.ref p2, .ref p1, .ref a5])) (jq qX11_stepsWithGift 9 rfl) rfl) ?_
      obtain ⟨b19, H⟩ := jm_O_inv H
      rcases jcV H with ⟨h7, r8, H⟩ | ⟨w20, h21, r8, H⟩
      · refine Eq.trans (jb_nx (i := .invokevirtual 262) (n := 3) (q := (19, [some (.ref p0), some (.ref p1), some (.ref p2), some (.int i3)], [])) (jq qX11_stepsWithGift 10 rfl) (jo_cv (y := mX3_setToScene) rfl (Nat.le_of_ble_eq_true rfl) rfl (Nat.le_of_ble_eq_true rfl) b19 rfl r8 jo_ret)) ?_
        refine Eq.trans (jb_nx (i := .aload_n 0) (n := 1) (q := (20, [some (.ref p0), some (.ref p1), some (.ref p2), some (.int i3)], [.ref p0])) (jq qX11_stepsWithGift 11 rfl) rfl) ?_
        obtain ⟨a9, e10, H⟩ := jbd H
        refine Eq.trans (jb_nx (i := .getfield 75) (n := 3) (q := (23, [some (.ref p0), some (.ref p1), some (.ref p2), some (.int i3)], [.ref a9])) (jq qX11_stepsWithGift 12 rfl) (jo_gf rfl (jr_R_inv e10))) ?_
        refine Eq.trans (jb_nx (i := .aload_n 0) (n := 1) (q := (24, [some (.ref p0), some (.ref p1), some (.ref p2), some (.int i3)], [.ref p0, .ref a9])) (jq qX11_stepsWithGift 13 rfl) rfl) ?_
        obtain ⟨a11, e12, H⟩ := jbd H
        refine Eq.trans (jb_nx (i := .getfield 26) (n := 3) (q := (27, [some (.ref p0), some (.ref p1), some (.ref p2), some (.int i3)], [.ref a11, .ref a9])) (jq qX11_stepsWithGift 14 rfl) (jo_gf rfl (jr_R_inv e12))) ?_
        refine Eq.trans (jb_nx (i := .iload_n 3) (n := 1) (q := (28, [some (.ref p0), some (.ref p1), some (.ref p2), some (.int i3)], [.int i3, .ref a11, .ref a9])) (jq qX11_stepsWithGift 15 rfl) rfl) ?_
        obtain ⟨b16, H⟩ := jm_O_inv H
        rcases jcI H with ⟨x15, h13, r14, H⟩ | ⟨w17, h18, r14, H⟩
        · refine Eq.trans (jb_nx (i := .invokevirtual 240) (n := 3) (q := (31, [some (.ref p0), some (.ref p1), some (.ref p2), some (.int i3)], [.int x15])) (jq qX11_stepsWithGift 16 rfl) (jo_cv (y := mX5_takeUntilFinished) rfl (Nat.le_of_ble_eq_true rfl) rfl (Nat.le_of_ble_eq_true rfl) b16 rfl r14 jo_ret)) ?_
          exact Eq.trans (jb_rt (i := .ireturn) (n := 1) (jq qX11_stepsWithGift 17 rfl) (jo_iret rfl rfl)) H
        · exact Eq.trans (jb_rt (i := .invokevirtual 240) (n := 3) (jq qX11_stepsWithGift 16 rfl) (jo_cv (y := mX5_takeUntilFinished) rfl (Nat.le_of_ble_eq_true rfl) rfl (Nat.le_of_ble_eq_true rfl) b16 rfl r14 (jo_exn rfl))) H
      · exact Eq.trans (jb_rt (i := .invokevirtual 262) (n := 3) (jq qX11_stepsWithGift 10 rfl) (jo_cv (y := mX3_setToScene) rfl (Nat.le_of_ble_eq_true rfl) rfl (Nat.le_of_ble_eq_true rfl) b19 rfl r8 (jo_exn rfl))) H
  · exact Eq.trans (jb_rt (i := .invokestatic 224) (n := 3) (jq qX11_stepsWithGift 2 rfl) (jo_cs (y := mX3_fitInScene) (w := 1) (by decide) rfl (Nat.le_of_ble_eq_true rfl) rfl (Nat.le_of_ble_eq_true rfl) rfl r2 (jo_exn rfl))) H
