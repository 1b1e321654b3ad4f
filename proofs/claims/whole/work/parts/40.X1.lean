/-! ===== LEVEL 2: X1 ===== -/
/-! MaskPlays$Grammar <init> (LMaskPlays$Tokens;LMaskPlays$Book;)V -/
def tX1_init : List (Nat × Instr × Nat) := [(0, .aload_n 0, 1), (1, .invokespecial 3, 3), (4, .aload_n 0, 1), (5, .aload_n 1, 1), (6, .putfield 9, 3), (9, .aload_n 0, 1), (10, .aload_n 2, 1), (11, .putfield 15, 3), (14, .return_, 1)]
set_option maxRecDepth 100000 in
theorem qX1_init : ∀ q ∈ tX1_init, decode cX1_init q.1 = .ok (q.2.1, q.2.2) := by decide +kernel
theorem gX1_init {d : Nat} {p0 : Nat} {p1 : Nat} {p2 : Nat} {h : jm_H} {r : jm_R} (H : (jm_U p0 ((jm_pf h p0 1 0 2 (.ref p1)).bind fun h2 => (jm_pf h2 p0 1 1 2 (.ref p2)).bind fun h4 => some (.inl none, h4))) = some r) : jm_D (d + 1) mX1_init [.ref p0, .ref p1, .ref p2] h = some r := by
  rw [jm_D_body (Nat.le_of_ble_eq_true rfl)]
  show jm_B d mX1_init (0, [some (.ref p0), some (.ref p1), some (.ref p2)], []) h = some r
  refine Eq.trans (jb_nx (i := .aload_n 0) (n := 1) (q := (1, [some (.ref p0), some (.ref p1), some (.ref p2)], [.ref p0])) (jq qX1_init 0 rfl) rfl) ?_
  obtain ⟨u1, H⟩ := jm_U_inv H
  refine Eq.trans (jb_nx (i := .invokespecial 3) (n := 3) (q := (4, [some (.ref p0), some (.ref p1), some (.ref p2)], [])) (jq qX1_init 1 rfl) (jo_oi (z := mX3_clear) rfl (Nat.le_of_ble_eq_true rfl) u1)) ?_
  refine Eq.trans (jb_nx (i := .aload_n 0) (n := 1) (q := (5, [some (.ref p0), some (.ref p1), some (.ref p2)], [.ref p0])) (jq qX1_init 2 rfl) rfl) ?_
  refine Eq.trans (jb_nx (i := .aload_n 1) (n := 1) (q := (6, [some (.ref p0), some (.ref p1), some (.ref p2)], [.ref p1, .ref p0])) (jq qX1_init 3 rfl) rfl) ?_
  obtain ⟨h2, e3, H⟩ := jbd H
  refine Eq.trans (jb_nx (i := .putfield 9) (n := 3) (q := (9, [some (.ref p0), some (.ref p1), some (.ref p2)], [])) (jq qX1_init 4 rfl) (jo_pf rfl (Or.inr ⟨rfl, rfl⟩) e3)) ?_
  refine Eq.trans (jb_nx (i := .aload_n 0) (n := 1) (q := (10, [some (.ref p0), some (.ref p1), some (.ref p2)], [.ref p0])) (jq qX1_init 5 rfl) rfl) ?_
  refine Eq.trans (jb_nx (i := .aload_n 2) (n := 1) (q := (11, [some (.ref p0), some (.ref p1), some (.ref p2)], [.ref p2, .ref p0])) (jq qX1_init 6 rfl) rfl) ?_
  obtain ⟨h4, e5, H⟩ := jbd H
  refine Eq.trans (jb_nx (i := .putfield 15) (n := 3) (q := (14, [some (.ref p0), some (.ref p1), some (.ref p2)], [])) (jq qX1_init 7 rfl) (jo_pf rfl (Or.inl rfl) e5)) ?_
  exact Eq.trans (jb_rt (i := .return_) (n := 1) (jq qX1_init 8 rfl) rfl) H
/-! MaskPlays$Grammar firstWrongToken (LMaskPlays$Book;)I -/
def tX1_firstWrongToken : List (Nat × Instr × Nat) := [(0, .aload_n 0, 1), (1, .aload_n 1, 1), (2, .putfield 15, 3), (5, .aload_n 0, 1), (6, .iconst 0, 1), (7, .putfield 19, 3), (10, .iconst 0, 1), (11, .istore_n 2, 1), (12, .iload_n 2, 1), (13, .sipush 400, 3), (16, .if_icmp .ge 30, 3), (19, .aload_n 0, 1), (20, .bipush 37, 2), (22, .invokevirtual 23, 3), (25, .ifCond .ne 21, 3), (28, .aload_n 0, 1), (29, .invokevirtual 27, 3), (32, .ifCond .ne 8, 3), (35, .aload_n 0, 1), (36, .getfield 19, 3), (39, .ireturn, 1), (40, .iinc 2 1, 3), (43, .goto (-31), 3), (46, .iconst (-1), 1), (47, .ireturn, 1)]
set_option maxRecDepth 100000 in
theorem qX1_firstWrongToken : ∀ q ∈ tX1_firstWrongToken, decode cX1_firstWrongToken q.1 = .ok (q.2.1, q.2.2) := by decide +kernel
noncomputable def kX1_firstWrongToken_12 (d : Nat) (p0 : Nat) (o1 : Option Value) (i2 : Int32) (h : jm_H) : Option jm_R := jm_B d mX1_firstWrongToken (12, [some (.ref p0), o1, some (.int i2)], []) h
theorem gX1_firstWrongToken_12 {d : Nat} {p0 : Nat} {o1 : Option Value} {i2 : Int32} {h : jm_H} {r : jm_R} (H : ((if i2 < 400 then jm_O h p0 1 (jc_I (jm_D d mX1_sees [.ref p0, .int 37] h) (fun x8 h6 => (if x8 = 0 then jm_O h6 p0 1 (jc_I (jm_D d mX1_line [.ref p0] h6) (fun x12 h10 => (if x12 = 0 then (jr_I h10 p0 1 2 0).bind fun x14 => some (.inl (some (.int x14)), h10) else kX1_firstWrongToken_12 d p0 (jm_dm o1) (i2 + 1) h10)) jx) else some (.inl (some (.int (-1))), h6))) jx) else some (.inl (some (.int (-1))), h))) = some r) : kX1_firstWrongToken_12 d p0 o1 i2 h = some r := by
  show jm_B d mX1_firstWrongToken (12, [some (.ref p0), o1, some (.int i2)], []) h = some r
  refine Eq.trans (jb_nx (i := .iload_n 2) (n := 1) (q := (13, [some (.ref p0), o1, some (.int i2)], [.int i2])) (jq qX1_firstWrongToken 8 rfl) rfl) ?_
  refine Eq.trans (jb_nx (i := .sipush 400) (n := 3) (q := (16, [some (.ref p0), o1, some (.int i2)], [.int 400, .int i2])) (jq qX1_firstWrongToken 9 rfl) rfl) ?_
  by_cases c5 : i2 < 400
  · rw [if_pos c5] at H
    refine Eq.trans (jb_nx (i := .if_icmp .ge 30) (n := 3) (q := (19, [some (.ref p0), o1, some (.int i2)], [])) (jq qX1_firstWrongToken 10 rfl) (jo_icF (jz_geF c5))) ?_
    refine Eq.trans (jb_nx (i := .aload_n 0) (n := 1) (q := (20, [some (.ref p0), o1, some (.int i2)], [.ref p0])) (jq qX1_firstWrongToken 11 rfl) rfl) ?_
    refine Eq.trans (jb_nx (i := .bipush 37) (n := 2) (q := (22, [some (.ref p0), o1, some (.int i2)], [.int 37, .ref p0])) (jq qX1_firstWrongToken 12 rfl) rfl) ?_
    obtain ⟨b19, H⟩ := jm_O_inv H
    rcases jcI H with ⟨x8, h6, r7, H⟩ | ⟨w20, h21, r7, H⟩
    · refine Eq.trans (jb_nx (i := .invokevirtual 23) (n := 3) (q := (25, [some (.ref p0), o1, some (.int i2)], [.int x8])) (jq qX1_firstWrongToken 13 rfl) (jo_cv (y := mX1_sees) rfl (Nat.le_of_ble_eq_true rfl) rfl (Nat.le_of_ble_eq_true rfl) b19 rfl r7 jo_ret)) ?_
      by_cases c9 : x8 = 0
      · rw [if_pos c9] at H
        refine Eq.trans (jb_nx (i := .ifCond .ne 21) (n := 3) (q := (28, [some (.ref p0), o1, some (.int i2)], [])) (jq qX1_firstWrongToken 14 rfl) (jo_ifF (jz_neF c9))) ?_
        refine Eq.trans (jb_nx (i := .aload_n 0) (n := 1) (q := (29, [some (.ref p0), o1, some (.int i2)], [.ref p0])) (jq qX1_firstWrongToken 15 rfl) rfl) ?_
        obtain ⟨b16, H⟩ := jm_O_inv H
        rcases jcI H with ⟨x12, h10, r11, H⟩ | ⟨w17, h18, r11, H⟩
        · refine Eq.trans (jb_nx (i := .invokevirtual 27) (n := 3) (q := (32, [some (.ref p0), o1, some (.int i2)], [.int x12])) (jq qX1_firstWrongToken 16 rfl) (jo_cv (y := mX1_line) rfl (Nat.le_of_ble_eq_true rfl) rfl (Nat.le_of_ble_eq_true rfl) b16 rfl r11 jo_ret)) ?_
          by_cases c13 : x12 = 0
          · rw [if_pos c13] at H
            refine Eq.trans (jb_nx (i := .ifCond .ne 8) (n := 3) (q := (35, [some (.ref p0), o1, some (.int i2)], [])) (jq qX1_firstWrongToken 17 rfl) (jo_ifF (jz_neF c13))) ?_
            refine Eq.trans (jb_nx (i := .aload_n 0) (n := 1) (q := (36, [some (.ref p0), o1, some (.int i2)], [.ref p0])) (jq qX1_firstWrongToken 18 rfl) rfl) ?_
            obtain ⟨x14, e15, H⟩ := jbd H
            refine Eq.trans (jb_nx (i := .getfield 19) (n := 3) (q := (39, [some (.ref p0), o1, some (.int i2)], [.int x14])) (jq qX1_firstWrongToken 19 rfl) (jo_gf rfl (jr_I_inv e15))) ?_
            exact Eq.trans (jb_rt (i := .ireturn) (n := 1) (jq qX1_firstWrongToken 20 rfl) (jo_iret rfl rfl)) H
          · rw [if_neg c13] at H
            refine Eq.trans (jb_nx (i := .ifCond .ne 8) (n := 3) (q := (40, [some (.ref p0), o1, some (.int i2)], [])) (jq qX1_firstWrongToken 17 rfl) (jo_ifT (jz_neT c13) rfl)) ?_
            refine Eq.trans (jb_nx (i := .iinc 2 1) (n := 3) (q := (43, [some (.ref p0), (jm_dm o1), some (.int (i2 + 1))], [])) (jq qX1_firstWrongToken 21 rfl) rfl) ?_
            refine Eq.trans (jb_nx (i := .goto (-31)) (n := 3) (q := (12, [some (.ref p0), (jm_dm o1), some (.int (i2 + 1))], [])) (jq qX1_firstWrongToken 22 rfl) rfl) ?_
            exact H
        · exact Eq.trans (jb_rt (i := .invokevirtual 27) (n := 3) (jq qX1_firstWrongToken 16 rfl) (jo_cv (y := mX1_line) rfl (Nat.le_of_ble_eq_true rfl) rfl (Nat.le_of_ble_eq_true rfl) b16 rfl r11 (jo_exn rfl))) H
      · rw [if_neg c9] at H
        refine Eq.trans (jb_nx (i := .ifCond .ne 21) (n := 3) (q := (46, [some (.ref p0), o1, some (.int i2)], [])) (jq qX1_firstWrongToken 14 rfl) (jo_ifT (jz_neT c9) rfl)) ?_
        refine Eq.trans (jb_nx (i := .iconst (-1)) (n := 1) (q := (47, [some (.ref p0), o1, some (.int i2)], [.int (-1)])) (jq qX1_firstWrongToken 23 rfl) rfl) ?_
        exact Eq.trans (jb_rt (i := .ireturn) (n := 1) (jq qX1_firstWrongToken 24 rfl) (jo_iret rfl rfl)) H
    · exact Eq.trans (jb_rt (i := .invokevirtual 23) (n := 3) (jq qX1_firstWrongToken 13 rfl) (jo_cv (y := mX1_sees) rfl (Nat.le_of_ble_eq_true rfl) rfl (Nat.le_of_ble_eq_true rfl) b19 rfl r7 (jo_exn rfl))) H
  · rw [if_neg c5] at H
    refine Eq.trans (jb_nx (i := .if_icmp .ge 30) (n := 3) (q := (46, [some (.ref p0), o1, some (.int i2)], [])) (jq qX1_firstWrongToken 10 rfl) (jo_icT (jz_geT c5) rfl)) ?_
    refine Eq.trans (jb_nx (i := .iconst (-1)) (n := 1) (q := (47, [some (.ref p0), o1, some (.int i2)], [.int (-1)])) (jq qX1_firstWrongToken 23 rfl) rfl) ?_
    exact Eq.trans (jb_rt (i := .ireturn) (n := 1) (jq qX1_firstWrongToken 24 rfl) (jo_iret rfl rfl)) H
theorem gX1_firstWrongToken {d : Nat} {p0 : Nat} {p1 : Nat} {h : jm_H} {r : jm_R} (H : ((jm_pf h p0 1 1 2 (.ref p1)).bind fun h1 => (jm_pf h1 p0 1 2 0 (.int 0)).bind fun h3 => kX1_firstWrongToken_12 d p0 (some (.ref p1)) 0 h3) = some r) : jm_D (d + 1) mX1_firstWrongToken [.ref p0, .ref p1] h = some r := by
  rw [jm_D_body (Nat.le_of_ble_eq_true rfl)]
  show jm_B d mX1_firstWrongToken (0, [some (.ref p0), some (.ref p1), none], []) h = some r
  refine Eq.trans (jb_nx (i := .aload_n 0) (n := 1) (q := (1, [some (.ref p0), some (.ref p1), none], [.ref p0])) (jq qX1_firstWrongToken 0 rfl) rfl) ?_
  refine Eq.trans (jb_nx (i := .aload_n 1) (n := 1) (q := (2, [some (.ref p0), some (.ref p1), none], [.ref p1, .ref p0])) (jq qX1_firstWrongToken 1 rfl) rfl) ?_
  obtain ⟨h1, e2, H⟩ := jbd H
  refine Eq.trans (jb_nx (i := .putfield 15) (n := 3) (q := (5, [some (.ref p0), some (.ref p1), none], [])) (jq qX1_firstWrongToken 2 rfl) (jo_pf rfl (Or.inl rfl) e2)) ?_
  refine Eq.trans (jb_nx (i := .aload_n 0) (n := 1) (q := (6, [some (.ref p0), some (.ref p1), none], [.ref p0])) (jq qX1_firstWrongToken 3 rfl) rfl) ?_
  refine Eq.trans (jb_nx (i := .iconst 0) (n := 1) (q := (7, [some (.ref p0), some (.ref p1), none], [.int 0, .ref p0])) (jq qX1_firstWrongToken 4 rfl) rfl) ?_
  obtain ⟨h3, e4, H⟩ := jbd H
  refine Eq.trans (jb_nx (i := .putfield 19) (n := 3) (q := (10, [some (.ref p0), some (.ref p1), none], [])) (jq qX1_firstWrongToken 5 rfl) (jo_pf rfl (Or.inl rfl) e4)) ?_
  refine Eq.trans (jb_nx (i := .iconst 0) (n := 1) (q := (11, [some (.ref p0), some (.ref p1), none], [.int 0])) (jq qX1_firstWrongToken 6 rfl) rfl) ?_
  refine Eq.trans (jb_nx (i := .istore_n 2) (n := 1) (q := (12, [some (.ref p0), some (.ref p1), some (.int 0)], [])) (jq qX1_firstWrongToken 7 rfl) rfl) ?_
  exact H
/-! MaskPlays$Grammar sees (I)Z -/
def tX1_sees : List (Nat × Instr × Nat) := [(0, .aload_n 0, 1), (1, .getfield 9, 3), (4, .aload_n 0, 1), (5, .getfield 19, 3), (8, .invokevirtual 31, 3), (11, .iload_n 1, 1), (12, .if_icmp .ne 7, 3), (15, .iconst 1, 1), (16, .goto 4, 3), (19, .iconst 0, 1), (20, .ireturn, 1)]
set_option maxRecDepth 100000 in
theorem qX1_sees : ∀ q ∈ tX1_sees, decode cX1_sees q.1 = .ok (q.2.1, q.2.2) := by decide +kernel
theorem gX1_sees {d : Nat} {p0 : Nat} {i1 : Int32} {h : jm_H} {r : jm_R} (H : ((jr_R h p0 1 0 2).bind fun a1 => (jr_I h p0 1 2 0).bind fun x3 => jm_O h a1 9 (jc_I (jm_D d mX9_kindAt [.ref a1, .int x3] h) (fun x7 h5 => (if x7 = i1 then some (.inl (some (.int 1)), h5) else some (.inl (some (.int 0)), h5))) jx)) = some r) : jm_D (d + 1) mX1_sees [.ref p0, .int i1] h = some r := by
  rw [jm_D_body (Nat.le_of_ble_eq_true rfl)]
  show jm_B d mX1_sees (0, [some (.ref p0), some (.int i1)], []) h = some r
  refine Eq.trans (jb_nx (i := .aload_n 0) (n := 1) (q := (1, [some (.ref p0), some (.int i1)], [.ref p0])) (jq qX1_sees 0 rfl) rfl) ?_
  obtain ⟨a1, e2, H⟩ := jbd H
  refine Eq.trans (jb_nx (i := .getfield 9) (n := 3) (q := (4, [some (.ref p0), some (.int i1)], [.ref a1])) (jq qX1_sees 1 rfl) (jo_gf rfl (jr_R_inv e2))) ?_
  refine Eq.trans (jb_nx (i := .aload_n 0) (n := 1) (q := (5, [some (.ref p0), some (.int i1)], [.ref p0, .ref a1])) (jq qX1_sees 2 rfl) rfl) ?_
  obtain ⟨x3, e4, H⟩ := jbd H
  refine Eq.trans (jb_nx (i := .getfield 19) (n := 3) (q := (8, [some (.ref p0), some (.int i1)], [.int x3, .ref a1])) (jq qX1_sees 3 rfl) (jo_gf rfl (jr_I_inv e4))) ?_
  obtain ⟨b9, H⟩ := jm_O_inv H
  rcases jcI H with ⟨x7, h5, r6, H⟩ | ⟨w10, h11, r6, H⟩
  · refine Eq.trans (jb_nx (i := .invokevirtual 31) (n := 3) (q := (11, [some (.ref p0), some (.int i1)], [.int x7])) (jq qX1_sees 4 rfl) (jo_cv (y := mX9_kindAt) rfl (Nat.le_of_ble_eq_true rfl) rfl (Nat.le_of_ble_eq_true rfl) b9 rfl r6 jo_ret)) ?_
    refine Eq.trans (jb_nx (i := .iload_n 1) (n := 1) (q := (12, [some (.ref p0), some (.int i1)], [.int i1, .int x7])) (jq qX1_sees 5 rfl) rfl) ?_
    by_cases c8 : x7 = i1
    · rw [if_pos c8] at H
      refine Eq.trans (jb_nx (i := .if_icmp .ne 7) (n := 3) (q := (15, [some (.ref p0), some (.int i1)], [])) (jq qX1_sees 6 rfl) (jo_icF (jz_neF c8))) ?_
      refine Eq.trans (jb_nx (i := .iconst 1) (n := 1) (q := (16, [some (.ref p0), some (.int i1)], [.int 1])) (jq qX1_sees 7 rfl) rfl) ?_
      refine Eq.trans (jb_nx (i := .goto 4) (n := 3) (q := (20, [some (.ref p0), some (.int i1)], [.int 1])) (jq qX1_sees 8 rfl) rfl) ?_
      exact Eq.trans (jb_rt (i := .ireturn) (n := 1) (jq qX1_sees 10 rfl) (jo_iret rfl (by decide))) H
    · rw [if_neg c8] at H
      refine Eq.trans (jb_nx (i := .if_icmp .ne 7) (n := 3) (q := (19, [some (.ref p0), some (.int i1)], [])) (jq qX1_sees 6 rfl) (jo_icT (jz_neT c8) rfl)) ?_
      refine Eq.trans (jb_nx (i := .iconst 0) (n := 1) (q := (20, [some (.ref p0), some (.int i1)], [.int 0])) (jq qX1_sees 9 rfl) rfl) ?_
      exact Eq.trans (jb_rt (i := .ireturn) (n := 1) (jq qX1_sees 10 rfl) (jo_iret rfl (by decide))) H
  · exact Eq.trans (jb_rt (i := .invokevirtual 31) (n := 3) (jq qX1_sees 4 rfl) (jo_cv (y := mX9_kindAt) rfl (Nat.le_of_ble_eq_true rfl) rfl (Nat.le_of_ble_eq_true rfl) b9 rfl r6 (jo_exn rfl))) H
/-! MaskPlays$Grammar line ()Z -/
def tX1_line : List (Nat × Instr × Nat) := [(0, .aload_n 0, 1), (1, .getfield 9, 3), (4, .aload_n 0, 1), (5, .getfield 19, 3), (8, .invokevirtual 31, 3), (11, .istore_n 1, 1), (12, .aload_n 0, 1), (13, .dup, 1), (14, .getfield 19, 3), (17, .iconst 1, 1), (18, .iadd, 1), (19, .putfield 19, 3), (22, .iload_n 1, 1), (23, .tableswitch 229 0 7 #[45, 69, 229, 229, 109, 149, 229, 198], 45), (68, .aload_n 0, 1), (69, .bipush 35, 2), (71, .invokevirtual 37, 3), (74, .ifCond .eq 16, 3), (77, .aload_n 0, 1), (78, .bipush 24, 2), (80, .invokevirtual 37, 3), (83, .ifCond .eq 7, 3), (86, .iconst 1, 1), (87, .goto 4, 3), (90, .iconst 0, 1), (91, .ireturn, 1), (92, .aload_n 0, 1), (93, .bipush 35, 2), (95, .invokevirtual 37, 3), (98, .ifCond .eq 32, 3), (101, .aload_n 0, 1), (102, .iconst 2, 1), (103, .invokevirtual 37, 3), (106, .ifCond .eq 24, 3), (109, .aload_n 0, 1), (110, .iconst 0, 1), (111, .invokevirtual 40, 3), (114, .ifCond .eq 16, 3), (117, .aload_n 0, 1), (118, .bipush 24, 2), (120, .invokevirtual 37, 3), (123, .ifCond .eq 7, 3), (126, .iconst 1, 1), (127, .goto 4, 3), (130, .iconst 0, 1), (131, .ireturn, 1), (132, .aload_n 0, 1), (133, .bipush 35, 2), (135, .invokevirtual 37, 3), (138, .ifCond .eq 32, 3), (141, .aload_n 0, 1), (142, .bipush 24, 2), (144, .invokevirtual 23, 3), (147, .ifCond .ne 10, 3), (150, .aload_n 0, 1), (151, .invokevirtual 43, 3), (154, .ifCond .eq 16, 3), (157, .aload_n 0, 1), (158, .bipush 24, 2), (160, .invokevirtual 37, 3), (163, .ifCond .eq 7, 3), (166, .iconst 1, 1), (167, .goto 4, 3), (170, .iconst 0, 1), (171, .ireturn, 1), (172, .aload_n 0, 1), (173, .bipush 35, 2), (175, .invokevirtual 37, 3), (178, .ifCond .eq 41, 3), (181, .aload_n 0, 1), (182, .bipush 6, 2), (184, .invokevirtual 37, 3), (187, .ifCond .eq 32, 3), (190, .aload_n 0, 1), (191, .bipush 35, 2), (193, .invokevirtual 37, 3), (196, .ifCond .eq 23, 3), (199, .aload_n 0, 1), (200, .invokevirtual 43, 3), (203, .ifCond .eq 16, 3), (206, .aload_n 0, 1), (207, .bipush 24, 2), (209, .invokevirtual 37, 3), (212, .ifCond .eq 7, 3), (215, .iconst 1, 1), (216, .goto 4, 3), (219, .iconst 0, 1), (220, .ireturn, 1), (221, .aload_n 0, 1), (222, .bipush 35, 2), (224, .invokevirtual 37, 3), (227, .ifCond .eq 23, 3), (230, .aload_n 0, 1), (231, .invokevirtual 43, 3), (234, .ifCond .eq 16, 3), (237, .aload_n 0, 1), (238, .bipush 24, 2), (240, .invokevirtual 37, 3), (243, .ifCond .eq 7, 3), (246, .iconst 1, 1), (247, .goto 4, 3), (250, .iconst 0, 1), (251, .ireturn, 1), (252, .aload_n 0, 1), (253, .dup, 1), (254, .getfield 19, 3), (257, .iconst 1, 1), (258, .isub, 1), (259, .putfield 19, 3), (262, .iconst 0, 1), (263, .ireturn, 1)]
set_option maxRecDepth 100000 in
theorem qX1_line : ∀ q ∈ tX1_line, decode cX1_line q.1 = .ok (q.2.1, q.2.2) := by decide +kernel
theorem gX1_line {d : Nat} {p0 : Nat} {h : jm_H} {r : jm_R} (H : ((jr_R h p0 1 0 2).bind fun a1 => (jr_I h p0 1 2 0).bind fun x3 => jm_O h a1 9 (jc_I (jm_D d mX9_kindAt [.ref a1, .int x3] h) (fun x7 h5 => (jr_I h5 p0 1 2 0).bind fun x8 => (jm_pf h5 p0 1 2 0 (.int (x8 + 1))).bind fun h10 => (if x7 = 0 then jm_O h10 p0 1 (jc_I (jm_D d mX1_take [.ref p0, .int 35] h10) (fun x15 h13 => (if x15 = 0 then some (.inl (some (.int 0)), h13) else jm_O h13 p0 1 (jc_I (jm_D d mX1_take [.ref p0, .int 24] h13) (fun x19 h17 => (if x19 = 0 then some (.inl (some (.int 0)), h17) else some (.inl (some (.int 1)), h17))) jx))) jx) else (if x7 = 1 then jm_O h10 p0 1 (jc_I (jm_D d mX1_take [.ref p0, .int 35] h10) (fun x30 h28 => (if x30 = 0 then some (.inl (some (.int 0)), h28) else jm_O h28 p0 1 (jc_I (jm_D d mX1_take [.ref p0, .int 2] h28) (fun x34 h32 => (if x34 = 0 then some (.inl (some (.int 0)), h32) else jm_O h32 p0 1 (jc_I (jm_D d mX1_part [.ref p0, .int 0] h32) (fun x38 h36 => (if x38 = 0 then some (.inl (some (.int 0)), h36) else jm_O h36 p0 1 (jc_I (jm_D d mX1_take [.ref p0, .int 24] h36) (fun x42 h40 => (if x42 = 0 then some (.inl (some (.int 0)), h40) else some (.inl (some (.int 1)), h40))) jx))) jx))) jx))) jx) else (if x7 = 4 then jm_O h10 p0 1 (jc_I (jm_D d mX1_take [.ref p0, .int 35] h10) (fun x59 h57 => (if x59 = 0 then some (.inl (some (.int 0)), h57) else jm_O h57 p0 1 (jc_I (jm_D d mX1_sees [.ref p0, .int 24] h57) (fun x63 h61 => (if x63 = 0 then jm_O h61 p0 1 (jc_I (jm_D d mX1_when [.ref p0] h61) (fun x74 h72 => (if x74 = 0 then some (.inl (some (.int 0)), h72) else jm_O h72 p0 1 (jc_I (jm_D d mX1_take [.ref p0, .int 24] h72) (fun x78 h76 => (if x78 = 0 then some (.inl (some (.int 0)), h76) else some (.inl (some (.int 1)), h76))) jx))) jx) else jm_O h61 p0 1 (jc_I (jm_D d mX1_take [.ref p0, .int 24] h61) (fun x67 h65 => (if x67 = 0 then some (.inl (some (.int 0)), h65) else some (.inl (some (.int 1)), h65))) jx))) jx))) jx) else (if x7 = 5 then jm_O h10 p0 1 (jc_I (jm_D d mX1_take [.ref p0, .int 35] h10) (fun x95 h93 => (if x95 = 0 then some (.inl (some (.int 0)), h93) else jm_O h93 p0 1 (jc_I (jm_D d mX1_take [.ref p0, .int 6] h93) (fun x99 h97 => (if x99 = 0 then some (.inl (some (.int 0)), h97) else jm_O h97 p0 1 (jc_I (jm_D d mX1_take [.ref p0, .int 35] h97) (fun x103 h101 => (if x103 = 0 then some (.inl (some (.int 0)), h101) else jm_O h101 p0 1 (jc_I (jm_D d mX1_when [.ref p0] h101) (fun x107 h105 => (if x107 = 0 then some (.inl (some (.int 0)), h105) else jm_O h105 p0 1 (jc_I (jm_D d mX1_take [.ref p0, .int 24] h105) (fun x111 h109 => (if x111 = 0 then some (.inl (some (.int 0)), h109) else some (.inl (some (.int 1)), h109))) jx))) jx))) jx))) jx))) jx) else (if x7 = 7 then jm_O h10 p0 1 (jc_I (jm_D d mX1_take [.ref p0, .int 35] h10) (fun x131 h129 => (if x131 = 0 then some (.inl (some (.int 0)), h129) else jm_O h129 p0 1 (jc_I (jm_D d mX1_when [.ref p0] h129) (fun x135 h133 => (if x135 = 0 then some (.inl (some (.int 0)), h133) else jm_O h133 p0 1 (jc_I (jm_D d mX1_take [.ref p0, .int 24] h133) (fun x139 h137 => (if x139 = 0 then some (.inl (some (.int 0)), h137) else some (.inl (some (.int 1)), h137))) jx))) jx))) jx) else (jr_I h10 p0 1 2 0).bind fun x150 => (jm_pf h10 p0 1 2 0 (.int (x150 - 1))).bind fun h152 => some (.inl (some (.int 0)), h152))))))) jx)) = some r) : jm_D (d + 1) mX1_line [.ref p0] h = some r := by
  rw [jm_D_body (Nat.le_of_ble_eq_true rfl)]
  show jm_B d mX1_line (0, [some (.ref p0), none], []) h = some r
  refine Eq.trans (jb_nx (i := .aload_n 0) (n := 1) (q := (1, [some (.ref p0), none], [.ref p0])) (jq qX1_line 0 rfl) rfl) ?_
  obtain ⟨a1, e2, H⟩ := jbd H
  refine Eq.trans (jb_nx (i := .getfield 9) (n := 3) (q := (4, [some (.ref p0), none], [.ref a1])) (jq qX1_line 1 rfl) (jo_gf rfl (jr_R_inv e2))) ?_
  refine Eq.trans (jb_nx (i := .aload_n 0) (n := 1) (q := (5, [some (.ref p0), none], [.ref p0, .ref a1])) (jq qX1_line 2 rfl) rfl) ?_
  obtain ⟨x3, e4, H⟩ := jbd H
  refine Eq.trans (jb_nx (i := .getfield 19) (n := 3) (q := (8, [some (.ref p0), none], [.int x3, .ref a1])) (jq qX1_line 3 rfl) (jo_gf rfl (jr_I_inv e4))) ?_
  obtain ⟨b154, H⟩ := jm_O_inv H
  rcases jcI H with ⟨x7, h5, r6, H⟩ | ⟨w155, h156, r6, H⟩
  · refine Eq.trans (jb_nx (i := .invokevirtual 31) (n := 3) (q := (11, [some (.ref p0), none], [.int x7])) (jq qX1_line 4 rfl) (jo_cv (y := mX9_kindAt) rfl (Nat.le_of_ble_eq_true rfl) rfl (Nat.le_of_ble_eq_true rfl) b154 rfl r6 jo_ret)) ?_
    refine Eq.trans (jb_nx (i := .istore_n 1) (n := 1) (q := (12, [some (.ref p0), some (.int x7)], [])) (jq qX1_line 5 rfl) rfl) ?_
    refine Eq.trans (jb_nx (i := .aload_n 0) (n := 1) (q := (13, [some (.ref p0), some (.int x7)], [.ref p0])) (jq qX1_line 6 rfl) rfl) ?_
    refine Eq.trans (jb_nx (i := .dup) (n := 1) (q := (14, [some (.ref p0), some (.int x7)], [.ref p0, .ref p0])) (jq qX1_line 7 rfl) rfl) ?_
    obtain ⟨x8, e9, H⟩ := jbd H
    refine Eq.trans (jb_nx (i := .getfield 19) (n := 3) (q := (17, [some (.ref p0), some (.int x7)], [.int x8, .ref p0])) (jq qX1_line 8 rfl) (jo_gf rfl (jr_I_inv e9))) ?_
    refine Eq.trans (jb_nx (i := .iconst 1) (n := 1) (q := (18, [some (.ref p0), some (.int x7)], [.int 1, .int x8, .ref p0])) (jq qX1_line 9 rfl) rfl) ?_
    refine Eq.trans (jb_nx (i := .iadd) (n := 1) (q := (19, [some (.ref p0), some (.int x7)], [.int (x8 + 1), .ref p0])) (jq qX1_line 10 rfl) rfl) ?_
    obtain ⟨h10, e11, H⟩ := jbd H
    refine Eq.trans (jb_nx (i := .putfield 19) (n := 3) (q := (22, [some (.ref p0), some (.int x7)], [])) (jq qX1_line 11 rfl) (jo_pf rfl (Or.inl rfl) e11)) ?_
    refine Eq.trans (jb_nx (i := .iload_n 1) (n := 1) (q := (23, [some (.ref p0), some (.int x7)], [.int x7])) (jq qX1_line 12 rfl) rfl) ?_
    by_cases c12 : x7 = 0
    · rw [if_pos c12] at H
      refine Eq.trans (jb_nx (i := .tableswitch 229 0 7 #[45, 69, 229, 229, 109, 149, 229, 198]) (n := 45) (q := (68, [some (.ref p0), some (.int x7)], [])) (jq qX1_line 13 rfl) (by rw [c12]; rfl)) ?_
      refine Eq.trans (jb_nx (i := .aload_n 0) (n := 1) (q := (69, [some (.ref p0), some (.int x7)], [.ref p0])) (jq qX1_line 14 rfl) rfl) ?_
      refine Eq.trans (jb_nx (i := .bipush 35) (n := 2) (q := (71, [some (.ref p0), some (.int x7)], [.int 35, .ref p0])) (jq qX1_line 15 rfl) rfl) ?_
      obtain ⟨b24, H⟩ := jm_O_inv H
      rcases jcI H with ⟨x15, h13, r14, H⟩ | ⟨w25, h26, r14, H⟩
      · refine Eq.trans (jb_nx (i := .invokevirtual 37) (n := 3) (q := (74, [some (.ref p0), some (.int x7)], [.int x15])) (jq qX1_line 16 rfl) (jo_cv (y := mX1_take) rfl (Nat.le_of_ble_eq_true rfl) rfl (Nat.le_of_ble_eq_true rfl) b24 rfl r14 jo_ret)) ?_
        by_cases c16 : x15 = 0
        · rw [if_pos c16] at H
          refine Eq.trans (jb_nx (i := .ifCond .eq 16) (n := 3) (q := (90, [some (.ref p0), some (.int x7)], [])) (jq qX1_line 17 rfl) (jo_ifT (jz_eqT c16) rfl)) ?_
          refine Eq.trans (jb_nx (i := .iconst 0) (n := 1) (q := (91, [some (.ref p0), some (.int x7)], [.int 0])) (jq qX1_line 24 rfl) rfl) ?_
          exact Eq.trans (jb_rt (i := .ireturn) (n := 1) (jq qX1_line 25 rfl) (jo_iret rfl (by decide))) H
        · rw [if_neg c16] at H
          refine Eq.trans (jb_nx (i := .ifCond .eq 16) (n := 3) (q := (77, [some (.ref p0), some (.int x7)], [])) (jq qX1_line 17 rfl) (jo_ifF (jz_eqF c16))) ?_
          refine Eq.trans (jb_nx (i := .aload_n 0) (n := 1) (q := (78, [some (.ref p0), some (.int x7)], [.ref p0])) (jq qX1_line 18 rfl) rfl) ?_
          refine Eq.trans (jb_nx (i := .bipush 24) (n := 2) (q := (80, [some (.ref p0), some (.int x7)], [.int 24, .ref p0])) (jq qX1_line 19 rfl) rfl) ?_
          obtain ⟨b21, H⟩ := jm_O_inv H
          rcases jcI H with ⟨x19, h17, r18, H⟩ | ⟨w22, h23, r18, H⟩
          · refine Eq.trans (jb_nx (i := .invokevirtual 37) (n := 3) (q := (83, [some (.ref p0), some (.int x7)], [.int x19])) (jq qX1_line 20 rfl) (jo_cv (y := mX1_take) rfl (Nat.le_of_ble_eq_true rfl) rfl (Nat.le_of_ble_eq_true rfl) b21 rfl r18 jo_ret)) ?_
            by_cases c20 : x19 = 0
            · rw [if_pos c20] at H
              refine Eq.trans (jb_nx (i := .ifCond .eq 7) (n := 3) (q := (90, [some (.ref p0), some (.int x7)], [])) (jq qX1_line 21 rfl) (jo_ifT (jz_eqT c20) rfl)) ?_
              refine Eq.trans (jb_nx (i := .iconst 0) (n := 1) (q := (91, [some (.ref p0), some (.int x7)], [.int 0])) (jq qX1_line 24 rfl) rfl) ?_
              exact Eq.trans (jb_rt (i := .ireturn) (n := 1) (jq qX1_line 25 rfl) (jo_iret rfl (by decide))) H
            · rw [if_neg c20] at H
              refine Eq.trans (jb_nx (i := .ifCond .eq 7) (n := 3) (q := (86, [some (.ref p0), some (.int x7)], [])) (jq qX1_line 21 rfl) (jo_ifF (jz_eqF c20))) ?_
              refine Eq.trans (jb_nx (i := .iconst 1) (n := 1) (q := (87, [some (.ref p0), some (.int x7)], [.int 1])) (jq qX1_line 22 rfl) rfl) ?_
              refine Eq.trans (jb_nx (i := .goto 4) (n := 3) (q := (91, [some (.ref p0), some (.int x7)], [.int 1])) (jq qX1_line 23 rfl) rfl) ?_
              exact Eq.trans (jb_rt (i := .ireturn) (n := 1) (jq qX1_line 25 rfl) (jo_iret rfl (by decide))) H
          · exact Eq.trans (jb_rt (i := .invokevirtual 37) (n := 3) (jq qX1_line 20 rfl) (jo_cv (y := mX1_take) rfl (Nat.le_of_ble_eq_true rfl) rfl (Nat.le_of_ble_eq_true rfl) b21 rfl r18 (jo_exn rfl))) H
      · exact Eq.trans (jb_rt (i := .invokevirtual 37) (n := 3) (jq qX1_line 16 rfl) (jo_cv (y := mX1_take) rfl (Nat.le_of_ble_eq_true rfl) rfl (Nat.le_of_ble_eq_true rfl) b24 rfl r14 (jo_exn rfl))) H
    · rw [if_neg c12] at H
      by_cases c27 : x7 = 1
      · rw [if_pos c27] at H
        refine Eq.trans (jb_nx (i := .tableswitch 229 0 7 #[45, 69, 229, 229, 109, 149, 229, 198]) (n := 45) (q := (92, [some (.ref p0), some (.int x7)], [])) (jq qX1_line 13 rfl) (by rw [c27]; rfl)) ?_
        refine Eq.trans (jb_nx (i := .aload_n 0) (n := 1) (q := (93, [some (.ref p0), some (.int x7)], [.ref p0])) (jq qX1_line 26 rfl) rfl) ?_
        refine Eq.trans (jb_nx (i := .bipush 35) (n := 2) (q := (95, [some (.ref p0), some (.int x7)], [.int 35, .ref p0])) (jq qX1_line 27 rfl) rfl) ?_
        obtain ⟨b53, H⟩ := jm_O_inv H
        rcases jcI H with ⟨x30, h28, r29, H⟩ | ⟨w54, h55, r29, H⟩
        · refine Eq.trans (jb_nx (i := .invokevirtual 37) (n := 3) (q := (98, [some (.ref p0), some (.int x7)], [.int x30])) (jq qX1_line 28 rfl) (jo_cv (y := mX1_take) rfl (Nat.le_of_ble_eq_true rfl) rfl (Nat.le_of_ble_eq_true rfl) b53 rfl r29 jo_ret)) ?_
          by_cases c31 : x30 = 0
          · rw [if_pos c31] at H
            refine Eq.trans (jb_nx (i := .ifCond .eq 32) (n := 3) (q := (130, [some (.ref p0), some (.int x7)], [])) (jq qX1_line 29 rfl) (jo_ifT (jz_eqT c31) rfl)) ?_
            refine Eq.trans (jb_nx (i := .iconst 0) (n := 1) (q := (131, [some (.ref p0), some (.int x7)], [.int 0])) (jq qX1_line 44 rfl) rfl) ?_
            exact Eq.trans (jb_rt (i := .ireturn) (n := 1) (jq qX1_line 45 rfl) (jo_iret rfl (by decide))) H
          · rw [if_neg c31] at H
            refine Eq.trans (jb_nx (i := .ifCond .eq 32) (n := 3) (q := (101, [some (.ref p0), some (.int x7)], [])) (jq qX1_line 29 rfl) (jo_ifF (jz_eqF c31))) ?_
            refine Eq.trans (jb_nx (i := .aload_n 0) (n := 1) (q := (102, [some (.ref p0), some (.int x7)], [.ref p0])) (jq qX1_line 30 rfl) rfl) ?_
            refine Eq.trans (jb_nx (i := .iconst 2) (n := 1) (q := (103, [some (.ref p0), some (.int x7)], [.int 2, .ref p0])) (jq qX1_line 31 rfl) rfl) ?_
            obtain ⟨b50, H⟩ := jm_O_inv H
            rcases jcI H with ⟨x34, h32, r33, H⟩ | ⟨w51, h52, r33, H⟩
            · refine Eq.trans (jb_nx (i := .invokevirtual 37) (n := 3) (q := (106, [some (.ref p0), some (.int x7)], [.int x34])) (jq qX1_line 32 rfl) (jo_cv (y := mX1_take) rfl (Nat.le_of_ble_eq_true rfl) rfl (Nat.le_of_ble_eq_true rfl) b50 rfl r33 jo_ret)) ?_
              by_cases c35 : x34 = 0
              · rw [if_pos c35] at H
                refine Eq.trans (jb_nx (i := .ifCond .eq 24) (n := 3) (q := (130, [some (.ref p0), some (.int x7)], [])) (jq qX1_line 33 rfl) (jo_ifT (jz_eqT c35) rfl)) ?_
                refine Eq.trans (jb_nx (i := .iconst 0) (n := 1) (q := (131, [some (.ref p0), some (.int x7)], [.int 0])) (jq qX1_line 44 rfl) rfl) ?_
                exact Eq.trans (jb_rt (i := .ireturn) (n := 1) (jq qX1_line 45 rfl) (jo_iret rfl (by decide))) H
              · rw [if_neg c35] at H
                refine Eq.trans (jb_nx (i := .ifCond .eq 24) (n := 3) (q := (109, [some (.ref p0), some (.int x7)], [])) (jq qX1_line 33 rfl) (jo_ifF (jz_eqF c35))) ?_
                refine Eq.trans (jb_nx (i := .aload_n 0) (n := 1) (q := (110, [some (.ref p0), some (.int x7)], [.ref p0])) (jq qX1_line 34 rfl) rfl) ?_
                refine Eq.trans (jb_nx (i := .iconst 0) (n := 1) (q := (111, [some (.ref p0), some (.int x7)], [.int 0, .ref p0])) (jq qX1_line 35 rfl) rfl) ?_
                obtain ⟨b47, H⟩ := jm_O_inv H
                rcases jcI H with ⟨x38, h36, r37, H⟩ | ⟨w48, h49, r37, H⟩
                · refine Eq.trans (jb_nx (i := .invokevirtual 40) (n := 3) (q := (114, [some (.ref p0), some (.int x7)], [.int x38])) (jq qX1_line 36 rfl) (jo_cv (y := mX1_part) rfl (Nat.le_of_ble_eq_true rfl) rfl (Nat.le_of_ble_eq_true rfl) b47 rfl r37 jo_ret)) ?_
                  by_cases c39 : x38 = 0
                  · rw [if_pos c39] at H
                    refine Eq.trans (jb_nx (i := .ifCond .eq 16) (n := 3) (q := (130, [some (.ref p0), some (.int x7)], [])) (jq qX1_line 37 rfl) (jo_ifT (jz_eqT c39) rfl)) ?_
                    refine Eq.trans (jb_nx (i := .iconst 0) (n := 1) (q := (131, [some (.ref p0), some (.int x7)], [.int 0])) (jq qX1_line 44 rfl) rfl) ?_
                    exact Eq.trans (jb_rt (i := .ireturn) (n := 1) (jq qX1_line 45 rfl) (jo_iret rfl (by decide))) H
                  · rw [if_neg c39] at H
                    refine Eq.trans (jb_nx (i := .ifCond .eq 16) (n := 3) (q := (117, [some (.ref p0), some (.int x7)], [])) (jq qX1_line 37 rfl) (jo_ifF (jz_eqF c39))) ?_
                    refine Eq.trans (jb_nx (i := .aload_n 0) (n := 1) (q := (118, [some (.ref p0), some (.int x7)], [.ref p0])) (jq qX1_line 38 rfl) rfl) ?_
                    refine Eq.trans (jb_nx (i := .bipush 24) (n := 2) (q := (120, [some (.ref p0), some (.int x7)], [.int 24, .ref p0])) (jq qX1_line 39 rfl) rfl) ?_
                    obtain ⟨b44, H⟩ := jm_O_inv H
                    rcases jcI H with ⟨x42, h40, r41, H⟩ | ⟨w45, h46, r41, H⟩
                    · refine Eq.trans (jb_nx (i := .invokevirtual 37) (n := 3) (q := (123, [some (.ref p0), some (.int x7)], [.int x42])) (jq qX1_line 40 rfl) (jo_cv (y := mX1_take) rfl (Nat.le_of_ble_eq_true rfl) rfl (Nat.le_of_ble_eq_true rfl) b44 rfl r41 jo_ret)) ?_
                      by_cases c43 : x42 = 0
                      · rw [if_pos c43] at H
                        refine Eq.trans (jb_nx (i := .ifCond .eq 7) (n := 3) (q := (130, [some (.ref p0), some (.int x7)], [])) (jq qX1_line 41 rfl) (jo_ifT (jz_eqT c43) rfl)) ?_
                        refine Eq.trans (jb_nx (i := .iconst 0) (n := 1) (q := (131, [some (.ref p0), some (.int x7)], [.int 0])) (jq qX1_line 44 rfl) rfl) ?_
                        exact Eq.trans (jb_rt (i := .ireturn) (n := 1) (jq qX1_line 45 rfl) (jo_iret rfl (by decide))) H
                      · rw [if_neg c43] at H
                        refine Eq.trans (jb_nx (i := .ifCond .eq 7) (n := 3) (q := (126, [some (.ref p0), some (.int x7)], [])) (jq qX1_line 41 rfl) (jo_ifF (jz_eqF c43))) ?_
                        refine Eq.trans (jb_nx (i := .iconst 1) (n := 1) (q := (127, [some (.ref p0), some (.int x7)], [.int 1])) (jq qX1_line 42 rfl) rfl) ?_
                        refine Eq.trans (jb_nx (i := .goto 4) (n := 3) (q := (131, [some (.ref p0), some (.int x7)], [.int 1])) (jq qX1_line 43 rfl) rfl) ?_
                        exact Eq.trans (jb_rt (i := .ireturn) (n := 1) (jq qX1_line 45 rfl) (jo_iret rfl (by decide))) H
                    · exact Eq.trans (jb_rt (i := .invokevirtual 37) (n := 3) (jq qX1_line 40 rfl) (jo_cv (y := mX1_take) rfl (Nat.le_of_ble_eq_true rfl) rfl (Nat.le_of_ble_eq_true rfl) b44 rfl r41 (jo_exn rfl))) H
                · exact Eq.trans (jb_rt (i := .invokevirtual 40) (n := 3) (jq qX1_line 36 rfl) (jo_cv (y := mX1_part) rfl (Nat.le_of_ble_eq_true rfl) rfl (Nat.le_of_ble_eq_true rfl) b47 rfl r37 (jo_exn rfl))) H
            · exact Eq.trans (jb_rt (i := .invokevirtual 37) (n := 3) (jq qX1_line 32 rfl) (jo_cv (y := mX1_take) rfl (Nat.le_of_ble_eq_true rfl) rfl (Nat.le_of_ble_eq_true rfl) b50 rfl r33 (jo_exn rfl))) H
        · exact Eq.trans (jb_rt (i := .invokevirtual 37) (n := 3) (jq qX1_line 28 rfl) (jo_cv (y := mX1_take) rfl (Nat.le_of_ble_eq_true rfl) rfl (Nat.le_of_ble_eq_true rfl) b53 rfl r29 (jo_exn rfl))) H
      · rw [if_neg c27] at H
        by_cases c56 : x7 = 4
        · rw [if_pos c56] at H
          refine Eq.trans (jb_nx (i := .tableswitch 229 0 7 #[45, 69, 229, 229, 109, 149, 229, 198]) (n := 45) (q := (132, [some (.ref p0), some (.int x7)], [])) (jq qX1_line 13 rfl) (by rw [c56]; rfl)) ?_
          refine Eq.trans (jb_nx (i := .aload_n 0) (n := 1) (q := (133, [some (.ref p0), some (.int x7)], [.ref p0])) (jq qX1_line 46 rfl) rfl) ?_
          refine Eq.trans (jb_nx (i := .bipush 35) (n := 2) (q := (135, [some (.ref p0), some (.int x7)], [.int 35, .ref p0])) (jq qX1_line 47 rfl) rfl) ?_
          obtain ⟨b89, H⟩ := jm_O_inv H
          rcases jcI H with ⟨x59, h57, r58, H⟩ | ⟨w90, h91, r58, H⟩
          · refine Eq.trans (jb_nx (i := .invokevirtual 37) (n := 3) (q := (138, [some (.ref p0), some (.int x7)], [.int x59])) (jq qX1_line 48 rfl) (jo_cv (y := mX1_take) rfl (Nat.le_of_ble_eq_true rfl) rfl (Nat.le_of_ble_eq_true rfl) b89 rfl r58 jo_ret)) ?_
            by_cases c60 : x59 = 0
            · rw [if_pos c60] at H
              refine Eq.trans (jb_nx (i := .ifCond .eq 32) (n := 3) (q := (170, [some (.ref p0), some (.int x7)], [])) (jq qX1_line 49 rfl) (jo_ifT (jz_eqT c60) rfl)) ?_
              refine Eq.trans (jb_nx (i := .iconst 0) (n := 1) (q := (171, [some (.ref p0), some (.int x7)], [.int 0])) (jq qX1_line 63 rfl) rfl) ?_
              exact Eq.trans (jb_rt (i := .ireturn) (n := 1) (jq qX1_line 64 rfl) (jo_iret rfl (by decide))) H
            · rw [if_neg c60] at H
              refine Eq.trans (jb_nx (i := .ifCond .eq 32) (n := 3) (q := (141, [some (.ref p0), some (.int x7)], [])) (jq qX1_line 49 rfl) (jo_ifF (jz_eqF c60))) ?_
              refine Eq.trans (jb_nx (i := .aload_n 0) (n := 1) (q := (142, [some (.ref p0), some (.int x7)], [.ref p0])) (jq qX1_line 50 rfl) rfl) ?_
              refine Eq.trans (jb_nx (i := .bipush 24) (n := 2) (q := (144, [some (.ref p0), some (.int x7)], [.int 24, .ref p0])) (jq qX1_line 51 rfl) rfl) ?_
              obtain ⟨b86, H⟩ := jm_O_inv H
              rcases jcI H with ⟨x63, h61, r62, H⟩ | ⟨w87, h88, r62, H⟩
              · refine Eq.trans (jb_nx (i := .invokevirtual 23) (n := 3) (q := (147, [some (.ref p0), some (.int x7)], [.int x63])) (jq qX1_line 52 rfl) (jo_cv (y := mX1_sees) rfl (Nat.le_of_ble_eq_true rfl) rfl (Nat.le_of_ble_eq_true rfl) b86 rfl r62 jo_ret)) ?_
                by_cases c64 : x63 = 0
                · rw [if_pos c64] at H
                  refine Eq.trans (jb_nx (i := .ifCond .ne 10) (n := 3) (q := (150, [some (.ref p0), some (.int x7)], [])) (jq qX1_line 53 rfl) (jo_ifF (jz_neF c64))) ?_
                  refine Eq.trans (jb_nx (i := .aload_n 0) (n := 1) (q := (151, [some (.ref p0), some (.int x7)], [.ref p0])) (jq qX1_line 54 rfl) rfl) ?_
                  obtain ⟨b83, H⟩ := jm_O_inv H
                  rcases jcI H with ⟨x74, h72, r73, H⟩ | ⟨w84, h85, r73, H⟩
                  · refine Eq.trans (jb_nx (i := .invokevirtual 43) (n := 3) (q := (154, [some (.ref p0), some (.int x7)], [.int x74])) (jq qX1_line 55 rfl) (jo_cv (y := mX1_when) rfl (Nat.le_of_ble_eq_true rfl) rfl (Nat.le_of_ble_eq_true rfl) b83 rfl r73 jo_ret)) ?_
                    by_cases c75 : x74 = 0
                    · rw [if_pos c75] at H
                      refine Eq.trans (jb_nx (i := .ifCond .eq 16) (n := 3) (q := (170, [some (.ref p0), some (.int x7)], [])) (jq qX1_line 56 rfl) (jo_ifT (jz_eqT c75) rfl)) ?_
                      refine Eq.trans (jb_nx (i := .iconst 0) (n := 1) (q := (171, [some (.ref p0), some (.int x7)], [.int 0])) (jq qX1_line 63 rfl) rfl) ?_
                      exact Eq.trans (jb_rt (i := .ireturn) (n := 1) (jq qX1_line 64 rfl) (jo_iret rfl (by decide))) H
                    · rw [if_neg c75] at H
                      refine Eq.trans (jb_nx (i := .ifCond .eq 16) (n := 3) (q := (157, [some (.ref p0), some (.int x7)], [])) (jq qX1_line 56 rfl) (jo_ifF (jz_eqF c75))) ?_
                      refine Eq.trans (jb_nx (i := .aload_n 0) (n := 1) (q := (158, [some (.ref p0), some (.int x7)], [.ref p0])) (jq qX1_line 57 rfl) rfl) ?_
                      refine Eq.trans (jb_nx (i := .bipush 24) (n := 2) (q := (160, [some (.ref p0), some (.int x7)], [.int 24, .ref p0])) (jq qX1_line 58 rfl) rfl) ?_
                      obtain ⟨b80, H⟩ := jm_O_inv H
                      rcases jcI H with ⟨x78, h76, r77, H⟩ | ⟨w81, h82, r77, H⟩
                      · refine Eq.trans (jb_nx (i := .invokevirtual 37) (n := 3) (q := (163, [some (.ref p0), some (.int x7)], [.int x78])) (jq qX1_line 59 rfl) (jo_cv (y := mX1_take) rfl (Nat.le_of_ble_eq_true rfl) rfl (Nat.le_of_ble_eq_true rfl) b80 rfl r77 jo_ret)) ?_
                        by_cases c79 : x78 = 0
                        · rw [if_pos c79] at H
                          refine Eq.trans (jb_nx (i := .ifCond .eq 7) (n := 3) (q := (170, [some (.ref p0), some (.int x7)], [])) (jq qX1_line 60 rfl) (jo_ifT (jz_eqT c79) rfl)) ?_
                          refine Eq.trans (jb_nx (i := .iconst 0) (n := 1) (q := (171, [some (.ref p0), some (.int x7)], [.int 0])) (jq qX1_line 63 rfl) rfl) ?_
                          exact Eq.trans (jb_rt (i := .ireturn) (n := 1) (jq qX1_line 64 rfl) (jo_iret rfl (by decide))) H
                        · rw [if_neg c79] at H
                          refine Eq.trans (jb_nx (i := .ifCond .eq 7) (n := 3) (q := (166, [some (.ref p0), some (.int x7)], [])) (jq qX1_line 60 rfl) (jo_ifF (jz_eqF c79))) ?_
                          refine Eq.trans (jb_nx (i := .iconst 1) (n := 1) (q := (167, [some (.ref p0), some (.int x7)], [.int 1])) (jq qX1_line 61 rfl) rfl) ?_
                          refine Eq.trans (jb_nx (i := .goto 4) (n := 3) (q := (171, [some (.ref p0), some (.int x7)], [.int 1])) (jq qX1_line 62 rfl) rfl) ?_
                          exact Eq.trans (jb_rt (i := .ireturn) (n := 1) (jq qX1_line 64 rfl) (jo_iret rfl (by decide))) H
                      · exact Eq.trans (jb_rt (i := .invokevirtual 37) (n := 3) (jq qX1_line 59 rfl) (jo_cv (y := mX1_take) rfl (Nat.le_of_ble_eq_true rfl) rfl (Nat.le_of_ble_eq_true rfl) b80 rfl r77 (jo_exn rfl))) H
                  · exact Eq.trans (jb_rt (i := .invokevirtual 43) (n := 3) (jq qX1_line 55 rfl) (jo_cv (y := mX1_when) rfl (Nat.le_of_ble_eq_true rfl) rfl (Nat.le_of_ble_eq_true rfl) b83 rfl r73 (jo_exn rfl))) H
                · rw [if_neg c64] at H
                  refine Eq.trans (jb_nx (i := .ifCond .ne 10) (n := 3) (q := (157, [some (.ref p0), some (.int x7)], [])) (jq qX1_line 53 rfl) (jo_ifT (jz_neT c64) rfl)) ?_
                  refine Eq.trans (jb_nx (i := .aload_n 0) (n := 1) (q := (158, [some (.ref p0), some (.int x7)], [.ref p0])) (jq qX1_line 57 rfl) rfl) ?_
                  refine Eq.trans (jb_nx (i := .bipush 24) (n := 2) (q := (160, [some (.ref p0), some (.int x7)], [.int 24, .ref p0])) (jq qX1_line 58 rfl) rfl) ?_
                  obtain ⟨b69, H⟩ := jm_O_inv H
                  rcases jcI H with ⟨x67, h65, r66, H⟩ | ⟨w70, h71, r66, H⟩
                  · refine Eq.trans (jb_nx (i := .invokevirtual 37) (n := 3) (q := (163, [some (.ref p0), some (.int x7)], [.int x67])) (jq qX1_line 59 rfl) (jo_cv (y := mX1_take) rfl (Nat.le_of_ble_eq_true rfl) rfl (Nat.le_of_ble_eq_true rfl) b69 rfl r66 jo_ret)) ?_
                    by_cases c68 : x67 = 0
                    · rw [if_pos c68] at H
                      refine Eq.trans (jb_nx (i := .ifCond .eq 7) (n := 3) (q := (170, [some (.ref p0), some (.int x7)], [])) (jq qX1_line 60 rfl) (jo_ifT (jz_eqT c68) rfl)) ?_
                      refine Eq.trans (jb_nx (i := .iconst 0) (n := 1) (q := (171, [some (.ref p0), some (.int x7)], [.int 0])) (jq qX1_line 63 rfl) rfl) ?_
                      exact Eq.trans (jb_rt (i := .ireturn) (n := 1) (jq qX1_line 64 rfl) (jo_iret rfl (by decide))) H
                    · rw [if_neg c68] at H
                      refine Eq.trans (jb_nx (i := .ifCond .eq 7) (n := 3) (q := (166, [some (.ref p0), some (.int x7)], [])) (jq qX1_line 60 rfl) (jo_ifF (jz_eqF c68))) ?_
                      refine Eq.trans (jb_nx (i := .iconst 1) (n := 1) (q := (167, [some (.ref p0), some (.int x7)], [.int 1])) (jq qX1_line 61 rfl) rfl) ?_
                      refine Eq.trans (jb_nx (i := .goto 4) (n := 3) (q := (171, [some (.ref p0), some (.int x7)], [.int 1])) (jq qX1_line 62 rfl) rfl) ?_
                      exact Eq.trans (jb_rt (i := .ireturn) (n := 1) (jq qX1_line 64 rfl) (jo_iret rfl (by decide))) H
                  · exact Eq.trans (jb_rt (i := .invokevirtual 37) (n := 3) (jq qX1_line 59 rfl) (jo_cv (y := mX1_take) rfl (Nat.le_of_ble_eq_true rfl) rfl (Nat.le_of_ble_eq_true rfl) b69 rfl r66 (jo_exn rfl))) H
              · exact Eq.trans (jb_rt (i := .invokevirtual 23) (n := 3) (jq qX1_line 52 rfl) (jo_cv (y := mX1_sees) rfl (Nat.le_of_ble_eq_true rfl) rfl (Nat.le_of_ble_eq_true rfl) b86 rfl r62 (jo_exn rfl))) H
          · exact Eq.trans (jb_rt (i := .invokevirtual 37) (n := 3) (jq qX1_line 48 rfl) (jo_cv (y := mX1_take) rfl (Nat.le_of_ble_eq_true rfl) rfl (Nat.le_of_ble_eq_true rfl) b89 rfl r58 (jo_exn rfl))) H
        · rw [if_neg c56] at H
          by_cases c92 : x7 = 5
          · rw [if_pos c92] at H
            refine Eq.trans (jb_nx (i := .tableswitch 229 0 7 #[45, 69, 229, 229, 109, 149, 229, 198]) (n := 45) (q := (172, [some (.ref p0), some (.int x7)], [])) (jq qX1_line 13 rfl) (by rw [c92]; rfl)) ?_
            refine Eq.trans (jb_nx (i := .aload_n 0) (n := 1) (q := (173, [some (.ref p0), some (.int x7)], [.ref p0])) (jq qX1_line 65 rfl) rfl) ?_
            refine Eq.trans (jb_nx (i := .bipush 35) (n := 2) (q := (175, [some (.ref p0), some (.int x7)], [.int 35, .ref p0])) (jq qX1_line 66 rfl) rfl) ?_
            obtain ⟨b125, H⟩ := jm_O_inv H
            rcases jcI H with ⟨x95, h93, r94, H⟩ | ⟨w126, h127, r94, H⟩
            · refine Eq.trans (jb_nx (i := .invokevirtual 37) (n := 3) (q := (178, [some (.ref p0), some (.int x7)], [.int x95])) (jq qX1_line 67 rfl) (jo_cv (y := mX1_take) rfl (Nat.le_of_ble_eq_true rfl) rfl (Nat.le_of_ble_eq_true rfl) b125 rfl r94 jo_ret)) ?_
              by_cases c96 : x95 = 0
              · rw [if_pos c96] at H
                refine Eq.trans (jb_nx (i := .ifCond .eq 41) (n := 3) (q := (219, [some (.ref p0), some (.int x7)], [])) (jq qX1_line 68 rfl) (jo_ifT (jz_eqT c96) rfl)) ?_
                refine Eq.trans (jb_nx (i := .iconst 0) (n := 1) (q := (220, [some (.ref p0), some (.int x7)], [.int 0])) (jq qX1_line 86 rfl) rfl) ?_
                exact Eq.trans (jb_rt (i := .ireturn) (n := 1) (jq qX1_line 87 rfl) (jo_iret rfl (by decide))) H
              · rw [if_neg c96] at H
                refine Eq.trans (jb_nx (i := .ifCond .eq 41) (n := 3) (q := (181, [some (.ref p0), some (.int x7)], [])) (jq qX1_line 68 rfl) (jo_ifF (jz_eqF c96))) ?_
                refine Eq.trans (jb_nx (i := .aload_n 0) (n := 1) (q := (182, [some (.ref p0), some (.int x7)], [.ref p0])) (jq qX1_line 69 rfl) rfl) ?_
                refine Eq.trans (jb_nx (i := .bipush 6) (n := 2) (q := (184, [some (.ref p0), some (.int x7)], [.int 6, .ref p0])) (jq qX1_line 70 rfl) rfl) ?_
                obtain ⟨b122, H⟩ := jm_O_inv H
                rcases jcI H with ⟨x99, h97, r98, H⟩ | ⟨w123, h124, r98, H⟩
                · refine Eq.trans (jb_nx (i := .invokevirtual 37) (n := 3) (q := (187, [some (.ref p0), some (.int x7)], [.int x99])) (jq qX1_line 71 rfl) (jo_cv (y := mX1_take) rfl (Nat.le_of_ble_eq_true rfl) rfl (Nat.le_of_ble_eq_true rfl) b122 rfl r98 jo_ret)) ?_
                  by_cases c100 : x99 = 0
                  · rw [if_pos c100] at H
                    refine Eq.trans (jb_nx (i := .ifCond .eq 32) (n := 3) (q := (219, [some (.ref p0), some (.int x7)], [])) (jq qX1_line 72 rfl) (jo_ifT (jz_eqT c100) rfl)) ?_
                    refine Eq.trans (jb_nx (i := .iconst 0) (n := 1) (q := (220, [some (.ref p0), some (.int x7)], [.int 0])) (jq qX1_line 86 rfl) rfl) ?_
                    exact Eq.trans (jb_rt (i := .ireturn) (n := 1) (jq qX1_line 87 rfl) (jo_iret rfl (by decide))) H
                  · rw [if_neg c100] at H
                    refine Eq.trans (jb_nx (i := .ifCond .eq 32) (n := 3) (q := (190, [some (.ref p0), some (.int x7)], [])) (jq qX1_line 72 rfl) (jo_ifF (jz_eqF c100))) ?_
                    refine Eq.trans (jb_nx (i := .aload_n 0) (n := 1) (q := (191, [some (.ref p0), some (.int x7)], [.ref p0])) (jq qX1_line 73 rfl) rfl) ?_
                    refine Eq.trans (jb_nx (i := .bipush 35) (n := 2) (q := (193, [some (.ref p0), some (.int x7)], [.int 35, .ref p0])) (jq qX1_line 74 rfl) rfl) ?_
                    obtain ⟨b119, H⟩ := jm_O_inv H
                    rcases jcI H with ⟨x103, h101, r102, H⟩ | ⟨w120, h121, r102, H⟩
                    · refine Eq.trans (jb_nx (i := .invokevirtual 37) (n := 3) (q := (196, [some (.ref p0), some (.int x7)], [.int x103])) (jq qX1_line 75 rfl) (jo_cv (y := mX1_take) rfl (Nat.le_of_ble_eq_true rfl) rfl (Nat.le_of_ble_eq_true rfl) b119 rfl r102 jo_ret)) ?_
                      by_cases c104 : x103 = 0
                      · rw [if_pos c104] at H
                        refine Eq.trans (jb_nx (i := .ifCond .eq 23) (n := 3) (q := (219, [some (.ref p0), some (.int x7)], [])) (jq qX1_line 76 rfl) (jo_ifT (jz_eqT c104) rfl)) ?_
                        refine Eq.trans (jb_nx (i := .iconst 0) (n := 1) (q := (220, [some (.ref p0), some (.int x7)], [.int 0])) (jq qX1_line 86 rfl) rfl) ?_
                        exact Eq.trans (jb_rt (i := .ireturn) (n := 1) (jq qX1_line 87 rfl) (jo_iret rfl (by decide))) H
                      · rw [if_neg c104] at H
                        refine Eq.trans (jb_nx (i := .ifCond .eq 23) (n := 3) (q := (199, [some (.ref p0), some (.int x7)], [])) (jq qX1_line 76 rfl) (jo_ifF (jz_eqF c104))) ?_
                        refine Eq.trans (jb_nx (i := .aload_n 0) (n := 1) (q := (200, [some (.ref p0), some (.int x7)], [.ref p0])) (jq qX1_line 77 rfl) rfl) ?_
                        obtain ⟨b116, H⟩ := jm_O_inv H
                        rcases jcI H with ⟨x107, h105, r106, H⟩ | ⟨w117, h118, r106, H⟩
                        · refine Eq.trans (jb_nx (i := .invokevirtual 43) (n := 3) (q := (203, [some (.ref p0), some (.int x7)], [.int x107])) (jq qX1_line 78 rfl) (jo_cv (y := mX1_when) rfl (Nat.le_of_ble_eq_true rfl) rfl (Nat.le_of_ble_eq_true rfl) b116 rfl r106 jo_ret)) ?_
                          by_cases c108 : x107 = 0
                          · rw [if_pos c108] at H
                            refine Eq.trans (jb_nx (i := .ifCond .eq 16) (n := 3) (q := (219, [some (.ref p0), some (.int x7)], [])) (jq qX1_line 79 rfl) (jo_ifT (jz_eqT c108) rfl)) ?_
                            refine Eq.trans (jb_nx (i := .iconst 0) (n := 1) (q := (220, [some (.ref p0), some (.int x7)], [.int 0])) (jq qX1_line 86 rfl) rfl) ?_
                            exact Eq.trans (jb_rt (i := .ireturn) (n := 1) (jq qX1_line 87 rfl) (jo_iret rfl (by decide))) H
                          · rw [if_neg c108] at H
                            refine Eq.trans (jb_nx (i := .ifCond .eq 16) (n := 3) (q := (206, [some (.ref p0), some (.int x7)], [])) (jq qX1_line 79 rfl) (jo_ifF (jz_eqF c108))) ?_
                            refine Eq.trans (jb_nx (i := .aload_n 0) (n := 1) (q := (207, [some (.ref p0), some (.int x7)], [.ref p0])) (jq qX1_line 80 rfl) rfl) ?_
                            refine Eq.trans (jb_nx (i := .bipush 24) (n := 2) (q := (209, [some (.ref p0), some (.int x7)], [.int 24, .ref p0])) (jq qX1_line 81 rfl) rfl) ?_
                            obtain ⟨b113, H⟩ := jm_O_inv H
                            rcases jcI H with ⟨x111, h109, r110, H⟩ | ⟨w114, h115, r110, H⟩
                            · refine Eq.trans (jb_nx (i := .invokevirtual 37) (n := 3) (q := (212, [some (.ref p0), some (.int x7)], [.int x111])) (jq qX1_line 82 rfl) (jo_cv (y := mX1_take) rfl (Nat.le_of_ble_eq_true rfl) rfl (Nat.le_of_ble_eq_true rfl) b113 rfl r110 jo_ret)) ?_
                              by_cases c112 : x111 = 0
                              · rw [if_pos c112] at H
                                refine Eq.trans (jb_nx (i := .ifCond .eq 7) (n := 3) (q := (219, [some (.ref p0), some (.int x7)], [])) (jq qX1_line 83 rfl) (jo_ifT (jz_eqT c112) rfl)) ?_
                                refine Eq.trans (jb_nx (i := .iconst 0) (n := 1) (q := (220, [some (.ref p0), some (.int x7)], [.int 0])) (jq qX1_line 86 rfl) rfl) ?_
                                exact Eq.trans (jb_rt (i := .ireturn) (n := 1) (jq qX1_line 87 rfl) (jo_iret rfl (by decide))) H
                              · rw [if_neg c112] at H
                                refine Eq.trans (jb_nx (i := .ifCond .eq 7) (n := 3) (q := (215, [some (.ref p0), some (.int x7)], [])) (jq qX1_line 83 rfl) (jo_ifF (jz_eqF c112))) ?_
                                refine Eq.trans (jb_nx (i := .iconst 1) (n := 1) (q := (216, [some (.ref p0), some (.int x7)], [.int 1])) (jq qX1_line 84 rfl) rfl) ?_
                                refine Eq.trans (jb_nx (i := .goto 4) (n := 3) (q := (220, [some (.ref p0), some (.int x7)], [.int 1])) (jq qX1_line 85 rfl) rfl) ?_
                                exact Eq.trans (jb_rt (i := .ireturn) (n := 1) (jq qX1_line 87 rfl) (jo_iret rfl (by decide))) H
                            · exact Eq.trans (jb_rt (i := .invokevirtual 37) (n := 3) (jq qX1_line 82 rfl) (jo_cv (y := mX1_take) rfl (Nat.le_of_ble_eq_true rfl) rfl (Nat.le_of_ble_eq_true rfl) b113 rfl r110 (jo_exn rfl))) H
                        · exact Eq.trans (jb_rt (i := .invokevirtual 43) (n := 3) (jq qX1_line 78 rfl) (jo_cv (y := mX1_when) rfl (Nat.le_of_ble_eq_true rfl) rfl (Nat.le_of_ble_eq_true rfl) b116 rfl r106 (jo_exn rfl))) H
                    · exact Eq.trans (jb_rt (i := .invokevirtual 37) (n := 3) (jq qX1_line 75 rfl) (jo_cv (y := mX1_take) rfl (Nat.le_of_ble_eq_true rfl) rfl (Nat.le_of_ble_eq_true rfl) b119 rfl r102 (jo_exn rfl))) H
                · exact Eq.trans (jb_rt (i := .invokevirtual 37) (n := 3) (jq qX1_line 71 rfl) (jo_cv (y := mX1_take) rfl (Nat.le_of_ble_eq_true rfl) rfl (Nat.le_of_ble_eq_true rfl) b122 rfl r98 (jo_exn rfl))) H
            · exact Eq.trans (jb_rt (i := .invokevirtual 37) (n := 3) (jq qX1_line 67 rfl) (jo_cv (y := mX1_take) rfl (Nat.le_of_ble_eq_true rfl) rfl (Nat.le_of_ble_eq_true rfl) b125 rfl r94 (jo_exn rfl))) H
          · rw [if_neg c92] at H
            by_cases c128 : x7 = 7
            · rw [if_pos c128] at H
              refine Eq.trans (jb_nx (i := .tableswitch 229 0 7 #[45, 69, 229, 229, 109, 149, 229, 198]) (n := 45) (q := (221, [some (.ref p0), some (.int x7)], [])) (jq qX1_line 13 rfl) (by rw [c128]; rfl)) ?_
              refine Eq.trans (jb_nx (i := .aload_n 0) (n := 1) (q := (222, [some (.ref p0), some (.int x7)], [.ref p0])) (jq qX1_line 88 rfl) rfl) ?_
              refine Eq.trans (jb_nx (i := .bipush 35) (n := 2) (q := (224, [some (.ref p0), some (.int x7)], [.int 35, .ref p0])) (jq qX1_line 89 rfl) rfl) ?_
              obtain ⟨b147, H⟩ := jm_O_inv H
              rcases jcI H with ⟨x131, h129, r130, H⟩ | ⟨w148, h149, r130, H⟩
              · refine Eq.trans (jb_nx (i := .invokevirtual 37) (n := 3) (q := (227, [some (.ref p0), some (.int x7)], [.int x131])) (jq qX1_line 90 rfl) (jo_cv (y := mX1_take) rfl (Nat.le_of_ble_eq_true rfl) rfl (Nat.le_of_ble_eq_true rfl) b147 rfl r130 jo_ret)) ?_
                by_cases c132 : x131 = 0
                · rw [if_pos c132] at H
                  refine Eq.trans (jb_nx (i := .ifCond .eq 23) (n := 3) (q := (250, [some (.ref p0), some (.int x7)], [])) (jq qX1_line 91 rfl) (jo_ifT (jz_eqT c132) rfl)) ?_
                  refine Eq.trans (jb_nx (i := .iconst 0) (n := 1) (q := (251, [some (.ref p0), some (.int x7)], [.int 0])) (jq qX1_line 101 rfl) rfl) ?_
                  exact Eq.trans (jb_rt (i := .ireturn) (n := 1) (jq qX1_line 102 rfl) (jo_iret rfl (by decide))) H
                · rw [if_neg c132] at H
                  refine Eq.trans (jb_nx (i := .ifCond .eq 23) (n := 3) (q := (230, [some (.ref p0), some (.int x7)], [])) (jq qX1_line 91 rfl) (jo_ifF (jz_eqF c132))) ?_
                  refine Eq.trans (jb_nx (i := .aload_n 0) (n := 1) (q := (231, [some (.ref p0), some (.int x7)], [.ref p0])) (jq qX1_line 92 rfl) rfl) ?_
                  obtain ⟨b144, H⟩ := jm_O_inv H
                  rcases jcI H with ⟨x135, h133, r134, H⟩ | ⟨w145, h146, r134, H⟩
                  · refine Eq.trans (jb_nx (i := .invokevirtual 43) (n := 3) (q := (234, [some (.ref p0), some (.int x7)], [.int x135])) (jq qX1_line 93 rfl) (jo_cv (y := mX1_when) rfl (Nat.le_of_ble_eq_true rfl) rfl (Nat.le_of_ble_eq_true rfl) b144 rfl r134 jo_ret)) ?_
                    by_cases c136 : x135 = 0
                    · rw [if_pos c136] at H
                      refine Eq.trans (jb_nx (i := .ifCond .eq 16) (n := 3) (q := (250, [some (.ref p0), some (.int x7)], [])) (jq qX1_line 94 rfl) (jo_ifT (jz_eqT c136) rfl)) ?_
                      refine Eq.trans (jb_nx (i := .iconst 0) (n := 1) (q := (251, [some (.ref p0), some (.int x7)], [.int 0])) (jq qX1_line 101 rfl) rfl) ?_
                      exact Eq.trans (jb_rt (i := .ireturn) (n := 1) (jq qX1_line 102 rfl) (jo_iret rfl (by decide))) H
                    · rw [if_neg c136] at H
                      refine Eq.trans (jb_nx (i := .ifCond .eq 16) (n := 3) (q := (237, [some (.ref p0), some (.int x7)], [])) (jq qX1_line 94 rfl) (jo_ifF (jz_eqF c136))) ?_
                      refine Eq.trans (jb_nx (i := .aload_n 0) (n := 1) (q := (238, [some (.ref p0), some (.int x7)], [.ref p0])) (jq qX1_line 95 rfl) rfl) ?_
                      refine Eq.trans (jb_nx (i := .bipush 24) (n := 2) (q := (240, [some (.ref p0), some (.int x7)], [.int 24, .ref p0])) (jq qX1_line 96 rfl) rfl) ?_
                      obtain ⟨b141, H⟩ := jm_O_inv H
                      rcases jcI H with ⟨x139, h137, r138, H⟩ | ⟨w142, h143, r138, H⟩
                      · refine Eq.trans (jb_nx (i := .invokevirtual 37) (n := 3) (q := (243, [some (.ref p0), some (.int x7)], [.int x139])) (jq qX1_line 97 rfl) (jo_cv (y := mX1_take) rfl (Nat.le_of_ble_eq_true rfl) rfl (Nat.le_of_ble_eq_true rfl) b141 rfl r138 jo_ret)) ?_
                        by_cases c140 : x139 = 0
                        · rw [if_pos c140] at H
                          refine Eq.trans (jb_nx (i := .ifCond .eq 7) (n := 3) (q := (250, [some (.ref p0), some (.int x7)], [])) (jq qX1_line 98 rfl) (jo_ifT (jz_eqT c140) rfl)) ?_
                          refine Eq.trans (jb_nx (i := .iconst 0) (n := 1) (q := (251, [some (.ref p0), some (.int x7)], [.int 0])) (jq qX1_line 101 rfl) rfl) ?_
                          exact Eq.trans (jb_rt (i := .ireturn) (n := 1) (jq qX1_line 102 rfl) (jo_iret rfl (by decide))) H
                        · rw [if_neg c140] at H
                          refine Eq.trans (jb_nx (i := .ifCond .eq 7) (n := 3) (q := (246, [some (.ref p0), some (.int x7)], [])) (jq qX1_line 98 rfl) (jo_ifF (jz_eqF c140))) ?_
                          refine Eq.trans (jb_nx (i := .iconst 1) (n := 1) (q := (247, [some (.ref p0), some (.int x7)], [.int 1])) (jq qX1_line 99 rfl) rfl) ?_
                          refine Eq.trans (jb_nx (i := .goto 4) (n := 3) (q := (251, [some (.ref p0), some (.int x7)], [.int 1])) (jq qX1_line 100 rfl) rfl) ?_
                          exact Eq.trans (jb_rt (i := .ireturn) (n := 1) (jq qX1_line 102 rfl) (jo_iret rfl (by decide))) H
                      · exact Eq.trans (jb_rt (i := .invokevirtual 37) (n := 3) (jq qX1_line 97 rfl) (jo_cv (y := mX1_take) rfl (Nat.le_of_ble_eq_true rfl) rfl (Nat.le_of_ble_eq_true rfl) b141 rfl r138 (jo_exn rfl))) H
                  · exact Eq.trans (jb_rt (i := .invokevirtual 43) (n := 3) (jq qX1_line 93 rfl) (jo_cv (y := mX1_when) rfl (Nat.le_of_ble_eq_true rfl) rfl (Nat.le_of_ble_eq_true rfl) b144 rfl r134 (jo_exn rfl))) H
              · exact Eq.trans (jb_rt (i := .invokevirtual 37) (n := 3) (jq qX1_line 90 rfl) (jo_cv (y := mX1_take) rfl (Nat.le_of_ble_eq_true rfl) rfl (Nat.le_of_ble_eq_true rfl) b147 rfl r130 (jo_exn rfl))) H
            · rw [if_neg c128] at H
              refine Eq.trans (jb_nx (i := .tableswitch 229 0 7 #[45, 69, 229, 229, 109, 149, 229, 198]) (n := 45) (q := (252, [some (.ref p0), some (.int x7)], [])) (jq qX1_line 13 rfl) (jo_tabD (ks := [0, 1, 4, 5, 7]) (by decide +kernel) (by intro k hk; simp only [List.mem_cons, List.not_mem_nil, or_false] at hk; rcases hk with rfl | rfl | rfl | rfl | rfl; { exact jz_ti rfl c12 }; { exact jz_ti rfl c27 }; { exact jz_ti rfl c56 }; { exact jz_ti rfl c92 }; { exact jz_ti rfl c128 }) rfl)) ?_
              refine Eq.trans (jb_nx (i := .aload_n 0) (n := 1) (q := (253, [some (.ref p0), some (.int x7)], [.ref p0])) (jq qX1_line 103 rfl) rfl) ?_
              refine Eq.trans (jb_nx (i := .dup) (n := 1) (q := (254, [some (.ref p0), some (.int x7)], [.ref p0, .ref p0])) (jq qX1_line 104 rfl) rfl) ?_
              obtain ⟨x150, e151, H⟩ := jbd H
              refine Eq.trans (jb_nx (i := .getfield 19) (n := 3) (q := (257, [some (.ref p0), some (.int x7)], [.int x150, .ref p0])) (jq qX1_line 105 rfl) (jo_gf rfl (jr_I_inv e151))) ?_
              refine Eq.trans (jb_nx (i := .iconst 1) (n := 1) (q := (258, [some (.ref p0), some (.int x7)], [.int 1, .int x150, .ref p0])) (jq qX1_line 106 rfl) rfl) ?_
              refine Eq.trans (jb_nx (i := .isub) (n := 1) (q := (259, [some (.ref p0), some (.int x7)], [.int (x150 - 1), .ref p0])) (jq qX1_line 107 rfl) rfl) ?_
              obtain ⟨h152, e153, H⟩ := jbd H
              refine Eq.trans (jb_nx (i := .putfield 19) (n := 3) (q := (262, [some (.ref p0), some (.int x7)], [])) (jq qX1_line 108 rfl) (jo_pf rfl (Or.inl rfl) e153)) ?_
              refine Eq.trans (jb_nx (i := .iconst 0) (n := 1) (q := (263, [some (.ref p0), some (.int x7)], [.int 0])) (jq qX1_line 109 rfl) rfl) ?_
              exact Eq.trans (jb_rt (i := .ireturn) (n := 1) (jq qX1_line 110 rfl) (jo_iret rfl (by decide))) H
  · exact Eq.trans (jb_rt (i := .invokevirtual 31) (n := 3) (jq qX1_line 4 rfl) (jo_cv (y := mX9_kindAt) rfl (Nat.le_of_ble_eq_true rfl) rfl (Nat.le_of_ble_eq_true rfl) b154 rfl r6 (jo_exn rfl))) H
/-! MaskPlays$Grammar take (I)Z -/
def tX1_take : List (Nat × Instr × Nat) := [(0, .aload_n 0, 1), (1, .getfield 9, 3), (4, .aload_n 0, 1), (5, .getfield 19, 3), (8, .invokevirtual 31, 3), (11, .iload_n 1, 1), (12, .if_icmp .eq 5, 3), (15, .iconst 0, 1), (16, .ireturn, 1), (17, .aload_n 0, 1), (18, .dup, 1), (19, .getfield 19, 3), (22, .iconst 1, 1), (23, .iadd, 1), (24, .putfield 19, 3), (27, .iconst 1, 1), (28, .ireturn, 1)]
set_option maxRecDepth 100000 in
theorem qX1_take : ∀ q ∈ tX1_take, decode cX1_take q.1 = .ok (q.2.1, q.2.2) := by decide +kernel
theorem gX1_take {d : Nat} {p0 : Nat} {i1 : Int32} {h : jm_H} {r : jm_R} (H : ((jr_R h p0 1 0 2).bind fun a1 => (jr_I h p0 1 2 0).bind fun x3 => jm_O h a1 9 (jc_I (jm_D d mX9_kindAt [.ref a1, .int x3] h) (fun x7 h5 => (if x7 = i1 then (jr_I h5 p0 1 2 0).bind fun x9 => (jm_pf h5 p0 1 2 0 (.int (x9 + 1))).bind fun h11 => some (.inl (some (.int 1)), h11) else some (.inl (some (.int 0)), h5))) jx)) = some r) : jm_D (d + 1) mX1_take [.ref p0, .int i1] h = some r := by
  rw [jm_D_body (Nat.le_of_ble_eq_true rfl)]
  show jm_B d mX1_take (0, [some (.ref p0), some (.int i1)], []) h = some r
  refine Eq.trans (jb_nx (i := .aload_n 0) (n := 1) (q := (1, [some (.ref p0), some (.int i1)], [.ref p0])) (jq qX1_take 0 rfl) rfl) ?_
  obtain ⟨a1, e2, H⟩ := jbd H
  refine Eq.trans (jb_nx (i := .getfield 9) (n := 3) (q := (4, [some (.ref p0), some (.int i1)], [.ref a1])) (jq qX1_take 1 rfl) (jo_gf rfl (jr_R_inv e2))) ?_
  refine Eq.trans (jb_nx (i := .aload_n 0) (n := 1) (q := (5, [some (.ref p0), some (.int i1)], [.ref p0, .ref a1])) (jq qX1_take 2 rfl) rfl) ?_
  obtain ⟨x3, e4, H⟩ := jbd H
  refine Eq.trans (jb_nx (i := .getfield 19) (n := 3) (q := (8, [some (.ref p0), some (.int i1)], [.int x3, .ref a1])) (jq qX1_take 3 rfl) (jo_gf rfl (jr_I_inv e4))) ?_
  obtain ⟨b13, H⟩ := jm_O_inv H
  rcases jcI H with ⟨x7, h5, r6, H⟩ | ⟨w14, h15, r6, H⟩
  · refine Eq.trans (jb_nx (i := .invokevirtual 31) (n := 3) (q := (11, [some (.ref p0), some (.int i1)], [.int x7])) (jq qX1_take 4 rfl) (jo_cv (y := mX9_kindAt) rfl (Nat.le_of_ble_eq_true rfl) rfl (Nat.le_of_ble_eq_true rfl) b13 rfl r6 jo_ret)) ?_
    refine Eq.trans (jb_nx (i := .iload_n 1) (n := 1) (q := (12, [some (.ref p0), some (.int i1)], [.int i1, .int x7])) (jq qX1_take 5 rfl) rfl) ?_
    by_cases c8 : x7 = i1
    · rw [if_pos c8] at H
      refine Eq.trans (jb_nx (i := .if_icmp .eq 5) (n := 3) (q := (17, [some (.ref p0), some (.int i1)], [])) (jq qX1_take 6 rfl) (jo_icT (jz_eqT c8) rfl)) ?_
      refine Eq.trans (jb_nx (i := .aload_n 0) (n := 1) (q := (18, [some (.ref p0), some (.int i1)], [.ref p0])) (jq qX1_take 9 rfl) rfl) ?_
      refine Eq.trans (jb_nx (i := .dup) (n := 1) (q := (19, [some (.ref p0), some (.int i1)], [.ref p0, .ref p0])) (jq qX1_take 10 rfl) rfl) ?_
      obtain ⟨x9, e10, H⟩ := jbd H
      refine Eq.trans (jb_nx (i := .getfield 19) (n := 3) (q := (22, [some (.ref p0), some (.int i1)], [.int x9, .ref p0])) (jq qX1_take 11 rfl) (jo_gf rfl (jr_I_inv e10))) ?_
      refine Eq.trans (jb_nx (i := .iconst 1) (n := 1) (q := (23, [some (.ref p0), some (.int i1)], [.int 1, .int x9, .ref p0])) (jq qX1_take 12 rfl) rfl) ?_
      refine Eq.trans (jb_nx (i := .iadd) (n := 1) (q := (24, [some (.ref p0), some (.int i1)], [.int (x9 + 1), .ref p0])) (jq qX1_take 13 rfl) rfl) ?_
      obtain ⟨h11, e12, H⟩ := jbd H
      refine Eq.trans (jb_nx (i := .putfield 19) (n := 3) (q := (27, [some (.ref p0), some (.int i1)], [])) (jq qX1_take 14 rfl) (jo_pf rfl (Or.inl rfl) e12)) ?_
      refine Eq.trans (jb_nx (i := .iconst 1) (n := 1) (q := (28, [some (.ref p0), some (.int i1)], [.int 1])) (jq qX1_take 15 rfl) rfl) ?_
      exact Eq.trans (jb_rt (i := .ireturn) (n := 1) (jq qX1_take 16 rfl) (jo_iret rfl (by decide))) H
    · rw [if_neg c8] at H
      refine Eq.trans (jb_nx (i := .if_icmp .eq 5) (n := 3) (q := (15, [some (.ref p0), some (.int i1)], [])) (jq qX1_take 6 rfl) (jo_icF (jz_eqF c8))) ?_
      refine Eq.trans (jb_nx (i := .iconst 0) (n := 1) (q := (16, [some (.ref p0), some (.int i1)], [.int 0])) (jq qX1_take 7 rfl) rfl) ?_
      exact Eq.trans (jb_rt (i := .ireturn) (n := 1) (jq qX1_take 8 rfl) (jo_iret rfl (by decide))) H
  · exact Eq.trans (jb_rt (i := .invokevirtual 31) (n := 3) (jq qX1_take 4 rfl) (jo_cv (y := mX9_kindAt) rfl (Nat.le_of_ble_eq_true rfl) rfl (Nat.le_of_ble_eq_true rfl) b13 rfl r6 (jo_exn rfl))) H
/-! MaskPlays$Grammar part (I)Z -/
def tX1_part : List (Nat × Instr × Nat) := [(0, .aload_n 0, 1), (1, .bipush 22, 2), (3, .invokevirtual 23, 3), (6, .ifCond .eq 9, 3), (9, .aload_n 0, 1), (10, .iload_n 1, 1), (11, .invokevirtual 46, 3), (14, .ireturn, 1), (15, .aload_n 0, 1), (16, .iconst 3, 1), (17, .invokevirtual 37, 3), (20, .ifCond .eq 52, 3), (23, .aload_n 0, 1), (24, .bipush 35, 2), (26, .invokevirtual 37, 3), (29, .ifCond .eq 41, 3), (32, .iload_n 1, 1), (33, .bipush 8, 2), (35, .if_icmp .ge 35, 3), (38, .aload_n 0, 1), (39, .bipush 20, 2), (41, .invokevirtual 37, 3), (44, .ifCond .eq 26, 3), (47, .aload_n 0, 1), (48, .iload_n 1, 1), (49, .iconst 1, 1), (50, .iadd, 1), (51, .invokevirtual 40, 3), (54, .ifCond .eq 16, 3), (57, .aload_n 0, 1), (58, .bipush 21, 2), (60, .invokevirtual 37, 3), (63, .ifCond .eq 7, 3), (66, .iconst 1, 1), (67, .goto 4, 3), (70, .iconst 0, 1), (71, .ireturn, 1), (72, .aload_n 0, 1), (73, .bipush 35, 2), (75, .invokevirtual 37, 3), (78, .ireturn, 1)]
set_option maxRecDepth 100000 in
theorem qX1_part : ∀ q ∈ tX1_part, decode cX1_part q.1 = .ok (q.2.1, q.2.2) := by decide +kernel
theorem gX1_part {d : Nat} {p0 : Nat} {i1 : Int32} {h : jm_H} {r : jm_R} (H : (jm_O h p0 1 (jc_I (jm_D d mX1_sees [.ref p0, .int 22] h) (fun x3 h1 => (if x3 = 0 then jm_O h1 p0 1 (jc_I (jm_D d mX1_take [.ref p0, .int 3] h1) (fun x7 h5 => (if x7 = 0 then jm_O h5 p0 1 (jc_I (jm_D d mX1_take [.ref p0, .int 35] h5) (fun x11 h9 => jm_Y .boolean x11 (some (.inl (some (.int x11)), h9))) jx) else jm_O h5 p0 1 (jc_I (jm_D d mX1_take [.ref p0, .int 35] h5) (fun x18 h16 => (if x18 = 0 then some (.inl (some (.int 0)), h16) else (if i1 < 8 then jm_O h16 p0 1 (jc_I (jm_D d mX1_take [.ref p0, .int 20] h16) (fun x23 h21 => (if x23 = 0 then some (.inl (some (.int 0)), h21) else jm_O h21 p0 1 (jc_I (jm_D d mX1_part [.ref p0, .int (i1 + 1)] h21) (fun x27 h25 => (if x27 = 0 then some (.inl (some (.int 0)), h25) else jm_O h25 p0 1 (jc_I (jm_D d mX1_take [.ref p0, .int 21] h25) (fun x31 h29 => (if x31 = 0 then some (.inl (some (.int 0)), h29) else some (.inl (some (.int 1)), h29))) jx))) jx))) jx) else some (.inl (some (.int 0)), h16)))) jx))) jx) else jm_O h1 p0 1 (jc_I (jm_D d mX1_scenes [.ref p0, .int i1] h1) (fun x50 h48 => jm_Y .boolean x50 (some (.inl (some (.int x50)), h48))) jx))) jx)) = some r) : jm_D (d + 1) mX1_part [.ref p0, .int i1] h = some r := by
  rw [jm_D_body (Nat.le_of_ble_eq_true rfl)]
  show jm_B d mX1_part (0, [some (.ref p0), some (.int i1)], []) h = some r
  refine Eq.trans (jb_nx (i := .aload_n 0) (n := 1) (q := (1, [some (.ref p0), some (.int i1)], [.ref p0])) (jq qX1_part 0 rfl) rfl) ?_
  refine Eq.trans (jb_nx (i := .bipush 22) (n := 2) (q := (3, [some (.ref p0), some (.int i1)], [.int 22, .ref p0])) (jq qX1_part 1 rfl) rfl) ?_
  obtain ⟨b55, H⟩ := jm_O_inv H
  rcases jcI H with ⟨x3, h1, r2, H⟩ | ⟨w56, h57, r2, H⟩
  · refine Eq.trans (jb_nx (i := .invokevirtual 23) (n := 3) (q := (6, [some (.ref p0), some (.int i1)], [.int x3])) (jq qX1_part 2 rfl) (jo_cv (y := mX1_sees) rfl (Nat.le_of_ble_eq_true rfl) rfl (Nat.le_of_ble_eq_true rfl) b55 rfl r2 jo_ret)) ?_
    by_cases c4 : x3 = 0
    · rw [if_pos c4] at H
      refine Eq.trans (jb_nx (i := .ifCond .eq 9) (n := 3) (q := (15, [some (.ref p0), some (.int i1)], [])) (jq qX1_part 3 rfl) (jo_ifT (jz_eqT c4) rfl)) ?_
      refine Eq.trans (jb_nx (i := .aload_n 0) (n := 1) (q := (16, [some (.ref p0), some (.int i1)], [.ref p0])) (jq qX1_part 8 rfl) rfl) ?_
      refine Eq.trans (jb_nx (i := .iconst 3) (n := 1) (q := (17, [some (.ref p0), some (.int i1)], [.int 3, .ref p0])) (jq qX1_part 9 rfl) rfl) ?_
      obtain ⟨b45, H⟩ := jm_O_inv H
      rcases jcI H with ⟨x7, h5, r6, H⟩ | ⟨w46, h47, r6, H⟩
      · refine Eq.trans (jb_nx (i := .invokevirtual 37) (n := 3) (q := (20, [some (.ref p0), some (.int i1)], [.int x7])) (jq qX1_part 10 rfl) (jo_cv (y := mX1_take) rfl (Nat.le_of_ble_eq_true rfl) rfl (Nat.le_of_ble_eq_true rfl) b45 rfl r6 jo_ret)) ?_
        by_cases c8 : x7 = 0
        · rw [if_pos c8] at H
          refine Eq.trans (jb_nx (i := .ifCond .eq 52) (n := 3) (q := (72, [some (.ref p0), some (.int i1)], [])) (jq qX1_part 11 rfl) (jo_ifT (jz_eqT c8) rfl)) ?_
          refine Eq.trans (jb_nx (i := .aload_n 0) (n := 1) (q := (73, [some (.ref p0), some (.int i1)], [.ref p0])) (jq qX1_part 37 rfl) rfl) ?_
          refine Eq.trans (jb_nx (i := .bipush 35) (n := 2) (q := (75, [some (.ref p0), some (.int i1)], [.int 35, .ref p0])) (jq qX1_part 38 rfl) rfl) ?_
          obtain ⟨b13, H⟩ := jm_O_inv H
          rcases jcI H with ⟨x11, h9, r10, H⟩ | ⟨w14, h15, r10, H⟩
          · refine Eq.trans (jb_nx (i := .invokevirtual 37) (n := 3) (q := (78, [some (.ref p0), some (.int i1)], [.int x11])) (jq qX1_part 39 rfl) (jo_cv (y := mX1_take) rfl (Nat.le_of_ble_eq_true rfl) rfl (Nat.le_of_ble_eq_true rfl) b13 rfl r10 jo_ret)) ?_
            obtain ⟨u12, H⟩ := jm_Y_inv H
            exact Eq.trans (jb_rt (i := .ireturn) (n := 1) (jq qX1_part 40 rfl) (jo_iret rfl u12)) H
          · exact Eq.trans (jb_rt (i := .invokevirtual 37) (n := 3) (jq qX1_part 39 rfl) (jo_cv (y := mX1_take) rfl (Nat.le_of_ble_eq_true rfl) rfl (Nat.le_of_ble_eq_true rfl) b13 rfl r10 (jo_exn rfl))) H
        · rw [if_neg c8] at H
          refine Eq.trans (jb_nx (i := .ifCond .eq 52) (n := 3) (q := (23, [some (.ref p0), some (.int i1)], [])) (jq qX1_part 11 rfl) (jo_ifF (jz_eqF c8))) ?_
          refine Eq.trans (jb_nx (i := .aload_n 0) (n := 1) (q := (24, [some (.ref p0), some (.int i1)], [.ref p0])) (jq qX1_part 12 rfl) rfl) ?_
          refine Eq.trans (jb_nx (i := .bipush 35) (n := 2) (q := (26, [some (.ref p0), some (.int i1)], [.int 35, .ref p0])) (jq qX1_part 13 rfl) rfl) ?_
          obtain ⟨b42, H⟩ := jm_O_inv H
          rcases jcI H with ⟨x18, h16, r17, H⟩ | ⟨w43, h44, r17, H⟩
          · refine Eq.trans (jb_nx (i := .invokevirtual 37) (n := 3) (q := (29, [some (.ref p0), some (.int i1)], [.int x18])) (jq qX1_part 14 rfl) (jo_cv (y := mX1_take) rfl (Nat.le_of_ble_eq_true rfl) rfl (Nat.le_of_ble_eq_true rfl) b42 rfl r17 jo_ret)) ?_
            by_cases c19 : x18 = 0
            · rw [if_pos c19] at H
              refine Eq.trans (jb_nx (i := .ifCond .eq 41) (n := 3) (q := (70, [some (.ref p0), some (.int i1)], [])) (jq qX1_part 15 rfl) (jo_ifT (jz_eqT c19) rfl)) ?_
              refine Eq.trans (jb_nx (i := .iconst 0) (n := 1) (q := (71, [some (.ref p0), some (.int i1)], [.int 0])) (jq qX1_part 35 rfl) rfl) ?_
              exact Eq.trans (jb_rt (i := .ireturn) (n := 1) (jq qX1_part 36 rfl) (jo_iret rfl (by decide))) H
            · rw [if_neg c19] at H
              refine Eq.trans (jb_nx (i := .ifCond .eq 41) (n := 3) (q := (32, [some (.ref p0), some (.int i1)], [])) (jq qX1_part 15 rfl) (jo_ifF (jz_eqF c19))) ?_
              refine Eq.trans (jb_nx (i := .iload_n 1) (n := 1) (q := (33, [some (.ref p0), some (.int i1)], [.int i1])) (jq qX1_part 16 rfl) rfl) ?_
              refine Eq.trans (jb_nx (i := .bipush 8) (n := 2) (q := (35, [some (.ref p0), some (.int i1)], [.int 8, .int i1])) (jq qX1_part 17 rfl) rfl) ?_
              by_cases c20 : i1 < 8
              · rw [if_pos c20] at H
                refine Eq.trans (jb_nx (i := .if_icmp .ge 35) (n := 3) (q := (38, [some (.ref p0), some (.int i1)], [])) (jq qX1_part 18 rfl) (jo_icF (jz_geF c20))) ?_
                refine Eq.trans (jb_nx (i := .aload_n 0) (n := 1) (q := (39, [some (.ref p0), some (.int i1)], [.ref p0])) (jq qX1_part 19 rfl) rfl) ?_
                refine Eq.trans (jb_nx (i := .bipush 20) (n := 2) (q := (41, [some (.ref p0), some (.int i1)], [.int 20, .ref p0])) (jq qX1_part 20 rfl) rfl) ?_
                obtain ⟨b39, H⟩ := jm_O_inv H
                rcases jcI H with ⟨x23, h21, r22, H⟩ | ⟨w40, h41, r22, H⟩
                · refine Eq.trans (jb_nx (i := .invokevirtual 37) (n := 3) (q := (44, [some (.ref p0), some (.int i1)], [.int x23])) (jq qX1_part 21 rfl) (jo_cv (y := mX1_take) rfl (Nat.le_of_ble_eq_true rfl) rfl (Nat.le_of_ble_eq_true rfl) b39 rfl r22 jo_ret)) ?_
                  by_cases c24 : x23 = 0
                  · rw [if_pos c24] at H
                    refine Eq.trans (jb_nx (i := .ifCond .eq 26) (n := 3) (q := (70, [some (.ref p0), some (.int i1)], [])) (jq qX1_part 22 rfl) (jo_ifT (jz_eqT c24) rfl)) ?_
                    refine Eq.trans (jb_nx (i := .iconst 0) (n := 1) (q := (71, [some (.ref p0), some (.int i1)], [.int 0])) (jq qX1_part 35 rfl) rfl) ?_
                    exact Eq.trans (jb_rt (i := .ireturn) (n := 1) (jq qX1_part 36 rfl) (jo_iret rfl (by decide))) H
                  · rw [if_neg c24] at H
                    refine Eq.trans (jb_nx (i := .ifCond .eq 26) (n := 3) (q := (47, [some (.ref p0), some (.int i1)], [])) (jq qX1_part 22 rfl) (jo_ifF (jz_eqF c24))) ?_
                    refine Eq.trans (jb_nx (i := .aload_n 0) (n := 1) (q := (48, [some (.ref p0), some (.int i1)], [.ref p0])) (jq qX1_part 23 rfl) rfl) ?_
                    refine Eq.trans (jb_nx (i := .iload_n 1) (n := 1) (q := (49, [some (.ref p0), some (.int i1)], [.int i1, .ref p0])) (jq qX1_part 24 rfl) rfl) ?_
                    refine Eq.trans (jb_nx (i := .iconst 1) (n := 1) (q := (50, [some (.ref p0), some (.int i1)], [.int 1, .int i1, .ref p0])) (jq qX1_part 25 rfl) rfl) ?_
                    refine Eq.trans (jb_nx (i := .iadd) (n := 1) (q := (51, [some (.ref p0), some (.int i1)], [.int (i1 + 1), .ref p0])) (jq qX1_part 26 rfl) rfl) ?_
                    obtain ⟨b36, H⟩ := jm_O_inv H
                    rcases jcI H with ⟨x27, h25, r26, H⟩ | ⟨w37, h38, r26, H⟩
                    · refine Eq.trans (jb_nx (i := .invokevirtual 40) (n := 3) (q := (54, [some (.ref p0), some (.int i1)], [.int x27])) (jq qX1_part 27 rfl) (jo_cv (y := mX1_part) rfl (Nat.le_of_ble_eq_true rfl) rfl (Nat.le_of_ble_eq_true rfl) b36 rfl r26 jo_ret)) ?_
                      by_cases c28 : x27 = 0
                      · rw [if_pos c28] at H
                        refine Eq.trans (jb_nx (i := .ifCond .eq 16) (n := 3) (q := (70, [some (.ref p0), some (.int i1)], [])) (jq qX1_part 28 rfl) (jo_ifT (jz_eqT c28) rfl)) ?_
                        refine Eq.trans (jb_nx (i := .iconst 0) (n := 1) (q := (71, [some (.ref p0), some (.int i1)], [.int 0])) (jq qX1_part 35 rfl) rfl) ?_
                        exact Eq.trans (jb_rt (i := .ireturn) (n := 1) (jq qX1_part 36 rfl) (jo_iret rfl (by decide))) H
                      · rw [if_neg c28] at H
                        refine Eq.trans (jb_nx (i := .ifCond .eq 16) (n := 3) (q := (57, [some (.ref p0), some (.int i1)], [])) (jq qX1_part 28 rfl) (jo_ifF (jz_eqF c28))) ?_
                        refine Eq.trans (jb_nx (i := .aload_n 0) (n := 1) (q := (58, [some (.ref p0), some (.int i1)], [.ref p0])) (jq qX1_part 29 rfl) rfl) ?_
                        refine Eq.trans (jb_nx (i := .bipush 21) (n := 2) (q := (60, [some (.ref p0), some (.int i1)], [.int 21, .ref p0])) (jq qX1_part 30 rfl) rfl) ?_
                        obtain ⟨b33, H⟩ := jm_O_inv H
                        rcases jcI H with ⟨x31, h29, r30, H⟩ | ⟨w34, h35, r30, H⟩
                        · refine Eq.trans (jb_nx (i := .invokevirtual 37) (n := 3) (q := (63, [some (.ref p0), some (.int i1)], [.int x31])) (jq qX1_part 31 rfl) (jo_cv (y := mX1_take) rfl (Nat.le_of_ble_eq_true rfl) rfl (Nat.le_of_ble_eq_true rfl) b33 rfl r30 jo_ret)) ?_
                          by_cases c32 : x31 = 0
                          · rw [if_pos c32] at H
                            refine Eq.trans (jb_nx (i := .ifCond .eq 7) (n := 3) (q := (70, [some (.ref p0), some (.int i1)], [])) (jq qX1_part 32 rfl) (jo_ifT (jz_eqT c32) rfl)) ?_
                            refine Eq.trans (jb_nx (i := .iconst 0) (n := 1) (q := (71, [some (.ref p0), some (.int i1)], [.int 0])) (jq qX1_part 35 rfl) rfl) ?_
                            exact Eq.trans (jb_rt (i := .ireturn) (n := 1) (jq qX1_part 36 rfl) (jo_iret rfl (by decide))) H
                          · rw [if_neg c32] at H
                            refine Eq.trans (jb_nx (i := .ifCond .eq 7) (n := 3) (q := (66, [some (.ref p0), some (.int i1)], [])) (jq qX1_part 32 rfl) (jo_ifF (jz_eqF c32))) ?_
                            refine Eq.trans (jb_nx (i := .iconst 1) (n := 1) (q := (67, [some (.ref p0), some (.int i1)], [.int 1])) (jq qX1_part 33 rfl) rfl) ?_
                            refine Eq.trans (jb_nx (i := .goto 4) (n := 3) (q := (71, [some (.ref p0), some (.int i1)], [.int 1])) (jq qX1_part 34 rfl) rfl) ?_
                            exact Eq.trans (jb_rt (i := .ireturn) (n := 1) (jq qX1_part 36 rfl) (jo_iret rfl (by decide))) H
                        · exact Eq.trans (jb_rt (i := .invokevirtual 37) (n := 3) (jq qX1_part 31 rfl) (jo_cv (y := mX1_take) rfl (Nat.le_of_ble_eq_true rfl) rfl (Nat.le_of_ble_eq_true rfl) b33 rfl r30 (jo_exn rfl))) H
                    · exact Eq.trans (jb_rt (i := .invokevirtual 40) (n := 3) (jq qX1_part 27 rfl) (jo_cv (y := mX1_part) rfl (Nat.le_of_ble_eq_true rfl) rfl (Nat.le_of_ble_eq_true rfl) b36 rfl r26 (jo_exn rfl))) H
                · exact Eq.trans (jb_rt (i := .invokevirtual 37) (n := 3) (jq qX1_part 21 rfl) (jo_cv (y := mX1_take) rfl (Nat.le_of_ble_eq_true rfl) rfl (Nat.le_of_ble_eq_true rfl) b39 rfl r22 (jo_exn rfl))) H
              · rw [if_neg c20] at H
                refine Eq.trans (jb_nx (i := .if_icmp .ge 35) (n := 3) (q := (70, [some (.ref p0), some (.int i1)], [])) (jq qX1_part 18 rfl) (jo_icT (jz_geT c20) rfl)) ?_
                refine Eq.trans (jb_nx (i := .iconst 0) (n := 1) (q := (71, [some (.ref p0), some (.int i1)], [.int 0])) (jq qX1_part 35 rfl) rfl) ?_
                exact Eq.trans (jb_rt (i := .ireturn) (n := 1) (jq qX1_part 36 rfl) (jo_iret rfl (by decide))) H
          · exact Eq.trans (jb_rt (i := .invokevirtual 37) (n := 3) (jq qX1_part 14 rfl) (jo_cv (y := mX1_take) rfl (Nat.le_of_ble_eq_true rfl) rfl (Nat.le_of_ble_eq_true rfl) b42 rfl r17 (jo_exn rfl))) H
      · exact Eq.trans (jb_rt (i := .invokevirtual 37) (n := 3) (jq qX1_part 10 rfl) (jo_cv (y := mX1_take) rfl (Nat.le_of_ble_eq_true rfl) rfl (Nat.le_of_ble_eq_true rfl) b45 rfl r6 (jo_exn rfl))) H
    · rw [if_neg c4] at H
      refine Eq.trans (jb_nx (i := .ifCond .eq 9) (n := 3) (q := (9, [some (.ref p0), some (.int i1)], [])) (jq qX1_part 3 rfl) (jo_ifF (jz_eqF c4))) ?_
      refine Eq.trans (jb_nx (i := .aload_n 0) (n := 1) (q := (10, [some (.ref p0), some (.int i1)], [.ref p0])) (jq qX1_part 4 rfl) rfl) ?_
      refine Eq.trans (jb_nx (i := .iload_n 1) (n := 1) (q := (11, [some (.ref p0), some (.int i1)], [.int i1, .ref p0])) (jq qX1_part 5 rfl) rfl) ?_
      obtain ⟨b52, H⟩ := jm_O_inv H
      rcases jcI H with ⟨x50, h48, r49, H⟩ | ⟨w53, h54, r49, H⟩
      · refine Eq.trans (jb_nx (i := .invokevirtual 46) (n := 3) (q := (14, [some (.ref p0), some (.int i1)], [.int x50])) (jq qX1_part 6 rfl) (jo_cv (y := mX1_scenes) rfl (Nat.le_of_ble_eq_true rfl) rfl (Nat.le_of_ble_eq_true rfl) b52 rfl r49 jo_ret)) ?_
        obtain ⟨u51, H⟩ := jm_Y_inv H
        exact Eq.trans (jb_rt (i := .ireturn) (n := 1) (jq qX1_part 7 rfl) (jo_iret rfl u51)) H
      · exact Eq.trans (jb_rt (i := .invokevirtual 46) (n := 3) (jq qX1_part 6 rfl) (jo_cv (y := mX1_scenes) rfl (Nat.le_of_ble_eq_true rfl) rfl (Nat.le_of_ble_eq_true rfl) b52 rfl r49 (jo_exn rfl))) H
  · exact Eq.trans (jb_rt (i := .invokevirtual 23) (n := 3) (jq qX1_part 2 rfl) (jo_cv (y := mX1_sees) rfl (Nat.le_of_ble_eq_true rfl) rfl (Nat.le_of_ble_eq_true rfl) b55 rfl r2 (jo_exn rfl))) H
/-! MaskPlays$Grammar scenes (I)Z -/
def tX1_scenes : List (Nat × Instr × Nat) := [(0, .aload_n 0, 1), (1, .getfield 19, 3), (4, .istore_n 2, 1), (5, .iload_n 1, 1), (6, .bipush 8, 2), (8, .if_icmp .ge 12, 3), (11, .aload_n 0, 1), (12, .bipush 22, 2), (14, .invokevirtual 37, 3), (17, .ifCond .ne 5, 3), (20, .iconst 0, 1), (21, .ireturn, 1), (22, .iconst 0, 1), (23, .istore_n 3, 1), (24, .iload_n 3, 1), (25, .sipush 400, 3), (28, .if_icmp .ge 35, 3), (31, .iload_n 3, 1), (32, .iconst 2, 1), (33, .if_icmp .lt 12, 3), (36, .aload_n 0, 1), (37, .bipush 23, 2), (39, .invokevirtual 23, 3), (42, .ifCond .ne 21, 3), (45, .aload_n 0, 1), (46, .iload_n 1, 1), (47, .iconst 1, 1), (48, .iadd, 1), (49, .invokevirtual 40, 3), (52, .ifCond .ne 5, 3), (55, .iconst 0, 1), (56, .ireturn, 1), (57, .iinc 3 1, 3), (60, .goto (-36), 3), (63, .aload_n 0, 1), (64, .getfield 9, 3), (67, .iload_n 2, 1), (68, .iload_n 3, 1), (69, .invokevirtual 49, 3), (72, .aload_n 0, 1), (73, .bipush 23, 2), (75, .invokevirtual 37, 3), (78, .ireturn, 1)]
set_option maxRecDepth 100000 in
theorem qX1_scenes : ∀ q ∈ tX1_scenes, decode cX1_scenes q.1 = .ok (q.2.1, q.2.2) := by decide +kernel
noncomputable def kX1_scenes_24 (d : Nat) (p0 : Nat) (i1 : Int32) (i2 : Int32) (i3 : Int32) (h : jm_H) : Option jm_R := jm_B d mX1_scenes (24, [some (.ref p0), some (.int i1), some (.int i2), some (.int i3)], []) h
theorem gX1_scenes_24 {d : Nat} {p0 : Nat} {i1 : Int32} {i2 : Int32} {i3 : Int32} {h : jm_H} {r : jm_R} (H : ((if i3 < 400 then (if i3 < 2 then jm_O h p0 1 (jc_I (jm_D d mX1_part [.ref p0, .int (i1 + 1)] h) (fun x29 h27 => (if x29 = 0 then some (.inl (some (.int 0)), h27) else kX1_scenes_24 d p0 i1 i2 (i3 + 1) h27)) jx) else jm_O h p0 1 (jc_I (jm_D d mX1_sees [.ref p0, .int 23] h) (fun x36 h34 => (if x36 = 0 then jm_O h34 p0 1 (jc_I (jm_D d mX1_part [.ref p0, .int (i1 + 1)] h34) (fun x54 h52 => (if x54 = 0 then some (.inl (some (.int 0)), h52) else kX1_scenes_24 d p0 i1 i2 (i3 + 1) h52)) jx) else (jr_R h34 p0 1 0 2).bind fun a38 => jm_O h34 a38 9 (jc_V (jm_D d mX9_mark [.ref a38, .int i2, .int i3] h34) (fun h40 => jm_O h40 p0 1 (jc_I (jm_D d mX1_take [.ref p0, .int 23] h40) (fun x44 h42 => jm_Y .boolean x44 (some (.inl (some (.int x44)), h42))) jx)) jx))) jx)) else (jr_R h p0 1 0 2).bind fun a12 => jm_O h a12 9 (jc_V (jm_D d mX9_mark [.ref a12, .int i2, .int i3] h) (fun h14 => jm_O h14 p0 1 (jc_I (jm_D d mX1_take [.ref p0, .int 23] h14) (fun x18 h16 => jm_Y .boolean x18 (some (.inl (some (.int x18)), h16))) jx)) jx))) = some r) : kX1_scenes_24 d p0 i1 i2 i3 h = some r := by
  show jm_B d mX1_scenes (24, [some (.ref p0), some (.int i1), some (.int i2), some (.int i3)], []) h = some r
  refine Eq.trans (jb_nx (i := .iload_n 3) (n := 1) (q := (25, [some (.ref p0), some (.int i1), some (.int i2), some (.int i3)], [.int i3])) (jq qX1_scenes 14 rfl) rfl) ?_
  refine Eq.trans (jb_nx (i := .sipush 400) (n := 3) (q := (28, [some (.ref p0), some (.int i1), some (.int i2), some (.int i3)], [.int 400, .int i3])) (jq qX1_scenes 15 rfl) rfl) ?_
  by_cases c11 : i3 < 400
  · rw [if_pos c11] at H
    refine Eq.trans (jb_nx (i := .if_icmp .ge 35) (n := 3) (q := (31, [some (.ref p0), some (.int i1), some (.int i2), some (.int i3)], [])) (jq qX1_scenes 16 rfl) (jo_icF (jz_geF c11))) ?_
    refine Eq.trans (jb_nx (i := .iload_n 3) (n := 1) (q := (32, [some (.ref p0), some (.int i1), some (.int i2), some (.int i3)], [.int i3])) (jq qX1_scenes 17 rfl) rfl) ?_
    refine Eq.trans (jb_nx (i := .iconst 2) (n := 1) (q := (33, [some (.ref p0), some (.int i1), some (.int i2), some (.int i3)], [.int 2, .int i3])) (jq qX1_scenes 18 rfl) rfl) ?_
    by_cases c26 : i3 < 2
    · rw [if_pos c26] at H
      refine Eq.trans (jb_nx (i := .if_icmp .lt 12) (n := 3) (q := (45, [some (.ref p0), some (.int i1), some (.int i2), some (.int i3)], [])) (jq qX1_scenes 19 rfl) (jo_icT (jz_ltT c26) rfl)) ?_
      refine Eq.trans (jb_nx (i := .aload_n 0) (n := 1) (q := (46, [some (.ref p0), some (.int i1), some (.int i2), some (.int i3)], [.ref p0])) (jq qX1_scenes 24 rfl) rfl) ?_
      refine Eq.trans (jb_nx (i := .iload_n 1) (n := 1) (q := (47, [some (.ref p0), some (.int i1), some (.int i2), some (.int i3)], [.int i1, .ref p0])) (jq qX1_scenes 25 rfl) rfl) ?_
      refine Eq.trans (jb_nx (i := .iconst 1) (n := 1) (q := (48, [some (.ref p0), some (.int i1), some (.int i2), some (.int i3)], [.int 1, .int i1, .ref p0])) (jq qX1_scenes 26 rfl) rfl) ?_
      refine Eq.trans (jb_nx (i := .iadd) (n := 1) (q := (49, [some (.ref p0), some (.int i1), some (.int i2), some (.int i3)], [.int (i1 + 1), .ref p0])) (jq qX1_scenes 27 rfl) rfl) ?_
      obtain ⟨b31, H⟩ := jm_O_inv H
      rcases jcI H with ⟨x29, h27, r28, H⟩ | ⟨w32, h33, r28, H⟩
      · refine Eq.trans (jb_nx (i := .invokevirtual 40) (n := 3) (q := (52, [some (.ref p0), some (.int i1), some (.int i2), some (.int i3)], [.int x29])) (jq qX1_scenes 28 rfl) (jo_cv (y := mX1_part) rfl (Nat.le_of_ble_eq_true rfl) rfl (Nat.le_of_ble_eq_true rfl) b31 rfl r28 jo_ret)) ?_
        by_cases c30 : x29 = 0
        · rw [if_pos c30] at H
          refine Eq.trans (jb_nx (i := .ifCond .ne 5) (n := 3) (q := (55, [some (.ref p0), some (.int i1), some (.int i2), some (.int i3)], [])) (jq qX1_scenes 29 rfl) (jo_ifF (jz_neF c30))) ?_
          refine Eq.trans (jb_nx (i := .iconst 0) (n := 1) (q := (56, [some (.ref p0), some (.int i1), some (.int i2), some (.int i3)], [.int 0])) (jq qX1_scenes 30 rfl) rfl) ?_
          exact Eq.trans (jb_rt (i := .ireturn) (n := 1) (jq qX1_scenes 31 rfl) (jo_iret rfl (by decide))) H
        · rw [if_neg c30] at H
          refine Eq.trans (jb_nx (i := .ifCond .ne 5) (n := 3) (q := (57, [some (.ref p0), some (.int i1), some (.int i2), some (.int i3)], [])) (jq qX1_scenes 29 rfl) (jo_ifT (jz_neT c30) rfl)) ?_
          refine Eq.trans (jb_nx (i := .iinc 3 1) (n := 3) (q := (60, [some (.ref p0), some (.int i1), some (.int i2), some (.int (i3 + 1))], [])) (jq qX1_scenes 32 rfl) rfl) ?_
          refine Eq.trans (jb_nx (i := .goto (-36)) (n := 3) (q := (24, [some (.ref p0), some (.int i1), some (.int i2), some (.int (i3 + 1))], [])) (jq qX1_scenes 33 rfl) rfl) ?_
          exact H
      · exact Eq.trans (jb_rt (i := .invokevirtual 40) (n := 3) (jq qX1_scenes 28 rfl) (jo_cv (y := mX1_part) rfl (Nat.le_of_ble_eq_true rfl) rfl (Nat.le_of_ble_eq_true rfl) b31 rfl r28 (jo_exn rfl))) H
    · rw [if_neg c26] at H
      refine Eq.trans (jb_nx (i := .if_icmp .lt 12) (n := 3) (q := (36, [some (.ref p0), some (.int i1), some (.int i2), some (.int i3)], [])) (jq qX1_scenes 19 rfl) (jo_icF (jz_ltF c26))) ?_
      refine Eq.trans (jb_nx (i := .aload_n 0) (n := 1) (q := (37, [some (.ref p0), some (.int i1), some (.int i2), some (.int i3)], [.ref p0])) (jq qX1_scenes 20 rfl) rfl) ?_
      refine Eq.trans (jb_nx (i := .bipush 23) (n := 2) (q := (39, [some (.ref p0), some (.int i1), some (.int i2), some (.int i3)], [.int 23, .ref p0])) (jq qX1_scenes 21 rfl) rfl) ?_
      obtain ⟨b59, H⟩ := jm_O_inv H
      rcases jcI H with ⟨x36, h34, r35, H⟩ | ⟨w60, h61, r35, H⟩
      · refine Eq.trans (jb_nx (i := .invokevirtual 23) (n := 3) (q := (42, [some (.ref p0), some (.int i1), some (.int i2), some (.int i3)], [.int x36])) (jq qX1_scenes 22 rfl) (jo_cv (y := mX1_sees) rfl (Nat.le_of_ble_eq_true rfl) rfl (Nat.le_of_ble_eq_true rfl) b59 rfl r35 jo_ret)) ?_
        by_cases c37 : x36 = 0
        · rw [if_pos c37] at H
          refine Eq.trans (jb_nx (i := .ifCond .ne 21) (n := 3) (q := (45, [some (.ref p0), some (.int i1), some (.int i2), some (.int i3)], [])) (jq qX1_scenes 23 rfl) (jo_ifF (jz_neF c37))) ?_
          refine Eq.trans (jb_nx (i := .aload_n 0) (n := 1) (q := (46, [some (.ref p0), some (.int i1), some (.int i2), some (.int i3)], [.ref p0])) (jq qX1_scenes 24 rfl) rfl) ?_
          refine Eq.trans (jb_nx (i := .iload_n 1) (n := 1) (q := (47, [some (.ref p0), some (.int i1), some (.int i2), some (.int i3)], [.int i1, .ref p0])) (jq qX1_scenes 25 rfl) rfl) ?_
          refine Eq.trans (jb_nx (i := .iconst 1) (n := 1) (q := (48, [some (.ref p0), some (.int i1), some (.int i2), some (.int i3)], [.int 1, .int i1, .ref p0])) (jq qX1_scenes 26 rfl) rfl) ?_
          refine Eq.trans (jb_nx (i := .iadd) (n := 1) (q := (49, [some (.ref p0), some (.int i1), some (.int i2), some (.int i3)], [.int (i1 + 1), .ref p0])) (jq qX1_scenes 27 rfl) rfl) ?_
          obtain ⟨b56, H⟩ := jm_O_inv H
          rcases jcI H with ⟨x54, h52, r53, H⟩ | ⟨w57, h58, r53, H⟩
          · refine Eq.trans (jb_nx (i := .invokevirtual 40) (n := 3) (q := (52, [some (.ref p0), some (.int i1), some (.int i2), some (.int i3)], [.int x54])) (jq qX1_scenes 28 rfl) (jo_cv (y := mX1_part) rfl (Nat.le_of_ble_eq_true rfl) rfl (Nat.le_of_ble_eq_true rfl) b56 rfl r53 jo_ret)) ?_
            by_cases c55 : x54 = 0
            · rw [if_pos c55] at H
              refine Eq.trans (jb_nx (i := .ifCond .ne 5) (n := 3) (q := (55, [some (.ref p0), some (.int i1), some (.int i2), some (.int i3)], [])) (jq qX1_scenes 29 rfl) (jo_ifF (jz_neF c55))) ?_
              refine Eq.trans (jb_nx (i := .iconst 0) (n := 1) (q := (56, [some (.ref p0), some (.int i1), some (.int i2), some (.int i3)], [.int 0])) (jq qX1_scenes 30 rfl) rfl) ?_
              exact Eq.trans (jb_rt (i := .ireturn) (n := 1) (jq qX1_scenes 31 rfl) (jo_iret rfl (by decide))) H
            · rw [if_neg c55] at H
              refine Eq.trans (jb_nx (i := .ifCond .ne 5) (n := 3) (q := (57, [some (.ref p0), some (.int i1), some (.int i2), some (.int i3)], [])) (jq qX1_scenes 29 rfl) (jo_ifT (jz_neT c55) rfl)) ?_
              refine Eq.trans (jb_nx (i := .iinc 3 1) (n := 3) (q := (60, [some (.ref p0), some (.int i1), some (.int i2), some (.int (i3 + 1))], [])) (jq qX1_scenes 32 rfl) rfl) ?_
              refine Eq.trans (jb_nx (i := .goto (-36)) (n := 3) (q := (24, [some (.ref p0), some (.int i1), some (.int i2), some (.int (i3 + 1))], [])) (jq qX1_scenes 33 rfl) rfl) ?_
              exact H
          · exact Eq.trans (jb_rt (i := .invokevirtual 40) (n := 3) (jq qX1_scenes 28 rfl) (jo_cv (y := mX1_part) rfl (Nat.le_of_ble_eq_true rfl) rfl (Nat.le_of_ble_eq_true rfl) b56 rfl r53 (jo_exn rfl))) H
        · rw [if_neg c37] at H
          refine Eq.trans (jb_nx (i := .ifCond .ne 21) (n := 3) (q := (63, [some (.ref p0), some (.int i1), some (.int i2), some (.int i3)], [])) (jq qX1_scenes 23 rfl) (jo_ifT (jz_neT c37) rfl)) ?_
          refine Eq.trans (jb_nx (i := .aload_n 0) (n := 1) (q := (64, [some (.ref p0), some (.int i1), some (.int i2), some (.int i3)], [.ref p0])) (jq qX1_scenes 34 rfl) rfl) ?_
          obtain ⟨a38, e39, H⟩ := jbd H
          refine Eq.trans (jb_nx (i := .getfield 9) (n := 3) (q := (67, [some (.ref p0), some (.int i1), some (.int i2), some (.int i3)], [.ref a38])) (jq qX1_scenes 35 rfl) (jo_gf rfl (jr_R_inv e39))) ?_
          refine Eq.trans (jb_nx (i := .iload_n 2) (n := 1) (q := (68, [some (.ref p0), some (.int i1), some (.int i2), some (.int i3)], [.int i2, .ref a38])) (jq qX1_scenes 36 rfl) rfl) ?_
          refine Eq.trans (jb_nx (i := .iload_n 3) (n := 1) (q := (69, [some (.ref p0), some (.int i1), some (.int i2), some (.int i3)], [.int i3, .int i2, .ref a38])) (jq qX1_scenes 37 rfl) rfl) ?_
          obtain ⟨b49, H⟩ := jm_O_inv H
          rcases jcV H with ⟨h40, r41, H⟩ | ⟨w50, h51, r41, H⟩
          · refine Eq.trans (jb_nx (i := .invokevirtual 49) (n := 3) (q := (72, [some (.ref p0), some (.int i1), some (.int i2), some (.int i3)], [])) (jq qX1_scenes 38 rfl) (jo_cv (y := mX9_mark) rfl (Nat.le_of_ble_eq_true rfl) rfl (Nat.le_of_ble_eq_true rfl) b49 rfl r41 jo_ret)) ?_
            refine Eq.trans (jb_nx (i := .aload_n 0) (n := 1) (q := (73, [some (.ref p0), some (.int i1), some (.int i2), some (.int i3)], [.ref p0])) (jq qX1_scenes 39 rfl) rfl) ?_
            refine Eq.trans (jb_nx (i := .bipush 23) (n := 2) (q := (75, [some (.ref p0), some (.int i1), some (.int i2), some (.int i3)], [.int 23, .ref p0])) (jq qX1_scenes 40 rfl) rfl) ?_
            obtain ⟨b46, H⟩ := jm_O_inv H
            rcases jcI H with ⟨x44, h42, r43, H⟩ | ⟨w47, h48, r43, H⟩
            · refine Eq.trans (jb_nx (i := .invokevirtual 37) (n := 3) (q := (78, [some (.ref p0), some (.int i1), some (.int i2), some (.int i3)], [.int x44])) (jq qX1_scenes 41 rfl) (jo_cv (y := mX1_take) rfl (Nat.le_of_ble_eq_true rfl) rfl (Nat.le_of_ble_eq_true rfl) b46 rfl r43 jo_ret)) ?_
              obtain ⟨u45, H⟩ := jm_Y_inv H
              exact Eq.trans (jb_rt (i := .ireturn) (n := 1) (jq qX1_scenes 42 rfl) (jo_iret rfl u45)) H
            · exact Eq.trans (jb_rt (i := .invokevirtual 37) (n := 3) (jq qX1_scenes 41 rfl) (jo_cv (y := mX1_take) rfl (Nat.le_of_ble_eq_true rfl) rfl (Nat.le_of_ble_eq_true rfl) b46 rfl r43 (jo_exn rfl))) H
          · exact Eq.trans (jb_rt (i := .invokevirtual 49) (n := 3) (jq qX1_scenes 38 rfl) (jo_cv (y := mX9_mark) rfl (Nat.le_of_ble_eq_true rfl) rfl (Nat.le_of_ble_eq_true rfl) b49 rfl r41 (jo_exn rfl))) H
      · exact Eq.trans (jb_rt (i := .invokevirtual 23) (n := 3) (jq qX1_scenes 22 rfl) (jo_cv (y := mX1_sees) rfl (Nat.le_of_ble_eq_true rfl) rfl (Nat.le_of_ble_eq_true rfl) b59 rfl r35 (jo_exn rfl))) H
  · rw [if_neg c11] at H
    refine Eq.trans (jb_nx (i := .if_icmp .ge 35) (n := 3) (q := (63, [some (.ref p0), some (.int i1), some (.int i2), some (.int i3)], [])) (jq qX1_scenes 16 rfl) (jo_icT (jz_geT c11) rfl)) ?_
    refine Eq.trans (jb_nx (i := .aload_n 0) (n := 1) (q := (64, [some (.ref p0), some (.int i1), some (.int i2), some (.int i3)], [.ref p0])) (jq qX1_scenes 34 rfl) rfl) ?_
    obtain ⟨a12, e13, H⟩ := jbd H
    refine Eq.trans (jb_nx (i := .getfield 9) (n := 3) (q := (67, [some (.ref p0), some (.int i1), some (.int i2), some (.int i3)], [.ref a12])) (jq qX1_scenes 35 rfl) (jo_gf rfl (jr_R_inv e13))) ?_
    refine Eq.trans (jb_nx (i := .iload_n 2) (n := 1) (q := (68, [some (.ref p0), some (.int i1), some (.int i2), some (.int i3)], [.int i2, .ref a12])) (jq qX1_scenes 36 rfl) rfl) ?_
    refine Eq.trans (jb_nx (i := .iload_n 3) (n := 1) (q := (69, [some (.ref p0), some (.int i1), some (.int i2), some (.int i3)], [.int i3, .int i2, .ref a12])) (jq qX1_scenes 37 rfl) rfl) ?_
    obtain ⟨b23, H⟩ := jm_O_inv H
    rcases jcV H with ⟨h14, r15, H⟩ | ⟨w24, h25, r15, H⟩
    · refine Eq.trans (jb_nx (i := .invokevirtual 49) (n := 3) (q := (72, [some (.ref p0), some (.int i1), some (.int i2), some (.int i3)], [])) (jq qX1_scenes 38 rfl) (jo_cv (y := mX9_mark) rfl (Nat.le_of_ble_eq_true rfl) rfl (Nat.le_of_ble_eq_true rfl) b23 rfl r15 jo_ret)) ?_
      refine Eq.trans (jb_nx (i := .aload_n 0) (n := 1) (q := (73, [some (.ref p0), some (.int i1), some (.int i2), some (.int i3)], [.ref p0])) (jq qX1_scenes 39 rfl) rfl) ?_
      refine Eq.trans (jb_nx (i := .bipush 23) (n := 2) (q := (75, [some (.ref p0), some (.int i1), some (.int i2), some (.int i3)], [.int 23, .ref p0])) (jq qX1_scenes 40 rfl) rfl) ?_
      obtain ⟨b20, H⟩ := jm_O_inv H
      rcases jcI H with ⟨x18, h16, r17, H⟩ | ⟨w21, h22, r17, H⟩
      · refine Eq.trans (jb_nx (i := .invokevirtual 37) (n := 3) (q := (78, [some (.ref p0), some (.int i1), some (.int i2), some (.int i3)], [.int x18])) (jq qX1_scenes 41 rfl) (jo_cv (y := mX1_take) rfl (Nat.le_of_ble_eq_true rfl) rfl (Nat.le_of_ble_eq_true rfl) b20 rfl r17 jo_ret)) ?_
        obtain ⟨u19, H⟩ := jm_Y_inv H
        exact Eq.trans (jb_rt (i := .ireturn) (n := 1) (jq qX1_scenes 42 rfl) (jo_iret rfl u19)) H
      · exact Eq.trans (jb_rt (i := .invokevirtual 37) (n := 3) (jq qX1_scenes 41 rfl) (jo_cv (y := mX1_take) rfl (Nat.le_of_ble_eq_true rfl) rfl (Nat.le_of_ble_eq_true rfl) b20 rfl r17 (jo_exn rfl))) H
    · exact Eq.trans (jb_rt (i := .invokevirtual 49) (n := 3) (jq qX1_scenes 38 rfl) (jo_cv (y := mX9_mark) rfl (Nat.le_of_ble_eq_true rfl) rfl (Nat.le_of_ble_eq_true rfl) b23 rfl r15 (jo_exn rfl))) H
theorem gX1_scenes {d : Nat} {p0 : Nat} {i1 : Int32} {h : jm_H} {r : jm_R} (H : ((jr_I h p0 1 2 0).bind fun x1 => (if i1 < 8 then jm_O h p0 1 (jc_I (jm_D d mX1_take [.ref p0, .int 22] h) (fun x6 h4 => (if x6 = 0 then some (.inl (some (.int 0)), h4) else kX1_scenes_24 d p0 i1 x1 0 h4)) jx) else some (.inl (some (.int 0)), h))) = some r) : jm_D (d + 1) mX1_scenes [.ref p0, .int i1] h = some r := by
  rw [jm_D_body (Nat.le_of_ble_eq_true rfl)]
  show jm_B d mX1_scenes (0, [some (.ref p0), some (.int i1), none, none], []) h = some r
  refine Eq.trans (jb_nx (i := .aload_n 0) (n := 1) (q := (1, [some (.ref p0), some (.int i1), none, none], [.ref p0])) (jq qX1_scenes 0 rfl) rfl) ?_
  obtain ⟨x1, e2, H⟩ := jbd H
  refine Eq.trans (jb_nx (i := .getfield 19) (n := 3) (q := (4, [some (.ref p0), some (.int i1), none, none], [.int x1])) (jq qX1_scenes 1 rfl) (jo_gf rfl (jr_I_inv e2))) ?_
  refine Eq.trans (jb_nx (i := .istore_n 2) (n := 1) (q := (5, [some (.ref p0), some (.int i1), some (.int x1), none], [])) (jq qX1_scenes 2 rfl) rfl) ?_
  refine Eq.trans (jb_nx (i := .iload_n 1) (n := 1) (q := (6, [some (.ref p0), some (.int i1), some (.int x1), none], [.int i1])) (jq qX1_scenes 3 rfl) rfl) ?_
  refine Eq.trans (jb_nx (i := .bipush 8) (n := 2) (q := (8, [some (.ref p0), some (.int i1), some (.int x1), none], [.int 8, .int i1])) (jq qX1_scenes 4 rfl) rfl) ?_
  by_cases c3 : i1 < 8
  · rw [if_pos c3] at H
    refine Eq.trans (jb_nx (i := .if_icmp .ge 12) (n := 3) (q := (11, [some (.ref p0), some (.int i1), some (.int x1), none], [])) (jq qX1_scenes 5 rfl) (jo_icF (jz_geF c3))) ?_
    refine Eq.trans (jb_nx (i := .aload_n 0) (n := 1) (q := (12, [some (.ref p0), some (.int i1), some (.int x1), none], [.ref p0])) (jq qX1_scenes 6 rfl) rfl) ?_
    refine Eq.trans (jb_nx (i := .bipush 22) (n := 2) (q := (14, [some (.ref p0), some (.int i1), some (.int x1), none], [.int 22, .ref p0])) (jq qX1_scenes 7 rfl) rfl) ?_
    obtain ⟨b8, H⟩ := jm_O_inv H
    rcases jcI H with ⟨x6, h4, r5, H⟩ | ⟨w9, h10, r5, H⟩
    · refine Eq.trans (jb_nx (i := .invokevirtual 37) (n := 3) (q := (17, [some (.ref p0), some (.int i1), some (.int x1), none], [.int x6])) (jq qX1_scenes 8 rfl) (jo_cv (y := mX1_take) rfl (Nat.le_of_ble_eq_true rfl) rfl (Nat.le_of_ble_eq_true rfl) b8 rfl r5 jo_ret)) ?_
      by_cases c7 : x6 = 0
      · rw [if_pos c7] at H
        refine Eq.trans (jb_nx (i := .ifCond .ne 5) (n := 3) (q := (20, [some (.ref p0), some (.int i1), some (.int x1), none], [])) (jq qX1_scenes 9 rfl) (jo_ifF (jz_neF c7))) ?_
        refine Eq.trans (jb_nx (i := .iconst 0) (n := 1) (q := (21, [some (.ref p0), some (.int i1), some (.int x1), none], [.int 0])) (jq qX1_scenes 10 rfl) rfl) ?_
        exact Eq.trans (jb_rt (i := .ireturn) (n := 1) (jq qX1_scenes 11 rfl) (jo_iret rfl (by decide))) H
      · rw [if_neg c7] at H
        refine Eq.trans (jb_nx (i := .ifCond .ne 5) (n := 3) (q := (22, [some (.ref p0), some (.int i1), some (.int x1), none], [])) (jq qX1_scenes 9 rfl) (jo_ifT (jz_neT c7) rfl)) ?_
        refine Eq.trans (jb_nx (i := .iconst 0) (n := 1) (q := (23, [some (.ref p0), some (.int i1), some (.int x1), none], [.int 0])) (jq qX1_scenes 12 rfl) rfl) ?_
        refine Eq.trans (jb_nx (i := .istore_n 3) (n := 1) (q := (24, [some (.ref p0), some (.int i1), some (.int x1), some (.int 0)], [])) (jq qX1_scenes 13 rfl) rfl) ?_
        exact H
    · exact Eq.trans (jb_rt (i := .invokevirtual 37) (n := 3) (jq qX1_scenes 8 rfl) (jo_cv (y := mX1_take) rfl (Nat.le_of_ble_eq_true rfl) rfl (Nat.le_of_ble_eq_true rfl) b8 rfl r5 (jo_exn rfl))) H
  · rw [if_neg c3] at H
    refine Eq.trans (jb_nx (i := .if_icmp .ge 12) (n := 3) (q := (20, [some (.ref p0), some (.int i1), some (.int x1), none], [])) (jq qX1_scenes 5 rfl) (jo_icT (jz_geT c3) rfl)) ?_
    refine Eq.trans (jb_nx (i := .iconst 0) (n := 1) (q := (21, [some (.ref p0), some (.int i1), some (.int x1), none], [.int 0])) (jq qX1_scenes 10 rfl) rfl) ?_
    exact Eq.trans (jb_rt (i := .ireturn) (n := 1) (jq qX1_scenes 11 rfl) (jo_iret rfl (by decide))) H
/-! MaskPlays$Grammar when ()Z -/
def tX1_when : List (Nat × Instr × Nat) := [(0, .aload_n 0, 1), (1, .getfield 9, 3), (4, .aload_n 0, 1), (5, .getfield 19, 3), (8, .aload_n 0, 1), (9, .getfield 15, 3), (12, .getfield 53, 3), (15, .invokevirtual 49, 3), (18, .aload_n 0, 1), (19, .bipush 8, 2), (21, .invokevirtual 37, 3), (24, .ifCond .eq 25, 3), (27, .aload_n 0, 1), (28, .iconst 0, 1), (29, .invokevirtual 58, 3), (32, .ifCond .eq 17, 3), (35, .aload_n 0, 1), (36, .bipush 37, 2), (38, .iconst 0, 1), (39, .invokevirtual 61, 3), (42, .ifCond .eq 7, 3), (45, .iconst 1, 1), (46, .goto 4, 3), (49, .iconst 0, 1), (50, .ireturn, 1)]
set_option maxRecDepth 100000 in
theorem qX1_when : ∀ q ∈ tX1_when, decode cX1_when q.1 = .ok (q.2.1, q.2.2) := by decide +kernel
theorem gX1_when {d : Nat} {p0 : Nat} {h : jm_H} {r : jm_R} (H : ((jr_R h p0 1 0 2).bind fun a1 => (jr_I h p0 1 2 0).bind fun x3 => (jr_R h p0 1 1 2).bind fun a5 => (jr_I h a5 0 3 0).bind fun x7 => jm_O h a1 9 (jc_V (jm_D d mX9_mark [.ref a1, .int x3, .int x7] h) (fun h9 => jm_O h9 p0 1 (jc_I (jm_D d mX1_take [.ref p0, .int 8] h9) (fun x13 h11 => (if x13 = 0 then some (.inl (some (.int 0)), h11) else jm_O h11 p0 1 (jc_I (jm_D d mX1_test [.ref p0, .int 0] h11) (fun x17 h15 => (if x17 = 0 then some (.inl (some (.int 0)), h15) else jm_O h15 p0 1 (jc_I (jm_D d mX1_put [.ref p0, .int 37, .int 0] h15) (fun x21 h19 => (if x21 = 0 then some (.inl (some (.int 0)), h19) else some (.inl (some (.int 1)), h19))) jx))) jx))) jx)) jx)) = some r) : jm_D (d + 1) mX1_when [.ref p0] h = some r := by
  rw [jm_D_body (Nat.le_of_ble_eq_true rfl)]
  show jm_B d mX1_when (0, [some (.ref p0)], []) h = some r
  refine Eq.trans (jb_nx (i := .aload_n 0) (n := 1) (q := (1, [some (.ref p0)], [.ref p0])) (jq qX1_when 0 rfl) rfl) ?_
  obtain ⟨a1, e2, H⟩ := jbd H
  refine Eq.trans (jb_nx (i := .getfield 9) (n := 3) (q := (4, [some (.ref p0)], [.ref a1])) (jq qX1_when 1 rfl) (jo_gf rfl (jr_R_inv e2))) ?_
  refine Eq.trans (jb_nx (i := .aload_n 0) (n := 1) (q := (5, [some (.ref p0)], [.ref p0, .ref a1])) (jq qX1_when 2 rfl) rfl) ?_
  obtain ⟨x3, e4, H⟩ := jbd H
  refine Eq.trans (jb_nx (i := .getfield 19) (n := 3) (q := (8, [some (.ref p0)], [.int x3, .ref a1])) (jq qX1_when 3 rfl) (jo_gf rfl (jr_I_inv e4))) ?_
  refine Eq.trans (jb_nx (i := .aload_n 0) (n := 1) (q := (9, [some (.ref p0)], [.ref p0, .int x3, .ref a1])) (jq qX1_when 4 rfl) rfl) ?_
  obtain ⟨a5, e6, H⟩ := jbd H
  refine Eq.trans (jb_nx (i := .getfield 15) (n := 3) (q := (12, [some (.ref p0)], [.ref a5, .int x3, .ref a1])) (jq qX1_when 5 rfl) (jo_gf rfl (jr_R_inv e6))) ?_
  obtain ⟨x7, e8, H⟩ := jbd H
  refine Eq.trans (jb_nx (i := .getfield 53) (n := 3) (q := (15, [some (.ref p0)], [.int x7, .int x3, .ref a1])) (jq qX1_when 6 rfl) (jo_gf rfl (jr_I_inv e8))) ?_
  obtain ⟨b32, H⟩ := jm_O_inv H
  rcases jcV H with ⟨h9, r10, H⟩ | ⟨w33, h34, r10, H⟩
  · refine Eq.trans (jb_nx (i := .invokevirtual 49) (n := 3) (q := (18, [some (.ref p0)], [])) (jq qX1_when 7 rfl) (jo_cv (y := mX9_mark) rfl (Nat.le_of_ble_eq_true rfl) rfl (Nat.le_of_ble_eq_true rfl) b32 rfl r10 jo_ret)) ?_
    refine Eq.trans (jb_nx (i := .aload_n 0) (n := 1) (q := (19, [some (.ref p0)], [.ref p0])) (jq qX1_when 8 rfl) rfl) ?_
    refine Eq.trans (jb_nx (i := .bipush 8) (n := 2) (q := (21, [some (.ref p0)], [.int 8, .ref p0])) (jq qX1_when 9 rfl) rfl) ?_
    obtain ⟨b29, H⟩ := jm_O_inv H
    rcases jcI H with ⟨x13, h11, r12, H⟩ | ⟨w30, h31, r12, H⟩
    · refine Eq.trans (jb_nx (i := .invokevirtual 37) (n := 3) (q := (24, [some (.ref p0)], [.int x13])) (jq qX1_when 10 rfl) (jo_cv (y := mX1_take) rfl (Nat.le_of_ble_eq_true rfl) rfl (Nat.le_of_ble_eq_true rfl) b29 rfl r12 jo_ret)) ?_
      by_cases c14 : x13 = 0
      · rw [if_pos c14] at H
        refine Eq.trans (jb_nx (i := .ifCond .eq 25) (n := 3) (q := (49, [some (.ref p0)], [])) (jq qX1_when 11 rfl) (jo_ifT (jz_eqT c14) rfl)) ?_
        refine Eq.trans (jb_nx (i := .iconst 0) (n := 1) (q := (50, [some (.ref p0)], [.int 0])) (jq qX1_when 23 rfl) rfl) ?_
        exact Eq.trans (jb_rt (i := .ireturn) (n := 1) (jq qX1_when 24 rfl) (jo_iret rfl (by decide))) H
      · rw [if_neg c14] at H
        refine Eq.trans (jb_nx (i := .ifCond .eq 25) (n := 3) (q := (27, [some (.ref p0)], [])) (jq qX1_when 11 rfl) (jo_ifF (jz_eqF c14))) ?_
        refine Eq.trans (jb_nx (i := .aload_n 0) (n := 1) (q := (28, [some (.ref p0)], [.ref p0])) (jq qX1_when 12 rfl) rfl) ?_
        refine Eq.trans (jb_nx (i := .iconst 0) (n := 1) (q := (29, [some (.ref p0)], [.int 0, .ref p0])) (jq qX1_when 13 rfl) rfl) ?_
        obtain ⟨b26, H⟩ := jm_O_inv H
        rcases jcI H with ⟨x17, h15, r16, H⟩ | ⟨w27, h28, r16, H⟩
        · refine Eq.trans (jb_nx (i := .invokevirtual 58) (n := 3) (q := (32, [some (.ref p0)], [.int x17])) (jq qX1_when 14 rfl) (jo_cv (y := mX1_test) rfl (Nat.le_of_ble_eq_true rfl) rfl (Nat.le_of_ble_eq_true rfl) b26 rfl r16 jo_ret)) ?_
          by_cases c18 : x17 = 0
          · rw [if_pos c18] at H
            refine Eq.trans (jb_nx (i := .ifCond .eq 17) (n := 3) (q := (49, [some (.ref p0)], [])) (jq qX1_when 15 rfl) (jo_ifT (jz_eqT c18) rfl)) ?_
            refine Eq.trans (jb_nx (i := .iconst 0) (n := 1) (q := (50, [some (.ref p0)], [.int 0])) (jq qX1_when 23 rfl) rfl) ?_
            exact Eq.trans (jb_rt (i := .ireturn) (n := 1) (jq qX1_when 24 rfl) (jo_iret rfl (by decide))) H
          · rw [if_neg c18] at H
            refine Eq.trans (jb_nx (i := .ifCond .eq 17) (n := 3) (q := (35, [some (.ref p0)], [])) (jq qX1_when 15 rfl) (jo_ifF (jz_eqF c18))) ?_
            refine Eq.trans (jb_nx (i := .aload_n 0) (n := 1) (q := (36, [some (.ref p0)], [.ref p0])) (jq qX1_when 16 rfl) rfl) ?_
            refine Eq.trans (jb_nx (i := .bipush 37) (n := 2) (q := (38, [some (.ref p0)], [.int 37, .ref p0])) (jq qX1_when 17 rfl) rfl) ?_
            refine Eq.trans (jb_nx (i := .iconst 0) (n := 1) (q := (39, [some (.ref p0)], [.int 0, .int 37, .ref p0])) (jq qX1_when 18 rfl) rfl) ?_
            obtain ⟨b23, H⟩ := jm_O_inv H
            rcases jcI H with ⟨x21, h19, r20, H⟩ | ⟨w24, h25, r20, H⟩
            · refine Eq.trans (jb_nx (i := .invokevirtual 61) (n := 3) (q := (42, [some (.ref p0)], [.int x21])) (jq qX1_when 19 rfl) (jo_cv (y := mX1_put) rfl (Nat.le_of_ble_eq_true rfl) rfl (Nat.le_of_ble_eq_true rfl) b23 rfl r20 jo_ret)) ?_
              by_cases c22 : x21 = 0
              · rw [if_pos c22] at H
                refine Eq.trans (jb_nx (i := .ifCond .eq 7) (n := 3) (q := (49, [some (.ref p0)], [])) (jq qX1_when 20 rfl) (jo_ifT (jz_eqT c22) rfl)) ?_
                refine Eq.trans (jb_nx (i := .iconst 0) (n := 1) (q := (50, [some (.ref p0)], [.int 0])) (jq qX1_when 23 rfl) rfl) ?_
                exact Eq.trans (jb_rt (i := .ireturn) (n := 1) (jq qX1_when 24 rfl) (jo_iret rfl (by decide))) H
              · rw [if_neg c22] at H
                refine Eq.trans (jb_nx (i := .ifCond .eq 7) (n := 3) (q := (45, [some (.ref p0)], [])) (jq qX1_when 20 rfl) (jo_ifF (jz_eqF c22))) ?_
                refine Eq.trans (jb_nx (i := .iconst 1) (n := 1) (q := (46, [some (.ref p0)], [.int 1])) (jq qX1_when 21 rfl) rfl) ?_
                refine Eq.trans (jb_nx (i := .goto 4) (n := 3) (q := (50, [some (.ref p0)], [.int 1])) (jq qX1_when 22 rfl) rfl) ?_
                exact Eq.trans (jb_rt (i := .ireturn) (n := 1) (jq qX1_when 24 rfl) (jo_iret rfl (by decide))) H
            · exact Eq.trans (jb_rt (i := .invokevirtual 61) (n := 3) (jq qX1_when 19 rfl) (jo_cv (y := mX1_put) rfl (Nat.le_of_ble_eq_true rfl) rfl (Nat.le_of_ble_eq_true rfl) b23 rfl r20 (jo_exn rfl))) H
        · exact Eq.trans (jb_rt (i := .invokevirtual 58) (n := 3) (jq qX1_when 14 rfl) (jo_cv (y := mX1_test) rfl (Nat.le_of_ble_eq_true rfl) rfl (Nat.le_of_ble_eq_true rfl) b26 rfl r16 (jo_exn rfl))) H
    · exact Eq.trans (jb_rt (i := .invokevirtual 37) (n := 3) (jq qX1_when 10 rfl) (jo_cv (y := mX1_take) rfl (Nat.le_of_ble_eq_true rfl) rfl (Nat.le_of_ble_eq_true rfl) b29 rfl r12 (jo_exn rfl))) H
  · exact Eq.trans (jb_rt (i := .invokevirtual 49) (n := 3) (jq qX1_when 7 rfl) (jo_cv (y := mX9_mark) rfl (Nat.le_of_ble_eq_true rfl) rfl (Nat.le_of_ble_eq_true rfl) b32 rfl r10 (jo_exn rfl))) H
/-! MaskPlays$Grammar test (I)Z -/
def tX1_test : List (Nat × Instr × Nat) := [(0, .aload_n 0, 1), (1, .iload_n 1, 1), (2, .invokevirtual 68, 3), (5, .ifCond .ne 5, 3), (8, .iconst 0, 1), (9, .ireturn, 1), (10, .iconst 0, 1), (11, .istore_n 2, 1), (12, .iload_n 2, 1), (13, .sipush 400, 3), (16, .if_icmp .ge 36, 3), (19, .aload_n 0, 1), (20, .bipush 17, 2), (22, .invokevirtual 37, 3), (25, .ifCond .eq 27, 3), (28, .aload_n 0, 1), (29, .iload_n 1, 1), (30, .invokevirtual 68, 3), (33, .ifCond .ne 5, 3), (36, .iconst 0, 1), (37, .ireturn, 1), (38, .aload_n 0, 1), (39, .bipush 17, 2), (41, .iconst 0, 1), (42, .invokevirtual 61, 3), (45, .pop, 1), (46, .iinc 2 1, 3), (49, .goto (-37), 3), (52, .iconst 1, 1), (53, .ireturn, 1)]
set_option maxRecDepth 100000 in
theorem qX1_test : ∀ q ∈ tX1_test, decode cX1_test q.1 = .ok (q.2.1, q.2.2) := by decide +kernel
noncomputable def kX1_test_12 (d : Nat) (p0 : Nat) (i1 : Int32) (i2 : Int32) (h : jm_H) : Option jm_R := jm_B d mX1_test (12, [some (.ref p0), some (.int i1), some (.int i2)], []) h
theorem gX1_test_12 {d : Nat} {p0 : Nat} {i1 : Int32} {i2 : Int32} {h : jm_H} {r : jm_R} (H : ((if i2 < 400 then jm_O h p0 1 (jc_I (jm_D d mX1_take [.ref p0, .int 17] h) (fun x11 h9 => (if x11 = 0 then some (.inl (some (.int 1)), h9) else jm_O h9 p0 1 (jc_I (jm_D d mX1_both [.ref p0, .int i1] h9) (fun x15 h13 => (if x15 = 0 then some (.inl (some (.int 0)), h13) else jm_O h13 p0 1 (jc_I (jm_D d mX1_put [.ref p0, .int 17, .int 0] h13) (fun x19 h17 => kX1_test_12 d p0 i1 (i2 + 1) h17) jx))) jx))) jx) else some (.inl (some (.int 1)), h))) = some r) : kX1_test_12 d p0 i1 i2 h = some r := by
  show jm_B d mX1_test (12, [some (.ref p0), some (.int i1), some (.int i2)], []) h = some r
  refine Eq.trans (jb_nx (i := .iload_n 2) (n := 1) (q := (13, [some (.ref p0), some (.int i1), some (.int i2)], [.int i2])) (jq qX1_test 8 rfl) rfl) ?_
  refine Eq.trans (jb_nx (i := .sipush 400) (n := 3) (q := (16, [some (.ref p0), some (.int i1), some (.int i2)], [.int 400, .int i2])) (jq qX1_test 9 rfl) rfl) ?_
  by_cases c8 : i2 < 400
  · rw [if_pos c8] at H
    refine Eq.trans (jb_nx (i := .if_icmp .ge 36) (n := 3) (q := (19, [some (.ref p0), some (.int i1), some (.int i2)], [])) (jq qX1_test 10 rfl) (jo_icF (jz_geF c8))) ?_
    refine Eq.trans (jb_nx (i := .aload_n 0) (n := 1) (q := (20, [some (.ref p0), some (.int i1), some (.int i2)], [.ref p0])) (jq qX1_test 11 rfl) rfl) ?_
    refine Eq.trans (jb_nx (i := .bipush 17) (n := 2) (q := (22, [some (.ref p0), some (.int i1), some (.int i2)], [.int 17, .ref p0])) (jq qX1_test 12 rfl) rfl) ?_
    obtain ⟨b26, H⟩ := jm_O_inv H
    rcases jcI H with ⟨x11, h9, r10, H⟩ | ⟨w27, h28, r10, H⟩
    · refine Eq.trans (jb_nx (i := .invokevirtual 37) (n := 3) (q := (25, [some (.ref p0), some (.int i1), some (.int i2)], [.int x11])) (jq qX1_test 13 rfl) (jo_cv (y := mX1_take) rfl (Nat.le_of_ble_eq_true rfl) rfl (Nat.le_of_ble_eq_true rfl) b26 rfl r10 jo_ret)) ?_
      by_cases c12 : x11 = 0
      · rw [if_pos c12] at H
        refine Eq.trans (jb_nx (i := .ifCond .eq 27) (n := 3) (q := (52, [some (.ref p0), some (.int i1), some (.int i2)], [])) (jq qX1_test 14 rfl) (jo_ifT (jz_eqT c12) rfl)) ?_
        refine Eq.trans (jb_nx (i := .iconst 1) (n := 1) (q := (53, [some (.ref p0), some (.int i1), some (.int i2)], [.int 1])) (jq qX1_test 28 rfl) rfl) ?_
        exact Eq.trans (jb_rt (i := .ireturn) (n := 1) (jq qX1_test 29 rfl) (jo_iret rfl (by decide))) H
      · rw [if_neg c12] at H
        refine Eq.trans (jb_nx (i := .ifCond .eq 27) (n := 3) (q := (28, [some (.ref p0), some (.int i1), some (.int i2)], [])) (jq qX1_test 14 rfl) (jo_ifF (jz_eqF c12))) ?_
        refine Eq.trans (jb_nx (i := .aload_n 0) (n := 1) (q := (29, [some (.ref p0), some (.int i1), some (.int i2)], [.ref p0])) (jq qX1_test 15 rfl) rfl) ?_
        refine Eq.trans (jb_nx (i := .iload_n 1) (n := 1) (q := (30, [some (.ref p0), some (.int i1), some (.int i2)], [.int i1, .ref p0])) (jq qX1_test 16 rfl) rfl) ?_
        obtain ⟨b23, H⟩ := jm_O_inv H
        rcases jcI H with ⟨x15, h13, r14, H⟩ | ⟨w24, h25, r14, H⟩
        · refine Eq.trans (jb_nx (i := .invokevirtual 68) (n := 3) (q := (33, [some (.ref p0), some (.int i1), some (.int i2)], [.int x15])) (jq qX1_test 17 rfl) (jo_cv (y := mX1_both) rfl (Nat.le_of_ble_eq_true rfl) rfl (Nat.le_of_ble_eq_true rfl) b23 rfl r14 jo_ret)) ?_
          by_cases c16 : x15 = 0
          · rw [if_pos c16] at H
            refine Eq.trans (jb_nx (i := .ifCond .ne 5) (n := 3) (q := (36, [some (.ref p0), some (.int i1), some (.int i2)], [])) (jq qX1_test 18 rfl) (jo_ifF (jz_neF c16))) ?_
            refine Eq.trans (jb_nx (i := .iconst 0) (n := 1) (q := (37, [some (.ref p0), some (.int i1), some (.int i2)], [.int 0])) (jq qX1_test 19 rfl) rfl) ?_
            exact Eq.trans (jb_rt (i := .ireturn) (n := 1) (jq qX1_test 20 rfl) (jo_iret rfl (by decide))) H
          · rw [if_neg c16] at H
            refine Eq.trans (jb_nx (i := .ifCond .ne 5) (n := 3) (q := (38, [some (.ref p0), some (.int i1), some (.int i2)], [])) (jq qX1_test 18 rfl) (jo_ifT (jz_neT c16) rfl)) ?_
            refine Eq.trans (jb_nx (i := .aload_n 0) (n := 1) (q := (39, [some (.ref p0), some (.int i1), some (.int i2)], [.ref p0])) (jq qX1_test 21 rfl) rfl) ?_
            refine Eq.trans (jb_nx (i := .bipush 17) (n := 2) (q := (41, [some (.ref p0), some (.int i1), some (.int i2)], [.int 17, .ref p0])) (jq qX1_test 22 rfl) rfl) ?_
            refine Eq.trans (jb_nx (i := .iconst 0) (n := 1) (q := (42, [some (.ref p0), some (.int i1), some (.int i2)], [.int 0, .int 17, .ref p0])) (jq qX1_test 23 rfl) rfl) ?_
            obtain ⟨b20, H⟩ := jm_O_inv H
            rcases jcI H with ⟨x19, h17, r18, H⟩ | ⟨w21, h22, r18, H⟩
            · refine Eq.trans (jb_nx (i := .invokevirtual 61) (n := 3) (q := (45, [some (.ref p0), some (.int i1), some (.int i2)], [.int x19])) (jq qX1_test 24 rfl) (jo_cv (y := mX1_put) rfl (Nat.le_of_ble_eq_true rfl) rfl (Nat.le_of_ble_eq_true rfl) b20 rfl r18 jo_ret)) ?_
              refine Eq.trans (jb_nx (i := .pop) (n := 1) (q := (46, [some (.ref p0), some (.int i1), some (.int i2)], [])) (jq qX1_test 25 rfl) rfl) ?_
              refine Eq.trans (jb_nx (i := .iinc 2 1) (n := 3) (q := (49, [some (.ref p0), some (.int i1), some (.int (i2 + 1))], [])) (jq qX1_test 26 rfl) rfl) ?_
              refine Eq.trans (jb_nx (i := .goto (-37)) (n := 3) (q := (12, [some (.ref p0), some (.int i1), some (.int (i2 + 1))], [])) (jq qX1_test 27 rfl) rfl) ?_
              exact H
            · exact Eq.trans (jb_rt (i := .invokevirtual 61) (n := 3) (jq qX1_test 24 rfl) (jo_cv (y := mX1_put) rfl (Nat.le_of_ble_eq_true rfl) rfl (Nat.le_of_ble_eq_true rfl) b20 rfl r18 (jo_exn rfl))) H
        · exact Eq.trans (jb_rt (i := .invokevirtual 68) (n := 3) (jq qX1_test 17 rfl) (jo_cv (y := mX1_both) rfl (Nat.le_of_ble_eq_true rfl) rfl (Nat.le_of_ble_eq_true rfl) b23 rfl r14 (jo_exn rfl))) H
    · exact Eq.trans (jb_rt (i := .invokevirtual 37) (n := 3) (jq qX1_test 13 rfl) (jo_cv (y := mX1_take) rfl (Nat.le_of_ble_eq_true rfl) rfl (Nat.le_of_ble_eq_true rfl) b26 rfl r10 (jo_exn rfl))) H
  · rw [if_neg c8] at H
    refine Eq.trans (jb_nx (i := .if_icmp .ge 36) (n := 3) (q := (52, [some (.ref p0), some (.int i1), some (.int i2)], [])) (jq qX1_test 10 rfl) (jo_icT (jz_geT c8) rfl)) ?_
    refine Eq.trans (jb_nx (i := .iconst 1) (n := 1) (q := (53, [some (.ref p0), some (.int i1), some (.int i2)], [.int 1])) (jq qX1_test 28 rfl) rfl) ?_
    exact Eq.trans (jb_rt (i := .ireturn) (n := 1) (jq qX1_test 29 rfl) (jo_iret rfl (by decide))) H
theorem gX1_test {d : Nat} {p0 : Nat} {i1 : Int32} {h : jm_H} {r : jm_R} (H : (jm_O h p0 1 (jc_I (jm_D d mX1_both [.ref p0, .int i1] h) (fun x3 h1 => (if x3 = 0 then some (.inl (some (.int 0)), h1) else kX1_test_12 d p0 i1 0 h1)) jx)) = some r) : jm_D (d + 1) mX1_test [.ref p0, .int i1] h = some r := by
  rw [jm_D_body (Nat.le_of_ble_eq_true rfl)]
  show jm_B d mX1_test (0, [some (.ref p0), some (.int i1), none], []) h = some r
  refine Eq.trans (jb_nx (i := .aload_n 0) (n := 1) (q := (1, [some (.ref p0), some (.int i1), none], [.ref p0])) (jq qX1_test 0 rfl) rfl) ?_
  refine Eq.trans (jb_nx (i := .iload_n 1) (n := 1) (q := (2, [some (.ref p0), some (.int i1), none], [.int i1, .ref p0])) (jq qX1_test 1 rfl) rfl) ?_
  obtain ⟨b5, H⟩ := jm_O_inv H
  rcases jcI H with ⟨x3, h1, r2, H⟩ | ⟨w6, h7, r2, H⟩
  · refine Eq.trans (jb_nx (i := .invokevirtual 68) (n := 3) (q := (5, [some (.ref p0), some (.int i1), none], [.int x3])) (jq qX1_test 2 rfl) (jo_cv (y := mX1_both) rfl (Nat.le_of_ble_eq_true rfl) rfl (Nat.le_of_ble_eq_true rfl) b5 rfl r2 jo_ret)) ?_
    by_cases c4 : x3 = 0
    · rw [if_pos c4] at H
      refine Eq.trans (jb_nx (i := .ifCond .ne 5) (n := 3) (q := (8, [some (.ref p0), some (.int i1), none], [])) (jq qX1_test 3 rfl) (jo_ifF (jz_neF c4))) ?_
      refine Eq.trans (jb_nx (i := .iconst 0) (n := 1) (q := (9, [some (.ref p0), some (.int i1), none], [.int 0])) (jq qX1_test 4 rfl) rfl) ?_
      exact Eq.trans (jb_rt (i := .ireturn) (n := 1) (jq qX1_test 5 rfl) (jo_iret rfl (by decide))) H
    · rw [if_neg c4] at H
      refine Eq.trans (jb_nx (i := .ifCond .ne 5) (n := 3) (q := (10, [some (.ref p0), some (.int i1), none], [])) (jq qX1_test 3 rfl) (jo_ifT (jz_neT c4) rfl)) ?_
      refine Eq.trans (jb_nx (i := .iconst 0) (n := 1) (q := (11, [some (.ref p0), some (.int i1), none], [.int 0])) (jq qX1_test 6 rfl) rfl) ?_
      refine Eq.trans (jb_nx (i := .istore_n 2) (n := 1) (q := (12, [some (.ref p0), some (.int i1), some (.int 0)], [])) (jq qX1_test 7 rfl) rfl) ?_
      exact H
  · exact Eq.trans (jb_rt (i := .invokevirtual 68) (n := 3) (jq qX1_test 2 rfl) (jo_cv (y := mX1_both) rfl (Nat.le_of_ble_eq_true rfl) rfl (Nat.le_of_ble_eq_true rfl) b5 rfl r2 (jo_exn rfl))) H
/-! MaskPlays$Grammar both (I)Z -/
def tX1_both : List (Nat × Instr × Nat) := [(0, .aload_n 0, 1), (1, .iload_n 1, 1), (2, .invokevirtual 71, 3), (5, .ifCond .ne 5, 3), (8, .iconst 0, 1), (9, .ireturn, 1), (10, .iconst 0, 1), (11, .istore_n 2, 1), (12, .iload_n 2, 1), (13, .sipush 400, 3), (16, .if_icmp .ge 36, 3), (19, .aload_n 0, 1), (20, .bipush 16, 2), (22, .invokevirtual 37, 3), (25, .ifCond .eq 27, 3), (28, .aload_n 0, 1), (29, .iload_n 1, 1), (30, .invokevirtual 71, 3), (33, .ifCond .ne 5, 3), (36, .iconst 0, 1), (37, .ireturn, 1), (38, .aload_n 0, 1), (39, .bipush 16, 2), (41, .iconst 0, 1), (42, .invokevirtual 61, 3), (45, .pop, 1), (46, .iinc 2 1, 3), (49, .goto (-37), 3), (52, .iconst 1, 1), (53, .ireturn, 1)]
set_option maxRecDepth 100000 in
theorem qX1_both : ∀ q ∈ tX1_both, decode cX1_both q.1 = .ok (q.2.1, q.2.2) := by decide +kernel
noncomputable def kX1_both_12 (d : Nat) (p0 : Nat) (i1 : Int32) (i2 : Int32) (h : jm_H) : Option jm_R := jm_B d mX1_both (12, [some (.ref p0), some (.int i1), some (.int i2)], []) h
theorem gX1_both_12 {d : Nat} {p0 : Nat} {i1 : Int32} {i2 : Int32} {h : jm_H} {r : jm_R} (H : ((if i2 < 400 then jm_O h p0 1 (jc_I (jm_D d mX1_take [.ref p0, .int 16] h) (fun x11 h9 => (if x11 = 0 then some (.inl (some (.int 1)), h9) else jm_O h9 p0 1 (jc_I (jm_D d mX1_single [.ref p0, .int i1] h9) (fun x15 h13 => (if x15 = 0 then some (.inl (some (.int 0)), h13) else jm_O h13 p0 1 (jc_I (jm_D d mX1_put [.ref p0, .int 16, .int 0] h13) (fun x19 h17 => kX1_both_12 d p0 i1 (i2 + 1) h17) jx))) jx))) jx) else some (.inl (some (.int 1)), h))) = some r) : kX1_both_12 d p0 i1 i2 h = some r := by
  show jm_B d mX1_both (12, [some (.ref p0), some (.int i1), some (.int i2)], []) h = some r
  refine Eq.trans (jb_nx (i := .iload_n 2) (n := 1) (q := (13, [some (.ref p0), some (.int i1), some (.int i2)], [.int i2])) (jq qX1_both 8 rfl) rfl) ?_
  refine Eq.trans (jb_nx (i := .sipush 400) (n := 3) (q := (16, [some (.ref p0), some (.int i1), some (.int i2)], [.int 400, .int i2])) (jq qX1_both 9 rfl) rfl) ?_
  by_cases c8 : i2 < 400
  · rw [if_pos c8] at H
    refine Eq.trans (jb_nx (i := .if_icmp .ge 36) (n := 3) (q := (19, [some (.ref p0), some (.int i1), some (.int i2)], [])) (jq qX1_both 10 rfl) (jo_icF (jz_geF c8))) ?_
    refine Eq.trans (jb_nx (i := .aload_n 0) (n := 1) (q := (20, [some (.ref p0), some (.int i1), some (.int i2)], [.ref p0])) (jq qX1_both 11 rfl) rfl) ?_
    refine Eq.trans (jb_nx (i := .bipush 16) (n := 2) (q := (22, [some (.ref p0), some (.int i1), some (.int i2)], [.int 16, .ref p0])) (jq qX1_both 12 rfl) rfl) ?_
    obtain ⟨b26, H⟩ := jm_O_inv H
    rcases jcI H with ⟨x11, h9, r10, H⟩ | ⟨w27, h28, r10, H⟩
    · refine Eq.trans (jb_nx (i := .invokevirtual 37) (n := 3) (q := (25, [some (.ref p0), some (.int i1), some (.int i2)], [.int x11])) (jq qX1_both 13 rfl) (jo_cv (y := mX1_take) rfl (Nat.le_of_ble_eq_true rfl) rfl (Nat.le_of_ble_eq_true rfl) b26 rfl r10 jo_ret)) ?_
      by_cases c12 : x11 = 0
      · rw [if_pos c12] at H
        refine Eq.trans (jb_nx (i := .ifCond .eq 27) (n := 3) (q := (52, [some (.ref p0), some (.int i1), some (.int i2)], [])) (jq qX1_both 14 rfl) (jo_ifT (jz_eqT c12) rfl)) ?_
        refine Eq.trans (jb_nx (i := .iconst 1) (n := 1) (q := (53, [some (.ref p0), some (.int i1), some (.int i2)], [.int 1])) (jq qX1_both 28 rfl) rfl) ?_
        exact Eq.trans (jb_rt (i := .ireturn) (n := 1) (jq qX1_both 29 rfl) (jo_iret rfl (by decide))) H
      · rw [if_neg c12] at H
        refine Eq.trans (jb_nx (i := .ifCond .eq 27) (n := 3) (q := (28, [some (.ref p0), some (.int i1), some (.int i2)], [])) (jq qX1_both 14 rfl) (jo_ifF (jz_eqF c12))) ?_
        refine Eq.trans (jb_nx (i := .aload_n 0) (n := 1) (q := (29, [some (.ref p0), some (.int i1), some (.int i2)], [.ref p0])) (jq qX1_both 15 rfl) rfl) ?_
        refine Eq.trans (jb_nx (i := .iload_n 1) (n := 1) (q := (30, [some (.ref p0), some (.int i1), some (.int i2)], [.int i1, .ref p0])) (jq qX1_both 16 rfl) rfl) ?_
        obtain ⟨b23, H⟩ := jm_O_inv H
        rcases jcI H with ⟨x15, h13, r14, H⟩ | ⟨w24, h25, r14, H⟩
        · refine Eq.trans (jb_nx (i := .invokevirtual 71) (n := 3) (q := (33, [some (.ref p0), some (.int i1), some (.int i2)], [.int x15])) (jq qX1_both 17 rfl) (jo_cv (y := mX1_single) rfl (Nat.le_of_ble_eq_true rfl) rfl (Nat.le_of_ble_eq_true rfl) b23 rfl r14 jo_ret)) ?_
          by_cases c16 : x15 = 0
          · rw [if_pos c16] at H
            refine Eq.trans (jb_nx (i := .ifCond .ne 5) (n := 3) (q := (36, [some (.ref p0), some (.int i1), some (.int i2)], [])) (jq qX1_both 18 rfl) (jo_ifF (jz_neF c16))) ?_
            refine Eq.trans (jb_nx (i := .iconst 0) (n := 1) (q := (37, [some (.ref p0), some (.int i1), some (.int i2)], [.int 0])) (jq qX1_both 19 rfl) rfl) ?_
            exact Eq.trans (jb_rt (i := .ireturn) (n := 1) (jq qX1_both 20 rfl) (jo_iret rfl (by decide))) H
          · rw [if_neg c16] at H
            refine Eq.trans (jb_nx (i := .ifCond .ne 5) (n := 3) (q := (38, [some (.ref p0), some (.int i1), some (.int i2)], [])) (jq qX1_both 18 rfl) (jo_ifT (jz_neT c16) rfl)) ?_
            refine Eq.trans (jb_nx (i := .aload_n 0) (n := 1) (q := (39, [some (.ref p0), some (.int i1), some (.int i2)], [.ref p0])) (jq qX1_both 21 rfl) rfl) ?_
            refine Eq.trans (jb_nx (i := .bipush 16) (n := 2) (q := (41, [some (.ref p0), some (.int i1), some (.int i2)], [.int 16, .ref p0])) (jq qX1_both 22 rfl) rfl) ?_
            refine Eq.trans (jb_nx (i := .iconst 0) (n := 1) (q := (42, [some (.ref p0), some (.int i1), some (.int i2)], [.int 0, .int 16, .ref p0])) (jq qX1_both 23 rfl) rfl) ?_
            obtain ⟨b20, H⟩ := jm_O_inv H
            rcases jcI H with ⟨x19, h17, r18, H⟩ | ⟨w21, h22, r18, H⟩
            · refine Eq.trans (jb_nx (i := .invokevirtual 61) (n := 3) (q := (45, [some (.ref p0), some (.int i1), some (.int i2)], [.int x19])) (jq qX1_both 24 rfl) (jo_cv (y := mX1_put) rfl (Nat.le_of_ble_eq_true rfl) rfl (Nat.le_of_ble_eq_true rfl) b20 rfl r18 jo_ret)) ?_
              refine Eq.trans (jb_nx (i := .pop) (n := 1) (q := (46, [some (.ref p0), some (.int i1), some (.int i2)], [])) (jq qX1_both 25 rfl) rfl) ?_
              refine Eq.trans (jb_nx (i := .iinc 2 1) (n := 3) (q := (49, [some (.ref p0), some (.int i1), some (.int (i2 + 1))], [])) (jq qX1_both 26 rfl) rfl) ?_
              refine Eq.trans (jb_nx (i := .goto (-37)) (n := 3) (q := (12, [some (.ref p0), some (.int i1), some (.int (i2 + 1))], [])) (jq qX1_both 27 rfl) rfl) ?_
              exact H
            · exact Eq.trans (jb_rt (i := .invokevirtual 61) (n := 3) (jq qX1_both 24 rfl) (jo_cv (y := mX1_put) rfl (Nat.le_of_ble_eq_true rfl) rfl (Nat.le_of_ble_eq_true rfl) b20 rfl r18 (jo_exn rfl))) H
        · exact Eq.trans (jb_rt (i := .invokevirtual 71) (n := 3) (jq qX1_both 17 rfl) (jo_cv (y := mX1_single) rfl (Nat.le_of_ble_eq_true rfl) rfl (Nat.le_of_ble_eq_true rfl) b23 rfl r14 (jo_exn rfl))) H
    · exact Eq.trans (jb_rt (i := .invokevirtual 37) (n := 3) (jq qX1_both 13 rfl) (jo_cv (y := mX1_take) rfl (Nat.le_of_ble_eq_true rfl) rfl (Nat.le_of_ble_eq_true rfl) b26 rfl r10 (jo_exn rfl))) H
  · rw [if_neg c8] at H
    refine Eq.trans (jb_nx (i := .if_icmp .ge 36) (n := 3) (q := (52, [some (.ref p0), some (.int i1), some (.int i2)], [])) (jq qX1_both 10 rfl) (jo_icT (jz_geT c8) rfl)) ?_
    refine Eq.trans (jb_nx (i := .iconst 1) (n := 1) (q := (53, [some (.ref p0), some (.int i1), some (.int i2)], [.int 1])) (jq qX1_both 28 rfl) rfl) ?_
    exact Eq.trans (jb_rt (i := .ireturn) (n := 1) (jq qX1_both 29 rfl) (jo_iret rfl (by decide))) H
theorem gX1_both {d : Nat} {p0 : Nat} {i1 : Int32} {h : jm_H} {r : jm_R} (H : (jm_O h p0 1 (jc_I (jm_D d mX1_single [.ref p0, .int i1] h) (fun x3 h1 => (if x3 = 0 then some (.inl (some (.int 0)), h1) else kX1_both_12 d p0 i1 0 h1)) jx)) = some r) : jm_D (d + 1) mX1_both [.ref p0, .int i1] h = some r := by
  rw [jm_D_body (Nat.le_of_ble_eq_true rfl)]
  show jm_B d mX1_both (0, [some (.ref p0), some (.int i1), none], []) h = some r
  refine Eq.trans (jb_nx (i := .aload_n 0) (n := 1) (q := (1, [some (.ref p0), some (.int i1), none], [.ref p0])) (jq qX1_both 0 rfl) rfl) ?_
  refine Eq.trans (jb_nx (i := .iload_n 1) (n := 1) (q := (2, [some (.ref p0), some (.int i1), none], [.int i1, .ref p0])) (jq qX1_both 1 rfl) rfl) ?_
  obtain ⟨b5, H⟩ := jm_O_inv H
  rcases jcI H with ⟨x3, h1, r2, H⟩ | ⟨w6, h7, r2, H⟩
  · refine Eq.trans (jb_nx (i := .invokevirtual 71) (n := 3) (q := (5, [some (.ref p0), some (.int i1), none], [.int x3])) (jq qX1_both 2 rfl) (jo_cv (y := mX1_single) rfl (Nat.le_of_ble_eq_true rfl) rfl (Nat.le_of_ble_eq_true rfl) b5 rfl r2 jo_ret)) ?_
    by_cases c4 : x3 = 0
    · rw [if_pos c4] at H
      refine Eq.trans (jb_nx (i := .ifCond .ne 5) (n := 3) (q := (8, [some (.ref p0), some (.int i1), none], [])) (jq qX1_both 3 rfl) (jo_ifF (jz_neF c4))) ?_
      refine Eq.trans (jb_nx (i := .iconst 0) (n := 1) (q := (9, [some (.ref p0), some (.int i1), none], [.int 0])) (jq qX1_both 4 rfl) rfl) ?_
      exact Eq.trans (jb_rt (i := .ireturn) (n := 1) (jq qX1_both 5 rfl) (jo_iret rfl (by decide))) H
    · rw [if_neg c4] at H
      refine Eq.trans (jb_nx (i := .ifCond .ne 5) (n := 3) (q := (10, [some (.ref p0), some (.int i1), none], [])) (jq qX1_both 3 rfl) (jo_ifT (jz_neT c4) rfl)) ?_
      refine Eq.trans (jb_nx (i := .iconst 0) (n := 1) (q := (11, [some (.ref p0), some (.int i1), none], [.int 0])) (jq qX1_both 6 rfl) rfl) ?_
      refine Eq.trans (jb_nx (i := .istore_n 2) (n := 1) (q := (12, [some (.ref p0), some (.int i1), some (.int 0)], [])) (jq qX1_both 7 rfl) rfl) ?_
      exact H
  · exact Eq.trans (jb_rt (i := .invokevirtual 71) (n := 3) (jq qX1_both 2 rfl) (jo_cv (y := mX1_single) rfl (Nat.le_of_ble_eq_true rfl) rfl (Nat.le_of_ble_eq_true rfl) b5 rfl r2 (jo_exn rfl))) H
/-! MaskPlays$Grammar single (I)Z -/
def tX1_single : List (Nat × Instr × Nat) := [(0, .aload_n 0, 1), (1, .getfield 9, 3), (4, .aload_n 0, 1), (5, .getfield 19, 3), (8, .invokevirtual 31, 3), (11, .istore_n 2, 1), (12, .iload_n 2, 1), (13, .tableswitch 258 13 22 #[136, 185, 55, 258, 258, 258, 258, 258, 258, 96], 55), (68, .iload_n 1, 1), (69, .bipush 8, 2), (71, .if_icmp .ge 36, 3), (74, .aload_n 0, 1), (75, .bipush 15, 2), (77, .invokevirtual 37, 3), (80, .ifCond .eq 27, 3), (83, .aload_n 0, 1), (84, .iload_n 1, 1), (85, .iconst 1, 1), (86, .iadd, 1), (87, .invokevirtual 71, 3), (90, .ifCond .eq 17, 3), (93, .aload_n 0, 1), (94, .bipush 15, 2), (96, .iconst 0, 1), (97, .invokevirtual 61, 3), (100, .ifCond .eq 7, 3), (103, .iconst 1, 1), (104, .goto 4, 3), (107, .iconst 0, 1), (108, .ireturn, 1), (109, .iload_n 1, 1), (110, .bipush 8, 2), (112, .if_icmp .ge 35, 3), (115, .aload_n 0, 1), (116, .bipush 22, 2), (118, .invokevirtual 37, 3), (121, .ifCond .eq 26, 3), (124, .aload_n 0, 1), (125, .iload_n 1, 1), (126, .iconst 1, 1), (127, .iadd, 1), (128, .invokevirtual 58, 3), (131, .ifCond .eq 16, 3), (134, .aload_n 0, 1), (135, .bipush 23, 2), (137, .invokevirtual 37, 3), (140, .ifCond .eq 7, 3), (143, .iconst 1, 1), (144, .goto 4, 3), (147, .iconst 0, 1), (148, .ireturn, 1), (149, .aload_n 0, 1), (150, .bipush 13, 2), (152, .invokevirtual 37, 3), (155, .ifCond .eq 41, 3), (158, .aload_n 0, 1), (159, .bipush 35, 2), (161, .invokevirtual 37, 3), (164, .ifCond .eq 32, 3), (167, .aload_n 0, 1), (168, .bipush 35, 2), (170, .aload_n 0, 1), (171, .getfield 19, 3), (174, .iconst 1, 1), (175, .isub, 1), (176, .invokevirtual 61, 3), (179, .ifCond .eq 17, 3), (182, .aload_n 0, 1), (183, .bipush 13, 2), (185, .iconst 0, 1), (186, .invokevirtual 61, 3), (189, .ifCond .eq 7, 3), (192, .iconst 1, 1), (193, .goto 4, 3), (196, .iconst 0, 1), (197, .ireturn, 1), (198, .aload_n 0, 1), (199, .bipush 14, 2), (201, .invokevirtual 37, 3), (204, .ifCond .eq 65, 3), (207, .aload_n 0, 1), (208, .bipush 35, 2), (210, .invokevirtual 37, 3), (213, .ifCond .eq 56, 3), (216, .aload_n 0, 1), (217, .bipush 35, 2), (219, .aload_n 0, 1), (220, .getfield 19, 3), (223, .iconst 1, 1), (224, .isub, 1), (225, .invokevirtual 61, 3), (228, .ifCond .eq 41, 3), (231, .aload_n 0, 1), (232, .bipush 35, 2), (234, .invokevirtual 37, 3), (237, .ifCond .eq 32, 3), (240, .aload_n 0, 1), (241, .bipush 35, 2), (243, .aload_n 0, 1), (244, .getfield 19, 3), (247, .iconst 1, 1), (248, .isub, 1), (249, .invokevirtual 61, 3), (252, .ifCond .eq 17, 3), (255, .aload_n 0, 1), (256, .bipush 14, 2), (258, .iconst 0, 1), (259, .invokevirtual 61, 3), (262, .ifCond .eq 7, 3), (265, .iconst 1, 1), (266, .goto 4, 3), (269, .iconst 0, 1), (270, .ireturn, 1), (271, .aload_n 0, 1), (272, .iload_n 1, 1), (273, .invokevirtual 74, 3), (276, .ifCond .ne 5, 3), (279, .iconst 0, 1), (280, .ireturn, 1), (281, .aload_n 0, 1), (282, .getfield 9, 3), (285, .aload_n 0, 1), (286, .getfield 19, 3), (289, .invokevirtual 31, 3), (292, .istore_n 3, 1), (293, .iload_n 3, 1), (294, .bipush 30, 2), (296, .if_icmp .lt 9, 3), (299, .iload_n 3, 1), (300, .bipush 34, 2), (302, .if_icmp .le 5, 3), (305, .iconst 0, 1), (306, .ireturn, 1), (307, .aload_n 0, 1), (308, .dup, 1), (309, .getfield 19, 3), (312, .iconst 1, 1), (313, .iadd, 1), (314, .putfield 19, 3), (317, .aload_n 0, 1), (318, .iload_n 1, 1), (319, .invokevirtual 74, 3), (322, .ifCond .eq 16, 3), (325, .aload_n 0, 1), (326, .iload_n 3, 1), (327, .iconst 0, 1), (328, .invokevirtual 61, 3), (331, .ifCond .eq 7, 3), (334, .iconst 1, 1), (335, .goto 4, 3), (338, .iconst 0, 1), (339, .ireturn, 1)]
set_option maxRecDepth 100000 in
theorem qX1_single : ∀ q ∈ tX1_single, decode cX1_single q.1 = .ok (q.2.1, q.2.2) := by decide +kernel
theorem gX1_single {d : Nat} {p0 : Nat} {i1 : Int32} {h : jm_H} {r : jm_R} (H : ((jr_R h p0 1 0 2).bind fun a1 => (jr_I h p0 1 2 0).bind fun x3 => jm_O h a1 9 (jc_I (jm_D d mX9_kindAt [.ref a1, .int x3] h) (fun x7 h5 => (if x7 = 13 then jm_O h5 p0 1 (jc_I (jm_D d mX1_take [.ref p0, .int 13] h5) (fun x11 h9 => (if x11 = 0 then some (.inl (some (.int 0)), h9) else jm_O h9 p0 1 (jc_I (jm_D d mX1_take [.ref p0, .int 35] h9) (fun x15 h13 => (if x15 = 0 then some (.inl (some (.int 0)), h13) else (jr_I h13 p0 1 2 0).bind fun x17 => jm_O h13 p0 1 (jc_I (jm_D d mX1_put [.ref p0, .int 35, .int (x17 - 1)] h13) (fun x21 h19 => (if x21 = 0 then some (.inl (some (.int 0)), h19) else jm_O h19 p0 1 (jc_I (jm_D d mX1_put [.ref p0, .int 13, .int 0] h19) (fun x25 h23 => (if x25 = 0 then some (.inl (some (.int 0)), h23) else some (.inl (some (.int 1)), h23))) jx))) jx))) jx))) jx) else (if x7 = 14 then jm_O h5 p0 1 (jc_I (jm_D d mX1_take [.ref p0, .int 14] h5) (fun x42 h40 => (if x42 = 0 then some (.inl (some (.int 0)), h40) else jm_O h40 p0 1 (jc_I (jm_D d mX1_take [.ref p0, .int 35] h40) (fun x46 h44 => (if x46 = 0 then some (.inl (some (.int 0)), h44) else (jr_I h44 p0 1 2 0).bind fun x48 => jm_O h44 p0 1 (jc_I (jm_D d mX1_put [.ref p0, .int 35, .int (x48 - 1)] h44) (fun x52 h50 => (if x52 = 0 then some (.inl (some (.int 0)), h50) else jm_O h50 p0 1 (jc_I (jm_D d mX1_take [.ref p0, .int 35] h50) (fun x56 h54 => (if x56 = 0 then some (.inl (some (.int 0)), h54) else (jr_I h54 p0 1 2 0).bind fun x58 => jm_O h54 p0 1 (jc_I (jm_D d mX1_put [.ref p0, .int 35, .int (x58 - 1)] h54) (fun x62 h60 => (if x62 = 0 then some (.inl (some (.int 0)), h60) else jm_O h60 p0 1 (jc_I (jm_D d mX1_put [.ref p0, .int 14, .int 0] h60) (fun x66 h64 => (if x66 = 0 then some (.inl (some (.int 0)), h64) else some (.inl (some (.int 1)), h64))) jx))) jx))) jx))) jx))) jx))) jx) else (if x7 = 15 then (if i1 < 8 then jm_O h5 p0 1 (jc_I (jm_D d mX1_take [.ref p0, .int 15] h5) (fun x90 h88 => (if x90 = 0 then some (.inl (some (.int 0)), h88) else jm_O h88 p0 1 (jc_I (jm_D d mX1_single [.ref p0, .int (i1 + 1)] h88) (fun x94 h92 => (if x94 = 0 then some (.inl (some (.int 0)), h92) else jm_O h92 p0 1 (jc_I (jm_D d mX1_put [.ref p0, .int 15, .int 0] h92) (fun x98 h96 => (if x98 = 0 then some (.inl (some (.int 0)), h96) else some (.inl (some (.int 1)), h96))) jx))) jx))) jx) else some (.inl (some (.int 0)), h5)) else (if x7 = 22 then (if i1 < 8 then jm_O h5 p0 1 (jc_I (jm_D d mX1_take [.ref p0, .int 22] h5) (fun x113 h111 => (if x113 = 0 then some (.inl (some (.int 0)), h111) else jm_O h111 p0 1 (jc_I (jm_D d mX1_test [.ref p0, .int (i1 + 1)] h111) (fun x117 h115 => (if x117 = 0 then some (.inl (some (.int 0)), h115) else jm_O h115 p0 1 (jc_I (jm_D d mX1_take [.ref p0, .int 23] h115) (fun x121 h119 => (if x121 = 0 then some (.inl (some (.int 0)), h119) else some (.inl (some (.int 1)), h119))) jx))) jx))) jx) else some (.inl (some (.int 0)), h5)) else jm_O h5 p0 1 (jc_I (jm_D d mX1_sum [.ref p0, .int i1] h5) (fun x134 h132 => (if x134 = 0 then some (.inl (some (.int 0)), h132) else (jr_R h132 p0 1 0 2).bind fun a136 => (jr_I h132 p0 1 2 0).bind fun x138 => jm_O h132 a136 9 (jc_I (jm_D d mX9_kindAt [.ref a136, .int x138] h132) (fun x142 h140 => (if x142 < 30 then some (.inl (some (.int 0)), h140) else (if 34 < x142 then some (.inl (some (.int 0)), h140) else (jr_I h140 p0 1 2 0).bind fun x145 => (jm_pf h140 p0 1 2 0 (.int (x145 + 1))).bind fun h147 => jm_O h147 p0 1 (jc_I (jm_D d mX1_sum [.ref p0, .int i1] h147) (fun x151 h149 => (if x151 = 0 then some (.inl (some (.int 0)), h149) else jm_O h149 p0 1 (jc_I (jm_D d mX1_put [.ref p0, .int x142, .int 0] h149) (fun x155 h153 => (if x155 = 0 then some (.inl (some (.int 0)), h153) else some (.inl (some (.int 1)), h153))) jx))) jx)))) jx))) jx)))))) jx)) = some r) : jm_D (d + 1) mX1_single [.ref p0, .int i1] h = some r := by
  rw [jm_D_body (Nat.le_of_ble_eq_true rfl)]
  show jm_B d mX1_single (0, [some (.ref p0), some (.int i1), none, none], []) h = some r
  refine Eq.trans (jb_nx (i := .aload_n 0) (n := 1) (q := (1, [some (.ref p0), some (.int i1), none, none], [.ref p0])) (jq qX1_single 0 rfl) rfl) ?_
  obtain ⟨a1, e2, H⟩ := jbd H
  refine Eq.trans (jb_nx (i := .getfield 9) (n := 3) (q := (4, [some (.ref p0), some (.int i1), none, none], [.ref a1])) (jq qX1_single 1 rfl) (jo_gf rfl (jr_R_inv e2))) ?_
  refine Eq.trans (jb_nx (i := .aload_n 0) (n := 1) (q := (5, [some (.ref p0), some (.int i1), none, none], [.ref p0, .ref a1])) (jq qX1_single 2 rfl) rfl) ?_
  obtain ⟨x3, e4, H⟩ := jbd H
  refine Eq.trans (jb_nx (i := .getfield 19) (n := 3) (q := (8, [some (.ref p0), some (.int i1), none, none], [.int x3, .ref a1])) (jq qX1_single 3 rfl) (jo_gf rfl (jr_I_inv e4))) ?_
  obtain ⟨b169, H⟩ := jm_O_inv H
  rcases jcI H with ⟨x7, h5, r6, H⟩ | ⟨w170, h171, r6, H⟩
  · refine Eq.trans (jb_nx (i := .invokevirtual 31) (n := 3) (q := (11, [some (.ref p0), some (.int i1), none, none], [.int x7])) (jq qX1_single 4 rfl) (jo_cv (y := mX9_kindAt) rfl (Nat.le_of_ble_eq_true rfl) rfl (Nat.le_of_ble_eq_true rfl) b169 rfl r6 jo_ret)) ?_
    refine Eq.trans (jb_nx (i := .istore_n 2) (n := 1) (q := (12, [some (.ref p0), some (.int i1), some (.int x7), none], [])) (jq qX1_single 5 rfl) rfl) ?_
    refine Eq.trans (jb_nx (i := .iload_n 2) (n := 1) (q := (13, [some (.ref p0), some (.int i1), some (.int x7), none], [.int x7])) (jq qX1_single 6 rfl) rfl) ?_
    by_cases c8 : x7 = 13
    · rw [if_pos c8] at H
      refine Eq.trans (jb_nx (i := .tableswitch 258 13 22 #[136, 185, 55, 258, 258, 258, 258, 258, 258, 96]) (n := 55) (q := (149, [some (.ref p0), some (.int i1), some (.int x7), none], [])) (jq qX1_single 7 rfl) (by rw [c8]; rfl)) ?_
      refine Eq.trans (jb_nx (i := .aload_n 0) (n := 1) (q := (150, [some (.ref p0), some (.int i1), some (.int x7), none], [.ref p0])) (jq qX1_single 51 rfl) rfl) ?_
      refine Eq.trans (jb_nx (i := .bipush 13) (n := 2) (q := (152, [some (.ref p0), some (.int i1), some (.int x7), none], [.int 13, .ref p0])) (jq qX1_single 52 rfl) rfl) ?_
      obtain ⟨b36, H⟩ := jm_O_inv H
      rcases jcI H with ⟨x11, h9, r10, H⟩ | ⟨w37, h38, r10, H⟩
      · refine Eq.trans (jb_nx (i := .invokevirtual 37) (n := 3) (q := (155, [some (.ref p0), some (.int i1), some (.int x7), none], [.int x11])) (jq qX1_single 53 rfl) (jo_cv (y := mX1_take) rfl (Nat.le_of_ble_eq_true rfl) rfl (Nat.le_of_ble_eq_true rfl) b36 rfl r10 jo_ret)) ?_
        by_cases c12 : x11 = 0
        · rw [if_pos c12] at H
          refine Eq.trans (jb_nx (i := .ifCond .eq 41) (n := 3) (q := (196, [some (.ref p0), some (.int i1), some (.int x7), none], [])) (jq qX1_single 54 rfl) (jo_ifT (jz_eqT c12) rfl)) ?_
          refine Eq.trans (jb_nx (i := .iconst 0) (n := 1) (q := (197, [some (.ref p0), some (.int i1), some (.int x7), none], [.int 0])) (jq qX1_single 74 rfl) rfl) ?_
          exact Eq.trans (jb_rt (i := .ireturn) (n := 1) (jq qX1_single 75 rfl) (jo_iret rfl (by decide))) H
        · rw [if_neg c12] at H
          refine Eq.trans (jb_nx (i := .ifCond .eq 41) (n := 3) (q := (158, [some (.ref p0), some (.int i1), some (.int x7), none], [])) (jq qX1_single 54 rfl) (jo_ifF (jz_eqF c12))) ?_
          refine Eq.trans (jb_nx (i := .aload_n 0) (n := 1) (q := (159, [some (.ref p0), some (.int i1), some (.int x7), none], [.ref p0])) (jq qX1_single 55 rfl) rfl) ?_
          refine Eq.trans (jb_nx (i := .bipush 35) (n := 2) (q := (161, [some (.ref p0), some (.int i1), some (.int x7), none], [.int 35, .ref p0])) (jq qX1_single 56 rfl) rfl) ?_
          obtain ⟨b33, H⟩ := jm_O_inv H
          rcases jcI H with ⟨x15, h13, r14, H⟩ | ⟨w34, h35, r14, H⟩
          · refine Eq.trans (jb_nx (i := .invokevirtual 37) (n := 3) (q := (164, [some (.ref p0), some (.int i1), some (.int x7), none], [.int x15])) (jq qX1_single 57 rfl) (jo_cv (y := mX1_take) rfl (Nat.le_of_ble_eq_true rfl) rfl (Nat.le_of_ble_eq_true rfl) b33 rfl r14 jo_ret)) ?_
            by_cases c16 : x15 = 0
            · rw [if_pos c16] at H
              refine Eq.trans (jb_nx (i := .ifCond .eq 32) (n := 3) (q := (196, [some (.ref p0), some (.int i1), some (.int x7), none], [])) (jq qX1_single 58 rfl) (jo_ifT (jz_eqT c16) rfl)) ?_
              refine Eq.trans (jb_nx (i := .iconst 0) (n := 1) (q := (197, [some (.ref p0), some (.int i1), some (.int x7), none], [.int 0])) (jq qX1_single 74 rfl) rfl) ?_
              exact Eq.trans (jb_rt (i := .ireturn) (n := 1) (jq qX1_single 75 rfl) (jo_iret rfl (by decide))) H
            · rw [if_neg c16] at H
              refine Eq.trans (jb_nx (i := .ifCond .eq 32) (n := 3) (q := (167, [some (.ref p0), some (.int i1), some (.int x7), none], [])) (jq qX1_single 58 rfl) (jo_ifF (jz_eqF c16))) ?_
              refine Eq.trans (jb_nx (i := .aload_n 0) (n := 1) (q := (168, [some (.ref p0), some (.int i1), some (.int x7), none], [.ref p0])) (jq qX1_single 59 rfl) rfl) ?_
              refine Eq.trans (jb_nx (i := .bipush 35) (n := 2) (q := (170, [some (.ref p0), some (.int i1), some (.int x7), none], [.int 35, .ref p0])) (jq qX1_single 60 rfl) rfl) ?_
              refine Eq.trans (jb_nx (i := .aload_n 0) (n := 1) (q := (171, [some (.ref p0), some (.int i1), some (.int x7), none], [.ref p0, .int 35, .ref p0])) (jq qX1_single 61 rfl) rfl) ?_
              obtain ⟨x17, e18, H⟩ := jbd H
              refine Eq.trans (jb_nx (i := .getfield 19) (n := 3) (q := (174, [some (.ref p0), some (.int i1), some (.int x7), none], [.int x17, .int 35, .ref p0])) (jq qX1_single 62 rfl) (jo_gf rfl (jr_I_inv e18))) ?_
              refine Eq.trans (jb_nx (i := .iconst 1) (n := 1) (q := (175, [some (.ref p0), some (.int i1), some (.int x7), none], [.int 1, .int x17, .int 35, .ref p0])) (jq qX1_single 63 rfl) rfl) ?_
              refine Eq.trans (jb_nx (i := .isub) (n := 1) (q := (176, [some (.ref p0), some (.int i1), some (.int x7), none], [.int (x17 - 1), .int 35, .ref p0])) (jq qX1_single 64 rfl) rfl) ?_
              obtain ⟨b30, H⟩ := jm_O_inv H
              rcases jcI H with ⟨x21, h19, r20, H⟩ | ⟨w31, h32, r20, H⟩
              · refine Eq.trans (jb_nx (i := .invokevirtual 61) (n := 3) (q := (179, [some (.ref p0), some (.int i1), some (.int x7), none], [.int x21])) (jq qX1_single 65 rfl) (jo_cv (y := mX1_put) rfl (Nat.le_of_ble_eq_true rfl) rfl (Nat.le_of_ble_eq_true rfl) b30 rfl r20 jo_ret)) ?_
                by_cases c22 : x21 = 0
                · rw [if_pos c22] at H
                  refine Eq.trans (jb_nx (i := .ifCond .eq 17) (n := 3) (q := (196, [some (.ref p0), some (.int i1), some (.int x7), none], [])) (jq qX1_single 66 rfl) (jo_ifT (jz_eqT c22) rfl)) ?_
                  refine Eq.trans (jb_nx (i := .iconst 0) (n := 1) (q := (197, [some (.ref p0), some (.int i1), some (.int x7), none], [.int 0])) (jq qX1_single 74 rfl) rfl) ?_
                  exact Eq.trans (jb_rt (i := .ireturn) (n := 1) (jq qX1_single 75 rfl) (jo_iret rfl (by decide))) H
                · rw [if_neg c22] at H
                  refine Eq.trans (jb_nx (i := .ifCond .eq 17) (n := 3) (q := (182, [some (.ref p0), some (.int i1), some (.int x7), none], [])) (jq qX1_single 66 rfl) (jo_ifF (jz_eqF c22))) ?_
                  refine Eq.trans (jb_nx (i := .aload_n 0) (n := 1) (q := (183, [some (.ref p0), some (.int i1), some (.int x7), none], [.ref p0])) (jq qX1_single 67 rfl) rfl) ?_
                  refine Eq.trans (jb_nx (i := .bipush 13) (n := 2) (q := (185, [some (.ref p0), some (.int i1), some (.int x7), none], [.int 13, .ref p0])) (jq qX1_single 68 rfl) rfl) ?_
                  refine Eq.trans (jb_nx (i := .iconst 0) (n := 1) (q := (186, [some (.ref p0), some (.int i1), some (.int x7), none], [.int 0, .int 13, .ref p0])) (jq qX1_single 69 rfl) rfl) ?_
                  obtain ⟨b27, H⟩ := jm_O_inv H
                  rcases jcI H with ⟨x25, h23, r24, H⟩ | ⟨w28, h29, r24, H⟩
                  · refine Eq.trans (jb_nx (i := .invokevirtual 61) (n := 3) (q := (189, [some (.ref p0), some (.int i1), some (.int x7), none], [.int x25])) (jq qX1_single 70 rfl) (jo_cv (y := mX1_put) rfl (Nat.le_of_ble_eq_true rfl) rfl (Nat.le_of_ble_eq_true rfl) b27 rfl r24 jo_ret)) ?_
                    by_cases c26 : x25 = 0
                    · rw [if_pos c26] at H
                      refine Eq.trans (jb_nx (i := .ifCond .eq 7) (n := 3) (q := (196, [some (.ref p0), some (.int i1), some (.int x7), none], [])) (jq qX1_single 71 rfl) (jo_ifT (jz_eqT c26) rfl)) ?_
                      refine Eq.trans (jb_nx (i := .iconst 0) (n := 1) (q := (197, [some (.ref p0), some (.int i1), some (.int x7), none], [.int 0])) (jq qX1_single 74 rfl) rfl) ?_
                      exact Eq.trans (jb_rt (i := .ireturn) (n := 1) (jq qX1_single 75 rfl) (jo_iret rfl (by decide))) H
                    · rw [if_neg c26] at H
                      refine Eq.trans (jb_nx (i := .ifCond .eq 7) (n := 3) (q := (192, [some (.ref p0), some (.int i1), some (.int x7), none], [])) (jq qX1_single 71 rfl) (jo_ifF (jz_eqF c26))) ?_
                      refine Eq.trans (jb_nx (i := .iconst 1) (n := 1) (q := (193, [some (.ref p0), some (.int i1), some (.int x7), none], [.int 1])) (jq qX1_single 72 rfl) rfl) ?_
                      refine Eq.trans (jb_nx (i := .goto 4) (n := 3) (q := (197, [some (.ref p0), some (.int i1), some (.int x7), none], [.int 1])) (jq qX1_single 73 rfl) rfl) ?_
                      exact Eq.trans (jb_rt (i := .ireturn) (n := 1) (jq qX1_single 75 rfl) (jo_iret rfl (by decide))) H
                  · exact Eq.trans (jb_rt (i := .invokevirtual 61) (n := 3) (jq qX1_single 70 rfl) (jo_cv (y := mX1_put) rfl (Nat.le_of_ble_eq_true rfl) rfl (Nat.le_of_ble_eq_true rfl) b27 rfl r24 (jo_exn rfl))) H
              · exact Eq.trans (jb_rt (i := .invokevirtual 61) (n := 3) (jq qX1_single 65 rfl) (jo_cv (y := mX1_put) rfl (Nat.le_of_ble_eq_true rfl) rfl (Nat.le_of_ble_eq_true rfl) b30 rfl r20 (jo_exn rfl))) H
          · exact Eq.trans (jb_rt (i := .invokevirtual 37) (n := 3) (jq qX1_single 57 rfl) (jo_cv (y := mX1_take) rfl (Nat.le_of_ble_eq_true rfl) rfl (Nat.le_of_ble_eq_true rfl) b33 rfl r14 (jo_exn rfl))) H
      · exact Eq.trans (jb_rt (i := .invokevirtual 37) (n := 3) (jq qX1_single 53 rfl) (jo_cv (y := mX1_take) rfl (Nat.le_of_ble_eq_true rfl) rfl (Nat.le_of_ble_eq_true rfl) b36 rfl r10 (jo_exn rfl))) H
    · rw [if_neg c8] at H
      by_cases c39 : x7 = 14
      · rw [if_pos c39] at H
        refine Eq.trans (jb_nx (i := .tableswitch 258 13 22 #[136, 185, 55, 258, 258, 258, 258, 258, 258, 96]) (n := 55) (q := (198, [some (.ref p0), some (.int i1), some (.int x7), none], [])) (jq qX1_single 7 rfl) (by rw [c39]; rfl)) ?_
        refine Eq.trans (jb_nx (i := .aload_n 0) (n := 1) (q := (199, [some (.ref p0), some (.int i1), some (.int x7), none], [.ref p0])) (jq qX1_single 76 rfl) rfl) ?_
        refine Eq.trans (jb_nx (i := .bipush 14) (n := 2) (q := (201, [some (.ref p0), some (.int i1), some (.int x7), none], [.int 14, .ref p0])) (jq qX1_single 77 rfl) rfl) ?_
        obtain ⟨b83, H⟩ := jm_O_inv H
        rcases jcI H with ⟨x42, h40, r41, H⟩ | ⟨w84, h85, r41, H⟩
        · refine Eq.trans (jb_nx (i := .invokevirtual 37) (n := 3) (q := (204, [some (.ref p0), some (.int i1), some (.int x7), none], [.int x42])) (jq qX1_single 78 rfl) (jo_cv (y := mX1_take) rfl (Nat.le_of_ble_eq_true rfl) rfl (Nat.le_of_ble_eq_true rfl) b83 rfl r41 jo_ret)) ?_
          by_cases c43 : x42 = 0
          · rw [if_pos c43] at H
            refine Eq.trans (jb_nx (i := .ifCond .eq 65) (n := 3) (q := (269, [some (.ref p0), some (.int i1), some (.int x7), none], [])) (jq qX1_single 79 rfl) (jo_ifT (jz_eqT c43) rfl)) ?_
            refine Eq.trans (jb_nx (i := .iconst 0) (n := 1) (q := (270, [some (.ref p0), some (.int i1), some (.int x7), none], [.int 0])) (jq qX1_single 111 rfl) rfl) ?_
            exact Eq.trans (jb_rt (i := .ireturn) (n := 1) (jq qX1_single 112 rfl) (jo_iret rfl (by decide))) H
          · rw [if_neg c43] at H
            refine Eq.trans (jb_nx (i := .ifCond .eq 65) (n := 3) (q := (207, [some (.ref p0), some (.int i1), some (.int x7), none], [])) (jq qX1_single 79 rfl) (jo_ifF (jz_eqF c43))) ?_
            refine Eq.trans (jb_nx (i := .aload_n 0) (n := 1) (q := (208, [some (.ref p0), some (.int i1), some (.int x7), none], [.ref p0])) (jq qX1_single 80 rfl) rfl) ?_
            refine Eq.trans (jb_nx (i := .bipush 35) (n := 2) (q := (210, [some (.ref p0), some (.int i1), some (.int x7), none], [.int 35, .ref p0])) (jq qX1_single 81 rfl) rfl) ?_
            obtain ⟨b80, H⟩ := jm_O_inv H
            rcases jcI H with ⟨x46, h44, r45, H⟩ | ⟨w81, h82, r45, H⟩
            · refine Eq.trans (jb_nx (i := .invokevirtual 37) (n := 3) (q := (213, [some (.ref p0), some (.int i1), some (.int x7), none], [.int x46])) (jq qX1_single 82 rfl) (jo_cv (y := mX1_take) rfl (Nat.le_of_ble_eq_true rfl) rfl (Nat.le_of_ble_eq_true rfl) b80 rfl r45 jo_ret)) ?_
              by_cases c47 : x46 = 0
              · rw [if_pos c47] at H
                refine Eq.trans (jb_nx (i := .ifCond .eq 56) (n := 3) (q := (269, [some (.ref p0), some (.int i1), some (.int x7), none], [])) (jq qX1_single 83 rfl) (jo_ifT (jz_eqT c47) rfl)) ?_
                refine Eq.trans (jb_nx (i := .iconst 0) (n := 1) (q := (270, [some (.ref p0), some (.int i1), some (.int x7), none], [.int 0])) (jq qX1_single 111 rfl) rfl) ?_
                exact Eq.trans (jb_rt (i := .ireturn) (n := 1) (jq qX1_single 112 rfl) (jo_iret rfl (by decide))) H
              · rw [if_neg c47] at H
                refine Eq.trans (jb_nx (i := .ifCond .eq 56) (n := 3) (q := (216, [some (.ref p0), some (.int i1), some (.int x7), none], [])) (jq qX1_single 83 rfl) (jo_ifF (jz_eqF c47))) ?_
                refine Eq.trans (jb_nx (i := .aload_n 0) (n := 1) (q := (217, [some (.ref p0), some (.int i1), some (.int x7), none], [.ref p0])) (jq qX1_single 84 rfl) rfl) ?_
                refine Eq.trans (jb_nx (i := .bipush 35) (n := 2) (q := (219, [some (.ref p0), some (.int i1), some (.int x7), none], [.int 35, .ref p0])) (jq qX1_single 85 rfl) rfl) ?_
                refine Eq.trans (jb_nx (i := .aload_n 0) (n := 1) (q := (220, [some (.ref p0), some (.int i1), some (.int x7), none], [.ref p0, .int 35, .ref p0])) (jq qX1_single 86 rfl) rfl) ?_
                obtain ⟨x48, e49, H⟩ := jbd H
                refine Eq.trans (jb_nx (i := .getfield 19) (n := 3) (q := (223, [some (.ref p0), some (.int i1), some (.int x7), none], [.int x48, .int 35, .ref p0])) (jq qX1_single 87 rfl) (jo_gf rfl (jr_I_inv e49))) ?_
                refine Eq.trans (jb_nx (i := .iconst 1) (n := 1) (q := (224, [some (.ref p0), some (.int i1), some (.int x7), none], [.int 1, .int x48, .int 35, .ref p0])) (jq qX1_single 88 rfl) rfl) ?_
                refine Eq.trans (jb_nx (i := .isub) (n := 1) (q := (225, [some (.ref p0), some (.int i1), some (.int x7), none], [.int (x48 - 1), .int 35, .ref p0])) (jq qX1_single 89 rfl) rfl) ?_
                obtain ⟨b77, H⟩ := jm_O_inv H
                rcases jcI H with ⟨x52, h50, r51, H⟩ | ⟨w78, h79, r51, H⟩
                · refine Eq.trans (jb_nx (i := .invokevirtual 61) (n := 3) (q := (228, [some (.ref p0), some (.int i1), some (.int x7), none], [.int x52])) (jq qX1_single 90 rfl) (jo_cv (y := mX1_put) rfl (Nat.le_of_ble_eq_true rfl) rfl (Nat.le_of_ble_eq_true rfl) b77 rfl r51 jo_ret)) ?_
                  by_cases c53 : x52 = 0
                  · rw [if_pos c53] at H
                    refine Eq.trans (jb_nx (i := .ifCond .eq 41) (n := 3) (q := (269, [some (.ref p0), some (.int i1), some (.int x7), none], [])) (jq qX1_single 91 rfl) (jo_ifT (jz_eqT c53) rfl)) ?_
                    refine Eq.trans (jb_nx (i := .iconst 0) (n := 1) (q := (270, [some (.ref p0), some (.int i1), some (.int x7), none], [.int 0])) (jq qX1_single 111 rfl) rfl) ?_
                    exact Eq.trans (jb_rt (i := .ireturn) (n := 1) (jq qX1_single 112 rfl) (jo_iret rfl (by decide))) H
                  · rw [if_neg c53] at H
                    refine Eq.trans (jb_nx (i := .ifCond .eq 41) (n := 3) (q := (231, [some (.ref p0), some (.int i1), some (.int x7), none], [])) (jq qX1_single 91 rfl) (jo_ifF (jz_eqF c53))) ?_
                    refine Eq.trans (jb_nx (i := .aload_n 0) (n := 1) (q := (232, [some (.ref p0), some (.int i1), some (.int x7), none], [.ref p0])) (jq qX1_single 92 rfl) rfl) ?_
                    refine Eq.trans (jb_nx (i := .bipush 35) (n := 2) (q := (234, [some (.ref p0), some (.int i1), some (.int x7), none], [.int 35, .ref p0])) (jq qX1_single 93 rfl) rfl) ?_
                    obtain ⟨b74, H⟩ := jm_O_inv H
                    rcases jcI H with ⟨x56, h54, r55, H⟩ | ⟨w75, h76, r55, H⟩
                    · refine Eq.trans (jb_nx (i := .invokevirtual 37) (n := 3) (q := (237, [some (.ref p0), some (.int i1), some (.int x7), none], [.int x56])) (jq qX1_single 94 rfl) (jo_cv (y := mX1_take) rfl (Nat.le_of_ble_eq_true rfl) rfl (Nat.le_of_ble_eq_true rfl) b74 rfl r55 jo_ret)) ?_
                      by_cases c57 : x56 = 0
                      · rw [if_pos c57] at H
                        refine Eq.trans (jb_nx (i := .ifCond .eq 32) (n := 3) (q := (269, [some (.ref p0), some (.int i1), some (.int x7), none], [])) (jq qX1_single 95 rfl) (jo_ifT (jz_eqT c57) rfl)) ?_
                        refine Eq.trans (jb_nx (i := .iconst 0) (n := 1) (q := (270, [some (.ref p0), some (.int i1), some (.int x7), none], [.int 0])) (jq qX1_single 111 rfl) rfl) ?_
                        exact Eq.trans (jb_rt (i := .ireturn) (n := 1) (jq qX1_single 112 rfl) (jo_iret rfl (by decide))) H
                      · rw [if_neg c57] at H
                        refine Eq.trans (jb_nx (i := .ifCond .eq 32) (n := 3) (q := (240, [some (.ref p0), some (.int i1), some (.int x7), none], [])) (jq qX1_single 95 rfl) (jo_ifF (jz_eqF c57))) ?_
                        refine Eq.trans (jb_nx (i := .aload_n 0) (n := 1) (q := (241, [some (.ref p0), some (.int i1), some (.int x7), none], [.ref p0])) (jq qX1_single 96 rfl) rfl) ?_
                        refine Eq.trans (jb_nx (i := .bipush 35) (n := 2) (q := (243, [some (.ref p0), some (.int i1), some (.int x7), none], [.int 35, .ref p0])) (jq qX1_single 97 rfl) rfl) ?_
                        refine Eq.trans (jb_nx (i := .aload_n 0) (n := 1) (q := (244, [some (.ref p0), some (.int i1), some (.int x7), none], [.ref p0, .int 35, .ref p0])) (jq qX1_single 98 rfl) rfl) ?_
                        obtain ⟨x58, e59, H⟩ := jbd H
                        refine Eq.trans (jb_nx (i := .getfield 19) (n := 3) (q := (247, [some (.ref p0), some (.int i1), some (.int x7), none], [.int x58, .int 35, .ref p0])) (jq qX1_single 99 rfl) (jo_gf rfl (jr_I_inv e59))) ?_
                        refine Eq.trans (jb_nx (i := .iconst 1) (n := 1) (q := (248, [some (.ref p0), some (.int i1), some (.int x7), none], [.int 1, .int x58, .int 35, .ref p0])) (jq qX1_single 100 rfl) rfl) ?_
                        refine Eq.trans (jb_nx (i := .isub) (n := 1) (q := (249, [some (.ref p0), some (.int i1), some (.int x7), none], [.int (x58 - 1), .int 35, .ref p0])) (jq qX1_single 101 rfl) rfl) ?_
                        obtain ⟨b71, H⟩ := jm_O_inv H
                        rcases jcI H with ⟨x62, h60, r61, H⟩ | ⟨w72, h73, r61, H⟩
                        · refine Eq.trans (jb_nx (i := .invokevirtual 61) (n := 3) (q := (252, [some (.ref p0), some (.int i1), some (.int x7), none], [.int x62])) (jq qX1_single 102 rfl) (jo_cv (y := mX1_put) rfl (Nat.le_of_ble_eq_true rfl) rfl (Nat.le_of_ble_eq_true rfl) b71 rfl r61 jo_ret)) ?_
                          by_cases c63 : x62 = 0
                          · rw [if_pos c63] at H
                            refine Eq.trans (jb_nx (i := .ifCond .eq 17) (n := 3) (q := (269, [some (.ref p0), some (.int i1), some (.int x7), none], [])) (jq qX1_single 103 rfl) (jo_ifT (jz_eqT c63) rfl)) ?_
                            refine Eq.trans (jb_nx (i := .iconst 0) (n := 1) (q := (270, [some (.ref p0), some (.int i1), some (.int x7), none], [.int 0])) (jq qX1_single 111 rfl) rfl) ?_
                            exact Eq.trans (jb_rt (i := .ireturn) (n := 1) (jq qX1_single 112 rfl) (jo_iret rfl (by decide))) H
                          · rw [if_neg c63] at H
                            refine Eq.trans (jb_nx (i := .ifCond .eq 17) (n := 3) (q := (255, [some (.ref p0), some (.int i1), some (.int x7), none], [])) (jq qX1_single 103 rfl) (jo_ifF (jz_eqF c63))) ?_
                            refine Eq.trans (jb_nx (i := .aload_n 0) (n := 1) (q := (256, [some (.ref p0), some (.int i1), some (.int x7), none], [.ref p0])) (jq qX1_single 104 rfl) rfl) ?_
                            refine Eq.trans (jb_nx (i := .bipush 14) (n := 2) (q := (258, [some (.ref p0), some (.int i1), some (.int x7), none], [.int 14, .ref p0])) (jq qX1_single 105 rfl) rfl) ?_
                            refine Eq.trans (jb_nx (i := .iconst 0) (n := 1) (q := (259, [some (.ref p0), some (.int i1), some (.int x7), none], [.int 0, .int 14, .ref p0])) (jq qX1_single 106 rfl) rfl) ?_
                            obtain ⟨b68, H⟩ := jm_O_inv H
                            rcases jcI H with ⟨x66, h64, r65, H⟩ | ⟨w69, h70, r65, H⟩
                            · refine Eq.trans (jb_nx (i := .invokevirtual 61) (n := 3) (q := (262, [some (.ref p0), some (.int i1), some (.int x7), none], [.int x66])) (jq qX1_single 107 rfl) (jo_cv (y := mX1_put) rfl (Nat.le_of_ble_eq_true rfl) rfl (Nat.le_of_ble_eq_true rfl) b68 rfl r65 jo_ret)) ?_
                              by_cases c67 : x66 = 0
                              · rw [if_pos c67] at H
                                refine Eq.trans (jb_nx (i := .ifCond .eq 7) (n := 3) (q := (269, [some (.ref p0), some (.int i1), some (.int x7), none], [])) (jq qX1_single 108 rfl) (jo_ifT (jz_eqT c67) rfl)) ?_
                                refine Eq.trans (jb_nx (i := .iconst 0) (n := 1) (q := (270, [some (.ref p0), some (.int i1), some (.int x7), none], [.int 0])) (jq qX1_single 111 rfl) rfl) ?_
                                exact Eq.trans (jb_rt (i := .ireturn) (n := 1) (jq qX1_single 112 rfl) (jo_iret rfl (by decide))) H
                              · rw [if_neg c67] at H
                                refine Eq.trans (jb_nx (i := .ifCond .eq 7) (n := 3) (q := (265, [some (.ref p0), some (.int i1), some (.int x7), none], [])) (jq qX1_single 108 rfl) (jo_ifF (jz_eqF c67))) ?_
                                refine Eq.trans (jb_nx (i := .iconst 1) (n := 1) (q := (266, [some (.ref p0), some (.int i1), some (.int x7), none], [.int 1])) (jq qX1_single 109 rfl) rfl) ?_
                                refine Eq.trans (jb_nx (i := .goto 4) (n := 3) (q := (270, [some (.ref p0), some (.int i1), some (.int x7), none], [.int 1])) (jq qX1_single 110 rfl) rfl) ?_
                                exact Eq.trans (jb_rt (i := .ireturn) (n := 1) (jq qX1_single 112 rfl) (jo_iret rfl (by decide))) H
                            · exact Eq.trans (jb_rt (i := .invokevirtual 61) (n := 3) (jq qX1_single 107 rfl) (jo_cv (y := mX1_put) rfl (Nat.le_of_ble_eq_true rfl) rfl (Nat.le_of_ble_eq_true rfl) b68 rfl r65 (jo_exn rfl))) H
                        · exact Eq.trans (jb_rt (i := .invokevirtual 61) (n := 3) (jq qX1_single 102 rfl) (jo_cv (y := mX1_put) rfl (Nat.le_of_ble_eq_true rfl) rfl (Nat.le_of_ble_eq_true rfl) b71 rfl r61 (jo_exn rfl))) H
                    · exact Eq.trans (jb_rt (i := .invokevirtual 37) (n := 3) (jq qX1_single 94 rfl) (jo_cv (y := mX1_take) rfl (Nat.le_of_ble_eq_true rfl) rfl (Nat.le_of_ble_eq_true rfl) b74 rfl r55 (jo_exn rfl))) H
                · exact Eq.trans (jb_rt (i := .invokevirtual 61) (n := 3) (jq qX1_single 90 rfl) (jo_cv (y := mX1_put) rfl (Nat.le_of_ble_eq_true rfl) rfl (Nat.le_of_ble_eq_true rfl) b77 rfl r51 (jo_exn rfl))) H
            · exact Eq.trans (jb_rt (i := .invokevirtual 37) (n := 3) (jq qX1_single 82 rfl) (jo_cv (y := mX1_take) rfl (Nat.le_of_ble_eq_true rfl) rfl (Nat.le_of_ble_eq_true rfl) b80 rfl r45 (jo_exn rfl))) H
        · exact Eq.trans (jb_rt (i := .invokevirtual 37) (n := 3) (jq qX1_single 78 rfl) (jo_cv (y := mX1_take) rfl (Nat.le_of_ble_eq_true rfl) rfl (Nat.le_of_ble_eq_true rfl) b83 rfl r41 (jo_exn rfl))) H
      · rw [if_neg c39] at H
        by_cases c86 : x7 = 15
        · rw [if_pos c86] at H
          refine Eq.trans (jb_nx (i := .tableswitch 258 13 22 #[136, 185, 55, 258, 258, 258, 258, 258, 258, 96]) (n := 55) (q := (68, [some (.ref p0), some (.int i1), some (.int x7), none], [])) (jq qX1_single 7 rfl) (by rw [c86]; rfl)) ?_
          refine Eq.trans (jb_nx (i := .iload_n 1) (n := 1) (q := (69, [some (.ref p0), some (.int i1), some (.int x7), none], [.int i1])) (jq qX1_single 8 rfl) rfl) ?_
          refine Eq.trans (jb_nx (i := .bipush 8) (n := 2) (q := (71, [some (.ref p0), some (.int i1), some (.int x7), none], [.int 8, .int i1])) (jq qX1_single 9 rfl) rfl) ?_
          by_cases c87 : i1 < 8
          · rw [if_pos c87] at H
            refine Eq.trans (jb_nx (i := .if_icmp .ge 36) (n := 3) (q := (74, [some (.ref p0), some (.int i1), some (.int x7), none], [])) (jq qX1_single 10 rfl) (jo_icF (jz_geF c87))) ?_
            refine Eq.trans (jb_nx (i := .aload_n 0) (n := 1) (q := (75, [some (.ref p0), some (.int i1), some (.int x7), none], [.ref p0])) (jq qX1_single 11 rfl) rfl) ?_
            refine Eq.trans (jb_nx (i := .bipush 15) (n := 2) (q := (77, [some (.ref p0), some (.int i1), some (.int x7), none], [.int 15, .ref p0])) (jq qX1_single 12 rfl) rfl) ?_
            obtain ⟨b106, H⟩ := jm_O_inv H
            rcases jcI H with ⟨x90, h88, r89, H⟩ | ⟨w107, h108, r89, H⟩
            · refine Eq.trans (jb_nx (i := .invokevirtual 37) (n := 3) (q := (80, [some (.ref p0), some (.int i1), some (.int x7), none], [.int x90])) (jq qX1_single 13 rfl) (jo_cv (y := mX1_take) rfl (Nat.le_of_ble_eq_true rfl) rfl (Nat.le_of_ble_eq_true rfl) b106 rfl r89 jo_ret)) ?_
              by_cases c91 : x90 = 0
              · rw [if_pos c91] at H
                refine Eq.trans (jb_nx (i := .ifCond .eq 27) (n := 3) (q := (107, [some (.ref p0), some (.int i1), some (.int x7), none], [])) (jq qX1_single 14 rfl) (jo_ifT (jz_eqT c91) rfl)) ?_
                refine Eq.trans (jb_nx (i := .iconst 0) (n := 1) (q := (108, [some (.ref p0), some (.int i1), some (.int x7), none], [.int 0])) (jq qX1_single 28 rfl) rfl) ?_
                exact Eq.trans (jb_rt (i := .ireturn) (n := 1) (jq qX1_single 29 rfl) (jo_iret rfl (by decide))) H
              · rw [if_neg c91] at H
                refine Eq.trans (jb_nx (i := .ifCond .eq 27) (n := 3) (q := (83, [some (.ref p0), some (.int i1), some (.int x7), none], [])) (jq qX1_single 14 rfl) (jo_ifF (jz_eqF c91))) ?_
                refine Eq.trans (jb_nx (i := .aload_n 0) (n := 1) (q := (84, [some (.ref p0), some (.int i1), some (.int x7), none], [.ref p0])) (jq qX1_single 15 rfl) rfl) ?_
                refine Eq.trans (jb_nx (i := .iload_n 1) (n := 1) (q := (85, [some (.ref p0), some (.int i1), some (.int x7), none], [.int i1, .ref p0])) (jq qX1_single 16 rfl) rfl) ?_
                refine Eq.trans (jb_nx (i := .iconst 1) (n := 1) (q := (86, [some (.ref p0), some (.int i1), some (.int x7), none], [.int 1, .int i1, .ref p0])) (jq qX1_single 17 rfl) rfl) ?_
                refine Eq.trans (jb_nx (i := .iadd) (n := 1) (q := (87, [some (.ref p0), some (.int i1), some (.int x7), none], [.int (i1 + 1), .ref p0])) (jq qX1_single 18 rfl) rfl) ?_
                obtain ⟨b103, H⟩ := jm_O_inv H
                rcases jcI H with ⟨x94, h92, r93, H⟩ | ⟨w104, h105, r93, H⟩
                · refine Eq.trans (jb_nx (i := .invokevirtual 71) (n := 3) (q := (90, [some (.ref p0), some (.int i1), some (.int x7), none], [.int x94])) (jq qX1_single 19 rfl) (jo_cv (y := mX1_single) rfl (Nat.le_of_ble_eq_true rfl) rfl (Nat.le_of_ble_eq_true rfl) b103 rfl r93 jo_ret)) ?_
                  by_cases c95 : x94 = 0
                  · rw [if_pos c95] at H
                    refine Eq.trans (jb_nx (i := .ifCond .eq 17) (n := 3) (q := (107, [some (.ref p0), some (.int i1), some (.int x7), none], [])) (jq qX1_single 20 rfl) (jo_ifT (jz_eqT c95) rfl)) ?_
                    refine Eq.trans (jb_nx (i := .iconst 0) (n := 1) (q := (108, [some (.ref p0), some (.int i1), some (.int x7), none], [.int 0])) (jq qX1_single 28 rfl) rfl) ?_
                    exact Eq.trans (jb_rt (i := .ireturn) (n := 1) (jq qX1_single 29 rfl) (jo_iret rfl (by decide))) H
                  · rw [if_neg c95] at H
                    refine Eq.trans (jb_nx (i := .ifCond .eq 17) (n := 3) (q := (93, [some (.ref p0), some (.int i1), some (.int x7), none], [])) (jq qX1_single 20 rfl) (jo_ifF (jz_eqF c95))) ?_
                    refine Eq.trans (jb_nx (i := .aload_n 0) (n := 1) (q := (94, [some (.ref p0), some (.int i1), some (.int x7), none], [.ref p0])) (jq qX1_single 21 rfl) rfl) ?_
                    refine Eq.trans (jb_nx (i := .bipush 15) (n := 2) (q := (96, [some (.ref p0), some (.int i1), some (.int x7), none], [.int 15, .ref p0])) (jq qX1_single 22 rfl) rfl) ?_
                    refine Eq.trans (jb_nx (i := .iconst 0) (n := 1) (q := (97, [some (.ref p0), some (.int i1), some (.int x7), none], [.int 0, .int 15, .ref p0])) (jq qX1_single 23 rfl) rfl) ?_
                    obtain ⟨b100, H⟩ := jm_O_inv H
                    rcases jcI H with ⟨x98, h96, r97, H⟩ | ⟨w101, h102, r97, H⟩
                    · refine Eq.trans (jb_nx (i := .invokevirtual 61) (n := 3) (q := (100, [some (.ref p0), some (.int i1), some (.int x7), none], [.int x98])) (jq qX1_single 24 rfl) (jo_cv (y := mX1_put) rfl (Nat.le_of_ble_eq_true rfl) rfl (Nat.le_of_ble_eq_true rfl) b100 rfl r97 jo_ret)) ?_
                      by_cases c99 : x98 = 0
                      · rw [if_pos c99] at H
                        refine Eq.trans (jb_nx (i := .ifCond .eq 7) (n := 3) (q := (107, [some (.ref p0), some (.int i1), some (.int x7), none], [])) (jq qX1_single 25 rfl) (jo_ifT (jz_eqT c99) rfl)) ?_
                        refine Eq.trans (jb_nx (i := .iconst 0) (n := 1) (q := (108, [some (.ref p0), some (.int i1), some (.int x7), none], [.int 0])) (jq qX1_single 28 rfl) rfl) ?_
                        exact Eq.trans (jb_rt (i := .ireturn) (n := 1) (jq qX1_single 29 rfl) (jo_iret rfl (by decide))) H
                      · rw [if_neg c99] at H
                        refine Eq.trans (jb_nx (i := .ifCond .eq 7) (n := 3) (q := (103, [some (.ref p0), some (.int i1), some (.int x7), none], [])) (jq qX1_single 25 rfl) (jo_ifF (jz_eqF c99))) ?_
                        refine Eq.trans (jb_nx (i := .iconst 1) (n := 1) (q := (104, [some (.ref p0), some (.int i1), some (.int x7), none], [.int 1])) (jq qX1_single 26 rfl) rfl) ?_
                        refine Eq.trans (jb_nx (i := .goto 4) (n := 3) (q := (108, [some (.ref p0), some (.int i1), some (.int x7), none], [.int 1])) (jq qX1_single 27 rfl) rfl) ?_
                        exact Eq.trans (jb_rt (i := .ireturn) (n := 1) (jq qX1_single 29 rfl) (jo_iret rfl (by decide))) H
                    · exact Eq.trans (jb_rt (i := .invokevirtual 61) (n := 3) (jq qX1_single 24 rfl) (jo_cv (y := mX1_put) rfl (Nat.le_of_ble_eq_true rfl) rfl (Nat.le_of_ble_eq_true rfl) b100 rfl r97 (jo_exn rfl))) H
                · exact Eq.trans (jb_rt (i := .invokevirtual 71) (n := 3) (jq qX1_single 19 rfl) (jo_cv (y := mX1_single) rfl (Nat.le_of_ble_eq_true rfl) rfl (Nat.le_of_ble_eq_true rfl) b103 rfl r93 (jo_exn rfl))) H
            · exact Eq.trans (jb_rt (i := .invokevirtual 37) (n := 3) (jq qX1_single 13 rfl) (jo_cv (y := mX1_take) rfl (Nat.le_of_ble_eq_true rfl) rfl (Nat.le_of_ble_eq_true rfl) b106 rfl r89 (jo_exn rfl))) H
          · rw [if_neg c87] at H
            refine Eq.trans (jb_nx (i := .if_icmp .ge 36) (n := 3) (q := (107, [some (.ref p0), some (.int i1), some (.int x7), none], [])) (jq qX1_single 10 rfl) (jo_icT (jz_geT c87) rfl)) ?_
            refine Eq.trans (jb_nx (i := .iconst 0) (n := 1) (q := (108, [some (.ref p0), some (.int i1), some (.int x7), none], [.int 0])) (jq qX1_single 28 rfl) rfl) ?_
            exact Eq.trans (jb_rt (i := .ireturn) (n := 1) (jq qX1_single 29 rfl) (jo_iret rfl (by decide))) H
        · rw [if_neg c86] at H
          by_cases c109 : x7 = 22
          · rw [if_pos c109] at H
            refine Eq.trans (jb_nx (i := .tableswitch 258 13 22 #[136, 185, 55, 258, 258, 258, 258, 258, 258, 96]) (n := 55) (q := (109, [some (.ref p0), some (.int i1), some (.int x7), none], [])) (jq qX1_single 7 rfl) (by rw [c109]; rfl)) ?_
            refine Eq.trans (jb_nx (i := .iload_n 1) (n := 1) (q := (110, [some (.ref p0), some (.int i1), some (.int x7), none], [.int i1])) (jq qX1_single 30 rfl) rfl) ?_
            refine Eq.trans (jb_nx (i := .bipush 8) (n := 2) (q := (112, [some (.ref p0), some (.int i1), some (.int x7), none], [.int 8, .int i1])) (jq qX1_single 31 rfl) rfl) ?_
            by_cases c110 : i1 < 8
            · rw [if_pos c110] at H
              refine Eq.trans (jb_nx (i := .if_icmp .ge 35) (n := 3) (q := (115, [some (.ref p0), some (.int i1), some (.int x7), none], [])) (jq qX1_single 32 rfl) (jo_icF (jz_geF c110))) ?_
              refine Eq.trans (jb_nx (i := .aload_n 0) (n := 1) (q := (116, [some (.ref p0), some (.int i1), some (.int x7), none], [.ref p0])) (jq qX1_single 33 rfl) rfl) ?_
              refine Eq.trans (jb_nx (i := .bipush 22) (n := 2) (q := (118, [some (.ref p0), some (.int i1), some (.int x7), none], [.int 22, .ref p0])) (jq qX1_single 34 rfl) rfl) ?_
              obtain ⟨b129, H⟩ := jm_O_inv H
              rcases jcI H with ⟨x113, h111, r112, H⟩ | ⟨w130, h131, r112, H⟩
              · refine Eq.trans (jb_nx (i := .invokevirtual 37) (n := 3) (q := (121, [some (.ref p0), some (.int i1), some (.int x7), none], [.int x113])) (jq qX1_single 35 rfl) (jo_cv (y := mX1_take) rfl (Nat.le_of_ble_eq_true rfl) rfl (Nat.le_of_ble_eq_true rfl) b129 rfl r112 jo_ret)) ?_
                by_cases c114 : x113 = 0
                · rw [if_pos c114] at H
                  refine Eq.trans (jb_nx (i := .ifCond .eq 26) (n := 3) (q := (147, [some (.ref p0), some (.int i1), some (.int x7), none], [])) (jq qX1_single 36 rfl) (jo_ifT (jz_eqT c114) rfl)) ?_
                  refine Eq.trans (jb_nx (i := .iconst 0) (n := 1) (q := (148, [some (.ref p0), some (.int i1), some (.int x7), none], [.int 0])) (jq qX1_single 49 rfl) rfl) ?_
                  exact Eq.trans (jb_rt (i := .ireturn) (n := 1) (jq qX1_single 50 rfl) (jo_iret rfl (by decide))) H
                · rw [if_neg c114] at H
                  refine Eq.trans (jb_nx (i := .ifCond .eq 26) (n := 3) (q := (124, [some (.ref p0), some (.int i1), some (.int x7), none], [])) (jq qX1_single 36 rfl) (jo_ifF (jz_eqF c114))) ?_
                  refine Eq.trans (jb_nx (i := .aload_n 0) (n := 1) (q := (125, [some (.ref p0), some (.int i1), some (.int x7), none], [.ref p0])) (jq qX1_single 37 rfl) rfl) ?_
                  refine Eq.trans (jb_nx (i := .iload_n 1) (n := 1) (q := (126, [some (.ref p0), some (.int i1), some (.int x7), none], [.int i1, .ref p0])) (jq qX1_single 38 rfl) rfl) ?_
                  refine Eq.trans (jb_nx (i := .iconst 1) (n := 1) (q := (127, [some (.ref p0), some (.int i1), some (.int x7), none], [.int 1, .int i1, .ref p0])) (jq qX1_single 39 rfl) rfl) ?_
                  refine Eq.trans (jb_nx (i := .iadd) (n := 1) (q := (128, [some (.ref p0), some (.int i1), some (.int x7), none], [.int (i1 + 1), .ref p0])) (jq qX1_single 40 rfl) rfl) ?_
                  obtain ⟨b126, H⟩ := jm_O_inv H
                  rcases jcI H with ⟨x117, h115, r116, H⟩ | ⟨w127, h128, r116, H⟩
                  · refine Eq.trans (jb_nx (i := .invokevirtual 58) (n := 3) (q := (131, [some (.ref p0), some (.int i1), some (.int x7), none], [.int x117])) (jq qX1_single 41 rfl) (jo_cv (y := mX1_test) rfl (Nat.le_of_ble_eq_true rfl) rfl (Nat.le_of_ble_eq_true rfl) b126 rfl r116 jo_ret)) ?_
                    by_cases c118 : x117 = 0
                    · rw [if_pos c118] at H
                      refine Eq.trans (jb_nx (i := .ifCond .eq 16) (n := 3) (q := (147, [some (.ref p0), some (.int i1), some (.int x7), none], [])) (jq qX1_single 42 rfl) (jo_ifT (jz_eqT c118) rfl)) ?_
                      refine Eq.trans (jb_nx (i := .iconst 0) (n := 1) (q := (148, [some (.ref p0), some (.int i1), some (.int x7), none], [.int 0])) (jq qX1_single 49 rfl) rfl) ?_
                      exact Eq.trans (jb_rt (i := .ireturn) (n := 1) (jq qX1_single 50 rfl) (jo_iret rfl (by decide))) H
                    · rw [if_neg c118] at H
                      refine Eq.trans (jb_nx (i := .ifCond .eq 16) (n := 3) (q := (134, [some (.ref p0), some (.int i1), some (.int x7), none], [])) (jq qX1_single 42 rfl) (jo_ifF (jz_eqF c118))) ?_
                      refine Eq.trans (jb_nx (i := .aload_n 0) (n := 1) (q := (135, [some (.ref p0), some (.int i1), some (.int x7), none], [.ref p0])) (jq qX1_single 43 rfl) rfl) ?_
                      refine Eq.trans (jb_nx (i := .bipush 23) (n := 2) (q := (137, [some (.ref p0), some (.int i1), some (.int x7), none], [.int 23, .ref p0])) (jq qX1_single 44 rfl) rfl) ?_
                      obtain ⟨b123, H⟩ := jm_O_inv H
                      rcases jcI H with ⟨x121, h119, r120, H⟩ | ⟨w124, h125, r120, H⟩
                      · refine Eq.trans (jb_nx (i := .invokevirtual 37) (n := 3) (q := (140, [some (.ref p0), some (.int i1), some (.int x7), none], [.int x121])) (jq qX1_single 45 rfl) (jo_cv (y := mX1_take) rfl (Nat.le_of_ble_eq_true rfl) rfl (Nat.le_of_ble_eq_true rfl) b123 rfl r120 jo_ret)) ?_
                        by_cases c122 : x121 = 0
                        · rw [if_pos c122] at H
                          refine Eq.trans (jb_nx (i := .ifCond .eq 7) (n := 3) (q := (147, [some (.ref p0), some (.int i1), some (.int x7), none], [])) (jq qX1_single 46 rfl) (jo_ifT (jz_eqT c122) rfl)) ?_
                          refine Eq.trans (jb_nx (i := .iconst 0) (n := 1) (q := (148, [some (.ref p0), some (.int i1), some (.int x7), none], [.int 0])) (jq qX1_single 49 rfl) rfl) ?_
                          exact Eq.trans (jb_rt (i := .ireturn) (n := 1) (jq qX1_single 50 rfl) (jo_iret rfl (by decide))) H
                        · rw [if_neg c122] at H
                          refine Eq.trans (jb_nx (i := .ifCond .eq 7) (n := 3) (q := (143, [some (.ref p0), some (.int i1), some (.int x7), none], [])) (jq qX1_single 46 rfl) (jo_ifF (jz_eqF c122))) ?_
                          refine Eq.trans (jb_nx (i := .iconst 1) (n := 1) (q := (144, [some (.ref p0), some (.int i1), some (.int x7), none], [.int 1])) (jq qX1_single 47 rfl) rfl) ?_
                          refine Eq.trans (jb_nx (i := .goto 4) (n := 3) (q := (148, [some (.ref p0), some (.int i1), some (.int x7), none], [.int 1])) (jq qX1_single 48 rfl) rfl) ?_
                          exact Eq.trans (jb_rt (i := .ireturn) (n := 1) (jq qX1_single 50 rfl) (jo_iret rfl (by decide))) H
                      · exact Eq.trans (jb_rt (i := .invokevirtual 37) (n := 3) (jq qX1_single 45 rfl) (jo_cv (y := mX1_take) rfl (Nat.le_of_ble_eq_true rfl) rfl (Nat.le_of_ble_eq_true rfl) b123 rfl r120 (jo_exn rfl))) H
                  · exact Eq.trans (jb_rt (i := .invokevirtual 58) (n := 3) (jq qX1_single 41 rfl) (jo_cv (y := mX1_test) rfl (Nat.le_of_ble_eq_true rfl) rfl (Nat.le_of_ble_eq_true rfl) b126 rfl r116 (jo_exn rfl))) H
              · exact Eq.trans (jb_rt (i := .invokevirtual 37) (n := 3) (jq qX1_single 35 rfl) (jo_cv (y := mX1_take) rfl (Nat.le_of_ble_eq_true rfl) rfl (Nat.le_of_ble_eq_true rfl) b129 rfl r112 (jo_exn rfl))) H
            · rw [if_neg c110] at H
              refine Eq.trans (jb_nx (i := .if_icmp .ge 35) (n := 3) (q := (147, [some (.ref p0), some (.int i1), some (.int x7), none], [])) (jq qX1_single 32 rfl) (jo_icT (jz_geT c110) rfl)) ?_
              refine Eq.trans (jb_nx (i := .iconst 0) (n := 1) (q := (148, [some (.ref p0), some (.int i1), some (.int x7), none], [.int 0])) (jq qX1_single 49 rfl) rfl) ?_
              exact Eq.trans (jb_rt (i := .ireturn) (n := 1) (jq qX1_single 50 rfl) (jo_iret rfl (by decide))) H
          · rw [if_neg c109] at H
            refine Eq.trans (jb_nx (i := .tableswitch 258 13 22 #[136, 185, 55, 258, 258, 258, 258, 258, 258, 96]) (n := 55) (q := (271, [some (.ref p0), some (.int i1), some (.int x7), none], [])) (jq qX1_single 7 rfl) (jo_tabD (ks := [13, 14, 15, 22]) (by decide +kernel) (by intro k hk; simp only [List.mem_cons, List.not_mem_nil, or_false] at hk; rcases hk with rfl | rfl | rfl | rfl; { exact jz_ti rfl c8 }; { exact jz_ti rfl c39 }; { exact jz_ti rfl c86 }; { exact jz_ti rfl c109 }) rfl)) ?_
            refine Eq.trans (jb_nx (i := .aload_n 0) (n := 1) (q := (272, [some (.ref p0), some (.int i1), some (.int x7), none], [.ref p0])) (jq qX1_single 113 rfl) rfl) ?_
            refine Eq.trans (jb_nx (i := .iload_n 1) (n := 1) (q := (273, [some (.ref p0), some (.int i1), some (.int x7), none], [.int i1, .ref p0])) (jq qX1_single 114 rfl) rfl) ?_
            obtain ⟨b166, H⟩ := jm_O_inv H
            rcases jcI H with ⟨x134, h132, r133, H⟩ | ⟨w167, h168, r133, H⟩
            · refine Eq.trans (jb_nx (i := .invokevirtual 74) (n := 3) (q := (276, [some (.ref p0), some (.int i1), some (.int x7), none], [.int x134])) (jq qX1_single 115 rfl) (jo_cv (y := mX1_sum) rfl (Nat.le_of_ble_eq_true rfl) rfl (Nat.le_of_ble_eq_true rfl) b166 rfl r133 jo_ret)) ?_
              by_cases c135 : x134 = 0
              · rw [if_pos c135] at H
                refine Eq.trans (jb_nx (i := .ifCond .ne 5) (n := 3) (q := (279, [some (.ref p0), some (.int i1), some (.int x7), none], [])) (jq qX1_single 116 rfl) (jo_ifF (jz_neF c135))) ?_
                refine Eq.trans (jb_nx (i := .iconst 0) (n := 1) (q := (280, [some (.ref p0), some (.int i1), some (.int x7), none], [.int 0])) (jq qX1_single 117 rfl) rfl) ?_
                exact Eq.trans (jb_rt (i := .ireturn) (n := 1) (jq qX1_single 118 rfl) (jo_iret rfl (by decide))) H
              · rw [if_neg c135] at H
                refine Eq.trans (jb_nx (i := .ifCond .ne 5) (n := 3) (q := (281, [some (.ref p0), some (.int i1), some (.int x7), none], [])) (jq qX1_single 116 rfl) (jo_ifT (jz_neT c135) rfl)) ?_
                refine Eq.trans (jb_nx (i := .aload_n 0) (n := 1) (q := (282, [some (.ref p0), some (.int i1), some (.int x7), none], [.ref p0])) (jq qX1_single 119 rfl) rfl) ?_
                obtain ⟨a136, e137, H⟩ := jbd H
                refine Eq.trans (jb_nx (i := .getfield 9) (n := 3) (q := (285, [some (.ref p0), some (.int i1), some (.int x7), none], [.ref a136])) (jq qX1_single 120 rfl) (jo_gf rfl (jr_R_inv e137))) ?_
                refine Eq.trans (jb_nx (i := .aload_n 0) (n := 1) (q := (286, [some (.ref p0), some (.int i1), some (.int x7), none], [.ref p0, .ref a136])) (jq qX1_single 121 rfl) rfl) ?_
                obtain ⟨x138, e139, H⟩ := jbd H
                refine Eq.trans (jb_nx (i := .getfield 19) (n := 3) (q := (289, [some (.ref p0), some (.int i1), some (.int x7), none], [.int x138, .ref a136])) (jq qX1_single 122 rfl) (jo_gf rfl (jr_I_inv e139))) ?_
                obtain ⟨b163, H⟩ := jm_O_inv H
                rcases jcI H with ⟨x142, h140, r141, H⟩ | ⟨w164, h165, r141, H⟩
                · refine Eq.trans (jb_nx (i := .invokevirtual 31) (n := 3) (q := (292, [some (.ref p0), some (.int i1), some (.int x7), none], [.int x142])) (jq qX1_single 123 rfl) (jo_cv (y := mX9_kindAt) rfl (Nat.le_of_ble_eq_true rfl) rfl (Nat.le_of_ble_eq_true rfl) b163 rfl r141 jo_ret)) ?_
                  refine Eq.trans (jb_nx (i := .istore_n 3) (n := 1) (q := (293, [some (.ref p0), some (.int i1), some (.int x7), some (.int x142)], [])) (jq qX1_single 124 rfl) rfl) ?_
                  refine Eq.trans (jb_nx (i := .iload_n 3) (n := 1) (q := (294, [some (.ref p0), some (.int i1), some (.int x7), some (.int x142)], [.int x142])) (jq qX1_single 125 rfl) rfl) ?_
                  refine Eq.trans (jb_nx (i := .bipush 30) (n := 2) (q := (296, [some (.ref p0), some (.int i1), some (.int x7), some (.int x142)], [.int 30, .int x142])) (jq qX1_single 126 rfl) rfl) ?_
                  by_cases c143 : x142 < 30
                  · rw [if_pos c143] at H
                    refine Eq.trans (jb_nx (i := .if_icmp .lt 9) (n := 3) (q := (305, [some (.ref p0), some (.int i1), some (.int x7), some (.int x142)], [])) (jq qX1_single 127 rfl) (jo_icT (jz_ltT c143) rfl)) ?_
                    refine Eq.trans (jb_nx (i := .iconst 0) (n := 1) (q := (306, [some (.ref p0), some (.int i1), some (.int x7), some (.int x142)], [.int 0])) (jq qX1_single 131 rfl) rfl) ?_
                    exact Eq.trans (jb_rt (i := .ireturn) (n := 1) (jq qX1_single 132 rfl) (jo_iret rfl (by decide))) H
                  · rw [if_neg c143] at H
                    refine Eq.trans (jb_nx (i := .if_icmp .lt 9) (n := 3) (q := (299, [some (.ref p0), some (.int i1), some (.int x7), some (.int x142)], [])) (jq qX1_single 127 rfl) (jo_icF (jz_ltF c143))) ?_
                    refine Eq.trans (jb_nx (i := .iload_n 3) (n := 1) (q := (300, [some (.ref p0), some (.int i1), some (.int x7), some (.int x142)], [.int x142])) (jq qX1_single 128 rfl) rfl) ?_
                    refine Eq.trans (jb_nx (i := .bipush 34) (n := 2) (q := (302, [some (.ref p0), some (.int i1), some (.int x7), some (.int x142)], [.int 34, .int x142])) (jq qX1_single 129 rfl) rfl) ?_
                    by_cases c144 : 34 < x142
                    · rw [if_pos c144] at H
                      refine Eq.trans (jb_nx (i := .if_icmp .le 5) (n := 3) (q := (305, [some (.ref p0), some (.int i1), some (.int x7), some (.int x142)], [])) (jq qX1_single 130 rfl) (jo_icF (jz_leF c144))) ?_
                      refine Eq.trans (jb_nx (i := .iconst 0) (n := 1) (q := (306, [some (.ref p0), some (.int i1), some (.int x7), some (.int x142)], [.int 0])) (jq qX1_single 131 rfl) rfl) ?_
                      exact Eq.trans (jb_rt (i := .ireturn) (n := 1) (jq qX1_single 132 rfl) (jo_iret rfl (by decide))) H
                    · rw [if_neg c144] at H
                      refine Eq.trans (jb_nx (i := .if_icmp .le 5) (n := 3) (q := (307, [some (.ref p0), some (.int i1), some (.int x7), some (.int x142)], [])) (jq qX1_single 130 rfl) (jo_icT (jz_leT c144) rfl)) ?_
                      refine Eq.trans (jb_nx (i := .aload_n 0) (n := 1) (q := (308, [some (.ref p0), some (.int i1), some (.int x7), some (.int x142)], [.ref p0])) (jq qX1_single 133 rfl) rfl) ?_
                      refine Eq.trans (jb_nx (i := .dup) (n := 1) (q := (309, [some (.ref p0), some (.int i1), some (.int x7), some (.int x142)], [.ref p0, .ref p0])) (jq qX1_single 134 rfl) rfl) ?_
                      obtain ⟨x145, e146, H⟩ := jbd H
                      refine Eq.trans (jb_nx (i := .getfield 19) (n := 3) (q := (312, [some (.ref p0), some (.int i1), some (.int x7), some (.int x142)], [.int x145, .ref p0])) (jq qX1_single 135 rfl) (jo_gf rfl (jr_I_inv e146))) ?_
                      refine Eq.trans (jb_nx (i := .iconst 1) (n := 1) (q := (313, [some (.ref p0), some (.int i1), some (.int x7), some (.int x142)], [.int 1, .int x145, .ref p0])) (jq qX1_single 136 rfl) rfl) ?_
                      refine Eq.trans (jb_nx (i := .iadd) (n := 1) (q := (314, [some (.ref p0), some (.int i1), some (.int x7), some (.int x142)], [.int (x145 + 1), .ref p0])) (jq qX1_single 137 rfl) rfl) ?_
                      obtain ⟨h147, e148, H⟩ := jbd H
                      refine Eq.trans (jb_nx (i := .putfield 19) (n := 3) (q := (317, [some (.ref p0), some (.int i1), some (.int x7), some (.int x142)], [])) (jq qX1_single 138 rfl) (jo_pf rfl (Or.inl rfl) e148)) ?_
                      refine Eq.trans (jb_nx (i := .aload_n 0) (n := 1) (q := (318, [some (.ref p0), some (.int i1), some (.int x7), some (.int x142)], [.ref p0])) (jq qX1_single 139 rfl) rfl) ?_
                      refine Eq.trans (jb_nx (i := .iload_n 1) (n := 1) (q := (319, [some (.ref p0), some (.int i1), some (.int x7), some (.int x142)], [.int i1, .ref p0])) (jq qX1_single 140 rfl) rfl) ?_
                      obtain ⟨b160, H⟩ := jm_O_inv H
                      rcases jcI H with ⟨x151, h149, r150, H⟩ | ⟨w161, h162, r150, H⟩
                      · refine Eq.trans (jb_nx (i := .invokevirtual 74) (n := 3) (q := (322, [some (.ref p0), some (.int i1), some (.int x7), some (.int x142)], [.int x151])) (jq qX1_single 141 rfl) (jo_cv (y := mX1_sum) rfl (Nat.le_of_ble_eq_true rfl) rfl (Nat.le_of_ble_eq_true rfl) b160 rfl r150 jo_ret)) ?_
                        by_cases c152 : x151 = 0
                        · rw [if_pos c152] at H
                          refine Eq.trans (jb_nx (i := .ifCond .eq 16) (n := 3) (q := (338, [some (.ref p0), some (.int i1), some (.int x7), some (.int x142)], [])) (jq qX1_single 142 rfl) (jo_ifT (jz_eqT c152) rfl)) ?_
                          refine Eq.trans (jb_nx (i := .iconst 0) (n := 1) (q := (339, [some (.ref p0), some (.int i1), some (.int x7), some (.int x142)], [.int 0])) (jq qX1_single 150 rfl) rfl) ?_
                          exact Eq.trans (jb_rt (i := .ireturn) (n := 1) (jq qX1_single 151 rfl) (jo_iret rfl (by decide))) H
                        · rw [if_neg c152] at H
                          refine Eq.trans (jb_nx (i := .ifCond .eq 16) (n := 3) (q := (325, [some (.ref p0), some (.int i1), some (.int x7), some (.int x142)], [])) (jq qX1_single 142 rfl) (jo_ifF (jz_eqF c152))) ?_
                          refine Eq.trans (jb_nx (i := .aload_n 0) (n := 1) (q := (326, [some (.ref p0), some (.int i1), some (.int x7), some (.int x142)], [.ref p0])) (jq qX1_single 143 rfl) rfl) ?_
                          refine Eq.trans (jb_nx (i := .iload_n 3) (n := 1) (q := (327, [some (.ref p0), some (.int i1), some (.int x7), some (.int x142)], [.int x142, .ref p0])) (jq qX1_single 144 rfl) rfl) ?_
                          refine Eq.trans (jb_nx (i := .iconst 0) (n := 1) (q := (328, [some (.ref p0), some (.int i1), some (.int x7), some (.int x142)], [.int 0, .int x142, .ref p0])) (jq qX1_single 145 rfl) rfl) ?_
                          obtain ⟨b157, H⟩ := jm_O_inv H
                          rcases jcI H with ⟨x155, h153, r154, H⟩ | ⟨w158, h159, r154, H⟩
                          · refine Eq.trans (jb_nx (i := .invokevirtual 61) (n := 3) (q := (331, [some (.ref p0), some (.int i1), some (.int x7), some (.int x142)], [.int x155])) (jq qX1_single 146 rfl) (jo_cv (y := mX1_put) rfl (Nat.le_of_ble_eq_true rfl) rfl (Nat.le_of_ble_eq_true rfl) b157 rfl r154 jo_ret)) ?_
                            by_cases c156 : x155 = 0
                            · rw [if_pos c156] at H
                              refine Eq.trans (jb_nx (i := .ifCond .eq 7) (n := 3) (q := (338, [some (.ref p0), some (.int i1), some (.int x7), some (.int x142)], [])) (jq qX1_single 147 rfl) (jo_ifT (jz_eqT c156) rfl)) ?_
                              refine Eq.trans (jb_nx (i := .iconst 0) (n := 1) (q := (339, [some (.ref p0), some (.int i1), some (.int x7), some (.int x142)], [.int 0])) (jq qX1_single 150 rfl) rfl) ?_
                              exact Eq.trans (jb_rt (i := .ireturn) (n := 1) (jq qX1_single 151 rfl) (jo_iret rfl (by decide))) H
                            · rw [if_neg c156] at H
                              refine Eq.trans (jb_nx (i := .ifCond .eq 7) (n := 3) (q := (334, [some (.ref p0), some (.int i1), some (.int x7), some (.int x142)], [])) (jq qX1_single 147 rfl) (jo_ifF (jz_eqF c156))) ?_
                              refine Eq.trans (jb_nx (i := .iconst 1) (n := 1) (q := (335, [some (.ref p0), some (.int i1), some (.int x7), some (.int x142)], [.int 1])) (jq qX1_single 148 rfl) rfl) ?_
                              refine Eq.trans (jb_nx (i := .goto 4) (n := 3) (q := (339, [some (.ref p0), some (.int i1), some (.int x7), some (.int x142)], [.int 1])) (jq qX1_single 149 rfl) rfl) ?_
                              exact Eq.trans (jb_rt (i := .ireturn) (n := 1) (jq qX1_single 151 rfl) (jo_iret rfl (by decide))) H
                          · exact Eq.trans (jb_rt (i := .invokevirtual 61) (n := 3) (jq qX1_single 146 rfl) (jo_cv (y := mX1_put) rfl (Nat.le_of_ble_eq_true rfl) rfl (Nat.le_of_ble_eq_true rfl) b157 rfl r154 (jo_exn rfl))) H
                      · exact Eq.trans (jb_rt (i := .invokevirtual 74) (n := 3) (jq qX1_single 141 rfl) (jo_cv (y := mX1_sum) rfl (Nat.le_of_ble_eq_true rfl) rfl (Nat.le_of_ble_eq_true rfl) b160 rfl r150 (jo_exn rfl))) H
                · exact Eq.trans (jb_rt (i := .invokevirtual 31) (n := 3) (jq qX1_single 123 rfl) (jo_cv (y := mX9_kindAt) rfl (Nat.le_of_ble_eq_true rfl) rfl (Nat.le_of_ble_eq_true rfl) b163 rfl r141 (jo_exn rfl))) H
            · exact Eq.trans (jb_rt (i := .invokevirtual 74) (n := 3) (jq qX1_single 115 rfl) (jo_cv (y := mX1_sum) rfl (Nat.le_of_ble_eq_true rfl) rfl (Nat.le_of_ble_eq_true rfl) b166 rfl r133 (jo_exn rfl))) H
  · exact Eq.trans (jb_rt (i := .invokevirtual 31) (n := 3) (jq qX1_single 4 rfl) (jo_cv (y := mX9_kindAt) rfl (Nat.le_of_ble_eq_true rfl) rfl (Nat.le_of_ble_eq_true rfl) b169 rfl r6 (jo_exn rfl))) H
/-! MaskPlays$Grammar put (II)Z -/
def tX1_put : List (Nat × Instr × Nat) := [(0, .aload_n 0, 1), (1, .getfield 15, 3), (4, .iload_n 1, 1), (5, .iload_n 2, 1), (6, .invokevirtual 65, 3), (9, .iconst 1, 1), (10, .ireturn, 1)]
set_option maxRecDepth 100000 in
theorem qX1_put : ∀ q ∈ tX1_put, decode cX1_put q.1 = .ok (q.2.1, q.2.2) := by decide +kernel
theorem gX1_put {d : Nat} {p0 : Nat} {i1 : Int32} {i2 : Int32} {h : jm_H} {r : jm_R} (H : ((jr_R h p0 1 1 2).bind fun a1 => jm_O h a1 0 (jc_V (jm_D d mX0_addCode [.ref a1, .int i1, .int i2] h) (fun h3 => some (.inl (some (.int 1)), h3)) jx)) = some r) : jm_D (d + 1) mX1_put [.ref p0, .int i1, .int i2] h = some r := by
  rw [jm_D_body (Nat.le_of_ble_eq_true rfl)]
  show jm_B d mX1_put (0, [some (.ref p0), some (.int i1), some (.int i2)], []) h = some r
  refine Eq.trans (jb_nx (i := .aload_n 0) (n := 1) (q := (1, [some (.ref p0), some (.int i1), some (.int i2)], [.ref p0])) (jq qX1_put 0 rfl) rfl) ?_
  obtain ⟨a1, e2, H⟩ := jbd H
  refine Eq.trans (jb_nx (i := .getfield 15) (n := 3) (q := (4, [some (.ref p0), some (.int i1), some (.int i2)], [.ref a1])) (jq qX1_put 1 rfl) (jo_gf rfl (jr_R_inv e2))) ?_
  refine Eq.trans (jb_nx (i := .iload_n 1) (n := 1) (q := (5, [some (.ref p0), some (.int i1), some (.int i2)], [.int i1, .ref a1])) (jq qX1_put 2 rfl) rfl) ?_
  refine Eq.trans (jb_nx (i := .iload_n 2) (n := 1) (q := (6, [some (.ref p0), some (.int i1), some (.int i2)], [.int i2, .int i1, .ref a1])) (jq qX1_put 3 rfl) rfl) ?_
  obtain ⟨b5, H⟩ := jm_O_inv H
  rcases jcV H with ⟨h3, r4, H⟩ | ⟨w6, h7, r4, H⟩
  · refine Eq.trans (jb_nx (i := .invokevirtual 65) (n := 3) (q := (9, [some (.ref p0), some (.int i1), some (.int i2)], [])) (jq qX1_put 4 rfl) (jo_cv (y := mX0_addCode) rfl (Nat.le_of_ble_eq_true rfl) rfl (Nat.le_of_ble_eq_true rfl) b5 rfl r4 jo_ret)) ?_
    refine Eq.trans (jb_nx (i := .iconst 1) (n := 1) (q := (10, [some (.ref p0), some (.int i1), some (.int i2)], [.int 1])) (jq qX1_put 5 rfl) rfl) ?_
    exact Eq.trans (jb_rt (i := .ireturn) (n := 1) (jq qX1_put 6 rfl) (jo_iret rfl (by decide))) H
  · exact Eq.trans (jb_rt (i := .invokevirtual 65) (n := 3) (jq qX1_put 4 rfl) (jo_cv (y := mX0_addCode) rfl (Nat.le_of_ble_eq_true rfl) rfl (Nat.le_of_ble_eq_true rfl) b5 rfl r4 (jo_exn rfl))) H
/-! MaskPlays$Grammar sum (I)Z -/
def tX1_sum : List (Nat × Instr × Nat) := [(0, .aload_n 0, 1), (1, .iload_n 1, 1), (2, .invokevirtual 77, 3), (5, .ifCond .ne 5, 3), (8, .iconst 0, 1), (9, .ireturn, 1), (10, .iconst 0, 1), (11, .istore_n 2, 1), (12, .iload_n 2, 1), (13, .sipush 400, 3), (16, .if_icmp .ge 66, 3), (19, .aload_n 0, 1), (20, .bipush 26, 2), (22, .invokevirtual 23, 3), (25, .ifCond .ne 12, 3), (28, .aload_n 0, 1), (29, .bipush 27, 2), (31, .invokevirtual 23, 3), (34, .ifCond .eq 48, 3), (37, .aload_n 0, 1), (38, .getfield 9, 3), (41, .aload_n 0, 1), (42, .getfield 19, 3), (45, .invokevirtual 31, 3), (48, .istore_n 3, 1), (49, .aload_n 0, 1), (50, .dup, 1), (51, .getfield 19, 3), (54, .iconst 1, 1), (55, .iadd, 1), (56, .putfield 19, 3), (59, .aload_n 0, 1), (60, .iload_n 1, 1), (61, .invokevirtual 77, 3), (64, .ifCond .ne 5, 3), (67, .iconst 0, 1), (68, .ireturn, 1), (69, .aload_n 0, 1), (70, .iload_n 3, 1), (71, .iconst 0, 1), (72, .invokevirtual 61, 3), (75, .pop, 1), (76, .iinc 2 1, 3), (79, .goto (-67), 3), (82, .iconst 1, 1), (83, .ireturn, 1)]
set_option maxRecDepth 100000 in
theorem qX1_sum : ∀ q ∈ tX1_sum, decode cX1_sum q.1 = .ok (q.2.1, q.2.2) := by decide +kernel
noncomputable def kX1_sum_12 (d : Nat) (p0 : Nat) (i1 : Int32) (i2 : Int32) (o3 : Option Value) (h : jm_H) : Option jm_R := jm_B d mX1_sum (12, [some (.ref p0), some (.int i1), some (.int i2), o3], []) h
noncomputable def kX1_sum_37 (d : Nat) (p0 : Nat) (i1 : Int32) (i2 : Int32) (o3 : Option Value) (h : jm_H) : Option jm_R := jm_B d mX1_sum (37, [some (.ref p0), some (.int i1), some (.int i2), o3], []) h
theorem gX1_sum_12 {d : Nat} {p0 : Nat} {i1 : Int32} {i2 : Int32} {o3 : Option Value} {h : jm_H} {r : jm_R} (H : ((if i2 < 400 then jm_O h p0 1 (jc_I (jm_D d mX1_sees [.ref p0, .int 26] h) (fun x11 h9 => (if x11 = 0 then jm_O h9 p0 1 (jc_I (jm_D d mX1_sees [.ref p0, .int 27] h9) (fun x15 h13 => (if x15 = 0 then some (.inl (some (.int 1)), h13) else kX1_sum_37 d p0 i1 i2 o3 h13)) jx) else kX1_sum_37 d p0 i1 i2 o3 h9)) jx) else some (.inl (some (.int 1)), h))) = some r) : kX1_sum_12 d p0 i1 i2 o3 h = some r := by
  show jm_B d mX1_sum (12, [some (.ref p0), some (.int i1), some (.int i2), o3], []) h = some r
  refine Eq.trans (jb_nx (i := .iload_n 2) (n := 1) (q := (13, [some (.ref p0), some (.int i1), some (.int i2), o3], [.int i2])) (jq qX1_sum 8 rfl) rfl) ?_
  refine Eq.trans (jb_nx (i := .sipush 400) (n := 3) (q := (16, [some (.ref p0), some (.int i1), some (.int i2), o3], [.int 400, .int i2])) (jq qX1_sum 9 rfl) rfl) ?_
  by_cases c8 : i2 < 400
  · rw [if_pos c8] at H
    refine Eq.trans (jb_nx (i := .if_icmp .ge 66) (n := 3) (q := (19, [some (.ref p0), some (.int i1), some (.int i2), o3], [])) (jq qX1_sum 10 rfl) (jo_icF (jz_geF c8))) ?_
    refine Eq.trans (jb_nx (i := .aload_n 0) (n := 1) (q := (20, [some (.ref p0), some (.int i1), some (.int i2), o3], [.ref p0])) (jq qX1_sum 11 rfl) rfl) ?_
    refine Eq.trans (jb_nx (i := .bipush 26) (n := 2) (q := (22, [some (.ref p0), some (.int i1), some (.int i2), o3], [.int 26, .ref p0])) (jq qX1_sum 12 rfl) rfl) ?_
    obtain ⟨b20, H⟩ := jm_O_inv H
    rcases jcI H with ⟨x11, h9, r10, H⟩ | ⟨w21, h22, r10, H⟩
    · refine Eq.trans (jb_nx (i := .invokevirtual 23) (n := 3) (q := (25, [some (.ref p0), some (.int i1), some (.int i2), o3], [.int x11])) (jq qX1_sum 13 rfl) (jo_cv (y := mX1_sees) rfl (Nat.le_of_ble_eq_true rfl) rfl (Nat.le_of_ble_eq_true rfl) b20 rfl r10 jo_ret)) ?_
      by_cases c12 : x11 = 0
      · rw [if_pos c12] at H
        refine Eq.trans (jb_nx (i := .ifCond .ne 12) (n := 3) (q := (28, [some (.ref p0), some (.int i1), some (.int i2), o3], [])) (jq qX1_sum 14 rfl) (jo_ifF (jz_neF c12))) ?_
        refine Eq.trans (jb_nx (i := .aload_n 0) (n := 1) (q := (29, [some (.ref p0), some (.int i1), some (.int i2), o3], [.ref p0])) (jq qX1_sum 15 rfl) rfl) ?_
        refine Eq.trans (jb_nx (i := .bipush 27) (n := 2) (q := (31, [some (.ref p0), some (.int i1), some (.int i2), o3], [.int 27, .ref p0])) (jq qX1_sum 16 rfl) rfl) ?_
        obtain ⟨b17, H⟩ := jm_O_inv H
        rcases jcI H with ⟨x15, h13, r14, H⟩ | ⟨w18, h19, r14, H⟩
        · refine Eq.trans (jb_nx (i := .invokevirtual 23) (n := 3) (q := (34, [some (.ref p0), some (.int i1), some (.int i2), o3], [.int x15])) (jq qX1_sum 17 rfl) (jo_cv (y := mX1_sees) rfl (Nat.le_of_ble_eq_true rfl) rfl (Nat.le_of_ble_eq_true rfl) b17 rfl r14 jo_ret)) ?_
          by_cases c16 : x15 = 0
          · rw [if_pos c16] at H
            refine Eq.trans (jb_nx (i := .ifCond .eq 48) (n := 3) (q := (82, [some (.ref p0), some (.int i1), some (.int i2), o3], [])) (jq qX1_sum 18 rfl) (jo_ifT (jz_eqT c16) rfl)) ?_
            refine Eq.trans (jb_nx (i := .iconst 1) (n := 1) (q := (83, [some (.ref p0), some (.int i1), some (.int i2), o3], [.int 1])) (jq qX1_sum 44 rfl) rfl) ?_
            exact Eq.trans (jb_rt (i := .ireturn) (n := 1) (jq qX1_sum 45 rfl) (jo_iret rfl (by decide))) H
          · rw [if_neg c16] at H
            refine Eq.trans (jb_nx (i := .ifCond .eq 48) (n := 3) (q := (37, [some (.ref p0), some (.int i1), some (.int i2), o3], [])) (jq qX1_sum 18 rfl) (jo_ifF (jz_eqF c16))) ?_
            exact H
        · exact Eq.trans (jb_rt (i := .invokevirtual 23) (n := 3) (jq qX1_sum 17 rfl) (jo_cv (y := mX1_sees) rfl (Nat.le_of_ble_eq_true rfl) rfl (Nat.le_of_ble_eq_true rfl) b17 rfl r14 (jo_exn rfl))) H
      · rw [if_neg c12] at H
        refine Eq.trans (jb_nx (i := .ifCond .ne 12) (n := 3) (q := (37, [some (.ref p0), some (.int i1), some (.int i2), o3], [])) (jq qX1_sum 14 rfl) (jo_ifT (jz_neT c12) rfl)) ?_
        exact H
    · exact Eq.trans (jb_rt (i := .invokevirtual 23) (n := 3) (jq qX1_sum 13 rfl) (jo_cv (y := mX1_sees) rfl (Nat.le_of_ble_eq_true rfl) rfl (Nat.le_of_ble_eq_true rfl) b20 rfl r10 (jo_exn rfl))) H
  · rw [if_neg c8] at H
    refine Eq.trans (jb_nx (i := .if_icmp .ge 66) (n := 3) (q := (82, [some (.ref p0), some (.int i1), some (.int i2), o3], [])) (jq qX1_sum 10 rfl) (jo_icT (jz_geT c8) rfl)) ?_
    refine Eq.trans (jb_nx (i := .iconst 1) (n := 1) (q := (83, [some (.ref p0), some (.int i1), some (.int i2), o3], [.int 1])) (jq qX1_sum 44 rfl) rfl) ?_
    exact Eq.trans (jb_rt (i := .ireturn) (n := 1) (jq qX1_sum 45 rfl) (jo_iret rfl (by decide))) H
theorem gX1_sum_37 {d : Nat} {p0 : Nat} {i1 : Int32} {i2 : Int32} {o3 : Option Value} {h : jm_H} {r : jm_R} (H : ((jr_R h p0 1 0 2).bind fun a23 => (jr_I h p0 1 2 0).bind fun x25 => jm_O h a23 9 (jc_I (jm_D d mX9_kindAt [.ref a23, .int x25] h) (fun x29 h27 => (jr_I h27 p0 1 2 0).bind fun x30 => (jm_pf h27 p0 1 2 0 (.int (x30 + 1))).bind fun h32 => jm_O h32 p0 1 (jc_I (jm_D d mX1_product [.ref p0, .int i1] h32) (fun x36 h34 => (if x36 = 0 then some (.inl (some (.int 0)), h34) else jm_O h34 p0 1 (jc_I (jm_D d mX1_put [.ref p0, .int x29, .int 0] h34) (fun x40 h38 => kX1_sum_12 d p0 i1 (i2 + 1) (some (.int x29)) h38) jx))) jx)) jx)) = some r) : kX1_sum_37 d p0 i1 i2 o3 h = some r := by
  show jm_B d mX1_sum (37, [some (.ref p0), some (.int i1), some (.int i2), o3], []) h = some r
  refine Eq.trans (jb_nx (i := .aload_n 0) (n := 1) (q := (38, [some (.ref p0), some (.int i1), some (.int i2), o3], [.ref p0])) (jq qX1_sum 19 rfl) rfl) ?_
  obtain ⟨a23, e24, H⟩ := jbd H
  refine Eq.trans (jb_nx (i := .getfield 9) (n := 3) (q := (41, [some (.ref p0), some (.int i1), some (.int i2), o3], [.ref a23])) (jq qX1_sum 20 rfl) (jo_gf rfl (jr_R_inv e24))) ?_
  refine Eq.trans (jb_nx (i := .aload_n 0) (n := 1) (q := (42, [some (.ref p0), some (.int i1), some (.int i2), o3], [.ref p0, .ref a23])) (jq qX1_sum 21 rfl) rfl) ?_
  obtain ⟨x25, e26, H⟩ := jbd H
  refine Eq.trans (jb_nx (i := .getfield 19) (n := 3) (q := (45, [some (.ref p0), some (.int i1), some (.int i2), o3], [.int x25, .ref a23])) (jq qX1_sum 22 rfl) (jo_gf rfl (jr_I_inv e26))) ?_
  obtain ⟨b47, H⟩ := jm_O_inv H
  rcases jcI H with ⟨x29, h27, r28, H⟩ | ⟨w48, h49, r28, H⟩
  · refine Eq.trans (jb_nx (i := .invokevirtual 31) (n := 3) (q := (48, [some (.ref p0), some (.int i1), some (.int i2), o3], [.int x29])) (jq qX1_sum 23 rfl) (jo_cv (y := mX9_kindAt) rfl (Nat.le_of_ble_eq_true rfl) rfl (Nat.le_of_ble_eq_true rfl) b47 rfl r28 jo_ret)) ?_
    refine Eq.trans (jb_nx (i := .istore_n 3) (n := 1) (q := (49, [some (.ref p0), some (.int i1), some (.int i2), some (.int x29)], [])) (jq qX1_sum 24 rfl) rfl) ?_
    refine Eq.trans (jb_nx (i := .aload_n 0) (n := 1) (q := (50, [some (.ref p0), some (.int i1), some (.int i2), some (.int x29)], [.ref p0])) (jq qX1_sum 25 rfl) rfl) ?_
    refine Eq.trans (jb_nx (i := .dup) (n := 1) (q := (51, [some (.ref p0), some (.int i1), some (.int i2), some (.int x29)], [.ref p0, .ref p0])) (jq qX1_sum 26 rfl) rfl) ?_
    obtain ⟨x30, e31, H⟩ := jbd H
    refine Eq.trans (jb_nx (i := .getfield 19) (n := 3) (q := (54, [some (.ref p0), some (.int i1), some (.int i2), some (.int x29)], [.int x30, .ref p0])) (jq qX1_sum 27 rfl) (jo_gf rfl (jr_I_inv e31))) ?_
    refine Eq.trans (jb_nx (i := .iconst 1) (n := 1) (q := (55, [some (.ref p0), some (.int i1), some (.int i2), some (.int x29)], [.int 1, .int x30, .ref p0])) (jq qX1_sum 28 rfl) rfl) ?_
    refine Eq.trans (jb_nx (i := .iadd) (n := 1) (q := (56, [some (.ref p0), some (.int i1), some (.int i2), some (.int x29)], [.int (x30 + 1), .ref p0])) (jq qX1_sum 29 rfl) rfl) ?_
    obtain ⟨h32, e33, H⟩ := jbd H
    refine Eq.trans (jb_nx (i := .putfield 19) (n := 3) (q := (59, [some (.ref p0), some (.int i1), some (.int i2), some (.int x29)], [])) (jq qX1_sum 30 rfl) (jo_pf rfl (Or.inl rfl) e33)) ?_
    refine Eq.trans (jb_nx (i := .aload_n 0) (n := 1) (q := (60, [some (.ref p0), some (.int i1), some (.int i2), some (.int x29)], [.ref p0])) (jq qX1_sum 31 rfl) rfl) ?_
    refine Eq.trans (jb_nx (i := .iload_n 1) (n := 1) (q := (61, [some (.ref p0), some (.int i1), some (.int i2), some (.int x29)], [.int i1, .ref p0])) (jq qX1_sum 32 rfl) rfl) ?_
    obtain ⟨b44, H⟩ := jm_O_inv H
    rcases jcI H with ⟨x36, h34, r35, H⟩ | ⟨w45, h46, r35, H⟩
    · refine Eq.trans (jb_nx (i := .invokevirtual 77) (n := 3) (q := (64, [some (.ref p0), some (.int i1), some (.int i2), some (.int x29)], [.int x36])) (jq qX1_sum 33 rfl) (jo_cv (y := mX1_product) rfl (Nat.le_of_ble_eq_true rfl) rfl (Nat.le_of_ble_eq_true rfl) b44 rfl r35 jo_ret)) ?_
      by_cases c37 : x36 = 0
      · rw [if_pos c37] at H
        refine Eq.trans (jb_nx (i := .ifCond .ne 5) (n := 3) (q := (67, [some (.ref p0), some (.int i1), some (.int i2), some (.int x29)], [])) (jq qX1_sum 34 rfl) (jo_ifF (jz_neF c37))) ?_
        refine Eq.trans (jb_nx (i := .iconst 0) (n := 1) (q := (68, [some (.ref p0), some (.int i1), some (.int i2), some (.int x29)], [.int 0])) (jq qX1_sum 35 rfl) rfl) ?_
        exact Eq.trans (jb_rt (i := .ireturn) (n := 1) (jq qX1_sum 36 rfl) (jo_iret rfl (by decide))) H
      · rw [if_neg c37] at H
        refine Eq.trans (jb_nx (i := .ifCond .ne 5) (n := 3) (q := (69, [some (.ref p0), some (.int i1), some (.int i2), some (.int x29)], [])) (jq qX1_sum 34 rfl) (jo_ifT (jz_neT c37) rfl)) ?_
        refine Eq.trans (jb_nx (i := .aload_n 0) (n := 1) (q := (70, [some (.ref p0), some (.int i1), some (.int i2), some (.int x29)], [.ref p0])) (jq qX1_sum 37 rfl) rfl) ?_
        refine Eq.trans (jb_nx (i := .iload_n 3) (n := 1) (q := (71, [some (.ref p0), some (.int i1), some (.int i2), some (.int x29)], [.int x29, .ref p0])) (jq qX1_sum 38 rfl) rfl) ?_
        refine Eq.trans (jb_nx (i := .iconst 0) (n := 1) (q := (72, [some (.ref p0), some (.int i1), some (.int i2), some (.int x29)], [.int 0, .int x29, .ref p0])) (jq qX1_sum 39 rfl) rfl) ?_
        obtain ⟨b41, H⟩ := jm_O_inv H
        rcases jcI H with ⟨x40, h38, r39, H⟩ | ⟨w42, h43, r39, H⟩
        · refine Eq.trans (jb_nx (i := .invokevirtual 61) (n := 3) (q := (75, [some (.ref p0), some (.int i1), some (.int i2), some (.int x29)], [.int x40])) (jq qX1_sum 40 rfl) (jo_cv (y := mX1_put) rfl (Nat.le_of_ble_eq_true rfl) rfl (Nat.le_of_ble_eq_true rfl) b41 rfl r39 jo_ret)) ?_
          refine Eq.trans (jb_nx (i := .pop) (n := 1) (q := (76, [some (.ref p0), some (.int i1), some (.int i2), some (.int x29)], [])) (jq qX1_sum 41 rfl) rfl) ?_
          refine Eq.trans (jb_nx (i := .iinc 2 1) (n := 3) (q := (79, [some (.ref p0), some (.int i1), some (.int (i2 + 1)), some (.int x29)], [])) (jq qX1_sum 42 rfl) rfl) ?_
          refine Eq.trans (jb_nx (i := .goto (-67)) (n := 3) (q := (12, [some (.ref p0), some (.int i1), some (.int (i2 + 1)), some (.int x29)], [])) (jq qX1_sum 43 rfl) rfl) ?_
          exact H
        · exact Eq.trans (jb_rt (i := .invokevirtual 61) (n := 3) (jq qX1_sum 40 rfl) (jo_cv (y := mX1_put) rfl (Nat.le_of_ble_eq_true rfl) rfl (Nat.le_of_ble_eq_true rfl) b41 rfl r39 (jo_exn rfl))) H
    · exact Eq.trans (jb_rt (i := .invokevirtual 77) (n := 3) (jq qX1_sum 33 rfl) (jo_cv (y := mX1_product) rfl (Nat.le_of_ble_eq_true rfl) rfl (Nat.le_of_ble_eq_true rfl) b44 rfl r35 (jo_exn rfl))) H
  · exact Eq.trans (jb_rt (i := .invokevirtual 31) (n := 3) (jq qX1_sum 23 rfl) (jo_cv (y := mX9_kindAt) rfl (Nat.le_of_ble_eq_true rfl) rfl (Nat.le_of_ble_eq_true rfl) b47 rfl r28 (jo_exn rfl))) H
theorem gX1_sum {d : Nat} {p0 : Nat} {i1 : Int32} {h : jm_H} {r : jm_R} (H : (jm_O h p0 1 (jc_I (jm_D d mX1_product [.ref p0, .int i1] h) (fun x3 h1 => (if x3 = 0 then some (.inl (some (.int 0)), h1) else kX1_sum_12 d p0 i1 0 none h1)) jx)) = some r) : jm_D (d + 1) mX1_sum [.ref p0, .int i1] h = some r := by
  rw [jm_D_body (Nat.le_of_ble_eq_true rfl)]
  show jm_B d mX1_sum (0, [some (.ref p0), some (.int i1), none, none], []) h = some r
  refine Eq.trans (jb_nx (i := .aload_n 0) (n := 1) (q := (1, [some (.ref p0), some (.int i1), none, none], [.ref p0])) (jq qX1_sum 0 rfl) rfl) ?_
  refine Eq.trans (jb_nx (i := .iload_n 1) (n := 1) (q := (2, [some (.ref p0), some (.int i1), none, none], [.int i1, .ref p0])) (jq qX1_sum 1 rfl) rfl) ?_
  obtain ⟨b5, H⟩ := jm_O_inv H
  rcases jcI H with ⟨x3, h1, r2, H⟩ | ⟨w6, h7, r2, H⟩
  · refine Eq.trans (jb_nx (i := .invokevirtual 77) (n := 3) (q := (5, [some (.ref p0), some (.int i1), none, none], [.int x3])) (jq qX1_sum 2 rfl) (jo_cv (y := mX1_product) rfl (Nat.le_of_ble_eq_true rfl) rfl (Nat.le_of_ble_eq_true rfl) b5 rfl r2 jo_ret)) ?_
    by_cases c4 : x3 = 0
    · rw [if_pos c4] at H
      refine Eq.trans (jb_nx (i := .ifCond .ne 5) (n := 3) (q := (8, [some (.ref p0), some (.int i1), none, none], [])) (jq qX1_sum 3 rfl) (jo_ifF (jz_neF c4))) ?_
      refine Eq.trans (jb_nx (i := .iconst 0) (n := 1) (q := (9, [some (.ref p0), some (.int i1), none, none], [.int 0])) (jq qX1_sum 4 rfl) rfl) ?_
      exact Eq.trans (jb_rt (i := .ireturn) (n := 1) (jq qX1_sum 5 rfl) (jo_iret rfl (by decide))) H
    · rw [if_neg c4] at H
      refine Eq.trans (jb_nx (i := .ifCond .ne 5) (n := 3) (q := (10, [some (.ref p0), some (.int i1), none, none], [])) (jq qX1_sum 3 rfl) (jo_ifT (jz_neT c4) rfl)) ?_
      refine Eq.trans (jb_nx (i := .iconst 0) (n := 1) (q := (11, [some (.ref p0), some (.int i1), none, none], [.int 0])) (jq qX1_sum 6 rfl) rfl) ?_
      refine Eq.trans (jb_nx (i := .istore_n 2) (n := 1) (q := (12, [some (.ref p0), some (.int i1), some (.int 0), none], [])) (jq qX1_sum 7 rfl) rfl) ?_
      exact H
  · exact Eq.trans (jb_rt (i := .invokevirtual 77) (n := 3) (jq qX1_sum 2 rfl) (jo_cv (y := mX1_product) rfl (Nat.le_of_ble_eq_true rfl) rfl (Nat.le_of_ble_eq_true rfl) b5 rfl r2 (jo_exn rfl))) H
/-! MaskPlays$Grammar product (I)Z -/
def tX1_product : List (Nat × Instr × Nat) := [(0, .aload_n 0, 1), (1, .iload_n 1, 1), (2, .invokevirtual 80, 3), (5, .ifCond .ne 5, 3), (8, .iconst 0, 1), (9, .ireturn, 1), (10, .iconst 0, 1), (11, .istore_n 2, 1), (12, .iload_n 2, 1), (13, .sipush 400, 3), (16, .if_icmp .ge 66, 3), (19, .aload_n 0, 1), (20, .bipush 28, 2), (22, .invokevirtual 23, 3), (25, .ifCond .ne 12, 3), (28, .aload_n 0, 1), (29, .bipush 29, 2), (31, .invokevirtual 23, 3), (34, .ifCond .eq 48, 3), (37, .aload_n 0, 1), (38, .getfield 9, 3), (41, .aload_n 0, 1), (42, .getfield 19, 3), (45, .invokevirtual 31, 3), (48, .istore_n 3, 1), (49, .aload_n 0, 1), (50, .dup, 1), (51, .getfield 19, 3), (54, .iconst 1, 1), (55, .iadd, 1), (56, .putfield 19, 3), (59, .aload_n 0, 1), (60, .iload_n 1, 1), (61, .invokevirtual 80, 3), (64, .ifCond .ne 5, 3), (67, .iconst 0, 1), (68, .ireturn, 1), (69, .aload_n 0, 1), (70, .iload_n 3, 1), (71, .iconst 0, 1), (72, .invokevirtual 61, 3), (75, .pop, 1), (76, .iinc 2 1, 3), (79, .goto (-67), 3), (82, .iconst 1, 1), (83, .ireturn, 1)]
set_option maxRecDepth 100000 in
theorem qX1_product : ∀ q ∈ tX1_product, decode cX1_product q.1 = .ok (q.2.1, q.2.2) := by decide +kernel
noncomputable def kX1_product_12 (d : Nat) (p0 : Nat) (i1 : Int32) (i2 : Int32) (o3 : Option Value) (h : jm_H) : Option jm_R := jm_B d mX1_product (12, [some (.ref p0), some (.int i1), some (.int i2), o3], []) h
noncomputable def kX1_product_37 (d : Nat) (p0 : Nat) (i1 : Int32) (i2 : Int32) (o3 : Option Value) (h : jm_H) : Option jm_R := jm_B d mX1_product (37, [some (.ref p0), some (.int i1), some (.int i2), o3], []) h
theorem gX1_product_12 {d : Nat} {p0 : Nat} {i1 : Int32} {i2 : Int32} {o3 : Option Value} {h : jm_H} {r : jm_R} (H : ((if i2 < 400 then jm_O h p0 1 (jc_I (jm_D d mX1_sees [.ref p0, .int 28] h) (fun x11 h9 => (if x11 = 0 then jm_O h9 p0 1 (jc_I (jm_D d mX1_sees [.ref p0, .int 29] h9) (fun x15 h13 => (if x15 = 0 then some (.inl (some (.int 1)), h13) else kX1_product_37 d p0 i1 i2 o3 h13)) jx) else kX1_product_37 d p0 i1 i2 o3 h9)) jx) else some (.inl (some (.int 1)), h))) = some r) : kX1_product_12 d p0 i1 i2 o3 h = some r := by
  show jm_B d mX1_product (12, [some (.ref p0), some (.int i1), some (.int i2), o3], []) h = some r
  refine Eq.trans (jb_nx (i := .iload_n 2) (n := 1) (q := (13, [some (.ref p0), some (.int i1), some (.int i2), o3], [.int i2])) (jq qX1_product 8 rfl) rfl) ?_
  refine Eq.trans (jb_nx (i := .sipush 400) (n := 3) (q := (16, [some (.ref p0), some (.int i1), some (.int i2), o3], [.int 400, .int i2])) (jq qX1_product 9 rfl) rfl) ?_
  by_cases c8 : i2 < 400
  · rw [if_pos c8] at H
    refine Eq.trans (jb_nx (i := .if_icmp .ge 66) (n := 3) (q := (19, [some (.ref p0), some (.int i1), some (.int i2), o3], [])) (jq qX1_product 10 rfl) (jo_icF (jz_geF c8))) ?_
    refine Eq.trans (jb_nx (i := .aload_n 0) (n := 1) (q := (20, [some (.ref p0), some (.int i1), some (.int i2), o3], [.ref p0])) (jq qX1_product 11 rfl) rfl) ?_
    refine Eq.trans (jb_nx (i := .bipush 28) (n := 2) (q := (22, [some (.ref p0), some (.int i1), some (.int i2), o3], [.int 28, .ref p0])) (jq qX1_product 12 rfl) rfl) ?_
    obtain ⟨b20, H⟩ := jm_O_inv H
    rcases jcI H with ⟨x11, h9, r10, H⟩ | ⟨w21, h22, r10, H⟩
    · refine Eq.trans (jb_nx (i := .invokevirtual 23) (n := 3) (q := (25, [some (.ref p0), some (.int i1), some (.int i2), o3], [.int x11])) (jq qX1_product 13 rfl) (jo_cv (y := mX1_sees) rfl (Nat.le_of_ble_eq_true rfl) rfl (Nat.le_of_ble_eq_true rfl) b20 rfl r10 jo_ret)) ?_
      by_cases c12 : x11 = 0
      · rw [if_pos c12] at H
        refine Eq.trans (jb_nx (i := .ifCond .ne 12) (n := 3) (q := (28, [some (.ref p0), some (.int i1), some (.int i2), o3], [])) (jq qX1_product 14 rfl) (jo_ifF (jz_neF c12))) ?_
        refine Eq.trans (jb_nx (i := .aload_n 0) (n := 1) (q := (29, [some (.ref p0), some (.int i1), some (.int i2), o3], [.ref p0])) (jq qX1_product 15 rfl) rfl) ?_
        refine Eq.trans (jb_nx (i := .bipush 29) (n := 2) (q := (31, [some (.ref p0), some (.int i1), some (.int i2), o3], [.int 29, .ref p0])) (jq qX1_product 16 rfl) rfl) ?_
        obtain ⟨b17, H⟩ := jm_O_inv H
        rcases jcI H with ⟨x15, h13, r14, H⟩ | ⟨w18, h19, r14, H⟩
        · refine Eq.trans (jb_nx (i := .invokevirtual 23) (n := 3) (q := (34, [some (.ref p0), some (.int i1), some (.int i2), o3], [.int x15])) (jq qX1_product 17 rfl) (jo_cv (y := mX1_sees) rfl (Nat.le_of_ble_eq_true rfl) rfl (Nat.le_of_ble_eq_true rfl) b17 rfl r14 jo_ret)) ?_
          by_cases c16 : x15 = 0
          · rw [if_pos c16] at H
            refine Eq.trans (jb_nx (i := .ifCond .eq 48) (n := 3) (q := (82, [some (.ref p0), some (.int i1), some (.int i2), o3], [])) (jq qX1_product 18 rfl) (jo_ifT (jz_eqT c16) rfl)) ?_
            refine Eq.trans (jb_nx (i := .iconst 1) (n := 1) (q := (83, [some (.ref p0), some (.int i1), some (.int i2), o3], [.int 1])) (jq qX1_product 44 rfl) rfl) ?_
            exact Eq.trans (jb_rt (i := .ireturn) (n := 1) (jq qX1_product 45 rfl) (jo_iret rfl (by decide))) H
          · rw [if_neg c16] at H
            refine Eq.trans (jb_nx (i := .ifCond .eq 48) (n := 3) (q := (37, [some (.ref p0), some (.int i1), some (.int i2), o3], [])) (jq qX1_product 18 rfl) (jo_ifF (jz_eqF c16))) ?_
            exact H
        · exact Eq.trans (jb_rt (i := .invokevirtual 23) (n := 3) (jq qX1_product 17 rfl) (jo_cv (y := mX1_sees) rfl (Nat.le_of_ble_eq_true rfl) rfl (Nat.le_of_ble_eq_true rfl) b17 rfl r14 (jo_exn rfl))) H
      · rw [if_neg c12] at H
        refine Eq.trans (jb_nx (i := .ifCond .ne 12) (n := 3) (q := (37, [some (.ref p0), some (.int i1), some (.int i2), o3], [])) (jq qX1_product 14 rfl) (jo_ifT (jz_neT c12) rfl)) ?_
        exact H
    · exact Eq.trans (jb_rt (i := .invokevirtual 23) (n := 3) (jq qX1_product 13 rfl) (jo_cv (y := mX1_sees) rfl (Nat.le_of_ble_eq_true rfl) rfl (Nat.le_of_ble_eq_true rfl) b20 rfl r10 (jo_exn rfl))) H
  · rw [if_neg c8] at H
    refine Eq.trans (jb_nx (i := .if_icmp .ge 66) (n := 3) (q := (82, [some (.ref p0), some (.int i1), some (.int i2), o3], [])) (jq qX1_product 10 rfl) (jo_icT (jz_geT c8) rfl)) ?_
    refine Eq.trans (jb_nx (i := .iconst 1) (n := 1) (q := (83, [some (.ref p0), some (.int i1), some (.int i2), o3], [.int 1])) (jq qX1_product 44 rfl) rfl) ?_
    exact Eq.trans (jb_rt (i := .ireturn) (n := 1) (jq qX1_product 45 rfl) (jo_iret rfl (by decide))) H
theorem gX1_product_37 {d : Nat} {p0 : Nat} {i1 : Int32} {i2 : Int32} {o3 : Option Value} {h : jm_H} {r : jm_R} (H : ((jr_R h p0 1 0 2).bind fun a23 => (jr_I h p0 1 2 0).bind fun x25 => jm_O h a23 9 (jc_I (jm_D d mX9_kindAt [.ref a23, .int x25] h) (fun x29 h27 => (jr_I h27 p0 1 2 0).bind fun x30 => (jm_pf h27 p0 1 2 0 (.int (x30 + 1))).bind fun h32 => jm_O h32 p0 1 (jc_I (jm_D d mX1_value [.ref p0, .int i1] h32) (fun x36 h34 => (if x36 = 0 then some (.inl (some (.int 0)), h34) else jm_O h34 p0 1 (jc_I (jm_D d mX1_put [.ref p0, .int x29, .int 0] h34) (fun x40 h38 => kX1_product_12 d p0 i1 (i2 + 1) (some (.int x29)) h38) jx))) jx)) jx)) = some r) : kX1_product_37 d p0 i1 i2 o3 h = some r := by
  show jm_B d mX1_product (37, [some (.ref p0), some (.int i1), some (.int i2), o3], []) h = some r
  refine Eq.trans (jb_nx (i := .aload_n 0) (n := 1) (q := (38, [some (.ref p0), some (.int i1), some (.int i2), o3], [.ref p0])) (jq qX1_product 19 rfl) rfl) ?_
  obtain ⟨a23, e24, H⟩ := jbd H
  refine Eq.trans (jb_nx (i := .getfield 9) (n := 3) (q := (41, [some (.ref p0), some (.int i1), some (.int i2), o3], [.ref a23])) (jq qX1_product 20 rfl) (jo_gf rfl (jr_R_inv e24))) ?_
  refine Eq.trans (jb_nx (i := .aload_n 0) (n := 1) (q := (42, [some (.ref p0), some (.int i1), some (.int i2), o3], [.ref p0, .ref a23])) (jq qX1_product 21 rfl) rfl) ?_
  obtain ⟨x25, e26, H⟩ := jbd H
  refine Eq.trans (jb_nx (i := .getfield 19) (n := 3) (q := (45, [some (.ref p0), some (.int i1), some (.int i2), o3], [.int x25, .ref a23])) (jq qX1_product 22 rfl) (jo_gf rfl (jr_I_inv e26))) ?_
  obtain ⟨b47, H⟩ := jm_O_inv H
  rcases jcI H with ⟨x29, h27, r28, H⟩ | ⟨w48, h49, r28, H⟩
  · refine Eq.trans (jb_nx (i := .invokevirtual 31) (n := 3) (q := (48, [some (.ref p0), some (.int i1), some (.int i2), o3], [.int x29])) (jq qX1_product 23 rfl) (jo_cv (y := mX9_kindAt) rfl (Nat.le_of_ble_eq_true rfl) rfl (Nat.le_of_ble_eq_true rfl) b47 rfl r28 jo_ret)) ?_
    refine Eq.trans (jb_nx (i := .istore_n 3) (n := 1) (q := (49, [some (.ref p0), some (.int i1), some (.int i2), some (.int x29)], [])) (jq qX1_product 24 rfl) rfl) ?_
    refine Eq.trans (jb_nx (i := .aload_n 0) (n := 1) (q := (50, [some (.ref p0), some (.int i1), some (.int i2), some (.int x29)], [.ref p0])) (jq qX1_product 25 rfl) rfl) ?_
    refine Eq.trans (jb_nx (i := .dup) (n := 1) (q := (51, [some (.ref p0), some (.int i1), some (.int i2), some (.int x29)], [.ref p0, .ref p0])) (jq qX1_product 26 rfl) rfl) ?_
    obtain ⟨x30, e31, H⟩ := jbd H
    refine Eq.trans (jb_nx (i := .getfield 19) (n := 3) (q := (54, [some (.ref p0), some (.int i1), some (.int i2), some (.int x29)], [.int x30, .ref p0])) (jq qX1_product 27 rfl) (jo_gf rfl (jr_I_inv e31))) ?_
    refine Eq.trans (jb_nx (i := .iconst 1) (n := 1) (q := (55, [some (.ref p0), some (.int i1), some (.int i2), some (.int x29)], [.int 1, .int x30, .ref p0])) (jq qX1_product 28 rfl) rfl) ?_
    refine Eq.trans (jb_nx (i := .iadd) (n := 1) (q := (56, [some (.ref p0), some (.int i1), some (.int i2), some (.int x29)], [.int (x30 + 1), .ref p0])) (jq qX1_product 29 rfl) rfl) ?_
    obtain ⟨h32, e33, H⟩ := jbd H
    refine Eq.trans (jb_nx (i := .putfield 19) (n := 3) (q := (59, [some (.ref p0), some (.int i1), some (.int i2), some (.int x29)], [])) (jq qX1_product 30 rfl) (jo_pf rfl (Or.inl rfl) e33)) ?_
    refine Eq.trans (jb_nx (i := .aload_n 0) (n := 1) (q := (60, [some (.ref p0), some (.int i1), some (.int i2), some (.int x29)], [.ref p0])) (jq qX1_product 31 rfl) rfl) ?_
    refine Eq.trans (jb_nx (i := .iload_n 1) (n := 1) (q := (61, [some (.ref p0), some (.int i1), some (.int i2), some (.int x29)], [.int i1, .ref p0])) (jq qX1_product 32 rfl) rfl) ?_
    obtain ⟨b44, H⟩ := jm_O_inv H
    rcases jcI H with ⟨x36, h34, r35, H⟩ | ⟨w45, h46, r35, H⟩
    · refine Eq.trans (jb_nx (i := .invokevirtual 80) (n := 3) (q := (64, [some (.ref p0), some (.int i1), some (.int i2), some (.int x29)], [.int x36])) (jq qX1_product 33 rfl) (jo_cv (y := mX1_value) rfl (Nat.le_of_ble_eq_true rfl) rfl (Nat.le_of_ble_eq_true rfl) b44 rfl r35 jo_ret)) ?_
      by_cases c37 : x36 = 0
      · rw [if_pos c37] at H
        refine Eq.trans (jb_nx (i := .ifCond .ne 5) (n := 3) (q := (67, [some (.ref p0), some (.int i1), some (.int i2), some (.int x29)], [])) (jq qX1_product 34 rfl) (jo_ifF (jz_neF c37))) ?_
        refine Eq.trans (jb_nx (i := .iconst 0) (n := 1) (q := (68, [some (.ref p0), some (.int i1), some (.int i2), some (.int x29)], [.int 0])) (jq qX1_product 35 rfl) rfl) ?_
        exact Eq.trans (jb_rt (i := .ireturn) (n := 1) (jq qX1_product 36 rfl) (jo_iret rfl (by decide))) H
      · rw [if_neg c37] at H
        refine Eq.trans (jb_nx (i := .ifCond .ne 5) (n := 3) (q := (69, [some (.ref p0), some (.int i1), some (.int i2), some (.int x29)], [])) (jq qX1_product 34 rfl) (jo_ifT (jz_neT c37) rfl)) ?_
        refine Eq.trans (jb_nx (i := .aload_n 0) (n := 1) (q := (70, [some (.ref p0), some (.int i1), some (.int i2), some (.int x29)], [.ref p0])) (jq qX1_product 37 rfl) rfl) ?_
        refine Eq.trans (jb_nx (i := .iload_n 3) (n := 1) (q := (71, [some (.ref p0), some (.int i1), some (.int i2), some (.int x29)], [.int x29, .ref p0])) (jq qX1_product 38 rfl) rfl) ?_
        refine Eq.trans (jb_nx (i := .iconst 0) (n := 1) (q := (72, [some (.ref p0), some (.int i1), some (.int i2), some (.int x29)], [.int 0, .int x29, .ref p0])) (jq qX1_product 39 rfl) rfl) ?_
        obtain ⟨b41, H⟩ := jm_O_inv H
        rcases jcI H with ⟨x40, h38, r39, H⟩ | ⟨w42, h43, r39, H⟩
        · refine Eq.trans (jb_nx (i := .invokevirtual 61) (n := 3) (q := (75, [some (.ref p0), some (.int i1), some (.int i2), some (.int x29)], [.int x40])) (jq qX1_product 40 rfl) (jo_cv (y := mX1_put) rfl (Nat.le_of_ble_eq_true rfl) rfl (Nat.le_of_ble_eq_true rfl) b41 rfl r39 jo_ret)) ?_
          refine Eq.trans (jb_nx (i := .pop) (n := 1) (q := (76, [some (.ref p0), some (.int i1), some (.int i2), some (.int x29)], [])) (jq qX1_product 41 rfl) rfl) ?_
          refine Eq.trans (jb_nx (i := .iinc 2 1) (n := 3) (q := (79, [some (.ref p0), some (.int i1), some (.int (i2 + 1)), some (.int x29)], [])) (jq qX1_product 42 rfl) rfl) ?_
          refine Eq.trans (jb_nx (i := .goto (-67)) (n := 3) (q := (12, [some (.ref p0), some (.int i1), some (.int (i2 + 1)), some (.int x29)], [])) (jq qX1_product 43 rfl) rfl) ?_
          exact H
        · exact Eq.trans (jb_rt (i := .invokevirtual 61) (n := 3) (jq qX1_product 40 rfl) (jo_cv (y := mX1_put) rfl (Nat.le_of_ble_eq_true rfl) rfl (Nat.le_of_ble_eq_true rfl) b41 rfl r39 (jo_exn rfl))) H
    · exact Eq.trans (jb_rt (i := .invokevirtual 80) (n := 3) (jq qX1_product 33 rfl) (jo_cv (y := mX1_value) rfl (Nat.le_of_ble_eq_true rfl) rfl (Nat.le_of_ble_eq_true rfl) b44 rfl r35 (jo_exn rfl))) H
  · exact Eq.trans (jb_rt (i := .invokevirtual 31) (n := 3) (jq qX1_product 23 rfl) (jo_cv (y := mX9_kindAt) rfl (Nat.le_of_ble_eq_true rfl) rfl (Nat.le_of_ble_eq_true rfl) b47 rfl r28 (jo_exn rfl))) H
theorem gX1_product {d : Nat} {p0 : Nat} {i1 : Int32} {h : jm_H} {r : jm_R} (H : (jm_O h p0 1 (jc_I (jm_D d mX1_value [.ref p0, .int i1] h) (fun x3 h1 => (if x3 = 0 then some (.inl (some (.int 0)), h1) else kX1_product_12 d p0 i1 0 none h1)) jx)) = some r) : jm_D (d + 1) mX1_product [.ref p0, .int i1] h = some r := by
  rw [jm_D_body (Nat.le_of_ble_eq_true rfl)]
  show jm_B d mX1_product (0, [some (.ref p0), some (.int i1), none, none], []) h = some r
  refine Eq.trans (jb_nx (i := .aload_n 0) (n := 1) (q := (1, [some (.ref p0), some (.int i1), none, none], [.ref p0])) (jq qX1_product 0 rfl) rfl) ?_
  refine Eq.trans (jb_nx (i := .iload_n 1) (n := 1) (q := (2, [some (.ref p0), some (.int i1), none, none], [.int i1, .ref p0])) (jq qX1_product 1 rfl) rfl) ?_
  obtain ⟨b5, H⟩ := jm_O_inv H
  rcases jcI H with ⟨x3, h1, r2, H⟩ | ⟨w6, h7, r2, H⟩
  · refine Eq.trans (jb_nx (i := .invokevirtual 80) (n := 3) (q := (5, [some (.ref p0), some (.int i1), none, none], [.int x3])) (jq qX1_product 2 rfl) (jo_cv (y := mX1_value) rfl (Nat.le_of_ble_eq_true rfl) rfl (Nat.le_of_ble_eq_true rfl) b5 rfl r2 jo_ret)) ?_
    by_cases c4 : x3 = 0
    · rw [if_pos c4] at H
      refine Eq.trans (jb_nx (i := .ifCond .ne 5) (n := 3) (q := (8, [some (.ref p0), some (.int i1), none, none], [])) (jq qX1_product 3 rfl) (jo_ifF (jz_neF c4))) ?_
      refine Eq.trans (jb_nx (i := .iconst 0) (n := 1) (q := (9, [some (.ref p0), some (.int i1), none, none], [.int 0])) (jq qX1_product 4 rfl) rfl) ?_
      exact Eq.trans (jb_rt (i := .ireturn) (n := 1) (jq qX1_product 5 rfl) (jo_iret rfl (by decide))) H
    · rw [if_neg c4] at H
      refine Eq.trans (jb_nx (i := .ifCond .ne 5) (n := 3) (q := (10, [some (.ref p0), some (.int i1), none, none], [])) (jq qX1_product 3 rfl) (jo_ifT (jz_neT c4) rfl)) ?_
      refine Eq.trans (jb_nx (i := .iconst 0) (n := 1) (q := (11, [some (.ref p0), some (.int i1), none, none], [.int 0])) (jq qX1_product 6 rfl) rfl) ?_
      refine Eq.trans (jb_nx (i := .istore_n 2) (n := 1) (q := (12, [some (.ref p0), some (.int i1), some (.int 0), none], [])) (jq qX1_product 7 rfl) rfl) ?_
      exact H
  · exact Eq.trans (jb_rt (i := .invokevirtual 80) (n := 3) (jq qX1_product 2 rfl) (jo_cv (y := mX1_value) rfl (Nat.le_of_ble_eq_true rfl) rfl (Nat.le_of_ble_eq_true rfl) b5 rfl r2 (jo_exn rfl))) H
/-! MaskPlays$Grammar value (I)Z -/
def tX1_value : List (Nat × Instr × Nat) := [(0, .aload_n 0, 1), (1, .getfield 9, 3), (4, .aload_n 0, 1), (5, .getfield 19, 3), (8, .invokevirtual 31, 3), (11, .istore_n 2, 1), (12, .iload_n 2, 1), (13, .tableswitch 391 9 36 #[162, 187, 187, 187, 391, 391, 391, 391, 391, 315, 315, 275, 391, 391, 391, 391, 391, 391, 234, 391, 391, 391, 391, 391, 391, 391, 391, 127], 127), (140, .aload_n 0, 1), (141, .bipush 36, 2), (143, .aload_n 0, 1), (144, .getfield 9, 3), (147, .aload_n 0, 1), (148, .getfield 19, 3), (151, .invokevirtual 83, 3), (154, .invokevirtual 61, 3), (157, .ifCond .eq 16, 3), (160, .aload_n 0, 1), (161, .bipush 36, 2), (163, .invokevirtual 37, 3), (166, .ifCond .eq 7, 3), (169, .iconst 1, 1), (170, .goto 4, 3), (173, .iconst 0, 1), (174, .ireturn, 1), (175, .aload_n 0, 1), (176, .bipush 9, 2), (178, .invokevirtual 37, 3), (181, .ifCond .eq 17, 3), (184, .aload_n 0, 1), (185, .bipush 9, 2), (187, .iconst 0, 1), (188, .invokevirtual 61, 3), (191, .ifCond .eq 7, 3), (194, .iconst 1, 1), (195, .goto 4, 3), (198, .iconst 0, 1), (199, .ireturn, 1), (200, .aload_n 0, 1), (201, .iload_n 2, 1), (202, .invokevirtual 37, 3), (205, .ifCond .eq 40, 3), (208, .aload_n 0, 1), (209, .bipush 35, 2), (211, .invokevirtual 37, 3), (214, .ifCond .eq 31, 3), (217, .aload_n 0, 1), (218, .bipush 35, 2), (220, .aload_n 0, 1), (221, .getfield 19, 3), (224, .iconst 1, 1), (225, .isub, 1), (226, .invokevirtual 61, 3), (229, .ifCond .eq 16, 3), (232, .aload_n 0, 1), (233, .iload_n 2, 1), (234, .iconst 0, 1), (235, .invokevirtual 61, 3), (238, .ifCond .eq 7, 3), (241, .iconst 1, 1), (242, .goto 4, 3), (245, .iconst 0, 1), (246, .ireturn, 1), (247, .iload_n 1, 1), (248, .bipush 8, 2), (250, .if_icmp .ge 36, 3), (253, .aload_n 0, 1), (254, .bipush 27, 2), (256, .invokevirtual 37, 3), (259, .ifCond .eq 27, 3), (262, .aload_n 0, 1), (263, .iload_n 1, 1), (264, .iconst 1, 1), (265, .iadd, 1), (266, .invokevirtual 80, 3), (269, .ifCond .eq 17, 3), (272, .aload_n 0, 1), (273, .bipush 39, 2), (275, .iconst 0, 1), (276, .invokevirtual 61, 3), (279, .ifCond .eq 7, 3), (282, .iconst 1, 1), (283, .goto 4, 3), (286, .iconst 0, 1), (287, .ireturn, 1), (288, .iload_n 1, 1), (289, .bipush 8, 2), (291, .if_icmp .ge 35, 3), (294, .aload_n 0, 1), (295, .bipush 20, 2), (297, .invokevirtual 37, 3), (300, .ifCond .eq 26, 3), (303, .aload_n 0, 1), (304, .iload_n 1, 1), (305, .iconst 1, 1), (306, .iadd, 1), (307, .invokevirtual 74, 3), (310, .ifCond .eq 16, 3), (313, .aload_n 0, 1), (314, .bipush 21, 2), (316, .invokevirtual 37, 3), (319, .ifCond .eq 7, 3), (322, .iconst 1, 1), (323, .goto 4, 3), (326, .iconst 0, 1), (327, .ireturn, 1), (328, .aload_n 0, 1), (329, .iload_n 2, 1), (330, .invokevirtual 37, 3), (333, .ifCond .eq 69, 3), (336, .iload_n 1, 1), (337, .bipush 8, 2), (339, .if_icmp .ge 63, 3), (342, .aload_n 0, 1), (343, .bipush 20, 2), (345, .invokevirtual 37, 3), (348, .ifCond .eq 54, 3), (351, .aload_n 0, 1), (352, .iload_n 1, 1), (353, .iconst 1, 1), (354, .iadd, 1), (355, .invokevirtual 74, 3), (358, .ifCond .eq 44, 3), (361, .aload_n 0, 1), (362, .bipush 25, 2), (364, .invokevirtual 37, 3), (367, .ifCond .eq 35, 3), (370, .aload_n 0, 1), (371, .iload_n 1, 1), (372, .iconst 1, 1), (373, .iadd, 1), (374, .invokevirtual 74, 3), (377, .ifCond .eq 25, 3), (380, .aload_n 0, 1), (381, .bipush 21, 2), (383, .invokevirtual 37, 3), (386, .ifCond .eq 16, 3), (389, .aload_n 0, 1), (390, .iload_n 2, 1), (391, .iconst 0, 1), (392, .invokevirtual 61, 3), (395, .ifCond .eq 7, 3), (398, .iconst 1, 1), (399, .goto 4, 3), (402, .iconst 0, 1), (403, .ireturn, 1), (404, .iconst 0, 1), (405, .ireturn, 1)]
set_option maxRecDepth 100000 in
theorem qX1_value : ∀ q ∈ tX1_value, decode cX1_value q.1 = .ok (q.2.1, q.2.2) := by decide +kernel
theorem gX1_value {d : Nat} {p0 : Nat} {i1 : Int32} {h : jm_H} {r : jm_R} (H : ((jr_R h p0 1 0 2).bind fun a1 => (jr_I h p0 1 2 0).bind fun x3 => jm_O h a1 9 (jc_I (jm_D d mX9_kindAt [.ref a1, .int x3] h) (fun x7 h5 => (if x7 = 9 then jm_O h5 p0 1 (jc_I (jm_D d mX1_take [.ref p0, .int 9] h5) (fun x11 h9 => (if x11 = 0 then some (.inl (some (.int 0)), h9) else jm_O h9 p0 1 (jc_I (jm_D d mX1_put [.ref p0, .int 9, .int 0] h9) (fun x15 h13 => (if x15 = 0 then some (.inl (some (.int 0)), h13) else some (.inl (some (.int 1)), h13))) jx))) jx) else (if x7 = 10 then jm_O h5 p0 1 (jc_I (jm_D d mX1_take [.ref p0, .int x7] h5) (fun x26 h24 => (if x26 = 0 then some (.inl (some (.int 0)), h24) else jm_O h24 p0 1 (jc_I (jm_D d mX1_take [.ref p0, .int 35] h24) (fun x30 h28 => (if x30 = 0 then some (.inl (some (.int 0)), h28) else (jr_I h28 p0 1 2 0).bind fun x32 => jm_O h28 p0 1 (jc_I (jm_D d mX1_put [.ref p0, .int 35, .int (x32 - 1)] h28) (fun x36 h34 => (if x36 = 0 then some (.inl (some (.int 0)), h34) else jm_O h34 p0 1 (jc_I (jm_D d mX1_put [.ref p0, .int x7, .int 0] h34) (fun x40 h38 => (if x40 = 0 then some (.inl (some (.int 0)), h38) else some (.inl (some (.int 1)), h38))) jx))) jx))) jx))) jx) else (if x7 = 11 then jm_O h5 p0 1 (jc_I (jm_D d mX1_take [.ref p0, .int x7] h5) (fun x57 h55 => (if x57 = 0 then some (.inl (some (.int 0)), h55) else jm_O h55 p0 1 (jc_I (jm_D d mX1_take [.ref p0, .int 35] h55) (fun x61 h59 => (if x61 = 0 then some (.inl (some (.int 0)), h59) else (jr_I h59 p0 1 2 0).bind fun x63 => jm_O h59 p0 1 (jc_I (jm_D d mX1_put [.ref p0, .int 35, .int (x63 - 1)] h59) (fun x67 h65 => (if x67 = 0 then some (.inl (some (.int 0)), h65) else jm_O h65 p0 1 (jc_I (jm_D d mX1_put [.ref p0, .int x7, .int 0] h65) (fun x71 h69 => (if x71 = 0 then some (.inl (some (.int 0)), h69) else some (.inl (some (.int 1)), h69))) jx))) jx))) jx))) jx) else (if x7 = 12 then jm_O h5 p0 1 (jc_I (jm_D d mX1_take [.ref p0, .int x7] h5) (fun x88 h86 => (if x88 = 0 then some (.inl (some (.int 0)), h86) else jm_O h86 p0 1 (jc_I (jm_D d mX1_take [.ref p0, .int 35] h86) (fun x92 h90 => (if x92 = 0 then some (.inl (some (.int 0)), h90) else (jr_I h90 p0 1 2 0).bind fun x94 => jm_O h90 p0 1 (jc_I (jm_D d mX1_put [.ref p0, .int 35, .int (x94 - 1)] h90) (fun x98 h96 => (if x98 = 0 then some (.inl (some (.int 0)), h96) else jm_O h96 p0 1 (jc_I (jm_D d mX1_put [.ref p0, .int x7, .int 0] h96) (fun x102 h100 => (if x102 = 0 then some (.inl (some (.int 0)), h100) else some (.inl (some (.int 1)), h100))) jx))) jx))) jx))) jx) else (if x7 = 18 then jm_O h5 p0 1 (jc_I (jm_D d mX1_take [.ref p0, .int x7] h5) (fun x119 h117 => (if x119 = 0 then some (.inl (some (.int 0)), h117) else (if i1 < 8 then jm_O h117 p0 1 (jc_I (jm_D d mX1_take [.ref p0, .int 20] h117) (fun x124 h122 => (if x124 = 0 then some (.inl (some (.int 0)), h122) else jm_O h122 p0 1 (jc_I (jm_D d mX1_sum [.ref p0, .int (i1 + 1)] h122) (fun x128 h126 => (if x128 = 0 then some (.inl (some (.int 0)), h126) else jm_O h126 p0 1 (jc_I (jm_D d mX1_take [.ref p0, .int 25] h126) (fun x132 h130 => (if x132 = 0 then some (.inl (some (.int 0)), h130) else jm_O h130 p0 1 (jc_I (jm_D d mX1_sum [.ref p0, .int (i1 + 1)] h130) (fun x136 h134 => (if x136 = 0 then some (.inl (some (.int 0)), h134) else jm_O h134 p0 1 (jc_I (jm_D d mX1_take [.ref p0, .int 21] h134) (fun x140 h138 => (if x140 = 0 then some (.inl (some (.int 0)), h138) else jm_O h138 p0 1 (jc_I (jm_D d mX1_put [.ref p0, .int x7, .int 0] h138) (fun x144 h142 => (if x144 = 0 then some (.inl (some (.int 0)), h142) else some (.inl (some (.int 1)), h142))) jx))) jx))) jx))) jx))) jx))) jx) else some (.inl (some (.int 0)), h117)))) jx) else (if x7 = 19 then jm_O h5 p0 1 (jc_I (jm_D d mX1_take [.ref p0, .int x7] h5) (fun x170 h168 => (if x170 = 0 then some (.inl (some (.int 0)), h168) else (if i1 < 8 then jm_O h168 p0 1 (jc_I (jm_D d mX1_take [.ref p0, .int 20] h168) (fun x175 h173 => (if x175 = 0 then some (.inl (some (.int 0)), h173) else jm_O h173 p0 1 (jc_I (jm_D d mX1_sum [.ref p0, .int (i1 + 1)] h173) (fun x179 h177 => (if x179 = 0 then some (.inl (some (.int 0)), h177) else jm_O h177 p0 1 (jc_I (jm_D d mX1_take [.ref p0, .int 25] h177) (fun x183 h181 => (if x183 = 0 then some (.inl (some (.int 0)), h181) else jm_O h181 p0 1 (jc_I (jm_D d mX1_sum [.ref p0, .int (i1 + 1)] h181) (fun x187 h185 => (if x187 = 0 then some (.inl (some (.int 0)), h185) else jm_O h185 p0 1 (jc_I (jm_D d mX1_take [.ref p0, .int 21] h185) (fun x191 h189 => (if x191 = 0 then some (.inl (some (.int 0)), h189) else jm_O h189 p0 1 (jc_I (jm_D d mX1_put [.ref p0, .int x7, .int 0] h189) (fun x195 h193 => (if x195 = 0 then some (.inl (some (.int 0)), h193) else some (.inl (some (.int 1)), h193))) jx))) jx))) jx))) jx))) jx))) jx) else some (.inl (some (.int 0)), h168)))) jx) else (if x7 = 20 then (if i1 < 8 then jm_O h5 p0 1 (jc_I (jm_D d mX1_take [.ref p0, .int 20] h5) (fun x222 h220 => (if x222 = 0 then some (.inl (some (.int 0)), h220) else jm_O h220 p0 1 (jc_I (jm_D d mX1_sum [.ref p0, .int (i1 + 1)] h220) (fun x226 h224 => (if x226 = 0 then some (.inl (some (.int 0)), h224) else jm_O h224 p0 1 (jc_I (jm_D d mX1_take [.ref p0, .int 21] h224) (fun x230 h228 => (if x230 = 0 then some (.inl (some (.int 0)), h228) else some (.inl (some (.int 1)), h228))) jx))) jx))) jx) else some (.inl (some (.int 0)), h5)) else (if x7 = 27 then (if i1 < 8 then jm_O h5 p0 1 (jc_I (jm_D d mX1_take [.ref p0, .int 27] h5) (fun x245 h243 => (if x245 = 0 then some (.inl (some (.int 0)), h243) else jm_O h243 p0 1 (jc_I (jm_D d mX1_value [.ref p0, .int (i1 + 1)] h243) (fun x249 h247 => (if x249 = 0 then some (.inl (some (.int 0)), h247) else jm_O h247 p0 1 (jc_I (jm_D d mX1_put [.ref p0, .int 39, .int 0] h247) (fun x253 h251 => (if x253 = 0 then some (.inl (some (.int 0)), h251) else some (.inl (some (.int 1)), h251))) jx))) jx))) jx) else some (.inl (some (.int 0)), h5)) else (if x7 = 36 then (jr_R h5 p0 1 0 2).bind fun a265 => (jr_I h5 p0 1 2 0).bind fun x267 => jm_O h5 a265 9 (jc_I (jm_D d mX9_valueAt [.ref a265, .int x267] h5) (fun x271 h269 => jm_O h269 p0 1 (jc_I (jm_D d mX1_put [.ref p0, .int 36, .int x271] h269) (fun x274 h272 => (if x274 = 0 then some (.inl (some (.int 0)), h272) else jm_O h272 p0 1 (jc_I (jm_D d mX1_take [.ref p0, .int 36] h272) (fun x278 h276 => (if x278 = 0 then some (.inl (some (.int 0)), h276) else some (.inl (some (.int 1)), h276))) jx))) jx)) jx) else some (.inl (some (.int 0)), h5))))))))))) jx)) = some r) : jm_D (d + 1) mX1_value [.ref p0, .int i1] h = some r := by
  rw [jm_D_body (Nat.le_of_ble_eq_true rfl)]
  show jm_B d mX1_value (0, [some (.ref p0), some (.int i1), none], []) h = some r
  refine Eq.trans (jb_nx (i := .aload_n 0) (n := 1) (q := (1, [some (.ref p0), some (.int i1), none], [.ref p0])) (jq qX1_value 0 rfl) rfl) ?_
  obtain ⟨a1, e2, H⟩ := jbd H
  refine Eq.trans (jb_nx (i := .getfield 9) (n := 3) (q := (4, [some (.ref p0), some (.int i1), none], [.ref a1])) (jq qX1_value 1 rfl) (jo_gf rfl (jr_R_inv e2))) ?_
  refine Eq.trans (jb_nx (i := .aload_n 0) (n := 1) (q := (5, [some (.ref p0), some (.int i1), none], [.ref p0, .ref a1])) (jq qX1_value 2 rfl) rfl) ?_
  obtain ⟨x3, e4, H⟩ := jbd H
  refine Eq.trans (jb_nx (i := .getfield 19) (n := 3) (q := (8, [some (.ref p0), some (.int i1), none], [.int x3, .ref a1])) (jq qX1_value 3 rfl) (jo_gf rfl (jr_I_inv e4))) ?_
  obtain ⟨b289, H⟩ := jm_O_inv H
  rcases jcI H with ⟨x7, h5, r6, H⟩ | ⟨w290, h291, r6, H⟩
  · refine Eq.trans (jb_nx (i := .invokevirtual 31) (n := 3) (q := (11, [some (.ref p0), some (.int i1), none], [.int x7])) (jq qX1_value 4 rfl) (jo_cv (y := mX9_kindAt) rfl (Nat.le_of_ble_eq_true rfl) rfl (Nat.le_of_ble_eq_true rfl) b289 rfl r6 jo_ret)) ?_
    refine Eq.trans (jb_nx (i := .istore_n 2) (n := 1) (q := (12, [some (.ref p0), some (.int i1), some (.int x7)], [])) (jq qX1_value 5 rfl) rfl) ?_
    refine Eq.trans (jb_nx (i := .iload_n 2) (n := 1) (q := (13, [some (.ref p0), some (.int i1), some (.int x7)], [.int x7])) (jq qX1_value 6 rfl) rfl) ?_
    by_cases c8 : x7 = 9
    · rw [if_pos c8] at H
      refine Eq.trans (jb_nx (i := .tableswitch 391 9 36 #[162, 187, 187, 187, 391, 391, 391, 391, 391, 315, 315, 275, 391, 391, 391, 391, 391, 391, 234, 391, 391, 391, 391, 391, 391, 391, 391, 127]) (n := 127) (q := (175, [some (.ref p0), some (.int i1), some (.int x7)], [])) (jq qX1_value 7 rfl) (by rw [c8]; rfl)) ?_
      refine Eq.trans (jb_nx (i := .aload_n 0) (n := 1) (q := (176, [some (.ref p0), some (.int i1), some (.int x7)], [.ref p0])) (jq qX1_value 25 rfl) rfl) ?_
      refine Eq.trans (jb_nx (i := .bipush 9) (n := 2) (q := (178, [some (.ref p0), some (.int i1), some (.int x7)], [.int 9, .ref p0])) (jq qX1_value 26 rfl) rfl) ?_
      obtain ⟨b20, H⟩ := jm_O_inv H
      rcases jcI H with ⟨x11, h9, r10, H⟩ | ⟨w21, h22, r10, H⟩
      · refine Eq.trans (jb_nx (i := .invokevirtual 37) (n := 3) (q := (181, [some (.ref p0), some (.int i1), some (.int x7)], [.int x11])) (jq qX1_value 27 rfl) (jo_cv (y := mX1_take) rfl (Nat.le_of_ble_eq_true rfl) rfl (Nat.le_of_ble_eq_true rfl) b20 rfl r10 jo_ret)) ?_
        by_cases c12 : x11 = 0
        · rw [if_pos c12] at H
          refine Eq.trans (jb_nx (i := .ifCond .eq 17) (n := 3) (q := (198, [some (.ref p0), some (.int i1), some (.int x7)], [])) (jq qX1_value 28 rfl) (jo_ifT (jz_eqT c12) rfl)) ?_
          refine Eq.trans (jb_nx (i := .iconst 0) (n := 1) (q := (199, [some (.ref p0), some (.int i1), some (.int x7)], [.int 0])) (jq qX1_value 36 rfl) rfl) ?_
          exact Eq.trans (jb_rt (i := .ireturn) (n := 1) (jq qX1_value 37 rfl) (jo_iret rfl (by decide))) H
        · rw [if_neg c12] at H
          refine Eq.trans (jb_nx (i := .ifCond .eq 17) (n := 3) (q := (184, [some (.ref p0), some (.int i1), some (.int x7)], [])) (jq qX1_value 28 rfl) (jo_ifF (jz_eqF c12))) ?_
          refine Eq.trans (jb_nx (i := .aload_n 0) (n := 1) (q := (185, [some (.ref p0), some (.int i1), some (.int x7)], [.ref p0])) (jq qX1_value 29 rfl) rfl) ?_
          refine Eq.trans (jb_nx (i := .bipush 9) (n := 2) (q := (187, [some (.ref p0), some (.int i1), some (.int x7)], [.int 9, .ref p0])) (jq qX1_value 30 rfl) rfl) ?_
          refine Eq.trans (jb_nx (i := .iconst 0) (n := 1) (q := (188, [some (.ref p0), some (.int i1), some (.int x7)], [.int 0, .int 9, .ref p0])) (jq qX1_value 31 rfl) rfl) ?_
          obtain ⟨b17, H⟩ := jm_O_inv H
          rcases jcI H with ⟨x15, h13, r14, H⟩ | ⟨w18, h19, r14, H⟩
          · refine Eq.trans (jb_nx (i := .invokevirtual 61) (n := 3) (q := (191, [some (.ref p0), some (.int i1), some (.int x7)], [.int x15])) (jq qX1_value 32 rfl) (jo_cv (y := mX1_put) rfl (Nat.le_of_ble_eq_true rfl) rfl (Nat.le_of_ble_eq_true rfl) b17 rfl r14 jo_ret)) ?_
            by_cases c16 : x15 = 0
            · rw [if_pos c16] at H
              refine Eq.trans (jb_nx (i := .ifCond .eq 7) (n := 3) (q := (198, [some (.ref p0), some (.int i1), some (.int x7)], [])) (jq qX1_value 33 rfl) (jo_ifT (jz_eqT c16) rfl)) ?_
              refine Eq.trans (jb_nx (i := .iconst 0) (n := 1) (q := (199, [some (.ref p0), some (.int i1), some (.int x7)], [.int 0])) (jq qX1_value 36 rfl) rfl) ?_
              exact Eq.trans (jb_rt (i := .ireturn) (n := 1) (jq qX1_value 37 rfl) (jo_iret rfl (by decide))) H
            · rw [if_neg c16] at H
              refine Eq.trans (jb_nx (i := .ifCond .eq 7) (n := 3) (q := (194, [some (.ref p0), some (.int i1), some (.int x7)], [])) (jq qX1_value 33 rfl) (jo_ifF (jz_eqF c16))) ?_
              refine Eq.trans (jb_nx (i := .iconst 1) (n := 1) (q := (195, [some (.ref p0), some (.int i1), some (.int x7)], [.int 1])) (jq qX1_value 34 rfl) rfl) ?_
              refine Eq.trans (jb_nx (i := .goto 4) (n := 3) (q := (199, [some (.ref p0), some (.int i1), some (.int x7)], [.int 1])) (jq qX1_value 35 rfl) rfl) ?_
              exact Eq.trans (jb_rt (i := .ireturn) (n := 1) (jq qX1_value 37 rfl) (jo_iret rfl (by decide))) H
          · exact Eq.trans (jb_rt (i := .invokevirtual 61) (n := 3) (jq qX1_value 32 rfl) (jo_cv (y := mX1_put) rfl (Nat.le_of_ble_eq_true rfl) rfl (Nat.le_of_ble_eq_true rfl) b17 rfl r14 (jo_exn rfl))) H
      · exact Eq.trans (jb_rt (i := .invokevirtual 37) (n := 3) (jq qX1_value 27 rfl) (jo_cv (y := mX1_take) rfl (Nat.le_of_ble_eq_true rfl) rfl (Nat.le_of_ble_eq_true rfl) b20 rfl r10 (jo_exn rfl))) H
    · rw [if_neg c8] at H
      by_cases c23 : x7 = 10
      · rw [if_pos c23] at H
        refine Eq.trans (jb_nx (i := .tableswitch 391 9 36 #[162, 187, 187, 187, 391, 391, 391, 391, 391, 315, 315, 275, 391, 391, 391, 391, 391, 391, 234, 391, 391, 391, 391, 391, 391, 391, 391, 127]) (n := 127) (q := (200, [some (.ref p0), some (.int i1), some (.int x7)], [])) (jq qX1_value 7 rfl) (by rw [c23]; rfl)) ?_
        refine Eq.trans (jb_nx (i := .aload_n 0) (n := 1) (q := (201, [some (.ref p0), some (.int i1), some (.int x7)], [.ref p0])) (jq qX1_value 38 rfl) rfl) ?_
        refine Eq.trans (jb_nx (i := .iload_n 2) (n := 1) (q := (202, [some (.ref p0), some (.int i1), some (.int x7)], [.int x7, .ref p0])) (jq qX1_value 39 rfl) rfl) ?_
        obtain ⟨b51, H⟩ := jm_O_inv H
        rcases jcI H with ⟨x26, h24, r25, H⟩ | ⟨w52, h53, r25, H⟩
        · refine Eq.trans (jb_nx (i := .invokevirtual 37) (n := 3) (q := (205, [some (.ref p0), some (.int i1), some (.int x7)], [.int x26])) (jq qX1_value 40 rfl) (jo_cv (y := mX1_take) rfl (Nat.le_of_ble_eq_true rfl) rfl (Nat.le_of_ble_eq_true rfl) b51 rfl r25 jo_ret)) ?_
          by_cases c27 : x26 = 0
          · rw [if_pos c27] at H
            refine Eq.trans (jb_nx (i := .ifCond .eq 40) (n := 3) (q := (245, [some (.ref p0), some (.int i1), some (.int x7)], [])) (jq qX1_value 41 rfl) (jo_ifT (jz_eqT c27) rfl)) ?_
            refine Eq.trans (jb_nx (i := .iconst 0) (n := 1) (q := (246, [some (.ref p0), some (.int i1), some (.int x7)], [.int 0])) (jq qX1_value 61 rfl) rfl) ?_
            exact Eq.trans (jb_rt (i := .ireturn) (n := 1) (jq qX1_value 62 rfl) (jo_iret rfl (by decide))) H
          · rw [if_neg c27] at H
            refine Eq.trans (jb_nx (i := .ifCond .eq 40) (n := 3) (q := (208, [some (.ref p0), some (.int i1), some (.int x7)], [])) (jq qX1_value 41 rfl) (jo_ifF (jz_eqF c27))) ?_
            refine Eq.trans (jb_nx (i := .aload_n 0) (n := 1) (q := (209, [some (.ref p0), some (.int i1), some (.int x7)], [.ref p0])) (jq qX1_value 42 rfl) rfl) ?_
            refine Eq.trans (jb_nx (i := .bipush 35) (n := 2) (q := (211, [some (.ref p0), some (.int i1), some (.int x7)], [.int 35, .ref p0])) (jq qX1_value 43 rfl) rfl) ?_
            obtain ⟨b48, H⟩ := jm_O_inv H
            rcases jcI H with ⟨x30, h28, r29, H⟩ | ⟨w49, h50, r29, H⟩
            · refine Eq.trans (jb_nx (i := .invokevirtual 37) (n := 3) (q := (214, [some (.ref p0), some (.int i1), some (.int x7)], [.int x30])) (jq qX1_value 44 rfl) (jo_cv (y := mX1_take) rfl (Nat.le_of_ble_eq_true rfl) rfl (Nat.le_of_ble_eq_true rfl) b48 rfl r29 jo_ret)) ?_
              by_cases c31 : x30 = 0
              · rw [if_pos c31] at H
                refine Eq.trans (jb_nx (i := .ifCond .eq 31) (n := 3) (q := (245, [some (.ref p0), some (.int i1), some (.int x7)], [])) (jq qX1_value 45 rfl) (jo_ifT (jz_eqT c31) rfl)) ?_
                refine Eq.trans (jb_nx (i := .iconst 0) (n := 1) (q := (246, [some (.ref p0), some (.int i1), some (.int x7)], [.int 0])) (jq qX1_value 61 rfl) rfl) ?_
                exact Eq.trans (jb_rt (i := .ireturn) (n := 1) (jq qX1_value 62 rfl) (jo_iret rfl (by decide))) H
              · rw [if_neg c31] at H
                refine Eq.trans (jb_nx (i := .ifCond .eq 31) (n := 3) (q := (217, [some (.ref p0), some (.int i1), some (.int x7)], [])) (jq qX1_value 45 rfl) (jo_ifF (jz_eqF c31))) ?_
                refine Eq.trans (jb_nx (i := .aload_n 0) (n := 1) (q := (218, [some (.ref p0), some (.int i1), some (.int x7)], [.ref p0])) (jq qX1_value 46 rfl) rfl) ?_
                refine Eq.trans (jb_nx (i := .bipush 35) (n := 2) (q := (220, [some (.ref p0), some (.int i1), some (.int x7)], [.int 35, .ref p0])) (jq qX1_value 47 rfl) rfl) ?_
                refine Eq.trans (jb_nx (i := .aload_n 0) (n := 1) (q := (221, [some (.ref p0), some (.int i1), some (.int x7)], [.ref p0, .int 35, .ref p0])) (jq qX1_value 48 rfl) rfl) ?_
                obtain ⟨x32, e33, H⟩ := jbd H
                refine Eq.trans (jb_nx (i := .getfield 19) (n := 3) (q := (224, [some (.ref p0), some (.int i1), some (.int x7)], [.int x32, .int 35, .ref p0])) (jq qX1_value 49 rfl) (jo_gf rfl (jr_I_inv e33))) ?_
                refine Eq.trans (jb_nx (i := .iconst 1) (n := 1) (q := (225, [some (.ref p0), some (.int i1), some (.int x7)], [.int 1, .int x32, .int 35, .ref p0])) (jq qX1_value 50 rfl) rfl) ?_
                refine Eq.trans (jb_nx (i := .isub) (n := 1) (q := (226, [some (.ref p0), some (.int i1), some (.int x7)], [.int (x32 - 1), .int 35, .ref p0])) (jq qX1_value 51 rfl) rfl) ?_
                obtain ⟨b45, H⟩ := jm_O_inv H
                rcases jcI H with ⟨x36, h34, r35, H⟩ | ⟨w46, h47, r35, H⟩
                · refine Eq.trans (jb_nx (i := .invokevirtual 61) (n := 3) (q := (229, [some (.ref p0), some (.int i1), some (.int x7)], [.int x36])) (jq qX1_value 52 rfl) (jo_cv (y := mX1_put) rfl (Nat.le_of_ble_eq_true rfl) rfl (Nat.le_of_ble_eq_true rfl) b45 rfl r35 jo_ret)) ?_
                  by_cases c37 : x36 = 0
                  · rw [if_pos c37] at H
                    refine Eq.trans (jb_nx (i := .ifCond .eq 16) (n := 3) (q := (245, [some (.ref p0), some (.int i1), some (.int x7)], [])) (jq qX1_value 53 rfl) (jo_ifT (jz_eqT c37) rfl)) ?_
                    refine Eq.trans (jb_nx (i := .iconst 0) (n := 1) (q := (246, [some (.ref p0), some (.int i1), some (.int x7)], [.int 0])) (jq qX1_value 61 rfl) rfl) ?_
                    exact Eq.trans (jb_rt (i := .ireturn) (n := 1) (jq qX1_value 62 rfl) (jo_iret rfl (by decide))) H
                  · rw [if_neg c37] at H
                    refine Eq.trans (jb_nx (i := .ifCond .eq 16) (n := 3) (q := (232, [some (.ref p0), some (.int i1), some (.int x7)], [])) (jq qX1_value 53 rfl) (jo_ifF (jz_eqF c37))) ?_
                    refine Eq.trans (jb_nx (i := .aload_n 0) (n := 1) (q := (233, [some (.ref p0), some (.int i1), some (.int x7)], [.ref p0])) (jq qX1_value 54 rfl) rfl) ?_
                    refine Eq.trans (jb_nx (i := .iload_n 2) (n := 1) (q := (234, [some (.ref p0), some (.int i1), some (.int x7)], [.int x7, .ref p0])) (jq qX1_value 55 rfl) rfl) ?_
                    refine Eq.trans (jb_nx (i := .iconst 0) (n := 1) (q := (235, [some (.ref p0), some (.int i1), some (.int x7)], [.int 0, .int x7, .ref p0])) (jq qX1_value 56 rfl) rfl) ?_
                    obtain ⟨b42, H⟩ := jm_O_inv H
                    rcases jcI H with ⟨x40, h38, r39, H⟩ | ⟨w43, h44, r39, H⟩
                    · refine Eq.trans (jb_nx (i := .invokevirtual 61) (n := 3) (q := (238, [some (.ref p0), some (.int i1), some (.int x7)], [.int x40])) (jq qX1_value 57 rfl) (jo_cv (y := mX1_put) rfl (Nat.le_of_ble_eq_true rfl) rfl (Nat.le_of_ble_eq_true rfl) b42 rfl r39 jo_ret)) ?_
                      by_cases c41 : x40 = 0
                      · rw [if_pos c41] at H
                        refine Eq.trans (jb_nx (i := .ifCond .eq 7) (n := 3) (q := (245, [some (.ref p0), some (.int i1), some (.int x7)], [])) (jq qX1_value 58 rfl) (jo_ifT (jz_eqT c41) rfl)) ?_
                        refine Eq.trans (jb_nx (i := .iconst 0) (n := 1) (q := (246, [some (.ref p0), some (.int i1), some (.int x7)], [.int 0])) (jq qX1_value 61 rfl) rfl) ?_
                        exact Eq.trans (jb_rt (i := .ireturn) (n := 1) (jq qX1_value 62 rfl) (jo_iret rfl (by decide))) H
                      · rw [if_neg c41] at H
                        refine Eq.trans (jb_nx (i := .ifCond .eq 7) (n := 3) (q := (241, [some (.ref p0), some (.int i1), some (.int x7)], [])) (jq qX1_value 58 rfl) (jo_ifF (jz_eqF c41))) ?_
                        refine Eq.trans (jb_nx (i := .iconst 1) (n := 1) (q := (242, [some (.ref p0), some (.int i1), some (.int x7)], [.int 1])) (jq qX1_value 59 rfl) rfl) ?_
                        refine Eq.trans (jb_nx (i := .goto 4) (n := 3) (q := (246, [some (.ref p0), some (.int i1), some (.int x7)], [.int 1])) (jq qX1_value 60 rfl) rfl) ?_
                        exact Eq.trans (jb_rt (i := .ireturn) (n := 1) (jq qX1_value 62 rfl) (jo_iret rfl (by decide))) H
                    · exact Eq.trans (jb_rt (i := .invokevirtual 61) (n := 3) (jq qX1_value 57 rfl) (jo_cv (y := mX1_put) rfl (Nat.le_of_ble_eq_true rfl) rfl (Nat.le_of_ble_eq_true rfl) b42 rfl r39 (jo_exn rfl))) H
                · exact Eq.trans (jb_rt (i := .invokevirtual 61) (n := 3) (jq qX1_value 52 rfl) (jo_cv (y := mX1_put) rfl (Nat.le_of_ble_eq_true rfl) rfl (Nat.le_of_ble_eq_true rfl) b45 rfl r35 (jo_exn rfl))) H
            · exact Eq.trans (jb_rt (i := .invokevirtual 37) (n := 3) (jq qX1_value 44 rfl) (jo_cv (y := mX1_take) rfl (Nat.le_of_ble_eq_true rfl) rfl (Nat.le_of_ble_eq_true rfl) b48 rfl r29 (jo_exn rfl))) H
        · exact Eq.trans (jb_rt (i := .invokevirtual 37) (n := 3) (jq qX1_value 40 rfl) (jo_cv (y := mX1_take) rfl (Nat.le_of_ble_eq_true rfl) rfl (Nat.le_of_ble_eq_true rfl) b51 rfl r25 (jo_exn rfl))) H
      · rw [if_neg c23] at H
        by_cases c54 : x7 = 11
        · rw [if_pos c54] at H
          refine Eq.trans (jb_nx (i := .tableswitch 391 9 36 #[162, 187, 187, 187, 391, 391, 391, 391, 391, 315, 315, 275, 391, 391, 391, 391, 391, 391, 234, 391, 391, 391, 391, 391, 391, 391, 391, 127]) (n := 127) (q := (200, [some (.ref p0), some (.int i1), some (.int x7)], [])) (jq qX1_value 7 rfl) (by rw [c54]; rfl)) ?_
          refine Eq.trans (jb_nx (i := .aload_n 0) (n := 1) (q := (201, [some (.ref p0), some (.int i1), some (.int x7)], [.ref p0])) (jq qX1_value 38 rfl) rfl) ?_
          refine Eq.trans (jb_nx (i := .iload_n 2) (n := 1) (q := (202, [some (.ref p0), some (.int i1), some (.int x7)], [.int x7, .ref p0])) (jq qX1_value 39 rfl) rfl) ?_
          obtain ⟨b82, H⟩ := jm_O_inv H
          rcases jcI H with ⟨x57, h55, r56, H⟩ | ⟨w83, h84, r56, H⟩
          · refine Eq.trans (jb_nx (i := .invokevirtual 37) (n := 3) (q := (205, [some (.ref p0), some (.int i1), some (.int x7)], [.int x57])) (jq qX1_value 40 rfl) (jo_cv (y := mX1_take) rfl (Nat.le_of_ble_eq_true rfl) rfl (Nat.le_of_ble_eq_true rfl) b82 rfl r56 jo_ret)) ?_
            by_cases c58 : x57 = 0
            · rw [if_pos c58] at H
              refine Eq.trans (jb_nx (i := .ifCond .eq 40) (n := 3) (q := (245, [some (.ref p0), some (.int i1), some (.int x7)], [])) (jq qX1_value 41 rfl) (jo_ifT (jz_eqT c58) rfl)) ?_
              refine Eq.trans (jb_nx (i := .iconst 0) (n := 1) (q := (246, [some (.ref p0), some (.int i1), some (.int x7)], [.int 0])) (jq qX1_value 61 rfl) rfl) ?_
              exact Eq.trans (jb_rt (i := .ireturn) (n := 1) (jq qX1_value 62 rfl) (jo_iret rfl (by decide))) H
            · rw [if_neg c58] at H
              refine Eq.trans (jb_nx (i := .ifCond .eq 40) (n := 3) (q := (208, [some (.ref p0), some (.int i1), some (.int x7)], [])) (jq qX1_value 41 rfl) (jo_ifF (jz_eqF c58))) ?_
              refine Eq.trans (jb_nx (i := .aload_n 0) (n := 1) (q := (209, [some (.ref p0), some (.int i1), some (.int x7)], [.ref p0])) (jq qX1_value 42 rfl) rfl) ?_
              refine Eq.trans (jb_nx (i := .bipush 35) (n := 2) (q := (211, [some (.ref p0), some (.int i1), some (.int x7)], [.int 35, .ref p0])) (jq qX1_value 43 rfl) rfl) ?_
              obtain ⟨b79, H⟩ := jm_O_inv H
              rcases jcI H with ⟨x61, h59, r60, H⟩ | ⟨w80, h81, r60, H⟩
              · refine Eq.trans (jb_nx (i := .invokevirtual 37) (n := 3) (q := (214, [some (.ref p0), some (.int i1), some (.int x7)], [.int x61])) (jq qX1_value 44 rfl) (jo_cv (y := mX1_take) rfl (Nat.le_of_ble_eq_true rfl) rfl (Nat.le_of_ble_eq_true rfl) b79 rfl r60 jo_ret)) ?_
                by_cases c62 : x61 = 0
                · rw [if_pos c62] at H
                  refine Eq.trans (jb_nx (i := .ifCond .eq 31) (n := 3) (q := (245, [some (.ref p0), some (.int i1), some (.int x7)], [])) (jq qX1_value 45 rfl) (jo_ifT (jz_eqT c62) rfl)) ?_
                  refine Eq.trans (jb_nx (i := .iconst 0) (n := 1) (q := (246, [some (.ref p0), some (.int i1), some (.int x7)], [.int 0])) (jq qX1_value 61 rfl) rfl) ?_
                  exact Eq.trans (jb_rt (i := .ireturn) (n := 1) (jq qX1_value 62 rfl) (jo_iret rfl (by decide))) H
                · rw [if_neg c62] at H
                  refine Eq.trans (jb_nx (i := .ifCond .eq 31) (n := 3) (q := (217, [some (.ref p0), some (.int i1), some (.int x7)], [])) (jq qX1_value 45 rfl) (jo_ifF (jz_eqF c62))) ?_
                  refine Eq.trans (jb_nx (i := .aload_n 0) (n := 1) (q := (218, [some (.ref p0), some (.int i1), some (.int x7)], [.ref p0])) (jq qX1_value 46 rfl) rfl) ?_
                  refine Eq.trans (jb_nx (i := .bipush 35) (n := 2) (q := (220, [some (.ref p0), some (.int i1), some (.int x7)], [.int 35, .ref p0])) (jq qX1_value 47 rfl) rfl) ?_
                  refine Eq.trans (jb_nx (i := .aload_n 0) (n := 1) (q := (221, [some (.ref p0), some (.int i1), some (.int x7)], [.ref p0, .int 35, .ref p0])) (jq qX1_value 48 rfl) rfl) ?_
                  obtain ⟨x63, e64, H⟩ := jbd H
                  refine Eq.trans (jb_nx (i := .getfield 19) (n := 3) (q := (224, [some (.ref p0), some (.int i1), some (.int x7)], [.int x63, .int 35, .ref p0])) (jq qX1_value 49 rfl) (jo_gf rfl (jr_I_inv e64))) ?_
                  refine Eq.trans (jb_nx (i := .iconst 1) (n := 1) (q := (225, [some (.ref p0), some (.int i1), some (.int x7)], [.int 1, .int x63, .int 35, .ref p0])) (jq qX1_value 50 rfl) rfl) ?_
                  refine Eq.trans (jb_nx (i := .isub) (n := 1) (q := (226, [some (.ref p0), some (.int i1), some (.int x7)], [.int (x63 - 1), .int 35, .ref p0])) (jq qX1_value 51 rfl) rfl) ?_
                  obtain ⟨b76, H⟩ := jm_O_inv H
                  rcases jcI H with ⟨x67, h65, r66, H⟩ | ⟨w77, h78, r66, H⟩
                  · refine Eq.trans (jb_nx (i := .invokevirtual 61) (n := 3) (q := (229, [some (.ref p0), some (.int i1), some (.int x7)], [.int x67])) (jq qX1_value 52 rfl) (jo_cv (y := mX1_put) rfl (Nat.le_of_ble_eq_true rfl) rfl (Nat.le_of_ble_eq_true rfl) b76 rfl r66 jo_ret)) ?_
                    by_cases c68 : x67 = 0
                    · rw [if_pos c68] at H
                      refine Eq.trans (jb_nx (i := .ifCond .eq 16) (n := 3) (q := (245, [some (.ref p0), some (.int i1), some (.int x7)], [])) (jq qX1_value 53 rfl) (jo_ifT (jz_eqT c68) rfl)) ?_
                      refine Eq.trans (jb_nx (i := .iconst 0) (n := 1) (q := (246, [some (.ref p0), some (.int i1), some (.int x7)], [.int 0])) (jq qX1_value 61 rfl) rfl) ?_
                      exact Eq.trans (jb_rt (i := .ireturn) (n := 1) (jq qX1_value 62 rfl) (jo_iret rfl (by decide))) H
                    · rw [if_neg c68] at H
                      refine Eq.trans (jb_nx (i := .ifCond .eq 16) (n := 3) (q := (232, [some (.ref p0), some (.int i1), some (.int x7)], [])) (jq qX1_value 53 rfl) (jo_ifF (jz_eqF c68))) ?_
                      refine Eq.trans (jb_nx (i := .aload_n 0) (n := 1) (q := (233, [some (.ref p0), some (.int i1), some (.int x7)], [.ref p0])) (jq qX1_value 54 rfl) rfl) ?_
                      refine Eq.trans (jb_nx (i := .iload_n 2) (n := 1) (q := (234, [some (.ref p0), some (.int i1), some (.int x7)], [.int x7, .ref p0])) (jq qX1_value 55 rfl) rfl) ?_
                      refine Eq.trans (jb_nx (i := .iconst 0) (n := 1) (q := (235, [some (.ref p0), some (.int i1), some (.int x7)], [.int 0, .int x7, .ref p0])) (jq qX1_value 56 rfl) rfl) ?_
                      obtain ⟨b73, H⟩ := jm_O_inv H
                      rcases jcI H with ⟨x71, h69, r70, H⟩ | ⟨w74, h75, r70, H⟩
                      · refine Eq.trans (jb_nx (i := .invokevirtual 61) (n := 3) (q := (238, [some (.ref p0), some (.int i1), some (.int x7)], [.int x71])) (jq qX1_value 57 rfl) (jo_cv (y := mX1_put) rfl (Nat.le_of_ble_eq_true rfl) rfl (Nat.le_of_ble_eq_true rfl) b73 rfl r70 jo_ret)) ?_
                        by_cases c72 : x71 = 0
                        · rw [if_pos c72] at H
                          refine Eq.trans (jb_nx (i := .ifCond .eq 7) (n := 3) (q := (245, [some (.ref p0), some (.int i1), some (.int x7)], [])) (jq qX1_value 58 rfl) (jo_ifT (jz_eqT c72) rfl)) ?_
                          refine Eq.trans (jb_nx (i := .iconst 0) (n := 1) (q := (246, [some (.ref p0), some (.int i1), some (.int x7)], [.int 0])) (jq qX1_value 61 rfl) rfl) ?_
                          exact Eq.trans (jb_rt (i := .ireturn) (n := 1) (jq qX1_value 62 rfl) (jo_iret rfl (by decide))) H
                        · rw [if_neg c72] at H
                          refine Eq.trans (jb_nx (i := .ifCond .eq 7) (n := 3) (q := (241, [some (.ref p0), some (.int i1), some (.int x7)], [])) (jq qX1_value 58 rfl) (jo_ifF (jz_eqF c72))) ?_
                          refine Eq.trans (jb_nx (i := .iconst 1) (n := 1) (q := (242, [some (.ref p0), some (.int i1), some (.int x7)], [.int 1])) (jq qX1_value 59 rfl) rfl) ?_
                          refine Eq.trans (jb_nx (i := .goto 4) (n := 3) (q := (246, [some (.ref p0), some (.int i1), some (.int x7)], [.int 1])) (jq qX1_value 60 rfl) rfl) ?_
                          exact Eq.trans (jb_rt (i := .ireturn) (n := 1) (jq qX1_value 62 rfl) (jo_iret rfl (by decide))) H
                      · exact Eq.trans (jb_rt (i := .invokevirtual 61) (n := 3) (jq qX1_value 57 rfl) (jo_cv (y := mX1_put) rfl (Nat.le_of_ble_eq_true rfl) rfl (Nat.le_of_ble_eq_true rfl) b73 rfl r70 (jo_exn rfl))) H
                  · exact Eq.trans (jb_rt (i := .invokevirtual 61) (n := 3) (jq qX1_value 52 rfl) (jo_cv (y := mX1_put) rfl (Nat.le_of_ble_eq_true rfl) rfl (Nat.le_of_ble_eq_true rfl) b76 rfl r66 (jo_exn rfl))) H
              · exact Eq.trans (jb_rt (i := .invokevirtual 37) (n := 3) (jq qX1_value 44 rfl) (jo_cv (y := mX1_take) rfl (Nat.le_of_ble_eq_true rfl) rfl (Nat.le_of_ble_eq_true rfl) b79 rfl r60 (jo_exn rfl))) H
          · exact Eq.trans (jb_rt (i := .invokevirtual 37) (n := 3) (jq qX1_value 40 rfl) (jo_cv (y := mX1_take) rfl (Nat.le_of_ble_eq_true rfl) rfl (Nat.le_of_ble_eq_true rfl) b82 rfl r56 (jo_exn rfl))) H
        · rw [if_neg c54] at H
          by_cases c85 : x7 = 12
          · rw [if_pos c85] at H
            refine Eq.trans (jb_nx (i := .tableswitch 391 9 36 #[162, 187, 187, 187, 391, 391, 391, 391, 391, 315, 315, 275, 391, 391, 391, 391, 391, 391, 234, 391, 391, 391, 391, 391, 391, 391, 391, 127]) (n := 127) (q := (200, [some (.ref p0), some (.int i1), some (.int x7)], [])) (jq qX1_value 7 rfl) (by rw [c85]; rfl)) ?_
            refine Eq.trans (jb_nx (i := .aload_n 0) (n := 1) (q := (201, [some (.ref p0), some (.int i1), some (.int x7)], [.ref p0])) (jq qX1_value 38 rfl) rfl) ?_
            refine Eq.trans (jb_nx (i := .iload_n 2) (n := 1) (q := (202, [some (.ref p0), some (.int i1), some (.int x7)], [.int x7, .ref p0])) (jq qX1_value 39 rfl) rfl) ?_
            obtain ⟨b113, H⟩ := jm_O_inv H
            rcases jcI H with ⟨x88, h86, r87, H⟩ | ⟨w114, h115, r87, H⟩
            · refine Eq.trans (jb_nx (i := .invokevirtual 37) (n := 3) (q := (205, [some (.ref p0), some (.int i1), some (.int x7)], [.int x88])) (jq qX1_value 40 rfl) (jo_cv (y := mX1_take) rfl (Nat.le_of_ble_eq_true rfl) rfl (Nat.le_of_ble_eq_true rfl) b113 rfl r87 jo_ret)) ?_
              by_cases c89 : x88 = 0
              · rw [if_pos c89] at H
                refine Eq.trans (jb_nx (i := .ifCond .eq 40) (n := 3) (q := (245, [some (.ref p0), some (.int i1), some (.int x7)], [])) (jq qX1_value 41 rfl) (jo_ifT (jz_eqT c89) rfl)) ?_
                refine Eq.trans (jb_nx (i := .iconst 0) (n := 1) (q := (246, [some (.ref p0), some (.int i1), some (.int x7)], [.int 0])) (jq qX1_value 61 rfl) rfl) ?_
                exact Eq.trans (jb_rt (i := .ireturn) (n := 1) (jq qX1_value 62 rfl) (jo_iret rfl (by decide))) H
              · rw [if_neg c89] at H
                refine Eq.trans (jb_nx (i := .ifCond .eq 40) (n := 3) (q := (208, [some (.ref p0), some (.int i1), some (.int x7)], [])) (jq qX1_value 41 rfl) (jo_ifF (jz_eqF c89))) ?_
                refine Eq.trans (jb_nx (i := .aload_n 0) (n := 1) (q := (209, [some (.ref p0), some (.int i1), some (.int x7)], [.ref p0])) (jq qX1_value 42 rfl) rfl) ?_
                refine Eq.trans (jb_nx (i := .bipush 35) (n := 2) (q := (211, [some (.ref p0), some (.int i1), some (.int x7)], [.int 35, .ref p0])) (jq qX1_value 43 rfl) rfl) ?_
                obtain ⟨b110, H⟩ := jm_O_inv H
                rcases jcI H with ⟨x92, h90, r91, H⟩ | ⟨w111, h112, r91, H⟩
                · refine Eq.trans (jb_nx (i := .invokevirtual 37) (n := 3) (q := (214, [some (.ref p0), some (.int i1), some (.int x7)], [.int x92])) (jq qX1_value 44 rfl) (jo_cv (y := mX1_take) rfl (Nat.le_of_ble_eq_true rfl) rfl (Nat.le_of_ble_eq_true rfl) b110 rfl r91 jo_ret)) ?_
                  by_cases c93 : x92 = 0
                  · rw [if_pos c93] at H
                    refine Eq.trans (jb_nx (i := .ifCond .eq 31) (n := 3) (q := (245, [some (.ref p0), some (.int i1), some (.int x7)], [])) (jq qX1_value 45 rfl) (jo_ifT (jz_eqT c93) rfl)) ?_
                    refine Eq.trans (jb_nx (i := .iconst 0) (n := 1) (q := (246, [some (.ref p0), some (.int i1), some (.int x7)], [.int 0])) (jq qX1_value 61 rfl) rfl) ?_
                    exact Eq.trans (jb_rt (i := .ireturn) (n := 1) (jq qX1_value 62 rfl) (jo_iret rfl (by decide))) H
                  · rw [if_neg c93] at H
                    refine Eq.trans (jb_nx (i := .ifCond .eq 31) (n := 3) (q := (217, [some (.ref p0), some (.int i1), some (.int x7)], [])) (jq qX1_value 45 rfl) (jo_ifF (jz_eqF c93))) ?_
                    refine Eq.trans (jb_nx (i := .aload_n 0) (n := 1) (q := (218, [some (.ref p0), some (.int i1), some (.int x7)], [.ref p0])) (jq qX1_value 46 rfl) rfl) ?_
                    refine Eq.trans (jb_nx (i := .bipush 35) (n := 2) (q := (220, [some (.ref p0), some (.int i1), some (.int x7)], [.int 35, .ref p0])) (jq qX1_value 47 rfl) rfl) ?_
                    refine Eq.trans (jb_nx (i := .aload_n 0) (n := 1) (q := (221, [some (.ref p0), some (.int i1), some (.int x7)], [.ref p0, .int 35, .ref p0])) (jq qX1_value 48 rfl) rfl) ?_
                    obtain ⟨x94, e95, H⟩ := jbd H
                    refine Eq.trans (jb_nx (i := .getfield 19) (n := 3) (q := (224, [some (.ref p0), some (.int i1), some (.int x7)], [.int x94, .int 35, .ref p0])) (jq qX1_value 49 rfl) (jo_gf rfl (jr_I_inv e95))) ?_
                    refine Eq.trans (jb_nx (i := .iconst 1) (n := 1) (q := (225, [some (.ref p0), some (.int i1), some (.int x7)], [.int 1, .int x94, .int 35, .ref p0])) (jq qX1_value 50 rfl) rfl) ?_
                    refine Eq.trans (jb_nx (i := .isub) (n := 1) (q := (226, [some (.ref p0), some (.int i1), some (.int x7)], [.int (x94 - 1), .int 35, .ref p0])) (jq qX1_value 51 rfl) rfl) ?_
                    obtain ⟨b107, H⟩ := jm_O_inv H
                    rcases jcI H with ⟨x98, h96, r97, H⟩ | ⟨w108, h109, r97, H⟩
                    · refine Eq.trans (jb_nx (i := .invokevirtual 61) (n := 3) (q := (229, [some (.ref p0), some (.int i1), some (.int x7)], [.int x98])) (jq qX1_value 52 rfl) (jo_cv (y := mX1_put) rfl (Nat.le_of_ble_eq_true rfl) rfl (Nat.le_of_ble_eq_true rfl) b107 rfl r97 jo_ret)) ?_
                      by_cases c99 : x98 = 0
                      · rw [if_pos c99] at H
                        refine Eq.trans (jb_nx (i := .ifCond .eq 16) (n := 3) (q := (245, [some (.ref p0), some (.int i1), some (.int x7)], [])) (jq qX1_value 53 rfl) (jo_ifT (jz_eqT c99) rfl)) ?_
                        refine Eq.trans (jb_nx (i := .iconst 0) (n := 1) (q := (246, [some (.ref p0), some (.int i1), some (.int x7)], [.int 0])) (jq qX1_value 61 rfl) rfl) ?_
                        exact Eq.trans (jb_rt (i := .ireturn) (n := 1) (jq qX1_value 62 rfl) (jo_iret rfl (by decide))) H
                      · rw [if_neg c99] at H
                        refine Eq.trans (jb_nx (i := .ifCond .eq 16) (n := 3) (q := (232, [some (.ref p0), some (.int i1), some (.int x7)], [])) (jq qX1_value 53 rfl) (jo_ifF (jz_eqF c99))) ?_
                        refine Eq.trans (jb_nx (i := .aload_n 0) (n := 1) (q := (233, [some (.ref p0), some (.int i1), some (.int x7)], [.ref p0])) (jq qX1_value 54 rfl) rfl) ?_
                        refine Eq.trans (jb_nx (i := .iload_n 2) (n := 1) (q := (234, [some (.ref p0), some (.int i1), some (.int x7)], [.int x7, .ref p0])) (jq qX1_value 55 rfl) rfl) ?_
                        refine Eq.trans (jb_nx (i := .iconst 0) (n := 1) (q := (235, [some (.ref p0), some (.int i1), some (.int x7)], [.int 0, .int x7, .ref p0])) (jq qX1_value 56 rfl) rfl) ?_
                        obtain ⟨b104, H⟩ := jm_O_inv H
                        rcases jcI H with ⟨x102, h100, r101, H⟩ | ⟨w105, h106, r101, H⟩
                        · refine Eq.trans (jb_nx (i := .invokevirtual 61) (n := 3) (q := (238, [some (.ref p0), some (.int i1), some (.int x7)], [.int x102])) (jq qX1_value 57 rfl) (jo_cv (y := mX1_put) rfl (Nat.le_of_ble_eq_true rfl) rfl (Nat.le_of_ble_eq_true rfl) b104 rfl r101 jo_ret)) ?_
                          by_cases c103 : x102 = 0
                          · rw [if_pos c103] at H
                            refine Eq.trans (jb_nx (i := .ifCond .eq 7) (n := 3) (q := (245, [some (.ref p0), some (.int i1), some (.int x7)], [])) (jq qX1_value 58 rfl) (jo_ifT (jz_eqT c103) rfl)) ?_
                            refine Eq.trans (jb_nx (i := .iconst 0) (n := 1) (q := (246, [some (.ref p0), some (.int i1), some (.int x7)], [.int 0])) (jq qX1_value 61 rfl) rfl) ?_
                            exact Eq.trans (jb_rt (i := .ireturn) (n := 1) (jq qX1_value 62 rfl) (jo_iret rfl (by decide))) H
                          · rw [if_neg c103] at H
                            refine Eq.trans (jb_nx (i := .ifCond .eq 7) (n := 3) (q := (241, [some (.ref p0), some (.int i1), some (.int x7)], [])) (jq qX1_value 58 rfl) (jo_ifF (jz_eqF c103))) ?_
                            refine Eq.trans (jb_nx (i := .iconst 1) (n := 1) (q := (242, [some (.ref p0), some (.int i1), some (.int x7)], [.int 1])) (jq qX1_value 59 rfl) rfl) ?_
                            refine Eq.trans (jb_nx (i := .goto 4) (n := 3) (q := (246, [some (.ref p0), some (.int i1), some (.int x7)], [.int 1])) (jq qX1_value 60 rfl) rfl) ?_
                            exact Eq.trans (jb_rt (i := .ireturn) (n := 1) (jq qX1_value 62 rfl) (jo_iret rfl (by decide))) H
                        · exact Eq.trans (jb_rt (i := .invokevirtual 61) (n := 3) (jq qX1_value 57 rfl) (jo_cv (y := mX1_put) rfl (Nat.le_of_ble_eq_true rfl) rfl (Nat.le_of_ble_eq_true rfl) b104 rfl r101 (jo_exn rfl))) H
                    · exact Eq.trans (jb_rt (i := .invokevirtual 61) (n := 3) (jq qX1_value 52 rfl) (jo_cv (y := mX1_put) rfl (Nat.le_of_ble_eq_true rfl) rfl (Nat.le_of_ble_eq_true rfl) b107 rfl r97 (jo_exn rfl))) H
                · exact Eq.trans (jb_rt (i := .invokevirtual 37) (n := 3) (jq qX1_value 44 rfl) (jo_cv (y := mX1_take) rfl (Nat.le_of_ble_eq_true rfl) rfl (Nat.le_of_ble_eq_true rfl) b110 rfl r91 (jo_exn rfl))) H
            · exact Eq.trans (jb_rt (i := .invokevirtual 37) (n := 3) (jq qX1_value 40 rfl) (jo_cv (y := mX1_take) rfl (Nat.le_of_ble_eq_true rfl) rfl (Nat.le_of_ble_eq_true rfl) b113 rfl r87 (jo_exn rfl))) H
          · rw [if_neg c85] at H
            by_cases c116 : x7 = 18
            · rw [if_pos c116] at H
              refine Eq.trans (jb_nx (i := .tableswitch 391 9 36 #[162, 187, 187, 187, 391, 391, 391, 391, 391, 315, 315, 275, 391, 391, 391, 391, 391, 391, 234, 391, 391, 391, 391, 391, 391, 391, 391, 127]) (n := 127) (q := (328, [some (.ref p0), some (.int i1), some (.int x7)], [])) (jq qX1_value 7 rfl) (by rw [c116]; rfl)) ?_
              refine Eq.trans (jb_nx (i := .aload_n 0) (n := 1) (q := (329, [some (.ref p0), some (.int i1), some (.int x7)], [.ref p0])) (jq qX1_value 106 rfl) rfl) ?_
              refine Eq.trans (jb_nx (i := .iload_n 2) (n := 1) (q := (330, [some (.ref p0), some (.int i1), some (.int x7)], [.int x7, .ref p0])) (jq qX1_value 107 rfl) rfl) ?_
              obtain ⟨b164, H⟩ := jm_O_inv H
              rcases jcI H with ⟨x119, h117, r118, H⟩ | ⟨w165, h166, r118, H⟩
              · refine Eq.trans (jb_nx (i := .invokevirtual 37) (n := 3) (q := (333, [some (.ref p0), some (.int i1), some (.int x7)], [.int x119])) (jq qX1_value 108 rfl) (jo_cv (y := mX1_take) rfl (Nat.le_of_ble_eq_true rfl) rfl (Nat.le_of_ble_eq_true rfl) b164 rfl r118 jo_ret)) ?_
                by_cases c120 : x119 = 0
                · rw [if_pos c120] at H
                  refine Eq.trans (jb_nx (i := .ifCond .eq 69) (n := 3) (q := (402, [some (.ref p0), some (.int i1), some (.int x7)], [])) (jq qX1_value 109 rfl) (jo_ifT (jz_eqT c120) rfl)) ?_
                  refine Eq.trans (jb_nx (i := .iconst 0) (n := 1) (q := (403, [some (.ref p0), some (.int i1), some (.int x7)], [.int 0])) (jq qX1_value 144 rfl) rfl) ?_
                  exact Eq.trans (jb_rt (i := .ireturn) (n := 1) (jq qX1_value 145 rfl) (jo_iret rfl (by decide))) H
                · rw [if_neg c120] at H
                  refine Eq.trans (jb_nx (i := .ifCond .eq 69) (n := 3) (q := (336, [some (.ref p0), some (.int i1), some (.int x7)], [])) (jq qX1_value 109 rfl) (jo_ifF (jz_eqF c120))) ?_
                  refine Eq.trans (jb_nx (i := .iload_n 1) (n := 1) (q := (337, [some (.ref p0), some (.int i1), some (.int x7)], [.int i1])) (jq qX1_value 110 rfl) rfl) ?_
                  refine Eq.trans (jb_nx (i := .bipush 8) (n := 2) (q := (339, [some (.ref p0), some (.int i1), some (.int x7)], [.int 8, .int i1])) (jq qX1_value 111 rfl) rfl) ?_
                  by_cases c121 : i1 < 8
                  · rw [if_pos c121] at H
                    refine Eq.trans (jb_nx (i := .if_icmp .ge 63) (n := 3) (q := (342, [some (.ref p0), some (.int i1), some (.int x7)], [])) (jq qX1_value 112 rfl) (jo_icF (jz_geF c121))) ?_
                    refine Eq.trans (jb_nx (i := .aload_n 0) (n := 1) (q := (343, [some (.ref p0), some (.int i1), some (.int x7)], [.ref p0])) (jq qX1_value 113 rfl) rfl) ?_
                    refine Eq.trans (jb_nx (i := .bipush 20) (n := 2) (q := (345, [some (.ref p0), some (.int i1), some (.int x7)], [.int 20, .ref p0])) (jq qX1_value 114 rfl) rfl) ?_
                    obtain ⟨b161, H⟩ := jm_O_inv H
                    rcases jcI H with ⟨x124, h122, r123, H⟩ | ⟨w162, h163, r123, H⟩
                    · refine Eq.trans (jb_nx (i := .invokevirtual 37) (n := 3) (q := (348, [some (.ref p0), some (.int i1), some (.int x7)], [.int x124])) (jq qX1_value 115 rfl) (jo_cv (y := mX1_take) rfl (Nat.le_of_ble_eq_true rfl) rfl (Nat.le_of_ble_eq_true rfl) b161 rfl r123 jo_ret)) ?_
                      by_cases c125 : x124 = 0
                      · rw [if_pos c125] at H
                        refine Eq.trans (jb_nx (i := .ifCond .eq 54) (n := 3) (q := (402, [some (.ref p0), some (.int i1), some (.int x7)], [])) (jq qX1_value 116 rfl) (jo_ifT (jz_eqT c125) rfl)) ?_
                        refine Eq.trans (jb_nx (i := .iconst 0) (n := 1) (q := (403, [some (.ref p0), some (.int i1), some (.int x7)], [.int 0])) (jq qX1_value 144 rfl) rfl) ?_
                        exact Eq.trans (jb_rt (i := .ireturn) (n := 1) (jq qX1_value 145 rfl) (jo_iret rfl (by decide))) H
                      · rw [if_neg c125] at H
                        refine Eq.trans (jb_nx (i := .ifCond .eq 54) (n := 3) (q := (351, [some (.ref p0), some (.int i1), some (.int x7)], [])) (jq qX1_value 116 rfl) (jo_ifF (jz_eqF c125))) ?_
                        refine Eq.trans (jb_nx (i := .aload_n 0) (n := 1) (q := (352, [some (.ref p0), some (.int i1), some (.int x7)], [.ref p0])) (jq qX1_value 117 rfl) rfl) ?_
                        refine Eq.trans (jb_nx (i := .iload_n 1) (n := 1) (q := (353, [some (.ref p0), some (.int i1), some (.int x7)], [.int i1, .ref p0])) (jq qX1_value 118 rfl) rfl) ?_
                        refine Eq.trans (jb_nx (i := .iconst 1) (n := 1) (q := (354, [some (.ref p0), some (.int i1), some (.int x7)], [.int 1, .int i1, .ref p0])) (jq qX1_value 119 rfl) rfl) ?_
                        refine Eq.trans (jb_nx (i := .iadd) (n := 1) (q := (355, [some (.ref p0), some (.int i1), some (.int x7)], [.int (i1 + 1), .ref p0])) (jq qX1_value 120 rfl) rfl) ?_
                        obtain ⟨b158, H⟩ := jm_O_inv H
                        rcases jcI H with ⟨x128, h126, r127, H⟩ | ⟨w159, h160, r127, H⟩
                        · refine Eq.trans (jb_nx (i := .invokevirtual 74) (n := 3) (q := (358, [some (.ref p0), some (.int i1), some (.int x7)], [.int x128])) (jq qX1_value 121 rfl) (jo_cv (y := mX1_sum) rfl (Nat.le_of_ble_eq_true rfl) rfl (Nat.le_of_ble_eq_true rfl) b158 rfl r127 jo_ret)) ?_
                          by_cases c129 : x128 = 0
                          · rw [if_pos c129] at H
                            refine Eq.trans (jb_nx (i := .ifCond .eq 44) (n := 3) (q := (402, [some (.ref p0), some (.int i1), some (.int x7)], [])) (jq qX1_value 122 rfl) (jo_ifT (jz_eqT c129) rfl)) ?_
                            refine Eq.trans (jb_nx (i := .iconst 0) (n := 1) (q := (403, [some (.ref p0), some (.int i1), some (.int x7)], [.int 0])) (jq qX1_value 144 rfl) rfl) ?_
                            exact Eq.trans (jb_rt (i := .ireturn) (n := 1) (jq qX1_value 145 rfl) (jo_iret rfl (by decide))) H
                          · rw [if_neg c129] at H
                            refine Eq.trans (jb_nx (i := .ifCond .eq 44) (n := 3) (q := (361, [some (.ref p0), some (.int i1), some (.int x7)], [])) (jq qX1_value 122 rfl) (jo_ifF (jz_eqF c129))) ?_
                            refine Eq.trans (jb_nx (i := .aload_n 0) (n := 1) (q := (362, [some (.ref p0), some (.int i1), some (.int x7)], [.ref p0])) (jq qX1_value 123 rfl) rfl) ?_
                            refine Eq.trans (jb_nx (i := .bipush 25) (n := 2) (q := (364, [some (.ref p0), some (.int i1), some (.int x7)], [.int 25, .ref p0])) (jq qX1_value 124 rfl) rfl) ?_
                            obtain ⟨b155, H⟩ := jm_O_inv H
                            rcases jcI H with ⟨x132, h130, r131, H⟩ | ⟨w156, h157, r131, H⟩
                            · refine Eq.trans (jb_nx (i := .invokevirtual 37) (n := 3) (q := (367, [some (.ref p0), some (.int i1), some (.int x7)], [.int x132])) (jq qX1_value 125 rfl) (jo_cv (y := mX1_take) rfl (Nat.le_of_ble_eq_true rfl) rfl (Nat.le_of_ble_eq_true rfl) b155 rfl r131 jo_ret)) ?_
                              by_cases c133 : x132 = 0
                              · rw [if_pos c133] at H
                                refine Eq.trans (jb_nx (i := .ifCond .eq 35) (n := 3) (q := (402, [some (.ref p0), some (.int i1), some (.int x7)], [])) (jq qX1_value 126 rfl) (jo_ifT (jz_eqT c133) rfl)) ?_
                                refine Eq.trans (jb_nx (i := .iconst 0) (n := 1) (q := (403, [some (.ref p0), some (.int i1), some (.int x7)], [.int 0])) (jq qX1_value 144 rfl) rfl) ?_
                                exact Eq.trans (jb_rt (i := .ireturn) (n := 1) (jq qX1_value 145 rfl) (jo_iret rfl (by decide))) H
                              · rw [if_neg c133] at H
                                refine Eq.trans (jb_nx (i := .ifCond .eq 35) (n := 3) (q := (370, [some (.ref p0), some (.int i1), some (.int x7)], [])) (jq qX1_value 126 rfl) (jo_ifF (jz_eqF c133))) ?_
                                refine Eq.trans (jb_nx (i := .aload_n 0) (n := 1) (q := (371, [some (.ref p0), some (.int i1), some (.int x7)], [.ref p0])) (jq qX1_value 127 rfl) rfl) ?_
                                refine Eq.trans (jb_nx (i := .iload_n 1) (n := 1) (q := (372, [some (.ref p0), some (.int i1), some (.int x7)], [.int i1, .ref p0])) (jq qX1_value 128 rfl) rfl) ?_
                                refine Eq.trans (jb_nx (i := .iconst 1) (n := 1) (q := (373, [some (.ref p0), some (.int i1), some (.int x7)], [.int 1, .int i1, .ref p0])) (jq qX1_value 129 rfl) rfl) ?_
                                refine Eq.trans (jb_nx (i := .iadd) (n := 1) (q := (374, [some (.ref p0), some (.int i1), some (.int x7)], [.int (i1 + 1), .ref p0])) (jq qX1_value 130 rfl) rfl) ?_
                                obtain ⟨b152, H⟩ := jm_O_inv H
                                rcases jcI H with ⟨x136, h134, r135, H⟩ | ⟨w153, h154, r135, H⟩
                                · refine Eq.trans (jb_nx (i := .invokevirtual 74) (n := 3) (q := (377, [some (.ref p0), some (.int i1), some (.int x7)], [.int x136])) (jq qX1_value 131 rfl) (jo_cv (y := mX1_sum) rfl (Nat.le_of_ble_eq_true rfl) rfl (Nat.le_of_ble_eq_true rfl) b152 rfl r135 jo_ret)) ?_
                                  by_cases c137 : x136 = 0
                                  · rw [if_pos c137] at H
                                    refine Eq.trans (jb_nx (i := .ifCond .eq 25) (n := 3) (q := (402, [some (.ref p0), some (.int i1), some (.int x7)], [])) (jq qX1_value 132 rfl) (jo_ifT (jz_eqT c137) rfl)) ?_
                                    refine Eq.trans (jb_nx (i := .iconst 0) (n := 1) (q := (403, [some (.ref p0), some (.int i1), some (.int x7)], [.int 0])) (jq qX1_value 144 rfl) rfl) ?_
                                    exact Eq.trans (jb_rt (i := .ireturn) (n := 1) (jq qX1_value 145 rfl) (jo_iret rfl (by decide))) H
                                  · rw [if_neg c137] at H
                                    refine Eq.trans (jb_nx (i := .ifCond .eq 25) (n := 3) (q := (380, [some (.ref p0), some (.int i1), some (.int x7)], [])) (jq qX1_value 132 rfl) (jo_ifF (jz_eqF c137))) ?_
                                    refine Eq.trans (jb_nx (i := .aload_n 0) (n := 1) (q := (381, [some (.ref p0), some (.int i1), some (.int x7)], [.ref p0])) (jq qX1_value 133 rfl) rfl) ?_
                                    refine Eq.trans (jb_nx (i := .bipush 21) (n := 2) (q := (383, [some (.ref p0), some (.int i1), some (.int x7)], [.int 21, .ref p0])) (jq qX1_value 134 rfl) rfl) ?_
                                    obtain ⟨b149, H⟩ := jm_O_inv H
                                    rcases jcI H with ⟨x140, h138, r139, H⟩ | ⟨w150, h151, r139, H⟩
                                    · refine Eq.trans (jb_nx (i := .invokevirtual 37) (n := 3) (q := (386, [some (.ref p0), some (.int i1), some (.int x7)], [.int x140])) (jq qX1_value 135 rfl) (jo_cv (y := mX1_take) rfl (Nat.le_of_ble_eq_true rfl) rfl (Nat.le_of_ble_eq_true rfl) b149 rfl r139 jo_ret)) ?_
                                      by_cases c141 : x140 = 0
                                      · rw [if_pos c141] at H
                                        refine Eq.trans (jb_nx (i := .ifCond .eq 16) (n := 3) (q := (402, [some (.ref p0), some (.int i1), some (.int x7)], [])) (jq qX1_value 136 rfl) (jo_ifT (jz_eqT c141) rfl)) ?_
                                        refine Eq.trans (jb_nx (i := .iconst 0) (n := 1) (q := (403, [some (.ref p0), some (.int i1), some (.int x7)], [.int 0])) (jq qX1_value 144 rfl) rfl) ?_
                                        exact Eq.trans (jb_rt (i := .ireturn) (n := 1) (jq qX1_value 145 rfl) (jo_iret rfl (by decide))) H
                                      · rw [if_neg c141] at H
                                        refine Eq.trans (jb_nx (i := .ifCond .eq 16) (n := 3) (q := (389, [some (.ref p0), some (.int i1), some (.int x7)], [])) (jq qX1_value 136 rfl) (jo_ifF (jz_eqF c141))) ?_
                                        refine Eq.trans (jb_nx (i := .aload_n 0) (n := 1) (q := (390, [some (.ref p0), some (.int i1), some (.int x7)], [.ref p0])) (jq qX1_value 137 rfl) rfl) ?_
                                        refine Eq.trans (jb_nx (i := .iload_n 2) (n := 1) (q := (391, [some (.ref p0), some (.int i1), some (.int x7)], [.int x7, .ref p0])) (jq qX1_value 138 rfl) rfl) ?_
                                        refine Eq.trans (jb_nx (i := .iconst 0) (n := 1) (q := (392, [some (.ref p0), some (.int i1), some (.int x7)], [.int 0, .int x7, .ref p0])) (jq qX1_value 139 rfl) rfl) ?_
                                        obtain ⟨b146, H⟩ := jm_O_inv H
                                        rcases jcI H with ⟨x144, h142, r143, H⟩ | ⟨w147, h148, r143, H⟩
                                        · refine Eq.trans (jb_nx (i := .invokevirtual 61) (n := 3) (q := (395, [some (.ref p0), some (.int i1), some (.int x7)], [.int x144])) (jq qX1_value 140 rfl) (jo_cv (y := mX1_put) rfl (Nat.le_of_ble_eq_true rfl) rfl (Nat.le_of_ble_eq_true rfl) b146 rfl r143 jo_ret)) ?_
                                          by_cases c145 : x144 = 0
                                          · rw [if_pos c145] at H
                                            refine Eq.trans (jb_nx (i := .ifCond .eq 7) (n := 3) (q := (402, [some (.ref p0), some (.int i1), some (.int x7)], [])) (jq qX1_value 141 rfl) (jo_ifT (jz_eqT c145) rfl)) ?_
                                            refine Eq.trans (jb_nx (i := .iconst 0) (n := 1) (q := (403, [some (.ref p0), some (.int i1), some (.int x7)], [.int 0])) (jq qX1_value 144 rfl) rfl) ?_
                                            exact Eq.trans (jb_rt (i := .ireturn) (n := 1) (jq qX1_value 145 rfl) (jo_iret rfl (by decide))) H
                                          · rw [if_neg c145] at H
                                            refine Eq.trans (jb_nx (i := .ifCond .eq 7) (n := 3) (q := (398, [some (.ref p0), some (.int i1), some (.int x7)], [])) (jq qX1_value 141 rfl) (jo_ifF (jz_eqF c145))) ?_
                                            refine Eq.trans (jb_nx (i := .iconst 1) (n := 1) (q := (399, [some (.ref p0), some (.int i1), some (.int x7)], [.int 1])) (jq qX1_value 142 rfl) rfl) ?_
                                            refine Eq.trans (jb_nx (i := .goto 4) (n := 3) (q := (403, [some (.ref p0), some (.int i1), some (.int x7)], [.int 1])) (jq qX1_value 143 rfl) rfl) ?_
                                            exact Eq.trans (jb_rt (i := .ireturn) (n := 1) (jq qX1_value 145 rfl) (jo_iret rfl (by decide))) H
                                        · exact Eq.trans (jb_rt (i := .invokevirtual 61) (n := 3) (jq qX1_value 140 rfl) (jo_cv (y := mX1_put) rfl (Nat.le_of_ble_eq_true rfl) rfl (Nat.le_of_ble_eq_true rfl) b146 rfl r143 (jo_exn rfl))) H
                                    · exact Eq.trans (jb_rt (i := .invokevirtual 37) (n := 3) (jq qX1_value 135 rfl) (jo_cv (y := mX1_take) rfl (Nat.le_of_ble_eq_true rfl) rfl (Nat.le_of_ble_eq_true rfl) b149 rfl r139 (jo_exn rfl))) H
                                · exact Eq.trans (jb_rt (i := .invokevirtual 74) (n := 3) (jq qX1_value 131 rfl) (jo_cv (y := mX1_sum) rfl (Nat.le_of_ble_eq_true rfl) rfl (Nat.le_of_ble_eq_true rfl) b152 rfl r135 (jo_exn rfl))) H
                            · exact Eq.trans (jb_rt (i := .invokevirtual 37) (n := 3) (jq qX1_value 125 rfl) (jo_cv (y := mX1_take) rfl (Nat.le_of_ble_eq_true rfl) rfl (Nat.le_of_ble_eq_true rfl) b155 rfl r131 (jo_exn rfl))) H
                        · exact Eq.trans (jb_rt (i := .invokevirtual 74) (n := 3) (jq qX1_value 121 rfl) (jo_cv (y := mX1_sum) rfl (Nat.le_of_ble_eq_true rfl) rfl (Nat.le_of_ble_eq_true rfl) b158 rfl r127 (jo_exn rfl))) H
                    · exact Eq.trans (jb_rt (i := .invokevirtual 37) (n := 3) (jq qX1_value 115 rfl) (jo_cv (y := mX1_take) rfl (Nat.le_of_ble_eq_true rfl) rfl (Nat.le_of_ble_eq_true rfl) b161 rfl r123 (jo_exn rfl))) H
                  · rw [if_neg c121] at H
                    refine Eq.trans (jb_nx (i := .if_icmp .ge 63) (n := 3) (q := (402, [some (.ref p0), some (.int i1), some (.int x7)], [])) (jq qX1_value 112 rfl) (jo_icT (jz_geT c121) rfl)) ?_
                    refine Eq.trans (jb_nx (i := .iconst 0) (n := 1) (q := (403, [some (.ref p0), some (.int i1), some (.int x7)], [.int 0])) (jq qX1_value 144 rfl) rfl) ?_
                    exact Eq.trans (jb_rt (i := .ireturn) (n := 1) (jq qX1_value 145 rfl) (jo_iret rfl (by decide))) H
              · exact Eq.trans (jb_rt (i := .invokevirtual 37) (n := 3) (jq qX1_value 108 rfl) (jo_cv (y := mX1_take) rfl (Nat.le_of_ble_eq_true rfl) rfl (Nat.le_of_ble_eq_true rfl) b164 rfl r118 (jo_exn rfl))) H
            · rw [if_neg c116] at H
              by_cases c167 : x7 = 19
              · rw [if_pos c167] at H
                refine Eq.trans (jb_nx (i := .tableswitch 391 9 36 #[162, 187, 187, 187, 391, 391, 391, 391, 391, 315, 315, 275, 391, 391, 391, 391, 391, 391, 234, 391, 391, 391, 391, 391, 391, 391, 391, 127]) (n := 127) (q := (328, [some (.ref p0), some (.int i1), some (.int x7)], [])) (jq qX1_value 7 rfl) (by rw [c167]; rfl)) ?_
                refine Eq.trans (jb_nx (i := .aload_n 0) (n := 1) (q := (329, [some (.ref p0), some (.int i1), some (.int x7)], [.ref p0])) (jq qX1_value 106 rfl) rfl) ?_
                refine Eq.trans (jb_nx (i := .iload_n 2) (n := 1) (q := (330, [some (.ref p0), some (.int i1), some (.int x7)], [.int x7, .ref p0])) (jq qX1_value 107 rfl) rfl) ?_
                obtain ⟨b215, H⟩ := jm_O_inv H
                rcases jcI H with ⟨x170, h168, r169, H⟩ | ⟨w216, h217, r169, H⟩
                · refine Eq.trans (jb_nx (i := .invokevirtual 37) (n := 3) (q := (333, [some (.ref p0), some (.int i1), some (.int x7)], [.int x170])) (jq qX1_value 108 rfl) (jo_cv (y := mX1_take) rfl (Nat.le_of_ble_eq_true rfl) rfl (Nat.le_of_ble_eq_true rfl) b215 rfl r169 jo_ret)) ?_
                  by_cases c171 : x170 = 0
                  · rw [if_pos c171] at H
                    refine Eq.trans (jb_nx (i := .ifCond .eq 69) (n := 3) (q := (402, [some (.ref p0), some (.int i1), some (.int x7)], [])) (jq qX1_value 109 rfl) (jo_ifT (jz_eqT c171) rfl)) ?_
                    refine Eq.trans (jb_nx (i := .iconst 0) (n := 1) (q := (403, [some (.ref p0), some (.int i1), some (.int x7)], [.int 0])) (jq qX1_value 144 rfl) rfl) ?_
                    exact Eq.trans (jb_rt (i := .ireturn) (n := 1) (jq qX1_value 145 rfl) (jo_iret rfl (by decide))) H
                  · rw [if_neg c171] at H
                    refine Eq.trans (jb_nx (i := .ifCond .eq 69) (n := 3) (q := (336, [some (.ref p0), some (.int i1), some (.int x7)], [])) (jq qX1_value 109 rfl) (jo_ifF (jz_eqF c171))) ?_
                    refine Eq.trans (jb_nx (i := .iload_n 1) (n := 1) (q := (337, [some (.ref p0), some (.int i1), some (.int x7)], [.int i1])) (jq qX1_value 110 rfl) rfl) ?_
                    refine Eq.trans (jb_nx (i := .bipush 8) (n := 2) (q := (339, [some (.ref p0), some (.int i1), some (.int x7)], [.int 8, .int i1])) (jq qX1_value 111 rfl) rfl) ?_
                    by_cases c172 : i1 < 8
                    · rw [if_pos c172] at H
                      refine Eq.trans (jb_nx (i := .if_icmp .ge 63) (n := 3) (q := (342, [some (.ref p0), some (.int i1), some (.int x7)], [])) (jq qX1_value 112 rfl) (jo_icF (jz_geF c172))) ?_
                      refine Eq.trans (jb_nx (i := .aload_n 0) (n := 1) (q := (343, [some (.ref p0), some (.int i1), some (.int x7)], [.ref p0])) (jq qX1_value 113 rfl) rfl) ?_
                      refine Eq.trans (jb_nx (i := .bipush 20) (n := 2) (q := (345, [some (.ref p0), some (.int i1), some (.int x7)], [.int 20, .ref p0])) (jq qX1_value 114 rfl) rfl) ?_
                      obtain ⟨b212, H⟩ := jm_O_inv H
                      rcases jcI H with ⟨x175, h173, r174, H⟩ | ⟨w213, h214, r174, H⟩
                      · refine Eq.trans (jb_nx (i := .invokevirtual 37) (n := 3) (q := (348, [some (.ref p0), some (.int i1), some (.int x7)], [.int x175])) (jq qX1_value 115 rfl) (jo_cv (y := mX1_take) rfl (Nat.le_of_ble_eq_true rfl) rfl (Nat.le_of_ble_eq_true rfl) b212 rfl r174 jo_ret)) ?_
                        by_cases c176 : x175 = 0
                        · rw [if_pos c176] at H
                          refine Eq.trans (jb_nx (i := .ifCond .eq 54) (n := 3) (q := (402, [some (.ref p0), some (.int i1), some (.int x7)], [])) (jq qX1_value 116 rfl) (jo_ifT (jz_eqT c176) rfl)) ?_
                          refine Eq.trans (jb_nx (i := .iconst 0) (n := 1) (q := (403, [some (.ref p0), some (.int i1), some (.int x7)], [.int 0])) (jq qX1_value 144 rfl) rfl) ?_
                          exact Eq.trans (jb_rt (i := .ireturn) (n := 1) (jq qX1_value 145 rfl) (jo_iret rfl (by decide))) H
                        · rw [if_neg c176] at H
                          refine Eq.trans (jb_nx (i := .ifCond .eq 54) (n := 3) (q := (351, [some (.ref p0), some (.int i1), some (.int x7)], [])) (jq qX1_value 116 rfl) (jo_ifF (jz_eqF c176))) ?_
                          refine Eq.trans (jb_nx (i := .aload_n 0) (n := 1) (q := (352, [some (.ref p0), some (.int i1), some (.int x7)], [.ref p0])) (jq qX1_value 117 rfl) rfl) ?_
                          refine Eq.trans (jb_nx (i := .iload_n 1) (n := 1) (q := (353, [some (.ref p0), some (.int i1), some (.int x7)], [.int i1, .ref p0])) (jq qX1_value 118 rfl) rfl) ?_
                          refine Eq.trans (jb_nx (i := .iconst 1) (n := 1) (q := (354, [some (.ref p0), some (.int i1), some (.int x7)], [.int 1, .int i1, .ref p0])) (jq qX1_value 119 rfl) rfl) ?_
                          refine Eq.trans (jb_nx (i := .iadd) (n := 1) (q := (355, [some (.ref p0), some (.int i1), some (.int x7)], [.int (i1 + 1), .ref p0])) (jq qX1_value 120 rfl) rfl) ?_
                          obtain ⟨b209, H⟩ := jm_O_inv H
                          rcases jcI H with ⟨x179, h177, r178, H⟩ | ⟨w210, h211, r178, H⟩
                          · refine Eq.trans (jb_nx (i := .invokevirtual 74) (n := 3) (q := (358, [some (.ref p0), some (.int i1), some (.int x7)], [.int x179])) (jq qX1_value 121 rfl) (jo_cv (y := mX1_sum) rfl (Nat.le_of_ble_eq_true rfl) rfl (Nat.le_of_ble_eq_true rfl) b209 rfl r178 jo_ret)) ?_
                            by_cases c180 : x179 = 0
                            · rw [if_pos c180] at H
                              refine Eq.trans (jb_nx (i := .ifCond .eq 44) (n := 3) (q := (402, [some (.ref p0), some (.int i1), some (.int x7)], [])) (jq qX1_value 122 rfl) (jo_ifT (jz_eqT c180) rfl)) ?_
                              refine Eq.trans (jb_nx (i := .iconst 0) (n := 1) (q := (403, [some (.ref p0), some (.int i1), some (.int x7)], [.int 0])) (jq qX1_value 144 rfl) rfl) ?_
                              exact Eq.trans (jb_rt (i := .ireturn) (n := 1) (jq qX1_value 145 rfl) (jo_iret rfl (by decide))) H
                            · rw [if_neg c180] at H
                              refine Eq.trans (jb_nx (i := .ifCond .eq 44) (n := 3) (q := (361, [some (.ref p0), some (.int i1), some (.int x7)], [])) (jq qX1_value 122 rfl) (jo_ifF (jz_eqF c180))) ?_
                              refine Eq.trans (jb_nx (i := .aload_n 0) (n := 1) (q := (362, [some (.ref p0), some (.int i1), some (.int x7)], [.ref p0])) (jq qX1_value 123 rfl) rfl) ?_
                              refine Eq.trans (jb_nx (i := .bipush 25) (n := 2) (q := (364, [some (.ref p0), some (.int i1), some (.int x7)], [.int 25, .ref p0])) (jq qX1_value 124 rfl) rfl) ?_
                              obtain ⟨b206, H⟩ := jm_O_inv H
                              rcases jcI H with ⟨x183, h181, r182, H⟩ | ⟨w207, h208, r182, H⟩
                              · refine Eq.trans (jb_nx (i := .invokevirtual 37) (n := 3) (q := (367, [some (.ref p0), some (.int i1), some (.int x7)], [.int x183])) (jq qX1_value 125 rfl) (jo_cv (y := mX1_take) rfl (Nat.le_of_ble_eq_true rfl) rfl (Nat.le_of_ble_eq_true rfl) b206 rfl r182 jo_ret)) ?_
                                by_cases c184 : x183 = 0
                                · rw [if_pos c184] at H
                                  refine Eq.trans (jb_nx (i := .ifCond .eq 35) (n := 3) (q := (402, [some (.ref p0), some (.int i1), some (.int x7)], [])) (jq qX1_value 126 rfl) (jo_ifT (jz_eqT c184) rfl)) ?_
                                  refine Eq.trans (jb_nx (i := .iconst 0) (n := 1) (q := (403, [some (.ref p0), some (.int i1), some (.int x7)], [.int 0])) (jq qX1_value 144 rfl) rfl) ?_
                                  exact Eq.trans (jb_rt (i := .ireturn) (n := 1) (jq qX1_value 145 rfl) (jo_iret rfl (by decide))) H
                                · rw [if_neg c184] at H
                                  refine Eq.trans (jb_nx (i := .ifCond .eq 35) (n := 3) (q := (370, [some (.ref p0), some (.int i1), some (.int x7)], [])) (jq qX1_value 126 rfl) (jo_ifF (jz_eqF c184))) ?_
                                  refine Eq.trans (jb_nx (i := .aload_n 0) (n := 1) (q := (371, [some (.ref p0), some (.int i1), some (.int x7)], [.ref p0])) (jq qX1_value 127 rfl) rfl) ?_
                                  refine Eq.trans (jb_nx (i := .iload_n 1) (n := 1) (q := (372, [some (.ref p0), some (.int i1), some (.int x7)], [.int i1, .ref p0])) (jq qX1_value 128 rfl) rfl) ?_
                                  refine Eq.trans (jb_nx (i := .iconst 1) (n := 1) (q := (373, [some (.ref p0), some (.int i1), some (.int x7)], [.int 1, .int i1, .ref p0])) (jq qX1_value 129 rfl) rfl) ?_
                                  refine Eq.trans (jb_nx (i := .iadd) (n := 1) (q := (374, [some (.ref p0), some (.int i1), some (.int x7)], [.int (i1 + 1), .ref p0])) (jq qX1_value 130 rfl) rfl) ?_
                                  obtain ⟨b203, H⟩ := jm_O_inv H
                                  rcases jcI H with ⟨x187, h185, r186, H⟩ | ⟨w204, h205, r186, H⟩
                                  · refine Eq.trans (jb_nx (i := .invokevirtual 74) (n := 3) (q := (377, [some (.ref p0), some (.int i1), some (.int x7)], [.int x187])) (jq qX1_value 131 rfl) (jo_cv (y := mX1_sum) rfl (Nat.le_of_ble_eq_true rfl) rfl (Nat.le_of_ble_eq_true rfl) b203 rfl r186 jo_ret)) ?_
                                    by_cases c188 : x187 = 0
                                    · rw [if_pos c188] at H
                                      refine Eq.trans (jb_nx (i := .ifCond .eq 25) (n := 3) (q := (402, [some (.ref p0), some (.int i1), some (.int x7)], [])) (jq qX1_value 132 rfl) (jo_ifT (jz_eqT c188) rfl)) ?_
                                      refine Eq.trans (jb_nx (i := .iconst 0) (n := 1) (q := (403, [some (.ref p0), some (.int i1), some (.int x7)], [.int 0])) (jq qX1_value 144 rfl) rfl) ?_
                                      exact Eq.trans (jb_rt (i := .ireturn) (n := 1) (jq qX1_value 145 rfl) (jo_iret rfl (by decide))) H
                                    · rw [if_neg c188] at H
                                      refine Eq.trans (jb_nx (i := .ifCond .eq 25) (n := 3) (q := (380, [some (.ref p0), some (.int i1), some (.int x7)], [])) (jq qX1_value 132 rfl) (jo_ifF (jz_eqF c188))) ?_
                                      refine Eq.trans (jb_nx (i := .aload_n 0) (n := 1) (q := (381, [some (.ref p0), some (.int i1), some (.int x7)], [.ref p0])) (jq qX1_value 133 rfl) rfl) ?_
                                      refine Eq.trans (jb_nx (i := .bipush 21) (n := 2) (q := (383, [some (.ref p0), some (.int i1), some (.int x7)], [.int 21, .ref p0])) (jq qX1_value 134 rfl) rfl) ?_
                                      obtain ⟨b200, H⟩ := jm_O_inv H
                                      rcases jcI H with ⟨x191, h189, r190, H⟩ | ⟨w201, h202, r190, H⟩
                                      · refine Eq.trans (jb_nx (i := .invokevirtual 37) (n := 3) (q := (386, [some (.ref p0), some (.int i1), some (.int x7)], [.int x191])) (jq qX1_value 135 rfl) (jo_cv (y := mX1_take) rfl (Nat.le_of_ble_eq_true rfl) rfl (Nat.le_of_ble_eq_true rfl) b200 rfl r190 jo_ret)) ?_
                                        by_cases c192 : x191 = 0
                                        · rw [if_pos c192] at H
                                          refine Eq.trans (jb_nx (i := .ifCond .eq 16) (n := 3) (q := (402, [some (.ref p0), some (.int i1), some (.int x7)], [])) (jq qX1_value 136 rfl) (jo_ifT (jz_eqT c192) rfl)) ?_
                                          refine Eq.trans (jb_nx (i := .iconst 0) (n := 1) (q := (403, [some (.ref p0), some (.int i1), some (.int x7)], [.int 0])) (jq qX1_value 144 rfl) rfl) ?_
                                          exact Eq.trans (jb_rt (i := .ireturn) (n := 1) (jq qX1_value 145 rfl) (jo_iret rfl (by decide))) H
                                        · rw [if_neg c192] at H
                                          refine Eq.trans (jb_nx (i := .ifCond .eq 16) (n := 3) (q := (389, [some (.ref p0), some (.int i1), some (.int x7)], [])) (jq qX1_value 136 rfl) (jo_ifF (jz_eqF c192))) ?_
                                          refine Eq.trans (jb_nx (i := .aload_n 0) (n := 1) (q := (390, [some (.ref p0), some (.int i1), some (.int x7)], [.ref p0])) (jq qX1_value 137 rfl) rfl) ?_
                                          refine Eq.trans (jb_nx (i := .iload_n 2) (n := 1) (q := (391, [some (.ref p0), some (.int i1), some (.int x7)], [.int x7, .ref p0])) (jq qX1_value 138 rfl) rfl) ?_
                                          refine Eq.trans (jb_nx (i := .iconst 0) (n := 1) (q := (392, [some (.ref p0), some (.int i1), some (.int x7)], [.int 0, .int x7, .ref p0])) (jq qX1_value 139 rfl) rfl) ?_
                                          obtain ⟨b197, H⟩ := jm_O_inv H
                                          rcases jcI H with ⟨x195, h193, r194, H⟩ | ⟨w198, h199, r194, H⟩
                                          · refine Eq.trans (jb_nx (i := .invokevirtual 61) (n := 3) (q := (395, [some (.ref p0), some (.int i1), some (.int x7)], [.int x195])) (jq qX1_value 140 rfl) (jo_cv (y := mX1_put) rfl (Nat.le_of_ble_eq_true rfl) rfl (Nat.le_of_ble_eq_true rfl) b197 rfl r194 jo_ret)) ?_
                                            by_cases c196 : x195 = 0
                                            · rw [if_pos c196] at H
                                              refine Eq.trans (jb_nx (i := .ifCond .eq 7) (n := 3) (q := (402, [some (.ref p0), some (.int i1), some (.int x7)], [])) (jq qX1_value 141 rfl) (jo_ifT (jz_eqT c196) rfl)) ?_
                                              refine Eq.trans (jb_nx (i := .iconst 0) (n := 1) (q := (403, [some (.ref p0), some (.int i1), some (.int x7)], [.int 0])) (jq qX1_value 144 rfl) rfl) ?_
                                              exact Eq.trans (jb_rt (i := .ireturn) (n := 1) (jq qX1_value 145 rfl) (jo_iret rfl (by decide))) H
                                            · rw [if_neg c196] at H
                                              refine Eq.trans (jb_nx (i := .ifCond .eq 7) (n := 3) (q := (398, [some (.ref p0), some (.int i1), some (.int x7)], [])) (jq qX1_value 141 rfl) (jo_ifF (jz_eqF c196))) ?_
                                              refine Eq.trans (jb_nx (i := .iconst 1) (n := 1) (q := (399, [some (.ref p0), some (.int i1), some (.int x7)], [.int 1])) (jq qX1_value 142 rfl) rfl) ?_
                                              refine Eq.trans (jb_nx (i := .goto 4) (n := 3) (q := (403, [some (.ref p0), some (.int i1), some (.int x7)], [.int 1])) (jq qX1_value 143 rfl) rfl) ?_
                                              exact Eq.trans (jb_rt (i := .ireturn) (n := 1) (jq qX1_value 145 rfl) (jo_iret rfl (by decide))) H
                                          · exact Eq.trans (jb_rt (i := .invokevirtual 61) (n := 3) (jq qX1_value 140 rfl) (jo_cv (y := mX1_put) rfl (Nat.le_of_ble_eq_true rfl) rfl (Nat.le_of_ble_eq_true rfl) b197 rfl r194 (jo_exn rfl))) H
                                      · exact Eq.trans (jb_rt (i := .invokevirtual 37) (n := 3) (jq qX1_value 135 rfl) (jo_cv (y := mX1_take) rfl (Nat.le_of_ble_eq_true rfl) rfl (Nat.le_of_ble_eq_true rfl) b200 rfl r190 (jo_exn rfl))) H
                                  · exact Eq.trans (jb_rt (i := .invokevirtual 74) (n := 3) (jq qX1_value 131 rfl) (jo_cv (y := mX1_sum) rfl (Nat.le_of_ble_eq_true rfl) rfl (Nat.le_of_ble_eq_true rfl) b203 rfl r186 (jo_exn rfl))) H
                              · exact Eq.trans (jb_rt (i := .invokevirtual 37) (n := 3) (jq qX1_value 125 rfl) (jo_cv (y := mX1_take) rfl (Nat.le_of_ble_eq_true rfl) rfl (Nat.le_of_ble_eq_true rfl) b206 rfl r182 (jo_exn rfl))) H
                          · exact Eq.trans (jb_rt (i := .invokevirtual 74) (n := 3) (jq qX1_value 121 rfl) (jo_cv (y := mX1_sum) rfl (Nat.le_of_ble_eq_true rfl) rfl (Nat.le_of_ble_eq_true rfl) b209 rfl r178 (jo_exn rfl))) H
                      · exact Eq.trans (jb_rt (i := .invokevirtual 37) (n := 3) (jq qX1_value 115 rfl) (jo_cv (y := mX1_take) rfl (Nat.le_of_ble_eq_true rfl) rfl (Nat.le_of_ble_eq_true rfl) b212 rfl r174 (jo_exn rfl))) H
                    · rw [if_neg c172] at H
                      refine Eq.trans (jb_nx (i := .if_icmp .ge 63) (n := 3) (q := (402, [some (.ref p0), some (.int i1), some (.int x7)], [])) (jq qX1_value 112 rfl) (jo_icT (jz_geT c172) rfl)) ?_
                      refine Eq.trans (jb_nx (i := .iconst 0) (n := 1) (q := (403, [some (.ref p0), some (.int i1), some (.int x7)], [.int 0])) (jq qX1_value 144 rfl) rfl) ?_
                      exact Eq.trans (jb_rt (i := .ireturn) (n := 1) (jq qX1_value 145 rfl) (jo_iret rfl (by decide))) H
                · exact Eq.trans (jb_rt (i := .invokevirtual 37) (n := 3) (jq qX1_value 108 rfl) (jo_cv (y := mX1_take) rfl (Nat.le_of_ble_eq_true rfl) rfl (Nat.le_of_ble_eq_true rfl) b215 rfl r169 (jo_exn rfl))) H
              · rw [if_neg c167] at H
                by_cases c218 : x7 = 20
                · rw [if_pos c218] at H
                  refine Eq.trans (jb_nx (i := .tableswitch 391 9 36 #[162, 187, 187, 187, 391, 391, 391, 391, 391, 315, 315, 275, 391, 391, 391, 391, 391, 391, 234, 391, 391, 391, 391, 391, 391, 391, 391, 127]) (n := 127) (q := (288, [some (.ref p0), some (.int i1), some (.int x7)], [])) (jq qX1_value 7 rfl) (by rw [c218]; rfl)) ?_
                  refine Eq.trans (jb_nx (i := .iload_n 1) (n := 1) (q := (289, [some (.ref p0), some (.int i1), some (.int x7)], [.int i1])) (jq qX1_value 85 rfl) rfl) ?_
                  refine Eq.trans (jb_nx (i := .bipush 8) (n := 2) (q := (291, [some (.ref p0), some (.int i1), some (.int x7)], [.int 8, .int i1])) (jq qX1_value 86 rfl) rfl) ?_
                  by_cases c219 : i1 < 8
                  · rw [if_pos c219] at H
                    refine Eq.trans (jb_nx (i := .if_icmp .ge 35) (n := 3) (q := (294, [some (.ref p0), some (.int i1), some (.int x7)], [])) (jq qX1_value 87 rfl) (jo_icF (jz_geF c219))) ?_
                    refine Eq.trans (jb_nx (i := .aload_n 0) (n := 1) (q := (295, [some (.ref p0), some (.int i1), some (.int x7)], [.ref p0])) (jq qX1_value 88 rfl) rfl) ?_
                    refine Eq.trans (jb_nx (i := .bipush 20) (n := 2) (q := (297, [some (.ref p0), some (.int i1), some (.int x7)], [.int 20, .ref p0])) (jq qX1_value 89 rfl) rfl) ?_
                    obtain ⟨b238, H⟩ := jm_O_inv H
                    rcases jcI H with ⟨x222, h220, r221, H⟩ | ⟨w239, h240, r221, H⟩
                    · refine Eq.trans (jb_nx (i := .invokevirtual 37) (n := 3) (q := (300, [some (.ref p0), some (.int i1), some (.int x7)], [.int x222])) (jq qX1_value 90 rfl) (jo_cv (y := mX1_take) rfl (Nat.le_of_ble_eq_true rfl) rfl (Nat.le_of_ble_eq_true rfl) b238 rfl r221 jo_ret)) ?_
                      by_cases c223 : x222 = 0
                      · rw [if_pos c223] at H
                        refine Eq.trans (jb_nx (i := .ifCond .eq 26) (n := 3) (q := (326, [some (.ref p0), some (.int i1), some (.int x7)], [])) (jq qX1_value 91 rfl) (jo_ifT (jz_eqT c223) rfl)) ?_
                        refine Eq.trans (jb_nx (i := .iconst 0) (n := 1) (q := (327, [some (.ref p0), some (.int i1), some (.int x7)], [.int 0])) (jq qX1_value 104 rfl) rfl) ?_
                        exact Eq.trans (jb_rt (i := .ireturn) (n := 1) (jq qX1_value 105 rfl) (jo_iret rfl (by decide))) H
                      · rw [if_neg c223] at H
                        refine Eq.trans (jb_nx (i := .ifCond .eq 26) (n := 3) (q := (303, [some (.ref p0), some (.int i1), some (.int x7)], [])) (jq qX1_value 91 rfl) (jo_ifF (jz_eqF c223))) ?_
                        refine Eq.trans (jb_nx (i := .aload_n 0) (n := 1) (q := (304, [some (.ref p0), some (.int i1), some (.int x7)], [.ref p0])) (jq qX1_value 92 rfl) rfl) ?_
                        refine Eq.trans (jb_nx (i := .iload_n 1) (n := 1) (q := (305, [some (.ref p0), some (.int i1), some (.int x7)], [.int i1, .ref p0])) (jq qX1_value 93 rfl) rfl) ?_
                        refine Eq.trans (jb_nx (i := .iconst 1) (n := 1) (q := (306, [some (.ref p0), some (.int i1), some (.int x7)], [.int 1, .int i1, .ref p0])) (jq qX1_value 94 rfl) rfl) ?_
                        refine Eq.trans (jb_nx (i := .iadd) (n := 1) (q := (307, [some (.ref p0), some (.int i1), some (.int x7)], [.int (i1 + 1), .ref p0])) (jq qX1_value 95 rfl) rfl) ?_
                        obtain ⟨b235, H⟩ := jm_O_inv H
                        rcases jcI H with ⟨x226, h224, r225, H⟩ | ⟨w236, h237, r225, H⟩
                        · refine Eq.trans (jb_nx (i := .invokevirtual 74) (n := 3) (q := (310, [some (.ref p0), some (.int i1), some (.int x7)], [.int x226])) (jq qX1_value 96 rfl) (jo_cv (y := mX1_sum) rfl (Nat.le_of_ble_eq_true rfl) rfl (Nat.le_of_ble_eq_true rfl) b235 rfl r225 jo_ret)) ?_
                          by_cases c227 : x226 = 0
                          · rw [if_pos c227] at H
                            refine Eq.trans (jb_nx (i := .ifCond .eq 16) (n := 3) (q := (326, [some (.ref p0), some (.int i1), some (.int x7)], [])) (jq qX1_value 97 rfl) (jo_ifT (jz_eqT c227) rfl)) ?_
                            refine Eq.trans (jb_nx (i := .iconst 0) (n := 1) (q := (327, [some (.ref p0), some (.int i1), some (.int x7)], [.int 0])) (jq qX1_value 104 rfl) rfl) ?_
                            exact Eq.trans (jb_rt (i := .ireturn) (n := 1) (jq qX1_value 105 rfl) (jo_iret rfl (by decide))) H
                          · rw [if_neg c227] at H
                            refine Eq.trans (jb_nx (i := .ifCond .eq 16) (n := 3) (q := (313, [some (.ref p0), some (.int i1), some (.int x7)], [])) (jq qX1_value 97 rfl) (jo_ifF (jz_eqF c227))) ?_
                            refine Eq.trans (jb_nx (i := .aload_n 0) (n := 1) (q := (314, [some (.ref p0), some (.int i1), some (.int x7)], [.ref p0])) (jq qX1_value 98 rfl) rfl) ?_
                            refine Eq.trans (jb_nx (i := .bipush 21) (n := 2) (q := (316, [some (.ref p0), some (.int i1), some (.int x7)], [.int 21, .ref p0])) (jq qX1_value 99 rfl) rfl) ?_
                            obtain ⟨b232, H⟩ := jm_O_inv H
                            rcases jcI H with ⟨x230, h228, r229, H⟩ | ⟨w233, h234, r229, H⟩
                            · refine Eq.trans (jb_nx (i := .invokevirtual 37) (n := 3) (q := (319, [some (.ref p0), some (.int i1), some (.int x7)], [.int x230])) (jq qX1_value 100 rfl) (jo_cv (y := mX1_take) rfl (Nat.le_of_ble_eq_true rfl) rfl (Nat.le_of_ble_eq_true rfl) b232 rfl r229 jo_ret)) ?_
                              by_cases c231 : x230 = 0
                              · rw [if_pos c231] at H
                                refine Eq.trans (jb_nx (i := .ifCond .eq 7) (n := 3) (q := (326, [some (.ref p0), some (.int i1), some (.int x7)], [])) (jq qX1_value 101 rfl) (jo_ifT (jz_eqT c231) rfl)) ?_
                                refine Eq.trans (jb_nx (i := .iconst 0) (n := 1) (q := (327, [some (.ref p0), some (.int i1), some (.int x7)], [.int 0])) (jq qX1_value 104 rfl) rfl) ?_
                                exact Eq.trans (jb_rt (i := .ireturn) (n := 1) (jq qX1_value 105 rfl) (jo_iret rfl (by decide))) H
                              · rw [if_neg c231] at H
                                refine Eq.trans (jb_nx (i := .ifCond .eq 7) (n := 3) (q := (322, [some (.ref p0), some (.int i1), some (.int x7)], [])) (jq qX1_value 101 rfl) (jo_ifF (jz_eqF c231))) ?_
                                refine Eq.trans (jb_nx (i := .iconst 1) (n := 1) (q := (323, [some (.ref p0), some (.int i1), some (.int x7)], [.int 1])) (jq qX1_value 102 rfl) rfl) ?_
                                refine Eq.trans (jb_nx (i := .goto 4) (n := 3) (q := (327, [some (.ref p0), some (.int i1), some (.int x7)], [.int 1])) (jq qX1_value 103 rfl) rfl) ?_
                                exact Eq.trans (jb_rt (i := .ireturn) (n := 1) (jq qX1_value 105 rfl) (jo_iret rfl (by decide))) H
                            · exact Eq.trans (jb_rt (i := .invokevirtual 37) (n := 3) (jq qX1_value 100 rfl) (jo_cv (y := mX1_take) rfl (Nat.le_of_ble_eq_true rfl) rfl (Nat.le_of_ble_eq_true rfl) b232 rfl r229 (jo_exn rfl))) H
                        · exact Eq.trans (jb_rt (i := .invokevirtual 74) (n := 3) (jq qX1_value 96 rfl) (jo_cv (y := mX1_sum) rfl (Nat.le_of_ble_eq_true rfl) rfl (Nat.le_of_ble_eq_true rfl) b235 rfl r225 (jo_exn rfl))) H
                    · exact Eq.trans (jb_rt (i := .invokevirtual 37) (n := 3) (jq qX1_value 90 rfl) (jo_cv (y := mX1_take) rfl (Nat.le_of_ble_eq_true rfl) rfl (Nat.le_of_ble_eq_true rfl) b238 rfl r221 (jo_exn rfl))) H
                  · rw [if_neg c219] at H
                    refine Eq.trans (jb_nx (i := .if_icmp .ge 35) (n := 3) (q := (326, [some (.ref p0), some (.int i1), some (.int x7)], [])) (jq qX1_value 87 rfl) (jo_icT (jz_geT c219) rfl)) ?_
                    refine Eq.trans (jb_nx (i := .iconst 0) (n := 1) (q := (327, [some (.ref p0), some (.int i1), some (.int x7)], [.int 0])) (jq qX1_value 104 rfl) rfl) ?_
                    exact Eq.trans (jb_rt (i := .ireturn) (n := 1) (jq qX1_value 105 rfl) (jo_iret rfl (by decide))) H
                · rw [if_neg c218] at H
                  by_cases c241 : x7 = 27
                  · rw [if_pos c241] at H
                    refine Eq.trans (jb_nx (i := .tableswitch 391 9 36 #[162, 187, 187, 187, 391, 391, 391, 391, 391, 315, 315, 275, 391, 391, 391, 391, 391, 391, 234, 391, 391, 391, 391, 391, 391, 391, 391, 127]) (n := 127) (q := (247, [some (.ref p0), some (.int i1), some (.int x7)], [])) (jq qX1_value 7 rfl) (by rw [c241]; rfl)) ?_
                    refine Eq.trans (jb_nx (i := .iload_n 1) (n := 1) (q := (248, [some (.ref p0), some (.int i1), some (.int x7)], [.int i1])) (jq qX1_value 63 rfl) rfl) ?_
                    refine Eq.trans (jb_nx (i := .bipush 8) (n := 2) (q := (250, [some (.ref p0), some (.int i1), some (.int x7)], [.int 8, .int i1])) (jq qX1_value 64 rfl) rfl) ?_
                    by_cases c242 : i1 < 8
                    · rw [if_pos c242] at H
                      refine Eq.trans (jb_nx (i := .if_icmp .ge 36) (n := 3) (q := (253, [some (.ref p0), some (.int i1), some (.int x7)], [])) (jq qX1_value 65 rfl) (jo_icF (jz_geF c242))) ?_
                      refine Eq.trans (jb_nx (i := .aload_n 0) (n := 1) (q := (254, [some (.ref p0), some (.int i1), some (.int x7)], [.ref p0])) (jq qX1_value 66 rfl) rfl) ?_
                      refine Eq.trans (jb_nx (i := .bipush 27) (n := 2) (q := (256, [some (.ref p0), some (.int i1), some (.int x7)], [.int 27, .ref p0])) (jq qX1_value 67 rfl) rfl) ?_
                      obtain ⟨b261, H⟩ := jm_O_inv H
                      rcases jcI H with ⟨x245, h243, r244, H⟩ | ⟨w262, h263, r244, H⟩
                      · refine Eq.trans (jb_nx (i := .invokevirtual 37) (n := 3) (q := (259, [some (.ref p0), some (.int i1), some (.int x7)], [.int x245])) (jq qX1_value 68 rfl) (jo_cv (y := mX1_take) rfl (Nat.le_of_ble_eq_true rfl) rfl (Nat.le_of_ble_eq_true rfl) b261 rfl r244 jo_ret)) ?_
                        by_cases c246 : x245 = 0
                        · rw [if_pos c246] at H
                          refine Eq.trans (jb_nx (i := .ifCond .eq 27) (n := 3) (q := (286, [some (.ref p0), some (.int i1), some (.int x7)], [])) (jq qX1_value 69 rfl) (jo_ifT (jz_eqT c246) rfl)) ?_
                          refine Eq.trans (jb_nx (i := .iconst 0) (n := 1) (q := (287, [some (.ref p0), some (.int i1), some (.int x7)], [.int 0])) (jq qX1_value 83 rfl) rfl) ?_
                          exact Eq.trans (jb_rt (i := .ireturn) (n := 1) (jq qX1_value 84 rfl) (jo_iret rfl (by decide))) H
                        · rw [if_neg c246] at H
                          refine Eq.trans (jb_nx (i := .ifCond .eq 27) (n := 3) (q := (262, [some (.ref p0), some (.int i1), some (.int x7)], [])) (jq qX1_value 69 rfl) (jo_ifF (jz_eqF c246))) ?_
                          refine Eq.trans (jb_nx (i := .aload_n 0) (n := 1) (q := (263, [some (.ref p0), some (.int i1), some (.int x7)], [.ref p0])) (jq qX1_value 70 rfl) rfl) ?_
                          refine Eq.trans (jb_nx (i := .iload_n 1) (n := 1) (q := (264, [some (.ref p0), some (.int i1), some (.int x7)], [.int i1, .ref p0])) (jq qX1_value 71 rfl) rfl) ?_
                          refine Eq.trans (jb_nx (i := .iconst 1) (n := 1) (q := (265, [some (.ref p0), some (.int i1), some (.int x7)], [.int 1, .int i1, .ref p0])) (jq qX1_value 72 rfl) rfl) ?_
                          refine Eq.trans (jb_nx (i := .iadd) (n := 1) (q := (266, [some (.ref p0), some (.int i1), some (.int x7)], [.int (i1 + 1), .ref p0])) (jq qX1_value 73 rfl) rfl) ?_
                          obtain ⟨b258, H⟩ := jm_O_inv H
                          rcases jcI H with ⟨x249, h247, r248, H⟩ | ⟨w259, h260, r248, H⟩
                          · refine Eq.trans (jb_nx (i := .invokevirtual 80) (n := 3) (q := (269, [some (.ref p0), some (.int i1), some (.int x7)], [.int x249])) (jq qX1_value 74 rfl) (jo_cv (y := mX1_value) rfl (Nat.le_of_ble_eq_true rfl) rfl (Nat.le_of_ble_eq_true rfl) b258 rfl r248 jo_ret)) ?_
                            by_cases c250 : x249 = 0
                            · rw [if_pos c250] at H
                              refine Eq.trans (jb_nx (i := .ifCond .eq 17) (n := 3) (q := (286, [some (.ref p0), some (.int i1), some (.int x7)], [])) (jq qX1_value 75 rfl) (jo_ifT (jz_eqT c250) rfl)) ?_
                              refine Eq.trans (jb_nx (i := .iconst 0) (n := 1) (q := (287, [some (.ref p0), some (.int i1), some (.int x7)], [.int 0])) (jq qX1_value 83 rfl) rfl) ?_
                              exact Eq.trans (jb_rt (i := .ireturn) (n := 1) (jq qX1_value 84 rfl) (jo_iret rfl (by decide))) H
                            · rw [if_neg c250] at H
                              refine Eq.trans (jb_nx (i := .ifCond .eq 17) (n := 3) (q := (272, [some (.ref p0), some (.int i1), some (.int x7)], [])) (jq qX1_value 75 rfl) (jo_ifF (jz_eqF c250))) ?_
                              refine Eq.trans (jb_nx (i := .aload_n 0) (n := 1) (q := (273, [some (.ref p0), some (.int i1), some (.int x7)], [.ref p0])) (jq qX1_value 76 rfl) rfl) ?_
                              refine Eq.trans (jb_nx (i := .bipush 39) (n := 2) (q := (275, [some (.ref p0), some (.int i1), some (.int x7)], [.int 39, .ref p0])) (jq qX1_value 77 rfl) rfl) ?_
                              refine Eq.trans (jb_nx (i := .iconst 0) (n := 1) (q := (276, [some (.ref p0), some (.int i1), some (.int x7)], [.int 0, .int 39, .ref p0])) (jq qX1_value 78 rfl) rfl) ?_
                              obtain ⟨b255, H⟩ := jm_O_inv H
                              rcases jcI H with ⟨x253, h251, r252, H⟩ | ⟨w256, h257, r252, H⟩
                              · refine Eq.trans (jb_nx (i := .invokevirtual 61) (n := 3) (q := (279, [some (.ref p0), some (.int i1), some (.int x7)], [.int x253])) (jq qX1_value 79 rfl) (jo_cv (y := mX1_put) rfl (Nat.le_of_ble_eq_true rfl) rfl (Nat.le_of_ble_eq_true rfl) b255 rfl r252 jo_ret)) ?_
                                by_cases c254 : x253 = 0
                                · rw [if_pos c254] at H
                                  refine Eq.trans (jb_nx (i := .ifCond .eq 7) (n := 3) (q := (286, [some (.ref p0), some (.int i1), some (.int x7)], [])) (jq qX1_value 80 rfl) (jo_ifT (jz_eqT c254) rfl)) ?_
                                  refine Eq.trans (jb_nx (i := .iconst 0) (n := 1) (q := (287, [some (.ref p0), some (.int i1), some (.int x7)], [.int 0])) (jq qX1_value 83 rfl) rfl) ?_
                                  exact Eq.trans (jb_rt (i := .ireturn) (n := 1) (jq qX1_value 84 rfl) (jo_iret rfl (by decide))) H
                                · rw [if_neg c254] at H
                                  refine Eq.trans (jb_nx (i := .ifCond .eq 7) (n := 3) (q := (282, [some (.ref p0), some (.int i1), some (.int x7)], [])) (jq qX1_value 80 rfl) (jo_ifF (jz_eqF c254))) ?_
                                  refine Eq.trans (jb_nx (i := .iconst 1) (n := 1) (q := (283, [some (.ref p0), some (.int i1), some (.int x7)], [.int 1])) (jq qX1_value 81 rfl) rfl) ?_
                                  refine Eq.trans (jb_nx (i := .goto 4) (n := 3) (q := (287, [some (.ref p0), some (.int i1), some (.int x7)], [.int 1])) (jq qX1_value 82 rfl) rfl) ?_
                                  exact Eq.trans (jb_rt (i := .ireturn) (n := 1) (jq qX1_value 84 rfl) (jo_iret rfl (by decide))) H
                              · exact Eq.trans (jb_rt (i := .invokevirtual 61) (n := 3) (jq qX1_value 79 rfl) (jo_cv (y := mX1_put) rfl (Nat.le_of_ble_eq_true rfl) rfl (Nat.le_of_ble_eq_true rfl) b255 rfl r252 (jo_exn rfl))) H
                          · exact Eq.trans (jb_rt (i := .invokevirtual 80) (n := 3) (jq qX1_value 74 rfl) (jo_cv (y := mX1_value) rfl (Nat.le_of_ble_eq_true rfl) rfl (Nat.le_of_ble_eq_true rfl) b258 rfl r248 (jo_exn rfl))) H
                      · exact Eq.trans (jb_rt (i := .invokevirtual 37) (n := 3) (jq qX1_value 68 rfl) (jo_cv (y := mX1_take) rfl (Nat.le_of_ble_eq_true rfl) rfl (Nat.le_of_ble_eq_true rfl) b261 rfl r244 (jo_exn rfl))) H
                    · rw [if_neg c242] at H
                      refine Eq.trans (jb_nx (i := .if_icmp .ge 36) (n := 3) (q := (286, [some (.ref p0), some (.int i1), some (.int x7)], [])) (jq qX1_value 65 rfl) (jo_icT (jz_geT c242) rfl)) ?_
                      refine Eq.trans (jb_nx (i := .iconst 0) (n := 1) (q := (287, [some (.ref p0), some (.int i1), some (.int x7)], [.int 0])) (jq qX1_value 83 rfl) rfl) ?_
                      exact Eq.trans (jb_rt (i := .ireturn) (n := 1) (jq qX1_value 84 rfl) (jo_iret rfl (by decide))) H
                  · rw [if_neg c241] at H
                    by_cases c264 : x7 = 36
                    · rw [if_pos c264] at H
                      refine Eq.trans (jb_nx (i := .tableswitch 391 9 36 #[162, 187, 187, 187, 391, 391, 391, 391, 391, 315, 315, 275, 391, 391, 391, 391, 391, 391, 234, 391, 391, 391, 391, 391, 391, 391, 391, 127]) (n := 127) (q := (140, [some (.ref p0), some (.int i1), some (.int x7)], [])) (jq qX1_value 7 rfl) (by rw [c264]; rfl)) ?_
                      refine Eq.trans (jb_nx (i := .aload_n 0) (n := 1) (q := (141, [some (.ref p0), some (.int i1), some (.int x7)], [.ref p0])) (jq qX1_value 8 rfl) rfl) ?_
                      refine Eq.trans (jb_nx (i := .bipush 36) (n := 2) (q := (143, [some (.ref p0), some (.int i1), some (.int x7)], [.int 36, .ref p0])) (jq qX1_value 9 rfl) rfl) ?_
                      refine Eq.trans (jb_nx (i := .aload_n 0) (n := 1) (q := (144, [some (.ref p0), some (.int i1), some (.int x7)], [.ref p0, .int 36, .ref p0])) (jq qX1_value 10 rfl) rfl) ?_
                      obtain ⟨a265, e266, H⟩ := jbd H
                      refine Eq.trans (jb_nx (i := .getfield 9) (n := 3) (q := (147, [some (.ref p0), some (.int i1), some (.int x7)], [.ref a265, .int 36, .ref p0])) (jq qX1_value 11 rfl) (jo_gf rfl (jr_R_inv e266))) ?_
                      refine Eq.trans (jb_nx (i := .aload_n 0) (n := 1) (q := (148, [some (.ref p0), some (.int i1), some (.int x7)], [.ref p0, .ref a265, .int 36, .ref p0])) (jq qX1_value 12 rfl) rfl) ?_
                      obtain ⟨x267, e268, H⟩ := jbd H
                      refine Eq.trans (jb_nx (i := .getfield 19) (n := 3) (q := (151, [some (.ref p0), some (.int i1), some (.int x7)], [.int x267, .ref a265, .int 36, .ref p0])) (jq qX1_value 13 rfl) (jo_gf rfl (jr_I_inv e268))) ?_
                      obtain ⟨b286, H⟩ := jm_O_inv H
                      rcases jcI H with ⟨x271, h269, r270, H⟩ | ⟨w287, h288, r270, H⟩
                      · refine Eq.trans (jb_nx (i := .invokevirtual 83) (n := 3) (q := (154, [some (.ref p0), some (.int i1), some (.int x7)], [.int x271, .int 36, .ref p0])) (jq qX1_value 14 rfl) (jo_cv (y := mX9_valueAt) rfl (Nat.le_of_ble_eq_true rfl) rfl (Nat.le_of_ble_eq_true rfl) b286 rfl r270 jo_ret)) ?_
                        obtain ⟨b283, H⟩ := jm_O_inv H
                        rcases jcI H with ⟨x274, h272, r273, H⟩ | ⟨w284, h285, r273, H⟩
                        · refine Eq.trans (jb_nx (i := .invokevirtual 61) (n := 3) (q := (157, [some (.ref p0), some (.int i1), some (.int x7)], [.int x274])) (jq qX1_value 15 rfl) (jo_cv (y := mX1_put) rfl (Nat.le_of_ble_eq_true rfl) rfl (Nat.le_of_ble_eq_true rfl) b283 rfl r273 jo_ret)) ?_
                          by_cases c275 : x274 = 0
                          · rw [if_pos c275] at H
                            refine Eq.trans (jb_nx (i := .ifCond .eq 16) (n := 3) (q := (173, [some (.ref p0), some (.int i1), some (.int x7)], [])) (jq qX1_value 16 rfl) (jo_ifT (jz_eqT c275) rfl)) ?_
                            refine Eq.trans (jb_nx (i := .iconst 0) (n := 1) (q := (174, [some (.ref p0), some (.int i1), some (.int x7)], [.int 0])) (jq qX1_value 23 rfl) rfl) ?_
                            exact Eq.trans (jb_rt (i := .ireturn) (n := 1) (jq qX1_value 24 rfl) (jo_iret rfl (by decide))) H
                          · rw [if_neg c275] at H
                            refine Eq.trans (jb_nx (i := .ifCond .eq 16) (n := 3) (q := (160, [some (.ref p0), some (.int i1), some (.int x7)], [])) (jq qX1_value 16 rfl) (jo_ifF (jz_eqF c275))) ?_
                            refine Eq.trans (jb_nx (i := .aload_n 0) (n := 1) (q := (161, [some (.ref p0), some (.int i1), some (.int x7)], [.ref p0])) (jq qX1_value 17 rfl) rfl) ?_
                            refine Eq.trans (jb_nx (i := .bipush 36) (n := 2) (q := (163, [some (.ref p0), some (.int i1), some (.int x7)], [.int 36, .ref p0])) (jq qX1_value 18 rfl) rfl) ?_
                            obtain ⟨b280, H⟩ := jm_O_inv H
                            rcases jcI H with ⟨x278, h276, r277, H⟩ | ⟨w281, h282, r277, H⟩
                            · refine Eq.trans (jb_nx (i := .invokevirtual 37) (n := 3) (q := (166, [some (.ref p0), some (.int i1), some (.int x7)], [.int x278])) (jq qX1_value 19 rfl) (jo_cv (y := mX1_take) rfl (Nat.le_of_ble_eq_true rfl) rfl (Nat.le_of_ble_eq_true rfl) b280 rfl r277 jo_ret)) ?_
                              by_cases c279 : x278 = 0
                              · rw [if_pos c279] at H
                                refine Eq.trans (jb_nx (i := .ifCond .eq 7) (n := 3) (q := (173, [some (.ref p0), some (.int i1), some (.int x7)], [])) (jq qX1_value 20 rfl) (jo_ifT (jz_eqT c279) rfl)) ?_
                                refine Eq.trans (jb_nx (i := .iconst 0) (n := 1) (q := (174, [some (.ref p0), some (.int i1), some (.int x7)], [.int 0])) (jq qX1_value 23 rfl) rfl) ?_
                                exact Eq.trans (jb_rt (i := .ireturn) (n := 1) (jq qX1_value 24 rfl) (jo_iret rfl (by decide))) H
                              · rw [if_neg c279] at H
                                refine Eq.trans (jb_nx (i := .ifCond .eq 7) (n := 3) (q := (169, [some (.ref p0), some (.int i1), some (.int x7)], [])) (jq qX1_value 20 rfl) (jo_ifF (jz_eqF c279))) ?_
                                refine Eq.trans (jb_nx (i := .iconst 1) (n := 1) (q := (170, [some (.ref p0), some (.int i1), some (.int x7)], [.int 1])) (jq qX1_value 21 rfl) rfl) ?_
                                refine Eq.trans (jb_nx (i := .goto 4) (n := 3) (q := (174, [some (.ref p0), some (.int i1), some (.int x7)], [.int 1])) (jq qX1_value 22 rfl) rfl) ?_
                                exact Eq.trans (jb_rt (i := .ireturn) (n := 1) (jq qX1_value 24 rfl) (jo_iret rfl (by decide))) H
                            · exact Eq.trans (jb_rt (i := .invokevirtual 37) (n := 3) (jq qX1_value 19 rfl) (jo_cv (y := mX1_take) rfl (Nat.le_of_ble_eq_true rfl) rfl (Nat.le_of_ble_eq_true rfl) b280 rfl r277 (jo_exn rfl))) H
                        · exact Eq.trans (jb_rt (i := .invokevirtual 61) (n := 3) (jq qX1_value 15 rfl) (jo_cv (y := mX1_put) rfl (Nat.le_of_ble_eq_true rfl) rfl (Nat.le_of_ble_eq_true rfl) b283 rfl r273 (jo_exn rfl))) H
                      · exact Eq.trans (jb_rt (i := .invokevirtual 83) (n := 3) (jq qX1_value 14 rfl) (jo_cv (y := mX9_valueAt) rfl (Nat.le_of_ble_eq_true rfl) rfl (Nat.le_of_ble_eq_true rfl) b286 rfl r270 (jo_exn rfl))) H
                    · rw [if_neg c264] at H
                      refine Eq.trans (jb_nx (i := .tableswitch 391 9 36 #[162, 187, 187, 187, 391, 391, 391, 391, 391, 315, 315, 275, 391, 391, 391, 391, 391, 391, 234, 391, 391, 391, 391, 391, 391, 391, 391, 127]) (n := 127) (q := (404, [some (.ref p0), some (.int i1), some (.int x7)], [])) (jq qX1_value 7 rfl) (jo_tabD (ks := [9, 10, 11, 12, 18, 19, 20, 27, 36]) (by decide +kernel) (by intro k hk; simp only [List.mem_cons, List.not_mem_nil, or_false] at hk; rcases hk with rfl | rfl | rfl | rfl | rfl | rfl | rfl | rfl | rfl; { exact jz_ti rfl c8 }; { exact jz_ti rfl c23 }; { exact jz_ti rfl c54 }; { exact jz_ti rfl c85 }; { exact jz_ti rfl c116 }; { exact jz_ti rfl c167 }; { exact jz_ti rfl c218 }; { exact jz_ti rfl c241 }; { exact jz_ti rfl c264 }) rfl)) ?_
                      refine Eq.trans (jb_nx (i := .iconst 0) (n := 1) (q := (405, [some (.ref p0), some (.int i1), some (.int x7)], [.int 0])) (jq qX1_value 146 rfl) rfl) ?_
                      exact Eq.trans (jb_rt (i := .ireturn) (n := 1) (jq qX1_value 147 rfl) (jo_iret rfl (by decide))) H
  · exact Eq.trans (jb_rt (i := .invokevirtual 31) (n := 3) (jq qX1_value 4 rfl) (jo_cv (y := mX9_kindAt) rfl (Nat.le_of_ble_eq_true rfl) rfl (Nat.le_of_ble_eq_true rfl) b289 rfl r6 (jo_exn rfl))) H
