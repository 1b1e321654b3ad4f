/-! ===== LEVEL 2: X13 ===== -/
/-! MaskPlaysModel scenesOf (I)I -/
def tX13_scenesOf : List (Nat × Instr × Nat) := [(0, .iconst 0, 1), (1, .istore_n 2, 1), (2, .iconst 0, 1), (3, .istore_n 3, 1), (4, .iload_n 3, 1), (5, .aload_n 0, 1), (6, .getfield 28, 3), (9, .iload_n 1, 1), (10, .iaload, 1), (11, .if_icmp .ge 34, 3), (14, .iload_n 2, 1), (15, .aload_n 0, 1), (16, .getfield 24, 3), (19, .sipush 150, 3), (22, .iload_n 1, 1), (23, .imul, 1), (24, .iload_n 3, 1), (25, .iadd, 1), (26, .laload, 1), (27, .lconst 0, 1), (28, .lcmp, 1), (29, .ifCond .ne 7, 3), (32, .iconst 1, 1), (33, .goto 4, 3), (36, .iconst 0, 1), (37, .iadd, 1), (38, .istore_n 2, 1), (39, .iinc 3 1, 3), (42, .goto (-38), 3), (45, .iload_n 2, 1), (46, .ireturn, 1)]
set_option maxRecDepth 100000 in
theorem qX13_scenesOf : ∀ q ∈ tX13_scenesOf, decode cX13_scenesOf q.1 = .ok (q.2.1, q.2.2) := by decide +kernel
noncomputable def kX13_scenesOf_4 (d : Nat) (p0 : Nat) (i1 : Int32) (i2 : Int32) (i3 : Int32) (h : jm_H) : Option jm_R := jm_B d mX13_scenesOf (4, [some (.ref p0), some (.int i1), some (.int i2), some (.int i3)], []) h
theorem gX13_scenesOf_4 {d : Nat} {p0 : Nat} {i1 : Int32} {i2 : Int32} {i3 : Int32} {h : jm_H} {r : jm_R} (H : ((jr_R h p0 12 9 2).bind fun a1 => (jm_ali h a1 0 i1).bind fun x3 => (if i3 < x3 then (jr_R h p0 12 8 2).bind fun a6 => (jm_all h a6 ((150 * i1) + i3)).bind fun y8 => (if (lg_cmp y8 0) = 0 then kX13_scenesOf_4 d p0 i1 (i2 + 1) (i3 + 1) h else kX13_scenesOf_4 d p0 i1 (i2 + 0) (i3 + 1) h) else some (.inl (some (.int i2)), h))) = some r) : kX13_scenesOf_4 d p0 i1 i2 i3 h = some r := by
  show jm_B d mX13_scenesOf (4, [some (.ref p0), some (.int i1), some (.int i2), some (.int i3)], []) h = some r
  refine Eq.trans (jb_nx (i := .iload_n 3) (n := 1) (q := (5, [some (.ref p0), some (.int i1), some (.int i2), some (.int i3)], [.int i3])) (jq qX13_scenesOf 4 rfl) rfl) ?_
  refine Eq.trans (jb_nx (i := .aload_n 0) (n := 1) (q := (6, [some (.ref p0), some (.int i1), some (.int i2), some (.int i3)], [.ref p0, .int i3])) (jq qX13_scenesOf 5 rfl) rfl) ?_
  obtain ⟨a1, e2, H⟩ := jbd H
  refine Eq.trans (jb_nx (i := .getfield 28) (n := 3) (q := (9, [some (.ref p0), some (.int i1), some (.int i2), some (.int i3)], [.ref a1, .int i3])) (jq qX13_scenesOf 6 rfl) (jo_gf rfl (jr_R_inv e2))) ?_
  refine Eq.trans (jb_nx (i := .iload_n 1) (n := 1) (q := (10, [some (.ref p0), some (.int i1), some (.int i2), some (.int i3)], [.int i1, .ref a1, .int i3])) (jq qX13_scenesOf 7 rfl) rfl) ?_
  obtain ⟨x3, e4, H⟩ := jbd H
  refine Eq.trans (jb_nx (i := .iaload) (n := 1) (q := (11, [some (.ref p0), some (.int i1), some (.int i2), some (.int i3)], [.int x3, .int i3])) (jq qX13_scenesOf 8 rfl) (jo_ial e4)) ?_
  by_cases c5 : i3 < x3
  · rw [if_pos c5] at H
    refine Eq.trans (jb_nx (i := .if_icmp .ge 34) (n := 3) (q := (14, [some (.ref p0), some (.int i1), some (.int i2), some (.int i3)], [])) (jq qX13_scenesOf 9 rfl) (jo_icF (jz_geF c5))) ?_
    refine Eq.trans (jb_nx (i := .iload_n 2) (n := 1) (q := (15, [some (.ref p0), some (.int i1), some (.int i2), some (.int i3)], [.int i2])) (jq qX13_scenesOf 10 rfl) rfl) ?_
    refine Eq.trans (jb_nx (i := .aload_n 0) (n := 1) (q := (16, [some (.ref p0), some (.int i1), some (.int i2), some (.int i3)], [.ref p0, .int i2])) (jq qX13_scenesOf 11 rfl) rfl) ?_
    obtain ⟨a6, e7, H⟩ := jbd H
    refine Eq.trans (jb_nx (i := .getfield 24) (n := 3) (q := (19, [some (.ref p0), some (.int i1), some (.int i2), some (.int i3)], [.ref a6, .int i2])) (jq qX13_scenesOf 12 rfl) (jo_gf rfl (jr_R_inv e7))) ?_
    refine Eq.trans (jb_nx (i := .sipush 150) (n := 3) (q := (22, [some (.ref p0), some (.int i1), some (.int i2), some (.int i3)], [.int 150, .ref a6, .int i2])) (jq qX13_scenesOf 13 rfl) rfl) ?_
    refine Eq.trans (jb_nx (i := .iload_n 1) (n := 1) (q := (23, [some (.ref p0), some (.int i1), some (.int i2), some (.int i3)], [.int i1, .int 150, .ref a6, .int i2])) (jq qX13_scenesOf 14 rfl) rfl) ?_
    refine Eq.trans (jb_nx (i := .imul) (n := 1) (q := (24, [some (.ref p0), some (.int i1), some (.int i2), some (.int i3)], [.int (150 * i1), .ref a6, .int i2])) (jq qX13_scenesOf 15 rfl) rfl) ?_
    refine Eq.trans (jb_nx (i := .iload_n 3) (n := 1) (q := (25, [some (.ref p0), some (.int i1), some (.int i2), some (.int i3)], [.int i3, .int (150 * i1), .ref a6, .int i2])) (jq qX13_scenesOf 16 rfl) rfl) ?_
    refine Eq.trans (jb_nx (i := .iadd) (n := 1) (q := (26, [some (.ref p0), some (.int i1), some (.int i2), some (.int i3)], [.int ((150 * i1) + i3), .ref a6, .int i2])) (jq qX13_scenesOf 17 rfl) rfl) ?_
    obtain ⟨y8, e9, H⟩ := jbd H
    refine Eq.trans (jb_nx (i := .laload) (n := 1) (q := (27, [some (.ref p0), some (.int i1), some (.int i2), some (.int i3)], [.long y8, .int i2])) (jq qX13_scenesOf 18 rfl) (jo_lal e9)) ?_
    refine Eq.trans (jb_nx (i := .lconst 0) (n := 1) (q := (28, [some (.ref p0), some (.int i1), some (.int i2), some (.int i3)], [.long 0, .long y8, .int i2])) (jq qX13_scenesOf 19 rfl) rfl) ?_
    refine Eq.trans (jb_nx (i := .lcmp) (n := 1) (q := (29, [some (.ref p0), some (.int i1), some (.int i2), some (.int i3)], [.int (lg_cmp y8 0), .int i2])) (jq qX13_scenesOf 20 rfl) rfl) ?_
    by_cases c10 : (lg_cmp y8 0) = 0
    · rw [if_pos c10] at H
      refine Eq.trans (jb_nx (i := .ifCond .ne 7) (n := 3) (q := (32, [some (.ref p0), some (.int i1), some (.int i2), some (.int i3)], [.int i2])) (jq qX13_scenesOf 21 rfl) (jo_ifF (jz_neF c10))) ?_
      refine Eq.trans (jb_nx (i := .iconst 1) (n := 1) (q := (33, [some (.ref p0), some (.int i1), some (.int i2), some (.int i3)], [.int 1, .int i2])) (jq qX13_scenesOf 22 rfl) rfl) ?_
      refine Eq.trans (jb_nx (i := .goto 4) (n := 3) (q := (37, [some (.ref p0), some (.int i1), some (.int i2), some (.int i3)], [.int 1, .int i2])) (jq qX13_scenesOf 23 rfl) rfl) ?_
      refine Eq.trans (jb_nx (i := .iadd) (n := 1) (q := (38, [some (.ref p0), some (.int i1), some (.int i2), some (.int i3)], [.int (i2 + 1)])) (jq qX13_scenesOf 25 rfl) rfl) ?_
      refine Eq.trans (jb_nx (i := .istore_n 2) (n := 1) (q := (39, [some (.ref p0), some (.int i1), some (.int (i2 + 1)), some (.int i3)], [])) (jq qX13_scenesOf 26 rfl) rfl) ?_
      refine Eq.trans (jb_nx (i := .iinc 3 1) (n := 3) (q := (42, [some (.ref p0), some (.int i1), some (.int (i2 + 1)), some (.int (i3 + 1))], [])) (jq qX13_scenesOf 27 rfl) rfl) ?_
      refine Eq.trans (jb_nx (i := .goto (-38)) (n := 3) (q := (4, [some (.ref p0), some (.int i1), some (.int (i2 + 1)), some (.int (i3 + 1))], [])) (jq qX13_scenesOf 28 rfl) rfl) ?_
      exact H
    · rw [if_neg c10] at H
      refine Eq.trans (jb_nx (i := .ifCond .ne 7) (n := 3) (q := (36, [some (.ref p0), some (.int i1), some (.int i2), some (.int i3)], [.int i2])) (jq qX13_scenesOf 21 rfl) (jo_ifT (jz_neT c10) rfl)) ?_
      refine Eq.trans (jb_nx (i := .iconst 0) (n := 1) (q := (37, [some (.ref p0), some (.int i1), some (.int i2), some (.int i3)], [.int 0, .int i2])) (jq qX13_scenesOf 24 rfl) rfl) ?_
      refine Eq.trans (jb_nx (i := .iadd) (n := 1) (q := (38, [some (.ref p0), some (.int i1), some (.int i2), some (.int i3)], [.int (i2 + 0)])) (jq qX13_scenesOf 25 rfl) rfl) ?_
      refine Eq.trans (jb_nx (i := .istore_n 2) (n := 1) (q := (39, [some (.ref p0), some (.int i1), some (.int (i2 + 0)), some (.int i3)], [])) (jq qX13_scenesOf 26 rfl) rfl) ?_
      refine Eq.trans (jb_nx (i := .iinc 3 1) (n := 3) (q := (42, [some (.ref p0), some (.int i1), some (.int (i2 + 0)), some (.int (i3 + 1))], [])) (jq qX13_scenesOf 27 rfl) rfl) ?_
      refine Eq.trans (jb_nx (i := .goto (-38)) (n := 3) (q := (4, [some (.ref p0), some (.int i1), some (.int (i2 + 0)), some (.int (i3 + 1))], [])) (jq qX13_scenesOf 28 rfl) rfl) ?_
      exact H
  · rw [if_neg c5] at H
    refine Eq.trans (jb_nx (i := .if_icmp .ge 34) (n := 3) (q := (45, [some (.ref p0), some (.int i1), some (.int i2), some (.int i3)], [])) (jq qX13_scenesOf 9 rfl) (jo_icT (jz_geT c5) rfl)) ?_
    refine Eq.trans (jb_nx (i := .iload_n 2) (n := 1) (q := (46, [some (.ref p0), some (.int i1), some (.int i2), some (.int i3)], [.int i2])) (jq qX13_scenesOf 29 rfl) rfl) ?_
    exact Eq.trans (jb_rt (i := .ireturn) (n := 1) (jq qX13_scenesOf 30 rfl) (jo_iret rfl rfl)) H
theorem gX13_scenesOf {d : Nat} {p0 : Nat} {i1 : Int32} {h : jm_H} {r : jm_R} (H : (kX13_scenesOf_4 d p0 i1 0 0 h) = some r) : jm_D (d + 1) mX13_scenesOf [.ref p0, .int i1] h = some r := by
  rw [jm_D_body (Nat.le_of_ble_eq_true rfl)]
  show jm_B d mX13_scenesOf (0, [some (.ref p0), some (.int i1), none, none], []) h = some r
  refine Eq.trans (jb_nx (i := .iconst 0) (n := 1) (q := (1, [some (.ref p0), some (.int i1), none, none], [.int 0])) (jq qX13_scenesOf 0 rfl) rfl) ?_
  refine Eq.trans (jb_nx (i := .istore_n 2) (n := 1) (q := (2, [some (.ref p0), some (.int i1), some (.int 0), none], [])) (jq qX13_scenesOf 1 rfl) rfl) ?_
  refine Eq.trans (jb_nx (i := .iconst 0) (n := 1) (q := (3, [some (.ref p0), some (.int i1), some (.int 0), none], [.int 0])) (jq qX13_scenesOf 2 rfl) rfl) ?_
  refine Eq.trans (jb_nx (i := .istore_n 3) (n := 1) (q := (4, [some (.ref p0), some (.int i1), some (.int 0), some (.int 0)], [])) (jq qX13_scenesOf 3 rfl) rfl) ?_
  exact H
/-! MaskPlaysModel mostMasksAround (I)I -/
def tX13_mostMasksAround : List (Nat × Instr × Nat) := [(0, .aload_n 0, 1), (1, .iconst 0, 1), (2, .putfield 68, 3), (5, .aload_n 0, 1), (6, .iload_n 1, 1), (7, .invokevirtual 473, 3), (10, .ifCond .eq 11, 3), (13, .aload_n 0, 1), (14, .iload_n 1, 1), (15, .invokevirtual 479, 3), (18, .goto 8, 3), (21, .aload_n 0, 1), (22, .iconst 1, 1), (23, .invokevirtual 463, 3), (26, .ireturn, 1)]
set_option maxRecDepth 100000 in
theorem qX13_mostMasksAround : ∀ q ∈ tX13_mostMasksAround, decode cX13_mostMasksAround q.1 = .ok (q.2.1, q.2.2) := by decide +kernel
theorem gX13_mostMasksAround {d : Nat} {p0 : Nat} {i1 : Int32} {h : jm_H} {r : jm_R} (H : ((jm_pf h p0 12 0 0 (.int 0)).bind fun h1 => jm_O h1 p0 13 (jc_I (jm_D d mX13_isPlay [.ref p0, .int i1] h1) (fun x5 h3 => (if x5 = 0 then jm_O h3 p0 13 (jc_I (jm_D d mX13_no [.ref p0, .int 1] h3) (fun x9 h7 => some (.inl (some (.int x9)), h7)) jx) else jm_O h3 p0 13 (jc_I (jm_D d mX13_around [.ref p0, .int i1] h3) (fun x15 h13 => some (.inl (some (.int x15)), h13)) jx))) jx)) = some r) : jm_D (d + 1) mX13_mostMasksAround [.ref p0, .int i1] h = some r := by
  rw [jm_D_body (Nat.le_of_ble_eq_true rfl)]
  show jm_B d mX13_mostMasksAround (0, [some (.ref p0), some (.int i1)], []) h = some r
  refine Eq.trans (jb_nx (i := .aload_n 0) (n := 1) (q := (1, [some (.ref p0), some (.int i1)], [.ref p0])) (jq qX13_mostMasksAround 0 rfl) rfl) ?_
  refine Eq.trans (jb_nx (i := .iconst 0) (n := 1) (q := (2, [some (.ref p0), some (.int i1)], [.int 0, .ref p0])) (jq qX13_mostMasksAround 1 rfl) rfl) ?_
  obtain ⟨h1, e2, H⟩ := jbd H
  refine Eq.trans (jb_nx (i := .putfield 68) (n := 3) (q := (5, [some (.ref p0), some (.int i1)], [])) (jq qX13_mostMasksAround 2 rfl) (jo_pf rfl (Or.inl rfl) e2)) ?_
  refine Eq.trans (jb_nx (i := .aload_n 0) (n := 1) (q := (6, [some (.ref p0), some (.int i1)], [.ref p0])) (jq qX13_mostMasksAround 3 rfl) rfl) ?_
  refine Eq.trans (jb_nx (i := .iload_n 1) (n := 1) (q := (7, [some (.ref p0), some (.int i1)], [.int i1, .ref p0])) (jq qX13_mostMasksAround 4 rfl) rfl) ?_
  obtain ⟨b19, H⟩ := jm_O_inv H
  rcases jcI H with ⟨x5, h3, r4, H⟩ | ⟨w20, h21, r4, H⟩
  · refine Eq.trans (jb_nx (i := .invokevirtual 473) (n := 3) (q := (10, [some (.ref p0), some (.int i1)], [.int x5])) (jq qX13_mostMasksAround 5 rfl) (jo_cv (y := mX13_isPlay) rfl (Nat.le_of_ble_eq_true rfl) rfl (Nat.le_of_ble_eq_true rfl) b19 rfl r4 jo_ret)) ?_
    by_cases c6 : x5 = 0
    · rw [if_pos c6] at H
      refine Eq.trans (jb_nx (i := .ifCond .eq 11) (n := 3) (q := (21, [some (.ref p0), some (.int i1)], [])) (jq qX13_mostMasksAround 6 rfl) (jo_ifT (jz_eqT c6) rfl)) ?_
      refine Eq.trans (jb_nx (i := .aload_n 0) (n := 1) (q := (22, [some (.ref p0), some (.int i1)], [.ref p0])) (jq qX13_mostMasksAround 11 rfl) rfl) ?_
      refine Eq.trans (jb_nx (i := .iconst 1) (n := 1) (q := (23, [some (.ref p0), some (.int i1)], [.int 1, .ref p0])) (jq qX13_mostMasksAround 12 rfl) rfl) ?_
      obtain ⟨b10, H⟩ := jm_O_inv H
      rcases jcI H with ⟨x9, h7, r8, H⟩ | ⟨w11, h12, r8, H⟩
      · refine Eq.trans (jb_nx (i := .invokevirtual 463) (n := 3) (q := (26, [some (.ref p0), some (.int i1)], [.int x9])) (jq qX13_mostMasksAround 13 rfl) (jo_cv (y := mX13_no) rfl (Nat.le_of_ble_eq_true rfl) rfl (Nat.le_of_ble_eq_true rfl) b10 rfl r8 jo_ret)) ?_
        exact Eq.trans (jb_rt (i := .ireturn) (n := 1) (jq qX13_mostMasksAround 14 rfl) (jo_iret rfl rfl)) H
      · exact Eq.trans (jb_rt (i := .invokevirtual 463) (n := 3) (jq qX13_mostMasksAround 13 rfl) (jo_cv (y := mX13_no) rfl (Nat.le_of_ble_eq_true rfl) rfl (Nat.le_of_ble_eq_true rfl) b10 rfl r8 (jo_exn rfl))) H
    · rw [if_neg c6] at H
      refine Eq.trans (jb_nx (i := .ifCond .eq 11) (n := 3) (q := (13, [some (.ref p0), some (.int i1)], [])) (jq qX13_mostMasksAround 6 rfl) (jo_ifF (jz_eqF c6))) ?_
      refine Eq.trans (jb_nx (i := .aload_n 0) (n := 1) (q := (14, [some (.ref p0), some (.int i1)], [.ref p0])) (jq qX13_mostMasksAround 7 rfl) rfl) ?_
      refine Eq.trans (jb_nx (i := .iload_n 1) (n := 1) (q := (15, [some (.ref p0), some (.int i1)], [.int i1, .ref p0])) (jq qX13_mostMasksAround 8 rfl) rfl) ?_
      obtain ⟨b16, H⟩ := jm_O_inv H
      rcases jcI H with ⟨x15, h13, r14, H⟩ | ⟨w17, h18, r14, H⟩
      · refine Eq.trans (jb_nx (i := .invokevirtual 479) (n := 3) (q := (18, [some (.ref p0), some (.int i1)], [.int x15])) (jq qX13_mostMasksAround 9 rfl) (jo_cv (y := mX13_around) rfl (Nat.le_of_ble_eq_true rfl) rfl (Nat.le_of_ble_eq_true rfl) b16 rfl r14 jo_ret)) ?_
        refine Eq.trans (jb_nx (i := .goto 8) (n := 3) (q := (26, [some (.ref p0), some (.int i1)], [.int x15])) (jq qX13_mostMasksAround 10 rfl) rfl) ?_
        exact Eq.trans (jb_rt (i := .ireturn) (n := 1) (jq qX13_mostMasksAround 14 rfl) (jo_iret rfl rfl)) H
      · exact Eq.trans (jb_rt (i := .invokevirtual 479) (n := 3) (jq qX13_mostMasksAround 9 rfl) (jo_cv (y := mX13_around) rfl (Nat.le_of_ble_eq_true rfl) rfl (Nat.le_of_ble_eq_true rfl) b16 rfl r14 (jo_exn rfl))) H
  · exact Eq.trans (jb_rt (i := .invokevirtual 473) (n := 3) (jq qX13_mostMasksAround 5 rfl) (jo_cv (y := mX13_isPlay) rfl (Nat.le_of_ble_eq_true rfl) rfl (Nat.le_of_ble_eq_true rfl) b19 rfl r4 (jo_exn rfl))) H
/-! MaskPlaysModel around (I)I -/
def tX13_around : List (Nat × Instr × Nat) := [(0, .aload_n 0, 1), (1, .iload_n 1, 1), (2, .invokevirtual 146, 3), (5, .iconst 0, 1), (6, .istore_n 2, 1), (7, .iconst 0, 1), (8, .istore_n 3, 1), (9, .iload_n 3, 1), (10, .aload_n 0, 1), (11, .getfield 82, 3), (14, .if_icmp .ge 83, 3), (17, .aload_n 0, 1), (18, .getfield 43, 3), (21, .iload_n 3, 1), (22, .laload, 1), (23, .lconst 0, 1), (24, .lcmp, 1), (25, .ifCond .gt 6, 3), (28, .goto 63, 3), (31, .iconst 0, 1), (32, .istore 4, 2), (34, .iconst 0, 1), (35, .istore 5, 2), (37, .iload 5, 2), (39, .iload_n 3, 1), (40, .if_icmp .ge 44, 3), (43, .iload 4, 2), (45, .aload_n 0, 1), (46, .getfield 43, 3), (49, .iload 5, 2), (51, .laload, 1), (52, .lconst 0, 1), (53, .lcmp, 1), (54, .ifCond .ge 20, 3), (57, .aload_n 0, 1), (58, .getfield 43, 3), (61, .iload 5, 2), (63, .invokestatic 78, 3), (66, .iload_n 3, 1), (67, .if_icmp .le 7, 3), (70, .iconst 1, 1), (71, .goto 4, 3), (74, .iconst 0, 1), (75, .iadd, 1), (76, .istore 4, 2), (78, .iinc 5 1, 3), (81, .goto (-44), 3), (84, .iload_n 2, 1), (85, .iload 4, 2), (87, .invokestatic 209, 3), (90, .istore_n 2, 1), (91, .iinc 3 1, 3), (94, .goto (-85), 3), (97, .iload_n 2, 1), (98, .ireturn, 1)]
set_option maxRecDepth 100000 in
theorem qX13_around : ∀ q ∈ tX13_around, decode cX13_around q.1 = .ok (q.2.1, q.2.2) := by decide +kernel
noncomputable def kX13_around_9 (d : Nat) (p0 : Nat) (o1 : Option Value) (i2 : Int32) (i3 : Int32) (o4 : Option Value) (o5 : Option Value) (h : jm_H) : Option jm_R := jm_B d mX13_around (9, [some (.ref p0), o1, some (.int i2), some (.int i3), o4, o5], []) h
noncomputable def kX13_around_37 (d : Nat) (p0 : Nat) (o1 : Option Value) (i2 : Int32) (i3 : Int32) (i4 : Int32) (i5 : Int32) (h : jm_H) : Option jm_R := jm_B d mX13_around (37, [some (.ref p0), o1, some (.int i2), some (.int i3), some (.int i4), some (.int i5)], []) h
theorem gX13_around_9 {d : Nat} {p0 : Nat} {o1 : Option Value} {i2 : Int32} {i3 : Int32} {o4 : Option Value} {o5 : Option Value} {h : jm_H} {r : jm_R} (H : ((jr_I h p0 12 19 0).bind fun x6 => (if i3 < x6 then (jr_R h p0 12 18 2).bind fun a9 => (jm_all h a9 i3).bind fun y11 => (if 0 < (lg_cmp y11 0) then kX13_around_37 d p0 o1 i2 i3 0 0 h else kX13_around_9 d p0 o1 i2 (i3 + 1) o4 o5 h) else some (.inl (some (.int i2)), h))) = some r) : kX13_around_9 d p0 o1 i2 i3 o4 o5 h = some r := by
  show jm_B d mX13_around (9, [some (.ref p0), o1, some (.int i2), some (.int i3), o4, o5], []) h = some r
  refine Eq.trans (jb_nx (i := .iload_n 3) (n := 1) (q := (10, [some (.ref p0), o1, some (.int i2), some (.int i3), o4, o5], [.int i3])) (jq qX13_around 7 rfl) rfl) ?_
  refine Eq.trans (jb_nx (i := .aload_n 0) (n := 1) (q := (11, [some (.ref p0), o1, some (.int i2), some (.int i3), o4, o5], [.ref p0, .int i3])) (jq qX13_around 8 rfl) rfl) ?_
  obtain ⟨x6, e7, H⟩ := jbd H
  refine Eq.trans (jb_nx (i := .getfield 82) (n := 3) (q := (14, [some (.ref p0), o1, some (.int i2), some (.int i3), o4, o5], [.int x6, .int i3])) (jq qX13_around 9 rfl) (jo_gf rfl (jr_I_inv e7))) ?_
  by_cases c8 : i3 < x6
  · rw [if_pos c8] at H
    refine Eq.trans (jb_nx (i := .if_icmp .ge 83) (n := 3) (q := (17, [some (.ref p0), o1, some (.int i2), some (.int i3), o4, o5], [])) (jq qX13_around 10 rfl) (jo_icF (jz_geF c8))) ?_
    refine Eq.trans (jb_nx (i := .aload_n 0) (n := 1) (q := (18, [some (.ref p0), o1, some (.int i2), some (.int i3), o4, o5], [.ref p0])) (jq qX13_around 11 rfl) rfl) ?_
    obtain ⟨a9, e10, H⟩ := jbd H
    refine Eq.trans (jb_nx (i := .getfield 43) (n := 3) (q := (21, [some (.ref p0), o1, some (.int i2), some (.int i3), o4, o5], [.ref a9])) (jq qX13_around 12 rfl) (jo_gf rfl (jr_R_inv e10))) ?_
    refine Eq.trans (jb_nx (i := .iload_n 3) (n := 1) (q := (22, [some (.ref p0), o1, some (.int i2), some (.int i3), o4, o5], [.int i3, .ref a9])) (jq qX13_around 13 rfl) rfl) ?_
    obtain ⟨y11, e12, H⟩ := jbd H
    refine Eq.trans (jb_nx (i := .laload) (n := 1) (q := (23, [some (.ref p0), o1, some (.int i2), some (.int i3), o4, o5], [.long y11])) (jq qX13_around 14 rfl) (jo_lal e12)) ?_
    refine Eq.trans (jb_nx (i := .lconst 0) (n := 1) (q := (24, [some (.ref p0), o1, some (.int i2), some (.int i3), o4, o5], [.long 0, .long y11])) (jq qX13_around 15 rfl) rfl) ?_
    refine Eq.trans (jb_nx (i := .lcmp) (n := 1) (q := (25, [some (.ref p0), o1, some (.int i2), some (.int i3), o4, o5], [.int (lg_cmp y11 0)])) (jq qX13_around 16 rfl) rfl) ?_
    by_cases c13 : 0 < (lg_cmp y11 0)
    · rw [if_pos c13] at H
      refine Eq.trans (jb_nx (i := .ifCond .gt 6) (n := 3) (q := (31, [some (.ref p0), o1, some (.int i2), some (.int i3), o4, o5], [])) (jq qX13_around 17 rfl) (jo_ifT (jz_gtT c13) rfl)) ?_
      refine Eq.trans (jb_nx (i := .iconst 0) (n := 1) (q := (32, [some (.ref p0), o1, some (.int i2), some (.int i3), o4, o5], [.int 0])) (jq qX13_around 19 rfl) rfl) ?_
      refine Eq.trans (jb_nx (i := .istore 4) (n := 2) (q := (34, [some (.ref p0), o1, some (.int i2), some (.int i3), some (.int 0), o5], [])) (jq qX13_around 20 rfl) rfl) ?_
      refine Eq.trans (jb_nx (i := .iconst 0) (n := 1) (q := (35, [some (.ref p0), o1, some (.int i2), some (.int i3), some (.int 0), o5], [.int 0])) (jq qX13_around 21 rfl) rfl) ?_
      refine Eq.trans (jb_nx (i := .istore 5) (n := 2) (q := (37, [some (.ref p0), o1, some (.int i2), some (.int i3), some (.int 0), some (.int 0)], [])) (jq qX13_around 22 rfl) rfl) ?_
      exact H
    · rw [if_neg c13] at H
      refine Eq.trans (jb_nx (i := .ifCond .gt 6) (n := 3) (q := (28, [some (.ref p0), o1, some (.int i2), some (.int i3), o4, o5], [])) (jq qX13_around 17 rfl) (jo_ifF (jz_gtF c13))) ?_
      refine Eq.trans (jb_nx (i := .goto 63) (n := 3) (q := (91, [some (.ref p0), o1, some (.int i2), some (.int i3), o4, o5], [])) (jq qX13_around 18 rfl) rfl) ?_
      refine Eq.trans (jb_nx (i := .iinc 3 1) (n := 3) (q := (94, [some (.ref p0), o1, some (.int i2), some (.int (i3 + 1)), o4, o5], [])) (jq qX13_around 51 rfl) rfl) ?_
      refine Eq.trans (jb_nx (i := .goto (-85)) (n := 3) (q := (9, [some (.ref p0), o1, some (.int i2), some (.int (i3 + 1)), o4, o5], [])) (jq qX13_around 52 rfl) rfl) ?_
      exact H
  · rw [if_neg c8] at H
    refine Eq.trans (jb_nx (i := .if_icmp .ge 83) (n := 3) (q := (97, [some (.ref p0), o1, some (.int i2), some (.int i3), o4, o5], [])) (jq qX13_around 10 rfl) (jo_icT (jz_geT c8) rfl)) ?_
    refine Eq.trans (jb_nx (i := .iload_n 2) (n := 1) (q := (98, [some (.ref p0), o1, some (.int i2), some (.int i3), o4, o5], [.int i2])) (jq qX13_around 53 rfl) rfl) ?_
    exact Eq.trans (jb_rt (i := .ireturn) (n := 1) (jq qX13_around 54 rfl) (jo_iret rfl rfl)) H
theorem gX13_around_37 {d : Nat} {p0 : Nat} {o1 : Option Value} {i2 : Int32} {i3 : Int32} {i4 : Int32} {i5 : Int32} {h : jm_H} {r : jm_R} (H : ((if i5 < i3 then (jr_R h p0 12 18 2).bind fun a15 => (jm_all h a15 i5).bind fun y17 => (if (lg_cmp y17 0) < 0 then (jr_R h p0 12 18 2).bind fun a20 => jc_I (jm_D d mX13_end [.ref a20, .int i5] h) (fun x24 h22 => (if i3 < x24 then kX13_around_37 d p0 o1 i2 i3 (i4 + 1) (i5 + 1) h22 else kX13_around_37 d p0 o1 i2 i3 (i4 + 0) (i5 + 1) h22)) jx else kX13_around_37 d p0 o1 i2 i3 (i4 + 0) (i5 + 1) h) else kX13_around_9 d p0 (jm_dm o1) (if i2 < i4 then i4 else i2) (i3 + 1) (some (.int i4)) (some (.int i5)) h)) = some r) : kX13_around_37 d p0 o1 i2 i3 i4 i5 h = some r := by
  show jm_B d mX13_around (37, [some (.ref p0), o1, some (.int i2), some (.int i3), some (.int i4), some (.int i5)], []) h = some r
  refine Eq.trans (jb_nx (i := .iload 5) (n := 2) (q := (39, [some (.ref p0), o1, some (.int i2), some (.int i3), some (.int i4), some (.int i5)], [.int i5])) (jq qX13_around 23 rfl) rfl) ?_
  refine Eq.trans (jb_nx (i := .iload_n 3) (n := 1) (q := (40, [some (.ref p0), o1, some (.int i2), some (.int i3), some (.int i4), some (.int i5)], [.int i3, .int i5])) (jq qX13_around 24 rfl) rfl) ?_
  by_cases c14 : i5 < i3
  · rw [if_pos c14] at H
    refine Eq.trans (jb_nx (i := .if_icmp .ge 44) (n := 3) (q := (43, [some (.ref p0), o1, some (.int i2), some (.int i3), some (.int i4), some (.int i5)], [])) (jq qX13_around 25 rfl) (jo_icF (jz_geF c14))) ?_
    refine Eq.trans (jb_nx (i := .iload 4) (n := 2) (q := (45, [some (.ref p0), o1, some (.int i2), some (.int i3), some (.int i4), some (.int i5)], [.int i4])) (jq qX13_around 26 rfl) rfl) ?_
    refine Eq.trans (jb_nx (i := .aload_n 0) (n := 1) (q := (46, [some (.ref p0), o1, some (.int i2), some (.int i3), some (.int i4), some (.int i5)], [.ref p0, .int i4])) (jq qX13_around 27 rfl) rfl) ?_
    obtain ⟨a15, e16, H⟩ := jbd H
    refine Eq.trans (jb_nx (i := .getfield 43) (n := 3) (q := (49, [some (.ref p0), o1, some (.int i2), some (.int i3), some (.int i4), some (.int i5)], [.ref a15, .int i4])) (jq qX13_around 28 rfl) (jo_gf rfl (jr_R_inv e16))) ?_
    refine Eq.trans (jb_nx (i := .iload 5) (n := 2) (q := (51, [some (.ref p0), o1, some (.int i2), some (.int i3), some (.int i4), some (.int i5)], [.int i5, .ref a15, .int i4])) (jq qX13_around 29 rfl) rfl) ?_
    obtain ⟨y17, e18, H⟩ := jbd H
    refine Eq.trans (jb_nx (i := .laload) (n := 1) (q := (52, [some (.ref p0), o1, some (.int i2), some (.int i3), some (.int i4), some (.int i5)], [.long y17, .int i4])) (jq qX13_around 30 rfl) (jo_lal e18)) ?_
    refine Eq.trans (jb_nx (i := .lconst 0) (n := 1) (q := (53, [some (.ref p0), o1, some (.int i2), some (.int i3), some (.int i4), some (.int i5)], [.long 0, .long y17, .int i4])) (jq qX13_around 31 rfl) rfl) ?_
    refine Eq.trans (jb_nx (i := .lcmp) (n := 1) (q := (54, [some (.ref p0), o1, some (.int i2), some (.int i3), some (.int i4), some (.int i5)], [.int (lg_cmp y17 0), .int i4])) (jq qX13_around 32 rfl) rfl) ?_
    by_cases c19 : (lg_cmp y17 0) < 0
    · rw [if_pos c19] at H
      refine Eq.trans (jb_nx (i := .ifCond .ge 20) (n := 3) (q := (57, [some (.ref p0), o1, some (.int i2), some (.int i3), some (.int i4), some (.int i5)], [.int i4])) (jq qX13_around 33 rfl) (jo_ifF (jz_geF c19))) ?_
      refine Eq.trans (jb_nx (i := .aload_n 0) (n := 1) (q := (58, [some (.ref p0), o1, some (.int i2), some (.int i3), some (.int i4), some (.int i5)], [.ref p0, .int i4])) (jq qX13_around 34 rfl) rfl) ?_
      obtain ⟨a20, e21, H⟩ := jbd H
      refine Eq.trans (jb_nx (i := .getfield 43) (n := 3) (q := (61, [some (.ref p0), o1, some (.int i2), some (.int i3), some (.int i4), some (.int i5)], [.ref a20, .int i4])) (jq qX13_around 35 rfl) (jo_gf rfl (jr_R_inv e21))) ?_
      refine Eq.trans (jb_nx (i := .iload 5) (n := 2) (q := (63, [some (.ref p0), o1, some (.int i2), some (.int i3), some (.int i4), some (.int i5)], [.int i5, .ref a20, .int i4])) (jq qX13_around 36 rfl) rfl) ?_
      rcases jcI H with ⟨x24, h22, r23, H⟩ | ⟨w26, h27, r23, H⟩
      · refine Eq.trans (jb_nx (i := .invokestatic 78) (n := 3) (q := (66, [some (.ref p0), o1, some (.int i2), some (.int i3), some (.int i4), some (.int i5)], [.int x24, .int i4])) (jq qX13_around 37 rfl) (jo_cs (y := mX13_end) (w := 1) (by decide) rfl (Nat.le_of_ble_eq_true rfl) rfl (Nat.le_of_ble_eq_true rfl) rfl r23 jo_ret)) ?_
        refine Eq.trans (jb_nx (i := .iload_n 3) (n := 1) (q := (67, [some (.ref p0), o1, some (.int i2), some (.int i3), some (.int i4), some (.int i5)], [.int i3, .int x24, .int i4])) (jq qX13_around 38 rfl) rfl) ?_
        by_cases c25 : i3 < x24
        · rw [if_pos c25] at H
          refine Eq.trans (jb_nx (i := .if_icmp .le 7) (n := 3) (q := (70, [some (.ref p0), o1, some (.int i2), some (.int i3), some (.int i4), some (.int i5)], [.int i4])) (jq qX13_around 39 rfl) (jo_icF (jz_leF c25))) ?_
          refine Eq.trans (jb_nx (i := .iconst 1) (n := 1) (q := (71, [some (.ref p0), o1, some (.int i2), some (.int i3), some (.int i4), some (.int i5)], [.int 1, .int i4])) (jq qX13_around 40 rfl) rfl) ?_
          refine Eq.trans (jb_nx (i := .goto 4) (n := 3) (q := (75, [some (.ref p0), o1, some (.int i2), some (.int i3), some (.int i4), some (.int i5)], [.int 1, .int i4])) (jq qX13_around 41 rfl) rfl) ?_
          refine Eq.trans (jb_nx (i := .iadd) (n := 1) (q := (76, [some (.ref p0), o1, some (.int i2), some (.int i3), some (.int i4), some (.int i5)], [.int (i4 + 1)])) (jq qX13_around 43 rfl) rfl) ?_
          refine Eq.trans (jb_nx (i := .istore 4) (n := 2) (q := (78, [some (.ref p0), o1, some (.int i2), some (.int i3), some (.int (i4 + 1)), some (.int i5)], [])) (jq qX13_around 44 rfl) rfl) ?_
          refine Eq.trans (jb_nx (i := .iinc 5 1) (n := 3) (q := (81, [some (.ref p0), o1, some (.int i2), some (.int i3), some (.int (i4 + 1)), some (.int (i5 + 1))], [])) (jq qX13_around 45 rfl) rfl) ?_
          refine Eq.trans (jb_nx (i := .goto (-44)) (n := 3) (q := (37, [some (.ref p0), o1, some (.int i2), some (.int i3), some (.int (i4 + 1)), some (.int (i5 + 1))], [])) (jq qX13_around 46 rfl) rfl) ?_
          exact H
        · rw [if_neg c25] at H
          refine Eq.trans (jb_nx (i := .if_icmp .le 7) (n := 3) (q := (74, [some (.ref p0), o1, some (.int i2), some (.int i3), some (.int i4), some (.int i5)], [.int i4])) (jq qX13_around 39 rfl) (jo_icT (jz_leT c25) rfl)) ?_
          refine Eq.trans (jb_nx (i := .iconst 0) (n := 1) (q := (75, [some (.ref p0), o1, some (.int i2), some (.int i3), some (.int i4), some (.int i5)], [.int 0, .int i4])) (jq qX13_around 42 rfl) rfl) ?_
          refine Eq.trans (jb_nx (i := .iadd) (n := 1) (q := (76, [some (.ref p0), o1, some (.int i2), some (.int i3), some (.int i4), some (.int i5)], [.int (i4 + 0)])) (jq qX13_around 43 rfl) rfl) ?_
          refine Eq.trans (jb_nx (i := .istore 4) (n := 2) (q := (78, [some (.ref p0), o1, some (.int i2), some (.int i3), some (.int (i4 + 0)), some (.int i5)], [])) (jq qX13_around 44 rfl) rfl) ?_
          refine Eq.trans (jb_nx (i := .iinc 5 1) (n := 3) (q := (81, [some (.ref p0), o1, some (.int i2), some (.int i3), some (.int (i4 + 0)), some (.int (i5 + 1))], [])) (jq qX13_around 45 rfl) rfl) ?_
          refine Eq.trans (jb_nx (i := .goto (-44)) (n := 3) (q := (37, [some (.ref p0), o1, some (.int i2), some (.int i3), some (.int (i4 + 0)), some (.int (i5 + 1))], [])) (jq qX13_around 46 rfl) rfl) ?_
          exact H
      · exact Eq.trans (jb_rt (i := .invokestatic 78) (n := 3) (jq qX13_around 37 rfl) (jo_cs (y := mX13_end) (w := 1) (by decide) rfl (Nat.le_of_ble_eq_true rfl) rfl (Nat.le_of_ble_eq_true rfl) rfl r23 (jo_exn rfl))) H
    · rw [if_neg c19] at H
      refine Eq.trans (jb_nx (i := .ifCond .ge 20) (n := 3) (q := (74, [some (.ref p0), o1, some (.int i2), some (.int i3), some (.int i4), some (.int i5)], [.int i4])) (jq qX13_around 33 rfl) (jo_ifT (jz_geT c19) rfl)) ?_
      refine Eq.trans (jb_nx (i := .iconst 0) (n := 1) (q := (75, [some (.ref p0), o1, some (.int i2), some (.int i3), some (.int i4), some (.int i5)], [.int 0, .int i4])) (jq qX13_around 42 rfl) rfl) ?_
      refine Eq.trans (jb_nx (i := .iadd) (n := 1) (q := (76, [some (.ref p0), o1, some (.int i2), some (.int i3), some (.int i4), some (.int i5)], [.int (i4 + 0)])) (jq qX13_around 43 rfl) rfl) ?_
      refine Eq.trans (jb_nx (i := .istore 4) (n := 2) (q := (78, [some (.ref p0), o1, some (.int i2), some (.int i3), some (.int (i4 + 0)), some (.int i5)], [])) (jq qX13_around 44 rfl) rfl) ?_
      refine Eq.trans (jb_nx (i := .iinc 5 1) (n := 3) (q := (81, [some (.ref p0), o1, some (.int i2), some (.int i3), some (.int (i4 + 0)), some (.int (i5 + 1))], [])) (jq qX13_around 45 rfl) rfl) ?_
      refine Eq.trans (jb_nx (i := .goto (-44)) (n := 3) (q := (37, [some (.ref p0), o1, some (.int i2), some (.int i3), some (.int (i4 + 0)), some (.int (i5 + 1))], [])) (jq qX13_around 46 rfl) rfl) ?_
      exact H
  · rw [if_neg c14] at H
    refine Eq.trans (jb_nx (i := .if_icmp .ge 44) (n := 3) (q := (84, [some (.ref p0), o1, some (.int i2), some (.int i3), some (.int i4), some (.int i5)], [])) (jq qX13_around 25 rfl) (jo_icT (jz_geT c14) rfl)) ?_
    refine Eq.trans (jb_nx (i := .iload_n 2) (n := 1) (q := (85, [some (.ref p0), o1, some (.int i2), some (.int i3), some (.int i4), some (.int i5)], [.int i2])) (jq qX13_around 47 rfl) rfl) ?_
    refine Eq.trans (jb_nx (i := .iload 4) (n := 2) (q := (87, [some (.ref p0), o1, some (.int i2), some (.int i3), some (.int i4), some (.int i5)], [.int i4, .int i2])) (jq qX13_around 48 rfl) rfl) ?_
    refine Eq.trans (jb_nx (i := .invokestatic 209) (n := 3) (q := (90, [some (.ref p0), o1, some (.int i2), some (.int i3), some (.int i4), some (.int i5)], [.int (if i2 < i4 then i4 else i2)])) (jq qX13_around 49 rfl) (jo_mx (z := mX3_clear) rfl (Nat.le_of_ble_eq_true rfl))) ?_
    refine Eq.trans (jb_nx (i := .istore_n 2) (n := 1) (q := (91, [some (.ref p0), (jm_dm o1), some (.int (if i2 < i4 then i4 else i2)), some (.int i3), some (.int i4), some (.int i5)], [])) (jq qX13_around 50 rfl) rfl) ?_
    refine Eq.trans (jb_nx (i := .iinc 3 1) (n := 3) (q := (94, [some (.ref p0), (jm_dm o1), some (.int (if i2 < i4 then i4 else i2)), some (.int (i3 + 1)), some (.int i4), some (.int i5)], [])) (jq qX13_around 51 rfl) rfl) ?_
    refine Eq.trans (jb_nx (i := .goto (-85)) (n := 3) (q := (9, [some (.ref p0), (jm_dm o1), some (.int (if i2 < i4 then i4 else i2)), some (.int (i3 + 1)), some (.int i4), some (.int i5)], [])) (jq qX13_around 52 rfl) rfl) ?_
    exact H
theorem gX13_around {d : Nat} {p0 : Nat} {i1 : Int32} {h : jm_H} {r : jm_R} (H : (jm_O h p0 13 (jc_V (jm_D d mX13_takeUp [.ref p0, .int i1] h) (fun h1 => kX13_around_9 d p0 (some (.int i1)) 0 0 none none h1) jx)) = some r) : jm_D (d + 1) mX13_around [.ref p0, .int i1] h = some r := by
  rw [jm_D_body (Nat.le_of_ble_eq_true rfl)]
  show jm_B d mX13_around (0, [some (.ref p0), some (.int i1), none, none, none, none], []) h = some r
  refine Eq.trans (jb_nx (i := .aload_n 0) (n := 1) (q := (1, [some (.ref p0), some (.int i1), none, none, none, none], [.ref p0])) (jq qX13_around 0 rfl) rfl) ?_
  refine Eq.trans (jb_nx (i := .iload_n 1) (n := 1) (q := (2, [some (.ref p0), some (.int i1), none, none, none, none], [.int i1, .ref p0])) (jq qX13_around 1 rfl) rfl) ?_
  obtain ⟨b3, H⟩ := jm_O_inv H
  rcases jcV H with ⟨h1, r2, H⟩ | ⟨w4, h5, r2, H⟩
  · refine Eq.trans (jb_nx (i := .invokevirtual 146) (n := 3) (q := (5, [some (.ref p0), some (.int i1), none, none, none, none], [])) (jq qX13_around 2 rfl) (jo_cv (y := mX13_takeUp) rfl (Nat.le_of_ble_eq_true rfl) rfl (Nat.le_of_ble_eq_true rfl) b3 rfl r2 jo_ret)) ?_
    refine Eq.trans (jb_nx (i := .iconst 0) (n := 1) (q := (6, [some (.ref p0), some (.int i1), none, none, none, none], [.int 0])) (jq qX13_around 3 rfl) rfl) ?_
    refine Eq.trans (jb_nx (i := .istore_n 2) (n := 1) (q := (7, [some (.ref p0), some (.int i1), some (.int 0), none, none, none], [])) (jq qX13_around 4 rfl) rfl) ?_
    refine Eq.trans (jb_nx (i := .iconst 0) (n := 1) (q := (8, [some (.ref p0), some (.int i1), some (.int 0), none, none, none], [.int 0])) (jq qX13_around 5 rfl) rfl) ?_
    refine Eq.trans (jb_nx (i := .istore_n 3) (n := 1) (q := (9, [some (.ref p0), some (.int i1), some (.int 0), some (.int 0), none, none], [])) (jq qX13_around 6 rfl) rfl) ?_
    exact H
  · exact Eq.trans (jb_rt (i := .invokevirtual 146) (n := 3) (jq qX13_around 2 rfl) (jo_cv (y := mX13_takeUp) rfl (Nat.le_of_ble_eq_true rfl) rfl (Nat.le_of_ble_eq_true rfl) b3 rfl r2 (jo_exn rfl))) H
/-! MaskPlaysModel takeUp (I)V -/
def tX13_takeUp : List (Nat × Instr × Nat) := [(0, .aload_n 0, 1), (1, .aload_n 0, 1), (2, .getfield 28, 3), (5, .iload_n 1, 1), (6, .iaload, 1), (7, .putfield 82, 3), (10, .aload_n 0, 1), (11, .getfield 24, 3), (14, .sipush 150, 3), (17, .iload_n 1, 1), (18, .imul, 1), (19, .aload_n 0, 1), (20, .getfield 43, 3), (23, .iconst 0, 1), (24, .aload_n 0, 1), (25, .getfield 82, 3), (28, .invokestatic 128, 3), (31, .return_, 1)]
set_option maxRecDepth 100000 in
theorem qX13_takeUp : ∀ q ∈ tX13_takeUp, decode cX13_takeUp q.1 = .ok (q.2.1, q.2.2) := by decide +kernel
theorem gX13_takeUp {d : Nat} {p0 : Nat} {i1 : Int32} {h : jm_H} {r : jm_R} (H : ((jr_R h p0 12 9 2).bind fun a1 => (jm_ali h a1 0 i1).bind fun x3 => (jm_pf h p0 12 19 0 (.int x3)).bind fun h5 => (jr_R h5 p0 12 8 2).bind fun a7 => (jr_R h5 p0 12 18 2).bind fun a9 => (jr_I h5 p0 12 19 0).bind fun x11 => (jm_cpy h5 a7 (150 * i1) a9 0 x11).bind fun h13 => some (.inl none, h13)) = some r) : jm_D (d + 1) mX13_takeUp [.ref p0, .int i1] h = some r := by
  rw [jm_D_body (Nat.le_of_ble_eq_true rfl)]
  show jm_B d mX13_takeUp (0, [some (.ref p0), some (.int i1)], []) h = some r
  refine Eq.trans (jb_nx (i := .aload_n 0) (n := 1) (q := (1, [some (.ref p0), some (.int i1)], [.ref p0])) (jq qX13_takeUp 0 rfl) rfl) ?_
  refine Eq.trans (jb_nx (i := .aload_n 0) (n := 1) (q := (2, [some (.ref p0), some (.int i1)], [.ref p0, .ref p0])) (jq qX13_takeUp 1 rfl) rfl) ?_
  obtain ⟨a1, e2, H⟩ := jbd H
  refine Eq.trans (jb_nx (i := .getfield 28) (n := 3) (q := (5, [some (.ref p0), some (.int i1)], [.ref a1, .ref p0])) (jq qX13_takeUp 2 rfl) (jo_gf rfl (jr_R_inv e2))) ?_
  refine Eq.trans (jb_nx (i := .iload_n 1) (n := 1) (q := (6, [some (.ref p0), some (.int i1)], [.int i1, .ref a1, .ref p0])) (jq qX13_takeUp 3 rfl) rfl) ?_
  obtain ⟨x3, e4, H⟩ := jbd H
  refine Eq.trans (jb_nx (i := .iaload) (n := 1) (q := (7, [some (.ref p0), some (.int i1)], [.int x3, .ref p0])) (jq qX13_takeUp 4 rfl) (jo_ial e4)) ?_
  obtain ⟨h5, e6, H⟩ := jbd H
  refine Eq.trans (jb_nx (i := .putfield 82) (n := 3) (q := (10, [some (.ref p0), some (.int i1)], [])) (jq qX13_takeUp 5 rfl) (jo_pf rfl (Or.inl rfl) e6)) ?_
  refine Eq.trans (jb_nx (i := .aload_n 0) (n := 1) (q := (11, [some (.ref p0), some (.int i1)], [.ref p0])) (jq qX13_takeUp 6 rfl) rfl) ?_
  obtain ⟨a7, e8, H⟩ := jbd H
  refine Eq.trans (jb_nx (i := .getfield 24) (n := 3) (q := (14, [some (.ref p0), some (.int i1)], [.ref a7])) (jq qX13_takeUp 7 rfl) (jo_gf rfl (jr_R_inv e8))) ?_
  refine Eq.trans (jb_nx (i := .sipush 150) (n := 3) (q := (17, [some (.ref p0), some (.int i1)], [.int 150, .ref a7])) (jq qX13_takeUp 8 rfl) rfl) ?_
  refine Eq.trans (jb_nx (i := .iload_n 1) (n := 1) (q := (18, [some (.ref p0), some (.int i1)], [.int i1, .int 150, .ref a7])) (jq qX13_takeUp 9 rfl) rfl) ?_
  refine Eq.trans (jb_nx (i := .imul) (n := 1) (q := (19, [some (.ref p0), some (.int i1)], [.int (150 * i1), .ref a7])) (jq qX13_takeUp 10 rfl) rfl) ?_
  refine Eq.trans (jb_nx (i := .aload_n 0) (n := 1) (q := (20, [some (.ref p0), some (.int i1)], [.ref p0, .int (150 * i1), .ref a7])) (jq qX13_takeUp 11 rfl) rfl) ?_
  obtain ⟨a9, e10, H⟩ := jbd H
  refine Eq.trans (jb_nx (i := .getfield 43) (n := 3) (q := (23, [some (.ref p0), some (.int i1)], [.ref a9, .int (150 * i1), .ref a7])) (jq qX13_takeUp 12 rfl) (jo_gf rfl (jr_R_inv e10))) ?_
  refine Eq.trans (jb_nx (i := .iconst 0) (n := 1) (q := (24, [some (.ref p0), some (.int i1)], [.int 0, .ref a9, .int (150 * i1), .ref a7])) (jq qX13_takeUp 13 rfl) rfl) ?_
  refine Eq.trans (jb_nx (i := .aload_n 0) (n := 1) (q := (25, [some (.ref p0), some (.int i1)], [.ref p0, .int 0, .ref a9, .int (150 * i1), .ref a7])) (jq qX13_takeUp 14 rfl) rfl) ?_
  obtain ⟨x11, e12, H⟩ := jbd H
  refine Eq.trans (jb_nx (i := .getfield 82) (n := 3) (q := (28, [some (.ref p0), some (.int i1)], [.int x11, .int 0, .ref a9, .int (150 * i1), .ref a7])) (jq qX13_takeUp 15 rfl) (jo_gf rfl (jr_I_inv e12))) ?_
  obtain ⟨h13, e14, H⟩ := jbd H
  refine Eq.trans (jb_nx (i := .invokestatic 128) (n := 3) (q := (31, [some (.ref p0), some (.int i1)], [])) (jq qX13_takeUp 16 rfl) (jo_cpy (z := mX3_clear) rfl (Nat.le_of_ble_eq_true rfl) e14)) ?_
  exact Eq.trans (jb_rt (i := .return_) (n := 1) (jq qX13_takeUp 17 rfl) rfl) H
/-! MaskPlaysModel end ([JI)I -/
def tX13_end : List (Nat × Instr × Nat) := [(0, .iconst 1, 1), (1, .istore_n 2, 1), (2, .iload_n 1, 1), (3, .istore_n 3, 1), (4, .iload_n 2, 1), (5, .ifCond .le 37, 3), (8, .iload_n 2, 1), (9, .aload_n 0, 1), (10, .iload_n 3, 1), (11, .laload, 1), (12, .lconst 0, 1), (13, .lcmp, 1), (14, .ifCond .ne 7, 3), (17, .iconst 1, 1), (18, .goto 16, 3), (21, .aload_n 0, 1), (22, .iload_n 3, 1), (23, .laload, 1), (24, .lconst 0, 1), (25, .lcmp, 1), (26, .ifCond .ge 7, 3), (29, .iconst 0, 1), (30, .goto 4, 3), (33, .iconst (-1), 1), (34, .iadd, 1), (35, .istore_n 2, 1), (36, .iinc 3 1, 3), (39, .goto (-35), 3), (42, .iload_n 3, 1), (43, .ireturn, 1)]
set_option maxRecDepth 100000 in
theorem qX13_end : ∀ q ∈ tX13_end, decode cX13_end q.1 = .ok (q.2.1, q.2.2) := by decide +kernel
noncomputable def kX13_end_4 (d : Nat) (p0 : Nat) (o1 : Option Value) (i2 : Int32) (i3 : Int32) (h : jm_H) : Option jm_R := jm_B d mX13_end (4, [some (.ref p0), o1, some (.int i2), some (.int i3)], []) h
theorem gX13_end_4 {d : Nat} {p0 : Nat} {o1 : Option Value} {i2 : Int32} {i3 : Int32} {h : jm_H} {r : jm_R} (H : ((if 0 < i2 then (jm_all h p0 i3).bind fun y2 => (if (lg_cmp y2 0) = 0 then kX13_end_4 d p0 (jm_dm o1) (i2 + 1) (i3 + 1) h else (jm_all h p0 i3).bind fun y5 => (if (lg_cmp y5 0) < 0 then kX13_end_4 d p0 (jm_dm o1) (i2 + 0) (i3 + 1) h else kX13_end_4 d p0 (jm_dm o1) (i2 + (-1)) (i3 + 1) h)) else some (.inl (some (.int i3)), h))) = some r) : kX13_end_4 d p0 o1 i2 i3 h = some r := by
  show jm_B d mX13_end (4, [some (.ref p0), o1, some (.int i2), some (.int i3)], []) h = some r
  refine Eq.trans (jb_nx (i := .iload_n 2) (n := 1) (q := (5, [some (.ref p0), o1, some (.int i2), some (.int i3)], [.int i2])) (jq qX13_end 4 rfl) rfl) ?_
  by_cases c1 : 0 < i2
  · rw [if_pos c1] at H
    refine Eq.trans (jb_nx (i := .ifCond .le 37) (n := 3) (q := (8, [some (.ref p0), o1, some (.int i2), some (.int i3)], [])) (jq qX13_end 5 rfl) (jo_ifF (jz_leF c1))) ?_
    refine Eq.trans (jb_nx (i := .iload_n 2) (n := 1) (q := (9, [some (.ref p0), o1, some (.int i2), some (.int i3)], [.int i2])) (jq qX13_end 6 rfl) rfl) ?_
    refine Eq.trans (jb_nx (i := .aload_n 0) (n := 1) (q := (10, [some (.ref p0), o1, some (.int i2), some (.int i3)], [.ref p0, .int i2])) (jq qX13_end 7 rfl) rfl) ?_
    refine Eq.trans (jb_nx (i := .iload_n 3) (n := 1) (q := (11, [some (.ref p0), o1, some (.int i2), some (.int i3)], [.int i3, .ref p0, .int i2])) (jq qX13_end 8 rfl) rfl) ?_
    obtain ⟨y2, e3, H⟩ := jbd H
    refine Eq.trans (jb_nx (i := .laload) (n := 1) (q := (12, [some (.ref p0), o1, some (.int i2), some (.int i3)], [.long y2, .int i2])) (jq qX13_end 9 rfl) (jo_lal e3)) ?_
    refine Eq.trans (jb_nx (i := .lconst 0) (n := 1) (q := (13, [some (.ref p0), o1, some (.int i2), some (.int i3)], [.long 0, .long y2, .int i2])) (jq qX13_end 10 rfl) rfl) ?_
    refine Eq.trans (jb_nx (i := .lcmp) (n := 1) (q := (14, [some (.ref p0), o1, some (.int i2), some (.int i3)], [.int (lg_cmp y2 0), .int i2])) (jq qX13_end 11 rfl) rfl) ?_
    by_cases c4 : (lg_cmp y2 0) = 0
    · rw [if_pos c4] at H
      refine Eq.trans (jb_nx (i := .ifCond .ne 7) (n := 3) (q := (17, [some (.ref p0), o1, some (.int i2), some (.int i3)], [.int i2])) (jq qX13_end 12 rfl) (jo_ifF (jz_neF c4))) ?_
      refine Eq.trans (jb_nx (i := .iconst 1) (n := 1) (q := (18, [some (.ref p0), o1, some (.int i2), some (.int i3)], [.int 1, .int i2])) (jq qX13_end 13 rfl) rfl) ?_
      refine Eq.trans (jb_nx (i := .goto 16) (n := 3) (q := (34, [some (.ref p0), o1, some (.int i2), some (.int i3)], [.int 1, .int i2])) (jq qX13_end 14 rfl) rfl) ?_
      refine Eq.trans (jb_nx (i := .iadd) (n := 1) (q := (35, [some (.ref p0), o1, some (.int i2), some (.int i3)], [.int (i2 + 1)])) (jq qX13_end 24 rfl) rfl) ?_
      refine Eq.trans (jb_nx (i := .istore_n 2) (n := 1) (q := (36, [some (.ref p0), (jm_dm o1), some (.int (i2 + 1)), some (.int i3)], [])) (jq qX13_end 25 rfl) rfl) ?_
      refine Eq.trans (jb_nx (i := .iinc 3 1) (n := 3) (q := (39, [some (.ref p0), (jm_dm o1), some (.int (i2 + 1)), some (.int (i3 + 1))], [])) (jq qX13_end 26 rfl) rfl) ?_
      refine Eq.trans (jb_nx (i := .goto (-35)) (n := 3) (q := (4, [some (.ref p0), (jm_dm o1), some (.int (i2 + 1)), some (.int (i3 + 1))], [])) (jq qX13_end 27 rfl) rfl) ?_
      exact H
    · rw [if_neg c4] at H
      refine Eq.trans (jb_nx (i := .ifCond .ne 7) (n := 3) (q := (21, [some (.ref p0), o1, some (.int i2), some (.int i3)], [.int i2])) (jq qX13_end 12 rfl) (jo_ifT (jz_neT c4) rfl)) ?_
      refine Eq.trans (jb_nx (i := .aload_n 0) (n := 1) (q := (22, [some (.ref p0), o1, some (.int i2), some (.int i3)], [.ref p0, .int i2])) (jq qX13_end 15 rfl) rfl) ?_
      refine Eq.trans (jb_nx (i := .iload_n 3) (n := 1) (q := (23, [some (.ref p0), o1, some (.int i2), some (.int i3)], [.int i3, .ref p0, .int i2])) (jq qX13_end 16 rfl) rfl) ?_
      obtain ⟨y5, e6, H⟩ := jbd H
      refine Eq.trans (jb_nx (i := .laload) (n := 1) (q := (24, [some (.ref p0), o1, some (.int i2), some (.int i3)], [.long y5, .int i2])) (jq qX13_end 17 rfl) (jo_lal e6)) ?_
      refine Eq.trans (jb_nx (i := .lconst 0) (n := 1) (q := (25, [some (.ref p0), o1, some (.int i2), some (.int i3)], [.long 0, .long y5, .int i2])) (jq qX13_end 18 rfl) rfl) ?_
      refine Eq.trans (jb_nx (i := .lcmp) (n := 1) (q := (26, [some (.ref p0), o1, some (.int i2), some (.int i3)], [.int (lg_cmp y5 0), .int i2])) (jq qX13_end 19 rfl) rfl) ?_
      by_cases c7 : (lg_cmp y5 0) < 0
      · rw [if_pos c7] at H
        refine Eq.trans (jb_nx (i := .ifCond .ge 7) (n := 3) (q := (29, [some (.ref p0), o1, some (.int i2), some (.int i3)], [.int i2])) (jq qX13_end 20 rfl) (jo_ifF (jz_geF c7))) ?_
        refine Eq.trans (jb_nx (i := .iconst 0) (n := 1) (q := (30, [some (.ref p0), o1, some (.int i2), some (.int i3)], [.int 0, .int i2])) (jq qX13_end 21 rfl) rfl) ?_
        refine Eq.trans (jb_nx (i := .goto 4) (n := 3) (q := (34, [some (.ref p0), o1, some (.int i2), some (.int i3)], [.int 0, .int i2])) (jq qX13_end 22 rfl) rfl) ?_
        refine Eq.trans (jb_nx (i := .iadd) (n := 1) (q := (35, [some (.ref p0), o1, some (.int i2), some (.int i3)], [.int (i2 + 0)])) (jq qX13_end 24 rfl) rfl) ?_
        refine Eq.trans (jb_nx (i := .istore_n 2) (n := 1) (q := (36, [some (.ref p0), (jm_dm o1), some (.int (i2 + 0)), some (.int i3)], [])) (jq qX13_end 25 rfl) rfl) ?_
        refine Eq.trans (jb_nx (i := .iinc 3 1) (n := 3) (q := (39, [some (.ref p0), (jm_dm o1), some (.int (i2 + 0)), some (.int (i3 + 1))], [])) (jq qX13_end 26 rfl) rfl) ?_
        refine Eq.trans (jb_nx (i := .goto (-35)) (n := 3) (q := (4, [some (.ref p0), (jm_dm o1), some (.int (i2 + 0)), some (.int (i3 + 1))], [])) (jq qX13_end 27 rfl) rfl) ?_
        exact H
      · rw [if_neg c7] at H
        refine Eq.trans (jb_nx (i := .ifCond .ge 7) (n := 3) (q := (33, [some (.ref p0), o1, some (.int i2), some (.int i3)], [.int i2])) (jq qX13_end 20 rfl) (jo_ifT (jz_geT c7) rfl)) ?_
        refine Eq.trans (jb_nx (i := .iconst (-1)) (n := 1) (q := (34, [some (.ref p0), o1, some (.int i2), some (.int i3)], [.int (-1), .int i2])) (jq qX13_end 23 rfl) rfl) ?_
        refine Eq.trans (jb_nx (i := .iadd) (n := 1) (q := (35, [some (.ref p0), o1, some (.int i2), some (.int i3)], [.int (i2 + (-1))])) (jq qX13_end 24 rfl) rfl) ?_
        refine Eq.trans (jb_nx (i := .istore_n 2) (n := 1) (q := (36, [some (.ref p0), (jm_dm o1), some (.int (i2 + (-1))), some (.int i3)], [])) (jq qX13_end 25 rfl) rfl) ?_
        refine Eq.trans (jb_nx (i := .iinc 3 1) (n := 3) (q := (39, [some (.ref p0), (jm_dm o1), some (.int (i2 + (-1))), some (.int (i3 + 1))], [])) (jq qX13_end 26 rfl) rfl) ?_
        refine Eq.trans (jb_nx (i := .goto (-35)) (n := 3) (q := (4, [some (.ref p0), (jm_dm o1), some (.int (i2 + (-1))), some (.int (i3 + 1))], [])) (jq qX13_end 27 rfl) rfl) ?_
        exact H
  · rw [if_neg c1] at H
    refine Eq.trans (jb_nx (i := .ifCond .le 37) (n := 3) (q := (42, [some (.ref p0), o1, some (.int i2), some (.int i3)], [])) (jq qX13_end 5 rfl) (jo_ifT (jz_leT c1) rfl)) ?_
    refine Eq.trans (jb_nx (i := .iload_n 3) (n := 1) (q := (43, [some (.ref p0), o1, some (.int i2), some (.int i3)], [.int i3])) (jq qX13_end 28 rfl) rfl) ?_
    exact Eq.trans (jb_rt (i := .ireturn) (n := 1) (jq qX13_end 29 rfl) (jo_iret rfl rfl)) H
theorem gX13_end {d : Nat} {p0 : Nat} {i1 : Int32} {h : jm_H} {r : jm_R} (H : (kX13_end_4 d p0 (some (.int i1)) 1 i1 h) = some r) : jm_D (d + 1) mX13_end [.ref p0, .int i1] h = some r := by
  rw [jm_D_body (Nat.le_of_ble_eq_true rfl)]
  show jm_B d mX13_end (0, [some (.ref p0), some (.int i1), none, none], []) h = some r
  refine Eq.trans (jb_nx (i := .iconst 1) (n := 1) (q := (1, [some (.ref p0), some (.int i1), none, none], [.int 1])) (jq qX13_end 0 rfl) rfl) ?_
  refine Eq.trans (jb_nx (i := .istore_n 2) (n := 1) (q := (2, [some (.ref p0), some (.int i1), some (.int 1), none], [])) (jq qX13_end 1 rfl) rfl) ?_
  refine Eq.trans (jb_nx (i := .iload_n 1) (n := 1) (q := (3, [some (.ref p0), some (.int i1), some (.int 1), none], [.int i1])) (jq qX13_end 2 rfl) rfl) ?_
  refine Eq.trans (jb_nx (i := .istore_n 3) (n := 1) (q := (4, [some (.ref p0), some (.int i1), some (.int 1), some (.int i1)], [])) (jq qX13_end 3 rfl) rfl) ?_
  exact H
/-! MaskPlaysModel standsIn (II)I -/
def tX13_standsIn : List (Nat × Instr × Nat) := [(0, .aload_n 0, 1), (1, .iconst 0, 1), (2, .putfield 68, 3), (5, .aload_n 0, 1), (6, .iload_n 1, 1), (7, .invokevirtual 473, 3), (10, .ifCond .eq 37, 3), (13, .iload_n 2, 1), (14, .iconst 0, 1), (15, .aload_n 0, 1), (16, .getfield 20, 3), (19, .getfield 411, 3), (22, .iconst 1, 1), (23, .isub, 1), (24, .invokestatic 74, 3), (27, .ifCond .eq 20, 3), (30, .aload_n 0, 1), (31, .iload_n 1, 1), (32, .aload_n 0, 1), (33, .getfield 20, 3), (36, .getfield 408, 3), (39, .iload_n 2, 1), (40, .laload, 1), (41, .invokevirtual 481, 3), (44, .goto 8, 3), (47, .aload_n 0, 1), (48, .iconst 1, 1), (49, .invokevirtual 463, 3), (52, .ireturn, 1)]
set_option maxRecDepth 100000 in
theorem qX13_standsIn : ∀ q ∈ tX13_standsIn, decode cX13_standsIn q.1 = .ok (q.2.1, q.2.2) := by decide +kernel
theorem gX13_standsIn {d : Nat} {p0 : Nat} {i1 : Int32} {i2 : Int32} {h : jm_H} {r : jm_R} (H : ((jm_pf h p0 12 0 0 (.int 0)).bind fun h1 => jm_O h1 p0 13 (jc_I (jm_D d mX13_isPlay [.ref p0, .int i1] h1) (fun x5 h3 => (if x5 = 0 then jm_O h3 p0 13 (jc_I (jm_D d mX13_no [.ref p0, .int 1] h3) (fun x9 h7 => some (.inl (some (.int x9)), h7)) jx) else (jr_R h3 p0 12 4 2).bind fun a13 => (jr_I h3 a13 11 6 0).bind fun x15 => jc_I (jm_D d mX13_isIn [.int i2, .int 0, .int (x15 - 1)] h3) (fun x19 h17 => (if x19 = 0 then jm_O h17 p0 13 (jc_I (jm_D d mX13_no [.ref p0, .int 1] h17) (fun x23 h21 => some (.inl (some (.int x23)), h21)) jx) else (jr_R h17 p0 12 4 2).bind fun a27 => (jr_R h17 a27 11 7 2).bind fun a29 => (jm_all h17 a29 i2).bind fun y31 => jm_O h17 p0 13 (jc_I (jm_D d mX13_stands [.ref p0, .int i1, .long y31] h17) (fun x35 h33 => some (.inl (some (.int x35)), h33)) jx))) jx)) jx)) = some r) : jm_D (d + 1) mX13_standsIn [.ref p0, .int i1, .int i2] h = some r := by
  rw [jm_D_body (Nat.le_of_ble_eq_true rfl)]
  show jm_B d mX13_standsIn (0, [some (.ref p0), some (.int i1), some (.int i2)], []) h = some r
  refine Eq.trans (jb_nx (i := .aload_n 0) (n := 1) (q := (1, [some (.ref p0), some (.int i1), some (.int i2)], [.ref p0])) (jq qX13_standsIn 0 rfl) rfl) ?_
  refine Eq.trans (jb_nx (i := .iconst 0) (n := 1) (q := (2, [some (.ref p0), some (.int i1), some (.int i2)], [.int 0, .ref p0])) (jq qX13_standsIn 1 rfl) rfl) ?_
  obtain ⟨h1, e2, H⟩ := jbd H
  refine Eq.trans (jb_nx (i := .putfield 68) (n := 3) (q := (5, [some (.ref p0), some (.int i1), some (.int i2)], [])) (jq qX13_standsIn 2 rfl) (jo_pf rfl (Or.inl rfl) e2)) ?_
  refine Eq.trans (jb_nx (i := .aload_n 0) (n := 1) (q := (6, [some (.ref p0), some (.int i1), some (.int i2)], [.ref p0])) (jq qX13_standsIn 3 rfl) rfl) ?_
  refine Eq.trans (jb_nx (i := .iload_n 1) (n := 1) (q := (7, [some (.ref p0), some (.int i1), some (.int i2)], [.int i1, .ref p0])) (jq qX13_standsIn 4 rfl) rfl) ?_
  obtain ⟨b41, H⟩ := jm_O_inv H
  rcases jcI H with ⟨x5, h3, r4, H⟩ | ⟨w42, h43, r4, H⟩
  · refine Eq.trans (jb_nx (i := .invokevirtual 473) (n := 3) (q := (10, [some (.ref p0), some (.int i1), some (.int i2)], [.int x5])) (jq qX13_standsIn 5 rfl) (jo_cv (y := mX13_isPlay) rfl (Nat.le_of_ble_eq_true rfl) rfl (Nat.le_of_ble_eq_true rfl) b41 rfl r4 jo_ret)) ?_
    by_cases c6 : x5 = 0
    · rw [if_pos c6] at H
      refine Eq.trans (jb_nx (i := .ifCond .eq 37) (n := 3) (q := (47, [some (.ref p0), some (.int i1), some (.int i2)], [])) (jq qX13_standsIn 6 rfl) (jo_ifT (jz_eqT c6) rfl)) ?_
      refine Eq.trans (jb_nx (i := .aload_n 0) (n := 1) (q := (48, [some (.ref p0), some (.int i1), some (.int i2)], [.ref p0])) (jq qX13_standsIn 25 rfl) rfl) ?_
      refine Eq.trans (jb_nx (i := .iconst 1) (n := 1) (q := (49, [some (.ref p0), some (.int i1), some (.int i2)], [.int 1, .ref p0])) (jq qX13_standsIn 26 rfl) rfl) ?_
      obtain ⟨b10, H⟩ := jm_O_inv H
      rcases jcI H with ⟨x9, h7, r8, H⟩ | ⟨w11, h12, r8, H⟩
      · refine Eq.trans (jb_nx (i := .invokevirtual 463) (n := 3) (q := (52, [some (.ref p0), some (.int i1), some (.int i2)], [.int x9])) (jq qX13_standsIn 27 rfl) (jo_cv (y := mX13_no) rfl (Nat.le_of_ble_eq_true rfl) rfl (Nat.le_of_ble_eq_true rfl) b10 rfl r8 jo_ret)) ?_
        exact Eq.trans (jb_rt (i := .ireturn) (n := 1) (jq qX13_standsIn 28 rfl) (jo_iret rfl rfl)) H
      · exact Eq.trans (jb_rt (i := .invokevirtual 463) (n := 3) (jq qX13_standsIn 27 rfl) (jo_cv (y := mX13_no) rfl (Nat.le_of_ble_eq_true rfl) rfl (Nat.le_of_ble_eq_true rfl) b10 rfl r8 (jo_exn rfl))) H
    · rw [if_neg c6] at H
      refine Eq.trans (jb_nx (i := .ifCond .eq 37) (n := 3) (q := (13, [some (.ref p0), some (.int i1), some (.int i2)], [])) (jq qX13_standsIn 6 rfl) (jo_ifF (jz_eqF c6))) ?_
      refine Eq.trans (jb_nx (i := .iload_n 2) (n := 1) (q := (14, [some (.ref p0), some (.int i1), some (.int i2)], [.int i2])) (jq qX13_standsIn 7 rfl) rfl) ?_
      refine Eq.trans (jb_nx (i := .iconst 0) (n := 1) (q := (15, [some (.ref p0), some (.int i1), some (.int i2)], [.int 0, .int i2])) (jq qX13_standsIn 8 rfl) rfl) ?_
      refine Eq.trans (jb_nx (i := .aload_n 0) (n := 1) (q := (16, [some (.ref p0), some (.int i1), some (.int i2)], [.ref p0, .int 0, .int i2])) (jq qX13_standsIn 9 rfl) rfl) ?_
      obtain ⟨a13, e14, H⟩ := jbd H
      refine Eq.trans (jb_nx (i := .getfield 20) (n := 3) (q := (19, [some (.ref p0), some (.int i1), some (.int i2)], [.ref a13, .int 0, .int i2])) (jq qX13_standsIn 10 rfl) (jo_gf rfl (jr_R_inv e14))) ?_
      obtain ⟨x15, e16, H⟩ := jbd H
      refine Eq.trans (jb_nx (i := .getfield 411) (n := 3) (q := (22, [some (.ref p0), some (.int i1), some (.int i2)], [.int x15, .int 0, .int i2])) (jq qX13_standsIn 11 rfl) (jo_gf rfl (jr_I_inv e16))) ?_
      refine Eq.trans (jb_nx (i := .iconst 1) (n := 1) (q := (23, [some (.ref p0), some (.int i1), some (.int i2)], [.int 1, .int x15, .int 0, .int i2])) (jq qX13_standsIn 12 rfl) rfl) ?_
      refine Eq.trans (jb_nx (i := .isub) (n := 1) (q := (24, [some (.ref p0), some (.int i1), some (.int i2)], [.int (x15 - 1), .int 0, .int i2])) (jq qX13_standsIn 13 rfl) rfl) ?_
      rcases jcI H with ⟨x19, h17, r18, H⟩ | ⟨w39, h40, r18, H⟩
      · refine Eq.trans (jb_nx (i := .invokestatic 74) (n := 3) (q := (27, [some (.ref p0), some (.int i1), some (.int i2)], [.int x19])) (jq qX13_standsIn 14 rfl) (jo_cs (y := mX13_isIn) (w := 1) (by decide) rfl (Nat.le_of_ble_eq_true rfl) rfl (Nat.le_of_ble_eq_true rfl) rfl r18 jo_ret)) ?_
        by_cases c20 : x19 = 0
        · rw [if_pos c20] at H
          refine Eq.trans (jb_nx (i := .ifCond .eq 20) (n := 3) (q := (47, [some (.ref p0), some (.int i1), some (.int i2)], [])) (jq qX13_standsIn 15 rfl) (jo_ifT (jz_eqT c20) rfl)) ?_
          refine Eq.trans (jb_nx (i := .aload_n 0) (n := 1) (q := (48, [some (.ref p0), some (.int i1), some (.int i2)], [.ref p0])) (jq qX13_standsIn 25 rfl) rfl) ?_
          refine Eq.trans (jb_nx (i := .iconst 1) (n := 1) (q := (49, [some (.ref p0), some (.int i1), some (.int i2)], [.int 1, .ref p0])) (jq qX13_standsIn 26 rfl) rfl) ?_
          obtain ⟨b24, H⟩ := jm_O_inv H
          rcases jcI H with ⟨x23, h21, r22, H⟩ | ⟨w25, h26, r22, H⟩
          · refine Eq.trans (jb_nx (i := .invokevirtual 463) (n := 3) (q := (52, [some (.ref p0), some (.int i1), some (.int i2)], [.int x23])) (jq qX13_standsIn 27 rfl) (jo_cv (y := mX13_no) rfl (Nat.le_of_ble_eq_true rfl) rfl (Nat.le_of_ble_eq_true rfl) b24 rfl r22 jo_ret)) ?_
            exact Eq.trans (jb_rt (i := .ireturn) (n := 1) (jq qX13_standsIn 28 rfl) (jo_iret rfl rfl)) H
          · exact Eq.trans (jb_rt (i := .invokevirtual 463) (n := 3) (jq qX13_standsIn 27 rfl) (jo_cv (y := mX13_no) rfl (Nat.le_of_ble_eq_true rfl) rfl (Nat.le_of_ble_eq_true rfl) b24 rfl r22 (jo_exn rfl))) H
        · rw [if_neg c20] at H
          refine Eq.trans (jb_nx (i := .ifCond .eq 20) (n := 3) (q := (30, [some (.ref p0), some (.int i1), some (.int i2)], [])) (jq qX13_standsIn 15 rfl) (jo_ifF (jz_eqF c20))) ?_
          refine Eq.trans (jb_nx (i := .aload_n 0) (n := 1) (q := (31, [some (.ref p0), some (.int i1), some (.int i2)], [.ref p0])) (jq qX13_standsIn 16 rfl) rfl) ?_
          refine Eq.trans (jb_nx (i := .iload_n 1) (n := 1) (q := (32, [some (.ref p0), some (.int i1), some (.int i2)], [.int i1, .ref p0])) (jq qX13_standsIn 17 rfl) rfl) ?_
          refine Eq.trans (jb_nx (i := .aload_n 0) (n := 1) (q := (33, [some (.ref p0), some (.int i1), some (.int i2)], [.ref p0, .int i1, .ref p0])) (jq qX13_standsIn 18 rfl) rfl) ?_
          obtain ⟨a27, e28, H⟩ := jbd H
          refine Eq.trans (jb_nx (i := .getfield 20) (n := 3) (q := (36, [some (.ref p0), some (.int i1), some (.int i2)], [.ref a27, .int i1, .ref p0])) (jq qX13_standsIn 19 rfl) (jo_gf rfl (jr_R_inv e28))) ?_
          obtain ⟨a29, e30, H⟩ := jbd H
          refine Eq.trans (jb_nx (i := .getfield 408) (n := 3) (q := (39, [some (.ref p0), some (.int i1), some (.int i2)], [.ref a29, .int i1, .ref p0])) (jq qX13_standsIn 20 rfl) (jo_gf rfl (jr_R_inv e30))) ?_
          refine Eq.trans (jb_nx (i := .iload_n 2) (n := 1) (q := (40, [some (.ref p0), some (.int i1), some (.int i2)], [.int i2, .ref a29, .int i1, .ref p0])) (jq qX13_standsIn 21 rfl) rfl) ?_
          obtain ⟨y31, e32, H⟩ := jbd H
          refine Eq.trans (jb_nx (i := .laload) (n := 1) (q := (41, [some (.ref p0), some (.int i1), some (.int i2)], [.long y31, .int i1, .ref p0])) (jq qX13_standsIn 22 rfl) (jo_lal e32)) ?_
          obtain ⟨b36, H⟩ := jm_O_inv H
          rcases jcI H with ⟨x35, h33, r34, H⟩ | ⟨w37, h38, r34, H⟩
          · refine Eq.trans (jb_nx (i := .invokevirtual 481) (n := 3) (q := (44, [some (.ref p0), some (.int i1), some (.int i2)], [.int x35])) (jq qX13_standsIn 23 rfl) (jo_cv (y := mX13_stands) rfl (Nat.le_of_ble_eq_true rfl) rfl (Nat.le_of_ble_eq_true rfl) b36 rfl r34 jo_ret)) ?_
            refine Eq.trans (jb_nx (i := .goto 8) (n := 3) (q := (52, [some (.ref p0), some (.int i1), some (.int i2)], [.int x35])) (jq qX13_standsIn 24 rfl) rfl) ?_
            exact Eq.trans (jb_rt (i := .ireturn) (n := 1) (jq qX13_standsIn 28 rfl) (jo_iret rfl rfl)) H
          · exact Eq.trans (jb_rt (i := .invokevirtual 481) (n := 3) (jq qX13_standsIn 23 rfl) (jo_cv (y := mX13_stands) rfl (Nat.le_of_ble_eq_true rfl) rfl (Nat.le_of_ble_eq_true rfl) b36 rfl r34 (jo_exn rfl))) H
      · exact Eq.trans (jb_rt (i := .invokestatic 74) (n := 3) (jq qX13_standsIn 14 rfl) (jo_cs (y := mX13_isIn) (w := 1) (by decide) rfl (Nat.le_of_ble_eq_true rfl) rfl (Nat.le_of_ble_eq_true rfl) rfl r18 (jo_exn rfl))) H
  · exact Eq.trans (jb_rt (i := .invokevirtual 473) (n := 3) (jq qX13_standsIn 5 rfl) (jo_cv (y := mX13_isPlay) rfl (Nat.le_of_ble_eq_true rfl) rfl (Nat.le_of_ble_eq_true rfl) b41 rfl r4 (jo_exn rfl))) H
/-! MaskPlaysModel stands (IJ)I -/
def tX13_stands : List (Nat × Instr × Nat) := [(0, .aload_n 0, 1), (1, .iload_n 1, 1), (2, .invokevirtual 146, 3), (5, .iconst 0, 1), (6, .istore 4, 2), (8, .iconst 0, 1), (9, .istore 5, 2), (11, .iload 5, 2), (13, .aload_n 0, 1), (14, .getfield 82, 3), (17, .if_icmp .ge 44, 3), (20, .iload 4, 2), (22, .aload_n 0, 1), (23, .getfield 43, 3), (26, .iload 5, 2), (28, .laload, 1), (29, .lload_n 2, 1), (30, .lcmp, 1), (31, .ifCond .ne 20, 3), (34, .aload_n 0, 1), (35, .getfield 43, 3), (38, .iload 5, 2), (40, .invokestatic 85, 3), (43, .iconst (-1), 1), (44, .if_icmp .ne 7, 3), (47, .iconst 1, 1), (48, .goto 4, 3), (51, .iconst 0, 1), (52, .iadd, 1), (53, .istore 4, 2), (55, .iinc 5 1, 3), (58, .goto (-47), 3), (61, .iload 4, 2), (63, .ireturn, 1)]
set_option maxRecDepth 100000 in
theorem qX13_stands : ∀ q ∈ tX13_stands, decode cX13_stands q.1 = .ok (q.2.1, q.2.2) := by decide +kernel
noncomputable def kX13_stands_11 (d : Nat) (p0 : Nat) (o1 : Option Value) (j2 : Int64) (i4 : Int32) (i5 : Int32) (h : jm_H) : Option jm_R := jm_B d mX13_stands (11, [some (.ref p0), o1, some (.long j2), none, some (.int i4), some (.int i5)], []) h
theorem gX13_stands_11 {d : Nat} {p0 : Nat} {o1 : Option Value} {j2 : Int64} {i4 : Int32} {i5 : Int32} {h : jm_H} {r : jm_R} (H : ((jr_I h p0 12 19 0).bind fun x6 => (if i5 < x6 then (jr_R h p0 12 18 2).bind fun a9 => (jm_all h a9 i5).bind fun y11 => (if (lg_cmp y11 j2) = 0 then (jr_R h p0 12 18 2).bind fun a14 => jc_I (jm_D d mX13_owner [.ref a14, .int i5] h) (fun x18 h16 => (if x18 = (-1) then kX13_stands_11 d p0 o1 j2 (i4 + 1) (i5 + 1) h16 else kX13_stands_11 d p0 o1 j2 (i4 + 0) (i5 + 1) h16)) jx else kX13_stands_11 d p0 o1 j2 (i4 + 0) (i5 + 1) h) else some (.inl (some (.int i4)), h))) = some r) : kX13_stands_11 d p0 o1 j2 i4 i5 h = some r := by
  show jm_B d mX13_stands (11, [some (.ref p0), o1, some (.long j2), none, some (.int i4), some (.int i5)], []) h = some r
  refine Eq.trans (jb_nx (i := .iload 5) (n := 2) (q := (13, [some (.ref p0), o1, some (.long j2), none, some (.int i4), some (.int i5)], [.int i5])) (jq qX13_stands 7 rfl) rfl) ?_
  refine Eq.trans (jb_nx (i := .aload_n 0) (n := 1) (q := (14, [some (.ref p0), o1, some (.long j2), none, some (.int i4), some (.int i5)], [.ref p0, .int i5])) (jq qX13_stands 8 rfl) rfl) ?_
  obtain ⟨x6, e7, H⟩ := jbd H
  refine Eq.trans (jb_nx (i := .getfield 82) (n := 3) (q := (17, [some (.ref p0), o1, some (.long j2), none, some (.int i4), some (.int i5)], [.int x6, .int i5])) (jq qX13_stands 9 rfl) (jo_gf rfl (jr_I_inv e7))) ?_
  by_cases c8 : i5 < x6
  · rw [if_pos c8] at H
    refine Eq.trans (jb_nx (i := .if_icmp .ge 44) (n := 3) (q := (20, [some (.ref p0), o1, some (.long j2), none, some (.int i4), some (.int i5)], [])) (jq qX13_stands 10 rfl) (jo_icF (jz_geF c8))) ?_
    refine Eq.trans (jb_nx (i := .iload 4) (n := 2) (q := (22, [some (.ref p0), o1, some (.long j2), none, some (.int i4), some (.int i5)], [.int i4])) (jq qX13_stands 11 rfl) rfl) ?_
    refine Eq.trans (jb_nx (i := .aload_n 0) (n := 1) (q := (23, [some (.ref p0), o1, some (.long j2), none, some (.int i4), some (.int i5)], [.ref p0, .int i4])) (jq qX13_stands 12 rfl) rfl) ?_
    obtain ⟨a9, e10, H⟩ := jbd H
    refine Eq.trans (jb_nx (i := .getfield 43) (n := 3) (q := (26, [some (.ref p0), o1, some (.long j2), none, some (.int i4), some (.int i5)], [.ref a9, .int i4])) (jq qX13_stands 13 rfl) (jo_gf rfl (jr_R_inv e10))) ?_
    refine Eq.trans (jb_nx (i := .iload 5) (n := 2) (q := (28, [some (.ref p0), o1, some (.long j2), none, some (.int i4), some (.int i5)], [.int i5, .ref a9, .int i4])) (jq qX13_stands 14 rfl) rfl) ?_
    obtain ⟨y11, e12, H⟩ := jbd H
    refine Eq.trans (jb_nx (i := .laload) (n := 1) (q := (29, [some (.ref p0), o1, some (.long j2), none, some (.int i4), some (.int i5)], [.long y11, .int i4])) (jq qX13_stands 15 rfl) (jo_lal e12)) ?_
    refine Eq.trans (jb_nx (i := .lload_n 2) (n := 1) (q := (30, [some (.ref p0), o1, some (.long j2), none, some (.int i4), some (.int i5)], [.long j2, .long y11, .int i4])) (jq qX13_stands 16 rfl) rfl) ?_
    refine Eq.trans (jb_nx (i := .lcmp) (n := 1) (q := (31, [some (.ref p0), o1, some (.long j2), none, some (.int i4), some (.int i5)], [.int (lg_cmp y11 j2), .int i4])) (jq qX13_stands 17 rfl) rfl) ?_
    by_cases c13 : (lg_cmp y11 j2) = 0
    · rw [if_pos c13] at H
      refine Eq.trans (jb_nx (i := .ifCond .ne 20) (n := 3) (q := (34, [some (.ref p0), o1, some (.long j2), none, some (.int i4), some (.int i5)], [.int i4])) (jq qX13_stands 18 rfl) (jo_ifF (jz_neF c13))) ?_
      refine Eq.trans (jb_nx (i := .aload_n 0) (n := 1) (q := (35, [some (.ref p0), o1, some (.long j2), none, some (.int i4), some (.int i5)], [.ref p0, .int i4])) (jq qX13_stands 19 rfl) rfl) ?_
      obtain ⟨a14, e15, H⟩ := jbd H
      refine Eq.trans (jb_nx (i := .getfield 43) (n := 3) (q := (38, [some (.ref p0), o1, some (.long j2), none, some (.int i4), some (.int i5)], [.ref a14, .int i4])) (jq qX13_stands 20 rfl) (jo_gf rfl (jr_R_inv e15))) ?_
      refine Eq.trans (jb_nx (i := .iload 5) (n := 2) (q := (40, [some (.ref p0), o1, some (.long j2), none, some (.int i4), some (.int i5)], [.int i5, .ref a14, .int i4])) (jq qX13_stands 21 rfl) rfl) ?_
      rcases jcI H with ⟨x18, h16, r17, H⟩ | ⟨w20, h21, r17, H⟩
      · refine Eq.trans (jb_nx (i := .invokestatic 85) (n := 3) (q := (43, [some (.ref p0), o1, some (.long j2), none, some (.int i4), some (.int i5)], [.int x18, .int i4])) (jq qX13_stands 22 rfl) (jo_cs (y := mX13_owner) (w := 1) (by decide) rfl (Nat.le_of_ble_eq_true rfl) rfl (Nat.le_of_ble_eq_true rfl) rfl r17 jo_ret)) ?_
        refine Eq.trans (jb_nx (i := .iconst (-1)) (n := 1) (q := (44, [some (.ref p0), o1, some (.long j2), none, some (.int i4), some (.int i5)], [.int (-1), .int x18, .int i4])) (jq qX13_stands 23 rfl) rfl) ?_
        by_cases c19 : x18 = (-1)
        · rw [if_pos c19] at H
          refine Eq.trans (jb_nx (i := .if_icmp .ne 7) (n := 3) (q := (47, [some (.ref p0), o1, some (.long j2), none, some (.int i4), some (.int i5)], [.int i4])) (jq qX13_stands 24 rfl) (jo_icF (jz_neF c19))) ?_
          refine Eq.trans (jb_nx (i := .iconst 1) (n := 1) (q := (48, [some (.ref p0), o1, some (.long j2), none, some (.int i4), some (.int i5)], [.int 1, .int i4])) (jq qX13_stands 25 rfl) rfl) ?_
          refine Eq.trans (jb_nx (i := .goto 4) (n := 3) (q := (52, [some (.ref p0), o1, some (.long j2), none, some (.int i4), some (.int i5)], [.int 1, .int i4])) (jq qX13_stands 26 rfl) rfl) ?_
          refine Eq.trans (jb_nx (i := .iadd) (n := 1) (q := (53, [some (.ref p0), o1, some (.long j2), none, some (.int i4), some (.int i5)], [.int (i4 + 1)])) (jq qX13_stands 28 rfl) rfl) ?_
          refine Eq.trans (jb_nx (i := .istore 4) (n := 2) (q := (55, [some (.ref p0), o1, some (.long j2), none, some (.int (i4 + 1)), some (.int i5)], [])) (jq qX13_stands 29 rfl) rfl) ?_
          refine Eq.trans (jb_nx (i := .iinc 5 1) (n := 3) (q := (58, [some (.ref p0), o1, some (.long j2), none, some (.int (i4 + 1)), some (.int (i5 + 1))], [])) (jq qX13_stands 30 rfl) rfl) ?_
          refine Eq.trans (jb_nx (i := .goto (-47)) (n := 3) (q := (11, [some (.ref p0), o1, some (.long j2), none, some (.int (i4 + 1)), some (.int (i5 + 1))], [])) (jq qX13_stands 31 rfl) rfl) ?_
          exact H
        · rw [if_neg c19] at H
          refine Eq.trans (jb_nx (i := .if_icmp .ne 7) (n := 3) (q := (51, [some (.ref p0), o1, some (.long j2), none, some (.int i4), some (.int i5)], [.int i4])) (jq qX13_stands 24 rfl) (jo_icT (jz_neT c19) rfl)) ?_
          refine Eq.trans (jb_nx (i := .iconst 0) (n := 1) (q := (52, [some (.ref p0), o1, some (.long j2), none, some (.int i4), some (.int i5)], [.int 0, .int i4])) (jq qX13_stands 27 rfl) rfl) ?_
          refine Eq.trans (jb_nx (i := .iadd) (n := 1) (q := (53, [some (.ref p0), o1, some (.long j2), none, some (.int i4), some (.int i5)], [.int (i4 + 0)])) (jq qX13_stands 28 rfl) rfl) ?_
          refine Eq.trans (jb_nx (i := .istore 4) (n := 2) (q := (55, [some (.ref p0), o1, some (.long j2), none, some (.int (i4 + 0)), some (.int i5)], [])) (jq qX13_stands 29 rfl) rfl) ?_
          refine Eq.trans (jb_nx (i := .iinc 5 1) (n := 3) (q := (58, [some (.ref p0), o1, some (.long j2), none, some (.int (i4 + 0)), some (.int (i5 + 1))], [])) (jq qX13_stands 30 rfl) rfl) ?_
          refine Eq.trans (jb_nx (i := .goto (-47)) (n := 3) (q := (11, [some (.ref p0), o1, some (.long j2), none, some (.int (i4 + 0)), some (.int (i5 + 1))], [])) (jq qX13_stands 31 rfl) rfl) ?_
          exact H
      · exact Eq.trans (jb_rt (i := .invokestatic 85) (n := 3) (jq qX13_stands 22 rfl) (jo_cs (y := mX13_owner) (w := 1) (by decide) rfl (Nat.le_of_ble_eq_true rfl) rfl (Nat.le_of_ble_eq_true rfl) rfl r17 (jo_exn rfl))) H
    · rw [if_neg c13] at H
      refine Eq.trans (jb_nx (i := .ifCond .ne 20) (n := 3) (q := (51, [some (.ref p0), o1, some (.long j2), none, some (.int i4), some (.int i5)], [.int i4])) (jq qX13_stands 18 rfl) (jo_ifT (jz_neT c13) rfl)) ?_
      refine Eq.trans (jb_nx (i := .iconst 0) (n := 1) (q := (52, [some (.ref p0), o1, some (.long j2), none, some (.int i4), some (.int i5)], [.int 0, .int i4])) (jq qX13_stands 27 rfl) rfl) ?_
      refine Eq.trans (jb_nx (i := .iadd) (n := 1) (q := (53, [some (.ref p0), o1, some (.long j2), none, some (.int i4), some (.int i5)], [.int (i4 + 0)])) (jq qX13_stands 28 rfl) rfl) ?_
      refine Eq.trans (jb_nx (i := .istore 4) (n := 2) (q := (55, [some (.ref p0), o1, some (.long j2), none, some (.int (i4 + 0)), some (.int i5)], [])) (jq qX13_stands 29 rfl) rfl) ?_
      refine Eq.trans (jb_nx (i := .iinc 5 1) (n := 3) (q := (58, [some (.ref p0), o1, some (.long j2), none, some (.int (i4 + 0)), some (.int (i5 + 1))], [])) (jq qX13_stands 30 rfl) rfl) ?_
      refine Eq.trans (jb_nx (i := .goto (-47)) (n := 3) (q := (11, [some (.ref p0), o1, some (.long j2), none, some (.int (i4 + 0)), some (.int (i5 + 1))], [])) (jq qX13_stands 31 rfl) rfl) ?_
      exact H
  · rw [if_neg c8] at H
    refine Eq.trans (jb_nx (i := .if_icmp .ge 44) (n := 3) (q := (61, [some (.ref p0), o1, some (.long j2), none, some (.int i4), some (.int i5)], [])) (jq qX13_stands 10 rfl) (jo_icT (jz_geT c8) rfl)) ?_
    refine Eq.trans (jb_nx (i := .iload 4) (n := 2) (q := (63, [some (.ref p0), o1, some (.long j2), none, some (.int i4), some (.int i5)], [.int i4])) (jq qX13_stands 32 rfl) rfl) ?_
    exact Eq.trans (jb_rt (i := .ireturn) (n := 1) (jq qX13_stands 33 rfl) (jo_iret rfl rfl)) H
theorem gX13_stands {d : Nat} {p0 : Nat} {i1 : Int32} {j2 : Int64} {h : jm_H} {r : jm_R} (H : (jm_O h p0 13 (jc_V (jm_D d mX13_takeUp [.ref p0, .int i1] h) (fun h1 => kX13_stands_11 d p0 (some (.int i1)) j2 0 0 h1) jx)) = some r) : jm_D (d + 1) mX13_stands [.ref p0, .int i1, .long j2] h = some r := by
  rw [jm_D_body (Nat.le_of_ble_eq_true rfl)]
  show jm_B d mX13_stands (0, [some (.ref p0), some (.int i1), some (.long j2), none, none, none], []) h = some r
  refine Eq.trans (jb_nx (i := .aload_n 0) (n := 1) (q := (1, [some (.ref p0), some (.int i1), some (.long j2), none, none, none], [.ref p0])) (jq qX13_stands 0 rfl) rfl) ?_
  refine Eq.trans (jb_nx (i := .iload_n 1) (n := 1) (q := (2, [some (.ref p0), some (.int i1), some (.long j2), none, none, none], [.int i1, .ref p0])) (jq qX13_stands 1 rfl) rfl) ?_
  obtain ⟨b3, H⟩ := jm_O_inv H
  rcases jcV H with ⟨h1, r2, H⟩ | ⟨w4, h5, r2, H⟩
  · refine Eq.trans (jb_nx (i := .invokevirtual 146) (n := 3) (q := (5, [some (.ref p0), some (.int i1), some (.long j2), none, none, none], [])) (jq qX13_stands 2 rfl) (jo_cv (y := mX13_takeUp) rfl (Nat.le_of_ble_eq_true rfl) rfl (Nat.le_of_ble_eq_true rfl) b3 rfl r2 jo_ret)) ?_
    refine Eq.trans (jb_nx (i := .iconst 0) (n := 1) (q := (6, [some (.ref p0), some (.int i1), some (.long j2), none, none, none], [.int 0])) (jq qX13_stands 3 rfl) rfl) ?_
    refine Eq.trans (jb_nx (i := .istore 4) (n := 2) (q := (8, [some (.ref p0), some (.int i1), some (.long j2), none, some (.int 0), none], [])) (jq qX13_stands 4 rfl) rfl) ?_
    refine Eq.trans (jb_nx (i := .iconst 0) (n := 1) (q := (9, [some (.ref p0), some (.int i1), some (.long j2), none, some (.int 0), none], [.int 0])) (jq qX13_stands 5 rfl) rfl) ?_
    refine Eq.trans (jb_nx (i := .istore 5) (n := 2) (q := (11, [some (.ref p0), some (.int i1), some (.long j2), none, some (.int 0), some (.int 0)], [])) (jq qX13_stands 6 rfl) rfl) ?_
    exact H
  · exact Eq.trans (jb_rt (i := .invokevirtual 146) (n := 3) (jq qX13_stands 2 rfl) (jo_cv (y := mX13_takeUp) rfl (Nat.le_of_ble_eq_true rfl) rfl (Nat.le_of_ble_eq_true rfl) b3 rfl r2 (jo_exn rfl))) H
/-! MaskPlaysModel owner ([JI)I -/
def tX13_owner : List (Nat × Instr × Nat) := [(0, .iload_n 1, 1), (1, .iconst 1, 1), (2, .isub, 1), (3, .istore_n 2, 1), (4, .iload_n 2, 1), (5, .ifCond .lt 31, 3), (8, .aload_n 0, 1), (9, .iload_n 2, 1), (10, .laload, 1), (11, .aload_n 0, 1), (12, .iload_n 1, 1), (13, .laload, 1), (14, .lneg, 1), (15, .lcmp, 1), (16, .ifCond .ne 14, 3), (19, .aload_n 0, 1), (20, .iload_n 2, 1), (21, .invokestatic 78, 3), (24, .iload_n 1, 1), (25, .if_icmp .le 5, 3), (28, .iload_n 2, 1), (29, .ireturn, 1), (30, .iinc 2 (-1), 3), (33, .goto (-29), 3), (36, .iconst (-1), 1), (37, .ireturn, 1)]
set_option maxRecDepth 100000 in
theorem qX13_owner : ∀ q ∈ tX13_owner, decode cX13_owner q.1 = .ok (q.2.1, q.2.2) := by decide +kernel
noncomputable def kX13_owner_4 (d : Nat) (p0 : Nat) (i1 : Int32) (i2 : Int32) (h : jm_H) : Option jm_R := jm_B d mX13_owner (4, [some (.ref p0), some (.int i1), some (.int i2)], []) h
theorem gX13_owner_4 {d : Nat} {p0 : Nat} {i1 : Int32} {i2 : Int32} {h : jm_H} {r : jm_R} (H : ((if i2 < 0 then some (.inl (some (.int (-1))), h) else (jm_all h p0 i2).bind fun y2 => (jm_all h p0 i1).bind fun y4 => (if (lg_cmp y2 (-y4)) = 0 then jc_I (jm_D d mX13_end [.ref p0, .int i2] h) (fun x9 h7 => (if i1 < x9 then some (.inl (some (.int i2)), h7) else kX13_owner_4 d p0 i1 (i2 + (-1)) h7)) jx else kX13_owner_4 d p0 i1 (i2 + (-1)) h))) = some r) : kX13_owner_4 d p0 i1 i2 h = some r := by
  show jm_B d mX13_owner (4, [some (.ref p0), some (.int i1), some (.int i2)], []) h = some r
  refine Eq.trans (jb_nx (i := .iload_n 2) (n := 1) (q := (5, [some (.ref p0), some (.int i1), some (.int i2)], [.int i2])) (jq qX13_owner 4 rfl) rfl) ?_
  by_cases c1 : i2 < 0
  · rw [if_pos c1] at H
    refine Eq.trans (jb_nx (i := .ifCond .lt 31) (n := 3) (q := (36, [some (.ref p0), some (.int i1), some (.int i2)], [])) (jq qX13_owner 5 rfl) (jo_ifT (jz_ltT c1) rfl)) ?_
    refine Eq.trans (jb_nx (i := .iconst (-1)) (n := 1) (q := (37, [some (.ref p0), some (.int i1), some (.int i2)], [.int (-1)])) (jq qX13_owner 24 rfl) rfl) ?_
    exact Eq.trans (jb_rt (i := .ireturn) (n := 1) (jq qX13_owner 25 rfl) (jo_iret rfl rfl)) H
  · rw [if_neg c1] at H
    refine Eq.trans (jb_nx (i := .ifCond .lt 31) (n := 3) (q := (8, [some (.ref p0), some (.int i1), some (.int i2)], [])) (jq qX13_owner 5 rfl) (jo_ifF (jz_ltF c1))) ?_
    refine Eq.trans (jb_nx (i := .aload_n 0) (n := 1) (q := (9, [some (.ref p0), some (.int i1), some (.int i2)], [.ref p0])) (jq qX13_owner 6 rfl) rfl) ?_
    refine Eq.trans (jb_nx (i := .iload_n 2) (n := 1) (q := (10, [some (.ref p0), some (.int i1), some (.int i2)], [.int i2, .ref p0])) (jq qX13_owner 7 rfl) rfl) ?_
    obtain ⟨y2, e3, H⟩ := jbd H
    refine Eq.trans (jb_nx (i := .laload) (n := 1) (q := (11, [some (.ref p0), some (.int i1), some (.int i2)], [.long y2])) (jq qX13_owner 8 rfl) (jo_lal e3)) ?_
    refine Eq.trans (jb_nx (i := .aload_n 0) (n := 1) (q := (12, [some (.ref p0), some (.int i1), some (.int i2)], [.ref p0, .long y2])) (jq qX13_owner 9 rfl) rfl) ?_
    refine Eq.trans (jb_nx (i := .iload_n 1) (n := 1) (q := (13, [some (.ref p0), some (.int i1), some (.int i2)], [.int i1, .ref p0, .long y2])) (jq qX13_owner 10 rfl) rfl) ?_
    obtain ⟨y4, e5, H⟩ := jbd H
    refine Eq.trans (jb_nx (i := .laload) (n := 1) (q := (14, [some (.ref p0), some (.int i1), some (.int i2)], [.long y4, .long y2])) (jq qX13_owner 11 rfl) (jo_lal e5)) ?_
    refine Eq.trans (jb_nx (i := .lneg) (n := 1) (q := (15, [some (.ref p0), some (.int i1), some (.int i2)], [.long (-y4), .long y2])) (jq qX13_owner 12 rfl) rfl) ?_
    refine Eq.trans (jb_nx (i := .lcmp) (n := 1) (q := (16, [some (.ref p0), some (.int i1), some (.int i2)], [.int (lg_cmp y2 (-y4))])) (jq qX13_owner 13 rfl) rfl) ?_
    by_cases c6 : (lg_cmp y2 (-y4)) = 0
    · rw [if_pos c6] at H
      refine Eq.trans (jb_nx (i := .ifCond .ne 14) (n := 3) (q := (19, [some (.ref p0), some (.int i1), some (.int i2)], [])) (jq qX13_owner 14 rfl) (jo_ifF (jz_neF c6))) ?_
      refine Eq.trans (jb_nx (i := .aload_n 0) (n := 1) (q := (20, [some (.ref p0), some (.int i1), some (.int i2)], [.ref p0])) (jq qX13_owner 15 rfl) rfl) ?_
      refine Eq.trans (jb_nx (i := .iload_n 2) (n := 1) (q := (21, [some (.ref p0), some (.int i1), some (.int i2)], [.int i2, .ref p0])) (jq qX13_owner 16 rfl) rfl) ?_
      rcases jcI H with ⟨x9, h7, r8, H⟩ | ⟨w11, h12, r8, H⟩
      · refine Eq.trans (jb_nx (i := .invokestatic 78) (n := 3) (q := (24, [some (.ref p0), some (.int i1), some (.int i2)], [.int x9])) (jq qX13_owner 17 rfl) (jo_cs (y := mX13_end) (w := 1) (by decide) rfl (Nat.le_of_ble_eq_true rfl) rfl (Nat.le_of_ble_eq_true rfl) rfl r8 jo_ret)) ?_
        refine Eq.trans (jb_nx (i := .iload_n 1) (n := 1) (q := (25, [some (.ref p0), some (.int i1), some (.int i2)], [.int i1, .int x9])) (jq qX13_owner 18 rfl) rfl) ?_
        by_cases c10 : i1 < x9
        · rw [if_pos c10] at H
          refine Eq.trans (jb_nx (i := .if_icmp .le 5) (n := 3) (q := (28, [some (.ref p0), some (.int i1), some (.int i2)], [])) (jq qX13_owner 19 rfl) (jo_icF (jz_leF c10))) ?_
          refine Eq.trans (jb_nx (i := .iload_n 2) (n := 1) (q := (29, [some (.ref p0), some (.int i1), some (.int i2)], [.int i2])) (jq qX13_owner 20 rfl) rfl) ?_
          exact Eq.trans (jb_rt (i := .ireturn) (n := 1) (jq qX13_owner 21 rfl) (jo_iret rfl rfl)) H
        · rw [if_neg c10] at H
          refine Eq.trans (jb_nx (i := .if_icmp .le 5) (n := 3) (q := (30, [some (.ref p0), some (.int i1), some (.int i2)], [])) (jq qX13_owner 19 rfl) (jo_icT (jz_leT c10) rfl)) ?_
          refine Eq.trans (jb_nx (i := .iinc 2 (-1)) (n := 3) (q := (33, [some (.ref p0), some (.int i1), some (.int (i2 + (-1)))], [])) (jq qX13_owner 22 rfl) rfl) ?_
          refine Eq.trans (jb_nx (i := .goto (-29)) (n := 3) (q := (4, [some (.ref p0), some (.int i1), some (.int (i2 + (-1)))], [])) (jq qX13_owner 23 rfl) rfl) ?_
          exact H
      · exact Eq.trans (jb_rt (i := .invokestatic 78) (n := 3) (jq qX13_owner 17 rfl) (jo_cs (y := mX13_end) (w := 1) (by decide) rfl (Nat.le_of_ble_eq_true rfl) rfl (Nat.le_of_ble_eq_true rfl) rfl r8 (jo_exn rfl))) H
    · rw [if_neg c6] at H
      refine Eq.trans (jb_nx (i := .ifCond .ne 14) (n := 3) (q := (30, [some (.ref p0), some (.int i1), some (.int i2)], [])) (jq qX13_owner 14 rfl) (jo_ifT (jz_neT c6) rfl)) ?_
      refine Eq.trans (jb_nx (i := .iinc 2 (-1)) (n := 3) (q := (33, [some (.ref p0), some (.int i1), some (.int (i2 + (-1)))], [])) (jq qX13_owner 22 rfl) rfl) ?_
      refine Eq.trans (jb_nx (i := .goto (-29)) (n := 3) (q := (4, [some (.ref p0), some (.int i1), some (.int (i2 + (-1)))], [])) (jq qX13_owner 23 rfl) rfl) ?_
      exact H
theorem gX13_owner {d : Nat} {p0 : Nat} {i1 : Int32} {h : jm_H} {r : jm_R} (H : (kX13_owner_4 d p0 i1 (i1 - 1) h) = some r) : jm_D (d + 1) mX13_owner [.ref p0, .int i1] h = some r := by
  rw [jm_D_body (Nat.le_of_ble_eq_true rfl)]
  show jm_B d mX13_owner (0, [some (.ref p0), some (.int i1), none], []) h = some r
  refine Eq.trans (jb_nx (i := .iload_n 1) (n := 1) (q := (1, [some (.ref p0), some (.int i1), none], [.int i1])) (jq qX13_owner 0 rfl) rfl) ?_
  refine Eq.trans (jb_nx (i := .iconst 1) (n := 1) (q := (2, [some (.ref p0), some (.int i1), none], [.int 1, .int i1])) (jq qX13_owner 1 rfl) rfl) ?_
  refine Eq.trans (jb_nx (i := .isub) (n := 1) (q := (3, [some (.ref p0), some (.int i1), none], [.int (i1 - 1)])) (jq qX13_owner 2 rfl) rfl) ?_
  refine Eq.trans (jb_nx (i := .istore_n 2) (n := 1) (q := (4, [some (.ref p0), some (.int i1), some (.int (i1 - 1))], [])) (jq qX13_owner 3 rfl) rfl) ?_
  exact H
/-! MaskPlaysModel stepsDone (I)I -/
def tX13_stepsDone : List (Nat × Instr × Nat) := [(0, .aload_n 0, 1), (1, .iconst 0, 1), (2, .putfield 68, 3), (5, .aload_n 0, 1), (6, .iload_n 1, 1), (7, .invokevirtual 473, 3), (10, .ifCond .eq 12, 3), (13, .aload_n 0, 1), (14, .getfield 31, 3), (17, .iload_n 1, 1), (18, .iaload, 1), (19, .goto 8, 3), (22, .aload_n 0, 1), (23, .iconst 1, 1), (24, .invokevirtual 463, 3), (27, .ireturn, 1)]
set_option maxRecDepth 100000 in
theorem qX13_stepsDone : ∀ q ∈ tX13_stepsDone, decode cX13_stepsDone q.1 = .ok (q.2.1, q.2.2) := by decide +kernel
theorem gX13_stepsDone {d : Nat} {p0 : Nat} {i1 : Int32} {h : jm_H} {r : jm_R} (H : ((jm_pf h p0 12 0 0 (.int 0)).bind fun h1 => jm_O h1 p0 13 (jc_I (jm_D d mX13_isPlay [.ref p0, .int i1] h1) (fun x5 h3 => (if x5 = 0 then jm_O h3 p0 13 (jc_I (jm_D d mX13_no [.ref p0, .int 1] h3) (fun x9 h7 => some (.inl (some (.int x9)), h7)) jx) else (jr_R h3 p0 12 10 2).bind fun a13 => (jm_ali h3 a13 0 i1).bind fun x15 => some (.inl (some (.int x15)), h3))) jx)) = some r) : jm_D (d + 1) mX13_stepsDone [.ref p0, .int i1] h = some r := by
  rw [jm_D_body (Nat.le_of_ble_eq_true rfl)]
  show jm_B d mX13_stepsDone (0, [some (.ref p0), some (.int i1)], []) h = some r
  refine Eq.trans (jb_nx (i := .aload_n 0) (n := 1) (q := (1, [some (.ref p0), some (.int i1)], [.ref p0])) (jq qX13_stepsDone 0 rfl) rfl) ?_
  refine Eq.trans (jb_nx (i := .iconst 0) (n := 1) (q := (2, [some (.ref p0), some (.int i1)], [.int 0, .ref p0])) (jq qX13_stepsDone 1 rfl) rfl) ?_
  obtain ⟨h1, e2, H⟩ := jbd H
  refine Eq.trans (jb_nx (i := .putfield 68) (n := 3) (q := (5, [some (.ref p0), some (.int i1)], [])) (jq qX13_stepsDone 2 rfl) (jo_pf rfl (Or.inl rfl) e2)) ?_
  refine Eq.trans (jb_nx (i := .aload_n 0) (n := 1) (q := (6, [some (.ref p0), some (.int i1)], [.ref p0])) (jq qX13_stepsDone 3 rfl) rfl) ?_
  refine Eq.trans (jb_nx (i := .iload_n 1) (n := 1) (q := (7, [some (.ref p0), some (.int i1)], [.int i1, .ref p0])) (jq qX13_stepsDone 4 rfl) rfl) ?_
  obtain ⟨b17, H⟩ := jm_O_inv H
  rcases jcI H with ⟨x5, h3, r4, H⟩ | ⟨w18, h19, r4, H⟩
  · refine Eq.trans (jb_nx (i := .invokevirtual 473) (n := 3) (q := (10, [some (.ref p0), some (.int i1)], [.int x5])) (jq qX13_stepsDone 5 rfl) (jo_cv (y := mX13_isPlay) rfl (Nat.le_of_ble_eq_true rfl) rfl (Nat.le_of_ble_eq_true rfl) b17 rfl r4 jo_ret)) ?_
    by_cases c6 : x5 = 0
    · rw [if_pos c6] at H
      refine Eq.trans (jb_nx (i := .ifCond .eq 12) (n := 3) (q := (22, [some (.ref p0), some (.int i1)], [])) (jq qX13_stepsDone 6 rfl) (jo_ifT (jz_eqT c6) rfl)) ?_
      refine Eq.trans (jb_nx (i := .aload_n 0) (n := 1) (q := (23, [some (.ref p0), some (.int i1)], [.ref p0])) (jq qX13_stepsDone 12 rfl) rfl) ?_
      refine Eq.trans (jb_nx (i := .iconst 1) (n := 1) (q := (24, [some (.ref p0), some (.int i1)], [.int 1, .ref p0])) (jq qX13_stepsDone 13 rfl) rfl) ?_
      obtain ⟨b10, H⟩ := jm_O_inv H
      rcases jcI H with ⟨x9, h7, r8, H⟩ | ⟨w11, h12, r8, H⟩
      · refine Eq.trans (jb_nx (i := .invokevirtual 463) (n := 3) (q := (27, [some (.ref p0), some (.int i1)], [.int x9])) (jq qX13_stepsDone 14 rfl) (jo_cv (y := mX13_no) rfl (Nat.le_of_ble_eq_true rfl) rfl (Nat.le_of_ble_eq_true rfl) b10 rfl r8 jo_ret)) ?_
        exact Eq.trans (jb_rt (i := .ireturn) (n := 1) (jq qX13_stepsDone 15 rfl) (jo_iret rfl rfl)) H
      · exact Eq.trans (jb_rt (i := .invokevirtual 463) (n := 3) (jq qX13_stepsDone 14 rfl) (jo_cv (y := mX13_no) rfl (Nat.le_of_ble_eq_true rfl) rfl (Nat.le_of_ble_eq_true rfl) b10 rfl r8 (jo_exn rfl))) H
    · rw [if_neg c6] at H
      refine Eq.trans (jb_nx (i := .ifCond .eq 12) (n := 3) (q := (13, [some (.ref p0), some (.int i1)], [])) (jq qX13_stepsDone 6 rfl) (jo_ifF (jz_eqF c6))) ?_
      refine Eq.trans (jb_nx (i := .aload_n 0) (n := 1) (q := (14, [some (.ref p0), some (.int i1)], [.ref p0])) (jq qX13_stepsDone 7 rfl) rfl) ?_
      obtain ⟨a13, e14, H⟩ := jbd H
      refine Eq.trans (jb_nx (i := .getfield 31) (n := 3) (q := (17, [some (.ref p0), some (.int i1)], [.ref a13])) (jq qX13_stepsDone 8 rfl) (jo_gf rfl (jr_R_inv e14))) ?_
      refine Eq.trans (jb_nx (i := .iload_n 1) (n := 1) (q := (18, [some (.ref p0), some (.int i1)], [.int i1, .ref a13])) (jq qX13_stepsDone 9 rfl) rfl) ?_
      obtain ⟨x15, e16, H⟩ := jbd H
      refine Eq.trans (jb_nx (i := .iaload) (n := 1) (q := (19, [some (.ref p0), some (.int i1)], [.int x15])) (jq qX13_stepsDone 10 rfl) (jo_ial e16)) ?_
      refine Eq.trans (jb_nx (i := .goto 8) (n := 3) (q := (27, [some (.ref p0), some (.int i1)], [.int x15])) (jq qX13_stepsDone 11 rfl) rfl) ?_
      exact Eq.trans (jb_rt (i := .ireturn) (n := 1) (jq qX13_stepsDone 15 rfl) (jo_iret rfl rfl)) H
  · exact Eq.trans (jb_rt (i := .invokevirtual 473) (n := 3) (jq qX13_stepsDone 5 rfl) (jo_cv (y := mX13_isPlay) rfl (Nat.le_of_ble_eq_true rfl) rfl (Nat.le_of_ble_eq_true rfl) b17 rfl r4 (jo_exn rfl))) H
/-! MaskPlaysModel isFinished (I)Z -/
def tX13_isFinished : List (Nat × Instr × Nat) := [(0, .aload_n 0, 1), (1, .iconst 0, 1), (2, .putfield 68, 3), (5, .aload_n 0, 1), (6, .iload_n 1, 1), (7, .invokevirtual 473, 3), (10, .ifCond .eq 11, 3), (13, .aload_n 0, 1), (14, .iload_n 1, 1), (15, .invokevirtual 198, 3), (18, .goto 8, 3), (21, .aload_n 0, 1), (22, .iconst 1, 1), (23, .invokevirtual 485, 3), (26, .ireturn, 1)]
set_option maxRecDepth 100000 in
theorem qX13_isFinished : ∀ q ∈ tX13_isFinished, decode cX13_isFinished q.1 = .ok (q.2.1, q.2.2) := by decide +kernel
theorem gX13_isFinished {d : Nat} {p0 : Nat} {i1 : Int32} {h : jm_H} {r : jm_R} (H : ((jm_pf h p0 12 0 0 (.int 0)).bind fun h1 => jm_O h1 p0 13 (jc_I (jm_D d mX13_isPlay [.ref p0, .int i1] h1) (fun x5 h3 => (if x5 = 0 then jm_O h3 p0 13 (jc_I (jm_D d mX13_isNot [.ref p0, .int 1] h3) (fun x9 h7 => jm_Y .boolean x9 (some (.inl (some (.int x9)), h7))) jx) else jm_O h3 p0 13 (jc_I (jm_D d mX13_finished [.ref p0, .int i1] h3) (fun x16 h14 => jm_Y .boolean x16 (some (.inl (some (.int x16)), h14))) jx))) jx)) = some r) : jm_D (d + 1) mX13_isFinished [.ref p0, .int i1] h = some r := by
  rw [jm_D_body (Nat.le_of_ble_eq_true rfl)]
  show jm_B d mX13_isFinished (0, [some (.ref p0), some (.int i1)], []) h = some r
  refine Eq.trans (jb_nx (i := .aload_n 0) (n := 1) (q := (1, [some (.ref p0), some (.int i1)], [.ref p0])) (jq qX13_isFinished 0 rfl) rfl) ?_
  refine Eq.trans (jb_nx (i := .iconst 0) (n := 1) (q := (2, [some (.ref p0), some (.int i1)], [.int 0, .ref p0])) (jq qX13_isFinished 1 rfl) rfl) ?_
  obtain ⟨h1, e2, H⟩ := jbd H
  refine Eq.trans (jb_nx (i := .putfield 68) (n := 3) (q := (5, [some (.ref p0), some (.int i1)], [])) (jq qX13_isFinished 2 rfl) (jo_pf rfl (Or.inl rfl) e2)) ?_
  refine Eq.trans (jb_nx (i := .aload_n 0) (n := 1) (q := (6, [some (.ref p0), some (.int i1)], [.ref p0])) (jq qX13_isFinished 3 rfl) rfl) ?_
  refine Eq.trans (jb_nx (i := .iload_n 1) (n := 1) (q := (7, [some (.ref p0), some (.int i1)], [.int i1, .ref p0])) (jq qX13_isFinished 4 rfl) rfl) ?_
  obtain ⟨b21, H⟩ := jm_O_inv H
  rcases jcI H with ⟨x5, h3, r4, H⟩ | ⟨w22, h23, r4, H⟩
  · refine Eq.trans (jb_nx (i := .invokevirtual 473) (n := 3) (q := (10, [some (.ref p0), some (.int i1)], [.int x5])) (jq qX13_isFinished 5 rfl) (jo_cv (y := mX13_isPlay) rfl (Nat.le_of_ble_eq_true rfl) rfl (Nat.le_of_ble_eq_true rfl) b21 rfl r4 jo_ret)) ?_
    by_cases c6 : x5 = 0
    · rw [if_pos c6] at H
      refine Eq.trans (jb_nx (i := .ifCond .eq 11) (n := 3) (q := (21, [some (.ref p0), some (.int i1)], [])) (jq qX13_isFinished 6 rfl) (jo_ifT (jz_eqT c6) rfl)) ?_
      refine Eq.trans (jb_nx (i := .aload_n 0) (n := 1) (q := (22, [some (.ref p0), some (.int i1)], [.ref p0])) (jq qX13_isFinished 11 rfl) rfl) ?_
      refine Eq.trans (jb_nx (i := .iconst 1) (n := 1) (q := (23, [some (.ref p0), some (.int i1)], [.int 1, .ref p0])) (jq qX13_isFinished 12 rfl) rfl) ?_
      obtain ⟨b11, H⟩ := jm_O_inv H
      rcases jcI H with ⟨x9, h7, r8, H⟩ | ⟨w12, h13, r8, H⟩
      · refine Eq.trans (jb_nx (i := .invokevirtual 485) (n := 3) (q := (26, [some (.ref p0), some (.int i1)], [.int x9])) (jq qX13_isFinished 13 rfl) (jo_cv (y := mX13_isNot) rfl (Nat.le_of_ble_eq_true rfl) rfl (Nat.le_of_ble_eq_true rfl) b11 rfl r8 jo_ret)) ?_
        obtain ⟨u10, H⟩ := jm_Y_inv H
        exact Eq.trans (jb_rt (i := .ireturn) (n := 1) (jq qX13_isFinished 14 rfl) (jo_iret rfl u10)) H
      · exact Eq.trans (jb_rt (i := .invokevirtual 485) (n := 3) (jq qX13_isFinished 13 rfl) (jo_cv (y := mX13_isNot) rfl (Nat.le_of_ble_eq_true rfl) rfl (Nat.le_of_ble_eq_true rfl) b11 rfl r8 (jo_exn rfl))) H
    · rw [if_neg c6] at H
      refine Eq.trans (jb_nx (i := .ifCond .eq 11) (n := 3) (q := (13, [some (.ref p0), some (.int i1)], [])) (jq qX13_isFinished 6 rfl) (jo_ifF (jz_eqF c6))) ?_
      refine Eq.trans (jb_nx (i := .aload_n 0) (n := 1) (q := (14, [some (.ref p0), some (.int i1)], [.ref p0])) (jq qX13_isFinished 7 rfl) rfl) ?_
      refine Eq.trans (jb_nx (i := .iload_n 1) (n := 1) (q := (15, [some (.ref p0), some (.int i1)], [.int i1, .ref p0])) (jq qX13_isFinished 8 rfl) rfl) ?_
      obtain ⟨b18, H⟩ := jm_O_inv H
      rcases jcI H with ⟨x16, h14, r15, H⟩ | ⟨w19, h20, r15, H⟩
      · refine Eq.trans (jb_nx (i := .invokevirtual 198) (n := 3) (q := (18, [some (.ref p0), some (.int i1)], [.int x16])) (jq qX13_isFinished 9 rfl) (jo_cv (y := mX13_finished) rfl (Nat.le_of_ble_eq_true rfl) rfl (Nat.le_of_ble_eq_true rfl) b18 rfl r15 jo_ret)) ?_
        refine Eq.trans (jb_nx (i := .goto 8) (n := 3) (q := (26, [some (.ref p0), some (.int i1)], [.int x16])) (jq qX13_isFinished 10 rfl) rfl) ?_
        obtain ⟨u17, H⟩ := jm_Y_inv H
        exact Eq.trans (jb_rt (i := .ireturn) (n := 1) (jq qX13_isFinished 14 rfl) (jo_iret rfl u17)) H
      · exact Eq.trans (jb_rt (i := .invokevirtual 198) (n := 3) (jq qX13_isFinished 9 rfl) (jo_cv (y := mX13_finished) rfl (Nat.le_of_ble_eq_true rfl) rfl (Nat.le_of_ble_eq_true rfl) b18 rfl r15 (jo_exn rfl))) H
  · exact Eq.trans (jb_rt (i := .invokevirtual 473) (n := 3) (jq qX13_isFinished 5 rfl) (jo_cv (y := mX13_isPlay) rfl (Nat.le_of_ble_eq_true rfl) rfl (Nat.le_of_ble_eq_true rfl) b21 rfl r4 (jo_exn rfl))) H
/-! MaskPlaysModel finished (I)Z -/
def tX13_finished : List (Nat × Instr × Nat) := [(0, .aload_n 0, 1), (1, .iload_n 1, 1), (2, .invokevirtual 146, 3), (5, .aload_n 0, 1), (6, .invokevirtual 92, 3), (9, .iconst (-1), 1), (10, .if_icmp .ne 7, 3), (13, .iconst 1, 1), (14, .goto 4, 3), (17, .iconst 0, 1), (18, .ireturn, 1)]
set_option maxRecDepth 100000 in
theorem qX13_finished : ∀ q ∈ tX13_finished, decode cX13_finished q.1 = .ok (q.2.1, q.2.2) := by decide +kernel
theorem gX13_finished {d : Nat} {p0 : Nat} {i1 : Int32} {h : jm_H} {r : jm_R} (H : (jm_O h p0 13 (jc_V (jm_D d mX13_takeUp [.ref p0, .int i1] h) (fun h1 => jm_O h1 p0 13 (jc_I (jm_D d mX13_nextScene [.ref p0] h1) (fun x5 h3 => (if x5 = (-1) then some (.inl (some (.int 1)), h3) else some (.inl (some (.int 0)), h3))) jx)) jx)) = some r) : jm_D (d + 1) mX13_finished [.ref p0, .int i1] h = some r := by
  rw [jm_D_body (Nat.le_of_ble_eq_true rfl)]
  show jm_B d mX13_finished (0, [some (.ref p0), some (.int i1)], []) h = some r
  refine Eq.trans (jb_nx (i := .aload_n 0) (n := 1) (q := (1, [some (.ref p0), some (.int i1)], [.ref p0])) (jq qX13_finished 0 rfl) rfl) ?_
  refine Eq.trans (jb_nx (i := .iload_n 1) (n := 1) (q := (2, [some (.ref p0), some (.int i1)], [.int i1, .ref p0])) (jq qX13_finished 1 rfl) rfl) ?_
  obtain ⟨b10, H⟩ := jm_O_inv H
  rcases jcV H with ⟨h1, r2, H⟩ | ⟨w11, h12, r2, H⟩
  · refine Eq.trans (jb_nx (i := .invokevirtual 146) (n := 3) (q := (5, [some (.ref p0), some (.int i1)], [])) (jq qX13_finished 2 rfl) (jo_cv (y := mX13_takeUp) rfl (Nat.le_of_ble_eq_true rfl) rfl (Nat.le_of_ble_eq_true rfl) b10 rfl r2 jo_ret)) ?_
    refine Eq.trans (jb_nx (i := .aload_n 0) (n := 1) (q := (6, [some (.ref p0), some (.int i1)], [.ref p0])) (jq qX13_finished 3 rfl) rfl) ?_
    obtain ⟨b7, H⟩ := jm_O_inv H
    rcases jcI H with ⟨x5, h3, r4, H⟩ | ⟨w8, h9, r4, H⟩
    · refine Eq.trans (jb_nx (i := .invokevirtual 92) (n := 3) (q := (9, [some (.ref p0), some (.int i1)], [.int x5])) (jq qX13_finished 4 rfl) (jo_cv (y := mX13_nextScene) rfl (Nat.le_of_ble_eq_true rfl) rfl (Nat.le_of_ble_eq_true rfl) b7 rfl r4 jo_ret)) ?_
      refine Eq.trans (jb_nx (i := .iconst (-1)) (n := 1) (q := (10, [some (.ref p0), some (.int i1)], [.int (-1), .int x5])) (jq qX13_finished 5 rfl) rfl) ?_
      by_cases c6 : x5 = (-1)
      · rw [if_pos c6] at H
        refine Eq.trans (jb_nx (i := .if_icmp .ne 7) (n := 3) (q := (13, [some (.ref p0), some (.int i1)], [])) (jq qX13_finished 6 rfl) (jo_icF (jz_neF c6))) ?_
        refine Eq.trans (jb_nx (i := .iconst 1) (n := 1) (q := (14, [some (.ref p0), some (.int i1)], [.int 1])) (jq qX13_finished 7 rfl) rfl) ?_
        refine Eq.trans (jb_nx (i := .goto 4) (n := 3) (q := (18, [some (.ref p0), some (.int i1)], [.int 1])) (jq qX13_finished 8 rfl) rfl) ?_
        exact Eq.trans (jb_rt (i := .ireturn) (n := 1) (jq qX13_finished 10 rfl) (jo_iret rfl (by decide))) H
      · rw [if_neg c6] at H
        refine Eq.trans (jb_nx (i := .if_icmp .ne 7) (n := 3) (q := (17, [some (.ref p0), some (.int i1)], [])) (jq qX13_finished 6 rfl) (jo_icT (jz_neT c6) rfl)) ?_
        refine Eq.trans (jb_nx (i := .iconst 0) (n := 1) (q := (18, [some (.ref p0), some (.int i1)], [.int 0])) (jq qX13_finished 9 rfl) rfl) ?_
        exact Eq.trans (jb_rt (i := .ireturn) (n := 1) (jq qX13_finished 10 rfl) (jo_iret rfl (by decide))) H
    · exact Eq.trans (jb_rt (i := .invokevirtual 92) (n := 3) (jq qX13_finished 4 rfl) (jo_cv (y := mX13_nextScene) rfl (Nat.le_of_ble_eq_true rfl) rfl (Nat.le_of_ble_eq_true rfl) b7 rfl r4 (jo_exn rfl))) H
  · exact Eq.trans (jb_rt (i := .invokevirtual 146) (n := 3) (jq qX13_finished 2 rfl) (jo_cv (y := mX13_takeUp) rfl (Nat.le_of_ble_eq_true rfl) rfl (Nat.le_of_ble_eq_true rfl) b10 rfl r2 (jo_exn rfl))) H
/-! MaskPlaysModel nextScene ()I -/
def tX13_nextScene : List (Nat × Instr × Nat) := [(0, .iconst 0, 1), (1, .istore_n 1, 1), (2, .iload_n 1, 1), (3, .aload_n 0, 1), (4, .getfield 82, 3), (7, .if_icmp .ge 35, 3), (10, .aload_n 0, 1), (11, .getfield 43, 3), (14, .iload_n 1, 1), (15, .laload, 1), (16, .lconst 0, 1), (17, .lcmp, 1), (18, .ifCond .ne 18, 3), (21, .aload_n 0, 1), (22, .getfield 43, 3), (25, .iload_n 1, 1), (26, .iconst 1, 1), (27, .iadd, 1), (28, .laload, 1), (29, .lconst 0, 1), (30, .lcmp, 1), (31, .ifCond .ge 5, 3), (34, .iload_n 1, 1), (35, .ireturn, 1), (36, .iinc 1 1, 3), (39, .goto (-37), 3), (42, .iconst (-1), 1), (43, .ireturn, 1)]
set_option maxRecDepth 100000 in
theorem qX13_nextScene : ∀ q ∈ tX13_nextScene, decode cX13_nextScene q.1 = .ok (q.2.1, q.2.2) := by decide +kernel
noncomputable def kX13_nextScene_2 (d : Nat) (p0 : Nat) (i1 : Int32) (h : jm_H) : Option jm_R := jm_B d mX13_nextScene (2, [some (.ref p0), some (.int i1)], []) h
theorem gX13_nextScene_2 {d : Nat} {p0 : Nat} {i1 : Int32} {h : jm_H} {r : jm_R} (H : ((jr_I h p0 12 19 0).bind fun x1 => (if i1 < x1 then (jr_R h p0 12 18 2).bind fun a4 => (jm_all h a4 i1).bind fun y6 => (if (lg_cmp y6 0) = 0 then (jr_R h p0 12 18 2).bind fun a9 => (jm_all h a9 (i1 + 1)).bind fun y11 => (if (lg_cmp y11 0) < 0 then some (.inl (some (.int i1)), h) else kX13_nextScene_2 d p0 (i1 + 1) h) else kX13_nextScene_2 d p0 (i1 + 1) h) else some (.inl (some (.int (-1))), h))) = some r) : kX13_nextScene_2 d p0 i1 h = some r := by
  show jm_B d mX13_nextScene (2, [some (.ref p0), some (.int i1)], []) h = some r
  refine Eq.trans (jb_nx (i := .iload_n 1) (n := 1) (q := (3, [some (.ref p0), some (.int i1)], [.int i1])) (jq qX13_nextScene 2 rfl) rfl) ?_
  refine Eq.trans (jb_nx (i := .aload_n 0) (n := 1) (q := (4, [some (.ref p0), some (.int i1)], [.ref p0, .int i1])) (jq qX13_nextScene 3 rfl) rfl) ?_
  obtain ⟨x1, e2, H⟩ := jbd H
  refine Eq.trans (jb_nx (i := .getfield 82) (n := 3) (q := (7, [some (.ref p0), some (.int i1)], [.int x1, .int i1])) (jq qX13_nextScene 4 rfl) (jo_gf rfl (jr_I_inv e2))) ?_
  by_cases c3 : i1 < x1
  · rw [if_pos c3] at H
    refine Eq.trans (jb_nx (i := .if_icmp .ge 35) (n := 3) (q := (10, [some (.ref p0), some (.int i1)], [])) (jq qX13_nextScene 5 rfl) (jo_icF (jz_geF c3))) ?_
    refine Eq.trans (jb_nx (i := .aload_n 0) (n := 1) (q := (11, [some (.ref p0), some (.int i1)], [.ref p0])) (jq qX13_nextScene 6 rfl) rfl) ?_
    obtain ⟨a4, e5, H⟩ := jbd H
    refine Eq.trans (jb_nx (i := .getfield 43) (n := 3) (q := (14, [some (.ref p0), some (.int i1)], [.ref a4])) (jq qX13_nextScene 7 rfl) (jo_gf rfl (jr_R_inv e5))) ?_
    refine Eq.trans (jb_nx (i := .iload_n 1) (n := 1) (q := (15, [some (.ref p0), some (.int i1)], [.int i1, .ref a4])) (jq qX13_nextScene 8 rfl) rfl) ?_
    obtain ⟨y6, e7, H⟩ := jbd H
    refine Eq.trans (jb_nx (i := .laload) (n := 1) (q := (16, [some (.ref p0), some (.int i1)], [.long y6])) (jq qX13_nextScene 9 rfl) (jo_lal e7)) ?_
    refine Eq.trans (jb_nx (i := .lconst 0) (n := 1) (q := (17, [some (.ref p0), some (.int i1)], [.long 0, .long y6])) (jq qX13_nextScene 10 rfl) rfl) ?_
    refine Eq.trans (jb_nx (i := .lcmp) (n := 1) (q := (18, [some (.ref p0), some (.int i1)], [.int (lg_cmp y6 0)])) (jq qX13_nextScene 11 rfl) rfl) ?_
    by_cases c8 : (lg_cmp y6 0) = 0
    · rw [if_pos c8] at H
      refine Eq.trans (jb_nx (i := .ifCond .ne 18) (n := 3) (q := (21, [some (.ref p0), some (.int i1)], [])) (jq qX13_nextScene 12 rfl) (jo_ifF (jz_neF c8))) ?_
      refine Eq.trans (jb_nx (i := .aload_n 0) (n := 1) (q := (22, [some (.ref p0), some (.int i1)], [.ref p0])) (jq qX13_nextScene 13 rfl) rfl) ?_
      obtain ⟨a9, e10, H⟩ := jbd H
      refine Eq.trans (jb_nx (i := .getfield 43) (n := 3) (q := (25, [some (.ref p0), some (.int i1)], [.ref a9])) (jq qX13_nextScene 14 rfl) (jo_gf rfl (jr_R_inv e10))) ?_
      refine Eq.trans (jb_nx (i := .iload_n 1) (n := 1) (q := (26, [some (.ref p0), some (.int i1)], [.int i1, .ref a9])) (jq qX13_nextScene 15 rfl) rfl) ?_
      refine Eq.trans (jb_nx (i := .iconst 1) (n := 1) (q := (27, [some (.ref p0), some (.int i1)], [.int 1, .int i1, .ref a9])) (jq qX13_nextScene 16 rfl) rfl) ?_
      refine Eq.trans (jb_nx (i := .iadd) (n := 1) (q := (28, [some (.ref p0), some (.int i1)], [.int (i1 + 1), .ref a9])) (jq qX13_nextScene 17 rfl) rfl) ?_
      obtain ⟨y11, e12, H⟩ := jbd H
      refine Eq.trans (jb_nx (i := .laload) (n := 1) (q := (29, [some (.ref p0), some (.int i1)], [.long y11])) (jq qX13_nextScene 18 rfl) (jo_lal e12)) ?_
      refine Eq.trans (jb_nx (i := .lconst 0) (n := 1) (q := (30, [some (.ref p0), some (.int i1)], [.long 0, .long y11])) (jq qX13_nextScene 19 rfl) rfl) ?_
      refine Eq.trans (jb_nx (i := .lcmp) (n := 1) (q := (31, [some (.ref p0), some (.int i1)], [.int (lg_cmp y11 0)])) (jq qX13_nextScene 20 rfl) rfl) ?_
      by_cases c13 : (lg_cmp y11 0) < 0
      · rw [if_pos c13] at H
        refine Eq.trans (jb_nx (i := .ifCond .ge 5) (n := 3) (q := (34, [some (.ref p0), some (.int i1)], [])) (jq qX13_nextScene 21 rfl) (jo_ifF (jz_geF c13))) ?_
        refine Eq.trans (jb_nx (i := .iload_n 1) (n := 1) (q := (35, [some (.ref p0), some (.int i1)], [.int i1])) (jq qX13_nextScene 22 rfl) rfl) ?_
        exact Eq.trans (jb_rt (i := .ireturn) (n := 1) (jq qX13_nextScene 23 rfl) (jo_iret rfl rfl)) H
      · rw [if_neg c13] at H
        refine Eq.trans (jb_nx (i := .ifCond .ge 5) (n := 3) (q := (36, [some (.ref p0), some (.int i1)], [])) (jq qX13_nextScene 21 rfl) (jo_ifT (jz_geT c13) rfl)) ?_
        refine Eq.trans (jb_nx (i := .iinc 1 1) (n := 3) (q := (39, [some (.ref p0), some (.int (i1 + 1))], [])) (jq qX13_nextScene 24 rfl) rfl) ?_
        refine Eq.trans (jb_nx (i := .goto (-37)) (n := 3) (q := (2, [some (.ref p0), some (.int (i1 + 1))], [])) (jq qX13_nextScene 25 rfl) rfl) ?_
        exact H
    · rw [if_neg c8] at H
      refine Eq.trans (jb_nx (i := .ifCond .ne 18) (n := 3) (q := (36, [some (.ref p0), some (.int i1)], [])) (jq qX13_nextScene 12 rfl) (jo_ifT (jz_neT c8) rfl)) ?_
      refine Eq.trans (jb_nx (i := .iinc 1 1) (n := 3) (q := (39, [some (.ref p0), some (.int (i1 + 1))], [])) (jq qX13_nextScene 24 rfl) rfl) ?_
      refine Eq.trans (jb_nx (i := .goto (-37)) (n := 3) (q := (2, [some (.ref p0), some (.int (i1 + 1))], [])) (jq qX13_nextScene 25 rfl) rfl) ?_
      exact H
  · rw [if_neg c3] at H
    refine Eq.trans (jb_nx (i := .if_icmp .ge 35) (n := 3) (q := (42, [some (.ref p0), some (.int i1)], [])) (jq qX13_nextScene 5 rfl) (jo_icT (jz_geT c3) rfl)) ?_
    refine Eq.trans (jb_nx (i := .iconst (-1)) (n := 1) (q := (43, [some (.ref p0), some (.int i1)], [.int (-1)])) (jq qX13_nextScene 26 rfl) rfl) ?_
    exact Eq.trans (jb_rt (i := .ireturn) (n := 1) (jq qX13_nextScene 27 rfl) (jo_iret rfl rfl)) H
theorem gX13_nextScene {d : Nat} {p0 : Nat} {h : jm_H} {r : jm_R} (H : (kX13_nextScene_2 d p0 0 h) = some r) : jm_D (d + 1) mX13_nextScene [.ref p0] h = some r := by
  rw [jm_D_body (Nat.le_of_ble_eq_true rfl)]
  show jm_B d mX13_nextScene (0, [some (.ref p0), none], []) h = some r
  refine Eq.trans (jb_nx (i := .iconst 0) (n := 1) (q := (1, [some (.ref p0), none], [.int 0])) (jq qX13_nextScene 0 rfl) rfl) ?_
  refine Eq.trans (jb_nx (i := .istore_n 1) (n := 1) (q := (2, [some (.ref p0), some (.int 0)], [])) (jq qX13_nextScene 1 rfl) rfl) ?_
  exact H
/-! MaskPlaysModel isNot (I)Z -/
def tX13_isNot : List (Nat × Instr × Nat) := [(0, .aload_n 0, 1), (1, .iload_n 1, 1), (2, .putfield 68, 3), (5, .iconst 0, 1), (6, .ireturn, 1)]
set_option maxRecDepth 100000 in
theorem qX13_isNot : ∀ q ∈ tX13_isNot, decode cX13_isNot q.1 = .ok (q.2.1, q.2.2) := by decide +kernel
theorem gX13_isNot {d : Nat} {p0 : Nat} {i1 : Int32} {h : jm_H} {r : jm_R} (H : ((jm_pf h p0 12 0 0 (.int i1)).bind fun h1 => some (.inl (some (.int 0)), h1)) = some r) : jm_D (d + 1) mX13_isNot [.ref p0, .int i1] h = some r := by
  rw [jm_D_body (Nat.le_of_ble_eq_true rfl)]
  show jm_B d mX13_isNot (0, [some (.ref p0), some (.int i1)], []) h = some r
  refine Eq.trans (jb_nx (i := .aload_n 0) (n := 1) (q := (1, [some (.ref p0), some (.int i1)], [.ref p0])) (jq qX13_isNot 0 rfl) rfl) ?_
  refine Eq.trans (jb_nx (i := .iload_n 1) (n := 1) (q := (2, [some (.ref p0), some (.int i1)], [.int i1, .ref p0])) (jq qX13_isNot 1 rfl) rfl) ?_
  obtain ⟨h1, e2, H⟩ := jbd H
  refine Eq.trans (jb_nx (i := .putfield 68) (n := 3) (q := (5, [some (.ref p0), some (.int i1)], [])) (jq qX13_isNot 2 rfl) (jo_pf rfl (Or.inl rfl) e2)) ?_
  refine Eq.trans (jb_nx (i := .iconst 0) (n := 1) (q := (6, [some (.ref p0), some (.int i1)], [.int 0])) (jq qX13_isNot 3 rfl) rfl) ?_
  exact Eq.trans (jb_rt (i := .ireturn) (n := 1) (jq qX13_isNot 4 rfl) (jo_iret rfl (by decide))) H
/-! MaskPlaysModel canStep (I)Z -/
def tX13_canStep : List (Nat × Instr × Nat) := [(0, .aload_n 0, 1), (1, .iconst 0, 1), (2, .putfield 68, 3), (5, .aload_n 0, 1), (6, .iload_n 1, 1), (7, .invokevirtual 473, 3), (10, .ifCond .ne 9, 3), (13, .aload_n 0, 1), (14, .iconst 1, 1), (15, .invokevirtual 485, 3), (18, .ireturn, 1), (19, .aload_n 0, 1), (20, .iload_n 1, 1), (21, .invokevirtual 146, 3), (24, .aload_n 0, 1), (25, .invokevirtual 260, 3), (28, .ireturn, 1)]
set_option maxRecDepth 100000 in
theorem qX13_canStep : ∀ q ∈ tX13_canStep, decode cX13_canStep q.1 = .ok (q.2.1, q.2.2) := by decide +kernel
theorem gX13_canStep {d : Nat} {p0 : Nat} {i1 : Int32} {h : jm_H} {r : jm_R} (H : ((jm_pf h p0 12 0 0 (.int 0)).bind fun h1 => jm_O h1 p0 13 (jc_I (jm_D d mX13_isPlay [.ref p0, .int i1] h1) (fun x5 h3 => (if x5 = 0 then jm_O h3 p0 13 (jc_I (jm_D d mX13_isNot [.ref p0, .int 1] h3) (fun x21 h19 => jm_Y .boolean x21 (some (.inl (some (.int x21)), h19))) jx) else jm_O h3 p0 13 (jc_V (jm_D d mX13_takeUp [.ref p0, .int i1] h3) (fun h7 => jm_O h7 p0 13 (jc_I (jm_D d mX13_canStepNow [.ref p0] h7) (fun x11 h9 => jm_Y .boolean x11 (some (.inl (some (.int x11)), h9))) jx)) jx))) jx)) = some r) : jm_D (d + 1) mX13_canStep [.ref p0, .int i1] h = some r := by
  rw [jm_D_body (Nat.le_of_ble_eq_true rfl)]
  show jm_B d mX13_canStep (0, [some (.ref p0), some (.int i1)], []) h = some r
  refine Eq.trans (jb_nx (i := .aload_n 0) (n := 1) (q := (1, [some (.ref p0), some (.int i1)], [.ref p0])) (jq qX13_canStep 0 rfl) rfl) ?_
  refine Eq.trans (jb_nx (i := .iconst 0) (n := 1) (q := (2, [some (.ref p0), some (.int i1)], [.int 0, .ref p0])) (jq qX13_canStep 1 rfl) rfl) ?_
  obtain ⟨h1, e2, H⟩ := jbd H
  refine Eq.trans (jb_nx (i := .putfield 68) (n := 3) (q := (5, [some (.ref p0), some (.int i1)], [])) (jq qX13_canStep 2 rfl) (jo_pf rfl (Or.inl rfl) e2)) ?_
  refine Eq.trans (jb_nx (i := .aload_n 0) (n := 1) (q := (6, [some (.ref p0), some (.int i1)], [.ref p0])) (jq qX13_canStep 3 rfl) rfl) ?_
  refine Eq.trans (jb_nx (i := .iload_n 1) (n := 1) (q := (7, [some (.ref p0), some (.int i1)], [.int i1, .ref p0])) (jq qX13_canStep 4 rfl) rfl) ?_
  obtain ⟨b26, H⟩ := jm_O_inv H
  rcases jcI H with ⟨x5, h3, r4, H⟩ | ⟨w27, h28, r4, H⟩
  · refine Eq.trans (jb_nx (i := .invokevirtual 473) (n := 3) (q := (10, [some (.ref p0), some (.int i1)], [.int x5])) (jq qX13_canStep 5 rfl) (jo_cv (y := mX13_isPlay) rfl (Nat.le_of_ble_eq_true rfl) rfl (Nat.le_of_ble_eq_true rfl) b26 rfl r4 jo_ret)) ?_
    by_cases c6 : x5 = 0
    · rw [if_pos c6] at H
      refine Eq.trans (jb_nx (i := .ifCond .ne 9) (n := 3) (q := (13, [some (.ref p0), some (.int i1)], [])) (jq qX13_canStep 6 rfl) (jo_ifF (jz_neF c6))) ?_
      refine Eq.trans (jb_nx (i := .aload_n 0) (n := 1) (q := (14, [some (.ref p0), some (.int i1)], [.ref p0])) (jq qX13_canStep 7 rfl) rfl) ?_
      refine Eq.trans (jb_nx (i := .iconst 1) (n := 1) (q := (15, [some (.ref p0), some (.int i1)], [.int 1, .ref p0])) (jq qX13_canStep 8 rfl) rfl) ?_
      obtain ⟨b23, H⟩ := jm_O_inv H
      rcases jcI H with ⟨x21, h19, r20, H⟩ | ⟨w24, h25, r20, H⟩
      · refine Eq.trans (jb_nx (i := .invokevirtual 485) (n := 3) (q := (18, [some (.ref p0), some (.int i1)], [.int x21])) (jq qX13_canStep 9 rfl) (jo_cv (y := mX13_isNot) rfl (Nat.le_of_ble_eq_true rfl) rfl (Nat.le_of_ble_eq_true rfl) b23 rfl r20 jo_ret)) ?_
        obtain ⟨u22, H⟩ := jm_Y_inv H
        exact Eq.trans (jb_rt (i := .ireturn) (n := 1) (jq qX13_canStep 10 rfl) (jo_iret rfl u22)) H
      · exact Eq.trans (jb_rt (i := .invokevirtual 485) (n := 3) (jq qX13_canStep 9 rfl) (jo_cv (y := mX13_isNot) rfl (Nat.le_of_ble_eq_true rfl) rfl (Nat.le_of_ble_eq_true rfl) b23 rfl r20 (jo_exn rfl))) H
    · rw [if_neg c6] at H
      refine Eq.trans (jb_nx (i := .ifCond .ne 9) (n := 3) (q := (19, [some (.ref p0), some (.int i1)], [])) (jq qX13_canStep 6 rfl) (jo_ifT (jz_neT c6) rfl)) ?_
      refine Eq.trans (jb_nx (i := .aload_n 0) (n := 1) (q := (20, [some (.ref p0), some (.int i1)], [.ref p0])) (jq qX13_canStep 11 rfl) rfl) ?_
      refine Eq.trans (jb_nx (i := .iload_n 1) (n := 1) (q := (21, [some (.ref p0), some (.int i1)], [.int i1, .ref p0])) (jq qX13_canStep 12 rfl) rfl) ?_
      obtain ⟨b16, H⟩ := jm_O_inv H
      rcases jcV H with ⟨h7, r8, H⟩ | ⟨w17, h18, r8, H⟩
      · refine Eq.trans (jb_nx (i := .invokevirtual 146) (n := 3) (q := (24, [some (.ref p0), some (.int i1)], [])) (jq qX13_canStep 13 rfl) (jo_cv (y := mX13_takeUp) rfl (Nat.le_of_ble_eq_true rfl) rfl (Nat.le_of_ble_eq_true rfl) b16 rfl r8 jo_ret)) ?_
        refine Eq.trans (jb_nx (i := .aload_n 0) (n := 1) (q := (25, [some (.ref p0), some (.int i1)], [.ref p0])) (jq qX13_canStep 14 rfl) rfl) ?_
        obtain ⟨b13, H⟩ := jm_O_inv H
        rcases jcI H with ⟨x11, h9, r10, H⟩ | ⟨w14, h15, r10, H⟩
        · refine Eq.trans (jb_nx (i := .invokevirtual 260) (n := 3) (q := (28, [some (.ref p0), some (.int i1)], [.int x11])) (jq qX13_canStep 15 rfl) (jo_cv (y := mX13_canStepNow) rfl (Nat.le_of_ble_eq_true rfl) rfl (Nat.le_of_ble_eq_true rfl) b13 rfl r10 jo_ret)) ?_
          obtain ⟨u12, H⟩ := jm_Y_inv H
          exact Eq.trans (jb_rt (i := .ireturn) (n := 1) (jq qX13_canStep 16 rfl) (jo_iret rfl u12)) H
        · exact Eq.trans (jb_rt (i := .invokevirtual 260) (n := 3) (jq qX13_canStep 15 rfl) (jo_cv (y := mX13_canStepNow) rfl (Nat.le_of_ble_eq_true rfl) rfl (Nat.le_of_ble_eq_true rfl) b13 rfl r10 (jo_exn rfl))) H
      · exact Eq.trans (jb_rt (i := .invokevirtual 146) (n := 3) (jq qX13_canStep 13 rfl) (jo_cv (y := mX13_takeUp) rfl (Nat.le_of_ble_eq_true rfl) rfl (Nat.le_of_ble_eq_true rfl) b16 rfl r8 (jo_exn rfl))) H
  · exact Eq.trans (jb_rt (i := .invokevirtual 473) (n := 3) (jq qX13_canStep 5 rfl) (jo_cv (y := mX13_isPlay) rfl (Nat.le_of_ble_eq_true rfl) rfl (Nat.le_of_ble_eq_true rfl) b26 rfl r4 (jo_exn rfl))) H
/-! MaskPlaysModel canStepNow ()Z -/
def tX13_canStepNow : List (Nat × Instr × Nat) := [(0, .aload_n 0, 1), (1, .invokevirtual 92, 3), (4, .istore_n 1, 1), (5, .iload_n 1, 1), (6, .iconst (-1), 1), (7, .if_icmp .eq 18, 3), (10, .aload_n 0, 1), (11, .iload_n 1, 1), (12, .invokevirtual 96, 3), (15, .sipush 150, 3), (18, .if_icmp .gt 7, 3), (21, .iconst 1, 1), (22, .goto 4, 3), (25, .iconst 0, 1), (26, .ireturn, 1)]
set_option maxRecDepth 100000 in
theorem qX13_canStepNow : ∀ q ∈ tX13_canStepNow, decode cX13_canStepNow q.1 = .ok (q.2.1, q.2.2) := by decide +kernel
theorem gX13_canStepNow {d : Nat} {p0 : Nat} {h : jm_H} {r : jm_R} (H : (jm_O h p0 13 (jc_I (jm_D d mX13_nextScene [.ref p0] h) (fun x3 h1 => (if x3 = (-1) then some (.inl (some (.int 0)), h1) else jm_O h1 p0 13 (jc_I (jm_D d mX13_sizeBehind [.ref p0, .int x3] h1) (fun x7 h5 => (if 150 < x7 then some (.inl (some (.int 0)), h5) else some (.inl (some (.int 1)), h5))) jx))) jx)) = some r) : jm_D (d + 1) mX13_canStepNow [.ref p0] h = some r := by
  rw [jm_D_body (Nat.le_of_ble_eq_true rfl)]
  show jm_B d mX13_canStepNow (0, [some (.ref p0), none], []) h = some r
  refine Eq.trans (jb_nx (i := .aload_n 0) (n := 1) (q := (1, [some (.ref p0), none], [.ref p0])) (jq qX13_canStepNow 0 rfl) rfl) ?_
  obtain ⟨b12, H⟩ := jm_O_inv H
  rcases jcI H with ⟨x3, h1, r2, H⟩ | ⟨w13, h14, r2, H⟩
  · refine Eq.trans (jb_nx (i := .invokevirtual 92) (n := 3) (q := (4, [some (.ref p0), none], [.int x3])) (jq qX13_canStepNow 1 rfl) (jo_cv (y := mX13_nextScene) rfl (Nat.le_of_ble_eq_true rfl) rfl (Nat.le_of_ble_eq_true rfl) b12 rfl r2 jo_ret)) ?_
    refine Eq.trans (jb_nx (i := .istore_n 1) (n := 1) (q := (5, [some (.ref p0), some (.int x3)], [])) (jq qX13_canStepNow 2 rfl) rfl) ?_
    refine Eq.trans (jb_nx (i := .iload_n 1) (n := 1) (q := (6, [some (.ref p0), some (.int x3)], [.int x3])) (jq qX13_canStepNow 3 rfl) rfl) ?_
    refine Eq.trans (jb_nx (i := .iconst (-1)) (n := 1) (q := (7, [some (.ref p0), some (.int x3)], [.int (-1), .int x3])) (jq qX13_canStepNow 4 rfl) rfl) ?_
    by_cases c4 : x3 = (-1)
    · rw [if_pos c4] at H
      refine Eq.trans (jb_nx (i := .if_icmp .eq 18) (n := 3) (q := (25, [some (.ref p0), some (.int x3)], [])) (jq qX13_canStepNow 5 rfl) (jo_icT (jz_eqT c4) rfl)) ?_
      refine Eq.trans (jb_nx (i := .iconst 0) (n := 1) (q := (26, [some (.ref p0), some (.int x3)], [.int 0])) (jq qX13_canStepNow 13 rfl) rfl) ?_
      exact Eq.trans (jb_rt (i := .ireturn) (n := 1) (jq qX13_canStepNow 14 rfl) (jo_iret rfl (by decide))) H
    · rw [if_neg c4] at H
      refine Eq.trans (jb_nx (i := .if_icmp .eq 18) (n := 3) (q := (10, [some (.ref p0), some (.int x3)], [])) (jq qX13_canStepNow 5 rfl) (jo_icF (jz_eqF c4))) ?_
      refine Eq.trans (jb_nx (i := .aload_n 0) (n := 1) (q := (11, [some (.ref p0), some (.int x3)], [.ref p0])) (jq qX13_canStepNow 6 rfl) rfl) ?_
      refine Eq.trans (jb_nx (i := .iload_n 1) (n := 1) (q := (12, [some (.ref p0), some (.int x3)], [.int x3, .ref p0])) (jq qX13_canStepNow 7 rfl) rfl) ?_
      obtain ⟨b9, H⟩ := jm_O_inv H
      rcases jcI H with ⟨x7, h5, r6, H⟩ | ⟨w10, h11, r6, H⟩
      · refine Eq.trans (jb_nx (i := .invokevirtual 96) (n := 3) (q := (15, [some (.ref p0), some (.int x3)], [.int x7])) (jq qX13_canStepNow 8 rfl) (jo_cv (y := mX13_sizeBehind) rfl (Nat.le_of_ble_eq_true rfl) rfl (Nat.le_of_ble_eq_true rfl) b9 rfl r6 jo_ret)) ?_
        refine Eq.trans (jb_nx (i := .sipush 150) (n := 3) (q := (18, [some (.ref p0), some (.int x3)], [.int 150, .int x7])) (jq qX13_canStepNow 9 rfl) rfl) ?_
        by_cases c8 : 150 < x7
        · rw [if_pos c8] at H
          refine Eq.trans (jb_nx (i := .if_icmp .gt 7) (n := 3) (q := (25, [some (.ref p0), some (.int x3)], [])) (jq qX13_canStepNow 10 rfl) (jo_icT (jz_gtT c8) rfl)) ?_
          refine Eq.trans (jb_nx (i := .iconst 0) (n := 1) (q := (26, [some (.ref p0), some (.int x3)], [.int 0])) (jq qX13_canStepNow 13 rfl) rfl) ?_
          exact Eq.trans (jb_rt (i := .ireturn) (n := 1) (jq qX13_canStepNow 14 rfl) (jo_iret rfl (by decide))) H
        · rw [if_neg c8] at H
          refine Eq.trans (jb_nx (i := .if_icmp .gt 7) (n := 3) (q := (21, [some (.ref p0), some (.int x3)], [])) (jq qX13_canStepNow 10 rfl) (jo_icF (jz_gtF c8))) ?_
          refine Eq.trans (jb_nx (i := .iconst 1) (n := 1) (q := (22, [some (.ref p0), some (.int x3)], [.int 1])) (jq qX13_canStepNow 11 rfl) rfl) ?_
          refine Eq.trans (jb_nx (i := .goto 4) (n := 3) (q := (26, [some (.ref p0), some (.int x3)], [.int 1])) (jq qX13_canStepNow 12 rfl) rfl) ?_
          exact Eq.trans (jb_rt (i := .ireturn) (n := 1) (jq qX13_canStepNow 14 rfl) (jo_iret rfl (by decide))) H
      · exact Eq.trans (jb_rt (i := .invokevirtual 96) (n := 3) (jq qX13_canStepNow 8 rfl) (jo_cv (y := mX13_sizeBehind) rfl (Nat.le_of_ble_eq_true rfl) rfl (Nat.le_of_ble_eq_true rfl) b9 rfl r6 (jo_exn rfl))) H
  · exact Eq.trans (jb_rt (i := .invokevirtual 92) (n := 3) (jq qX13_canStepNow 1 rfl) (jo_cv (y := mX13_nextScene) rfl (Nat.le_of_ble_eq_true rfl) rfl (Nat.le_of_ble_eq_true rfl) b12 rfl r2 (jo_exn rfl))) H
/-! MaskPlaysModel sizeBehind (I)I -/
def tX13_sizeBehind : List (Nat × Instr × Nat) := [(0, .aload_n 0, 1), (1, .getfield 43, 3), (4, .iload_n 1, 1), (5, .iconst 2, 1), (6, .iadd, 1), (7, .invokestatic 78, 3), (10, .istore_n 2, 1), (11, .aload_n 0, 1), (12, .getfield 43, 3), (15, .iload_n 2, 1), (16, .invokestatic 78, 3), (19, .iload_n 2, 1), (20, .isub, 1), (21, .istore_n 3, 1), (22, .aload_n 0, 1), (23, .getfield 82, 3), (26, .iconst 2, 1), (27, .isub, 1), (28, .iload_n 3, 1), (29, .isub, 1), (30, .aload_n 0, 1), (31, .iload_n 1, 1), (32, .iconst 1, 1), (33, .iadd, 1), (34, .iload_n 2, 1), (35, .invokevirtual 88, 3), (38, .iload_n 3, 1), (39, .iconst 1, 1), (40, .isub, 1), (41, .imul, 1), (42, .iadd, 1), (43, .ireturn, 1)]
set_option maxRecDepth 100000 in
theorem qX13_sizeBehind : ∀ q ∈ tX13_sizeBehind, decode cX13_sizeBehind q.1 = .ok (q.2.1, q.2.2) := by decide +kernel
theorem gX13_sizeBehind {d : Nat} {p0 : Nat} {i1 : Int32} {h : jm_H} {r : jm_R} (H : ((jr_R h p0 12 18 2).bind fun a1 => jc_I (jm_D d mX13_end [.ref a1, .int (i1 + 2)] h) (fun x5 h3 => (jr_R h3 p0 12 18 2).bind fun a6 => jc_I (jm_D d mX13_end [.ref a6, .int x5] h3) (fun x10 h8 => (jr_I h8 p0 12 19 0).bind fun x11 => jm_O h8 p0 13 (jc_I (jm_D d mX13_markTargets [.ref p0, .int (i1 + 1), .int x5] h8) (fun x15 h13 => some (.inl (some (.int (((x11 - 2) - (x10 - x5)) + (x15 * ((x10 - x5) - 1))))), h13)) jx)) jx) jx) = some r) : jm_D (d + 1) mX13_sizeBehind [.ref p0, .int i1] h = some r := by
  rw [jm_D_body (Nat.le_of_ble_eq_true rfl)]
  show jm_B d mX13_sizeBehind (0, [some (.ref p0), some (.int i1), none, none], []) h = some r
  refine Eq.trans (jb_nx (i := .aload_n 0) (n := 1) (q := (1, [some (.ref p0), some (.int i1), none, none], [.ref p0])) (jq qX13_sizeBehind 0 rfl) rfl) ?_
  obtain ⟨a1, e2, H⟩ := jbd H
  refine Eq.trans (jb_nx (i := .getfield 43) (n := 3) (q := (4, [some (.ref p0), some (.int i1), none, none], [.ref a1])) (jq qX13_sizeBehind 1 rfl) (jo_gf rfl (jr_R_inv e2))) ?_
  refine Eq.trans (jb_nx (i := .iload_n 1) (n := 1) (q := (5, [some (.ref p0), some (.int i1), none, none], [.int i1, .ref a1])) (jq qX13_sizeBehind 2 rfl) rfl) ?_
  refine Eq.trans (jb_nx (i := .iconst 2) (n := 1) (q := (6, [some (.ref p0), some (.int i1), none, none], [.int 2, .int i1, .ref a1])) (jq qX13_sizeBehind 3 rfl) rfl) ?_
  refine Eq.trans (jb_nx (i := .iadd) (n := 1) (q := (7, [some (.ref p0), some (.int i1), none, none], [.int (i1 + 2), .ref a1])) (jq qX13_sizeBehind 4 rfl) rfl) ?_
  rcases jcI H with ⟨x5, h3, r4, H⟩ | ⟨w21, h22, r4, H⟩
  · refine Eq.trans (jb_nx (i := .invokestatic 78) (n := 3) (q := (10, [some (.ref p0), some (.int i1), none, none], [.int x5])) (jq qX13_sizeBehind 5 rfl) (jo_cs (y := mX13_end) (w := 1) (by decide) rfl (Nat.le_of_ble_eq_true rfl) rfl (Nat.le_of_ble_eq_true rfl) rfl r4 jo_ret)) ?_
    refine Eq.trans (jb_nx (i := .istore_n 2) (n := 1) (q := (11, [some (.ref p0), some (.int i1), some (.int x5), none], [])) (jq qX13_sizeBehind 6 rfl) rfl) ?_
    refine Eq.trans (jb_nx (i := .aload_n 0) (n := 1) (q := (12, [some (.ref p0), some (.int i1), some (.int x5), none], [.ref p0])) (jq qX13_sizeBehind 7 rfl) rfl) ?_
    obtain ⟨a6, e7, H⟩ := jbd H
    refine Eq.trans (jb_nx (i := .getfield 43) (n := 3) (q := (15, [some (.ref p0), some (.int i1), some (.int x5), none], [.ref a6])) (jq qX13_sizeBehind 8 rfl) (jo_gf rfl (jr_R_inv e7))) ?_
    refine Eq.trans (jb_nx (i := .iload_n 2) (n := 1) (q := (16, [some (.ref p0), some (.int i1), some (.int x5), none], [.int x5, .ref a6])) (jq qX13_sizeBehind 9 rfl) rfl) ?_
    rcases jcI H with ⟨x10, h8, r9, H⟩ | ⟨w19, h20, r9, H⟩
    · refine Eq.trans (jb_nx (i := .invokestatic 78) (n := 3) (q := (19, [some (.ref p0), some (.int i1), some (.int x5), none], [.int x10])) (jq qX13_sizeBehind 10 rfl) (jo_cs (y := mX13_end) (w := 1) (by decide) rfl (Nat.le_of_ble_eq_true rfl) rfl (Nat.le_of_ble_eq_true rfl) rfl r9 jo_ret)) ?_
      refine Eq.trans (jb_nx (i := .iload_n 2) (n := 1) (q := (20, [some (.ref p0), some (.int i1), some (.int x5), none], [.int x5, .int x10])) (jq qX13_sizeBehind 11 rfl) rfl) ?_
      refine Eq.trans (jb_nx (i := .isub) (n := 1) (q := (21, [some (.ref p0), some (.int i1), some (.int x5), none], [.int (x10 - x5)])) (jq qX13_sizeBehind 12 rfl) rfl) ?_
      refine Eq.trans (jb_nx (i := .istore_n 3) (n := 1) (q := (22, [some (.ref p0), some (.int i1), some (.int x5), some (.int (x10 - x5))], [])) (jq qX13_sizeBehind 13 rfl) rfl) ?_
      refine Eq.trans (jb_nx (i := .aload_n 0) (n := 1) (q := (23, [some (.ref p0), some (.int i1), some (.int x5), some (.int (x10 - x5))], [.ref p0])) (jq qX13_sizeBehind 14 rfl) rfl) ?_
      obtain ⟨x11, e12, H⟩ := jbd H
      refine Eq.trans (jb_nx (i := .getfield 82) (n := 3) (q := (26, [some (.ref p0), some (.int i1), some (.int x5), some (.int (x10 - x5))], [.int x11])) (jq qX13_sizeBehind 15 rfl) (jo_gf rfl (jr_I_inv e12))) ?_
      refine Eq.trans (jb_nx (i := .iconst 2) (n := 1) (q := (27, [some (.ref p0), some (.int i1), some (.int x5), some (.int (x10 - x5))], [.int 2, .int x11])) (jq qX13_sizeBehind 16 rfl) rfl) ?_
      refine Eq.trans (jb_nx (i := .isub) (n := 1) (q := (28, [some (.ref p0), some (.int i1), some (.int x5), some (.int (x10 - x5))], [.int (x11 - 2)])) (jq qX13_sizeBehind 17 rfl) rfl) ?_
      refine Eq.trans (jb_nx (i := .iload_n 3) (n := 1) (q := (29, [some (.ref p0), some (.int i1), some (.int x5), some (.int (x10 - x5))], [.int (x10 - x5), .int (x11 - 2)])) (jq qX13_sizeBehind 18 rfl) rfl) ?_
      refine Eq.trans (jb_nx (i := .isub) (n := 1) (q := (30, [some (.ref p0), some (.int i1), some (.int x5), some (.int (x10 - x5))], [.int ((x11 - 2) - (x10 - x5))])) (jq qX13_sizeBehind 19 rfl) rfl) ?_
      refine Eq.trans (jb_nx (i := .aload_n 0) (n := 1) (q := (31, [some (.ref p0), some (.int i1), some (.int x5), some (.int (x10 - x5))], [.ref p0, .int ((x11 - 2) - (x10 - x5))])) (jq qX13_sizeBehind 20 rfl) rfl) ?_
      refine Eq.trans (jb_nx (i := .iload_n 1) (n := 1) (q := (32, [some (.ref p0), some (.int i1), some (.int x5), some (.int (x10 - x5))], [.int i1, .ref p0, .int ((x11 - 2) - (x10 - x5))])) (jq qX13_sizeBehind 21 rfl) rfl) ?_
      refine Eq.trans (jb_nx (i := .iconst 1) (n := 1) (q := (33, [some (.ref p0), some (.int i1), some (.int x5), some (.int (x10 - x5))], [.int 1, .int i1, .ref p0, .int ((x11 - 2) - (x10 - x5))])) (jq qX13_sizeBehind 22 rfl) rfl) ?_
      refine Eq.trans (jb_nx (i := .iadd) (n := 1) (q := (34, [some (.ref p0), some (.int i1), some (.int x5), some (.int (x10 - x5))], [.int (i1 + 1), .ref p0, .int ((x11 - 2) - (x10 - x5))])) (jq qX13_sizeBehind 23 rfl) rfl) ?_
      refine Eq.trans (jb_nx (i := .iload_n 2) (n := 1) (q := (35, [some (.ref p0), some (.int i1), some (.int x5), some (.int (x10 - x5))], [.int x5, .int (i1 + 1), .ref p0, .int ((x11 - 2) - (x10 - x5))])) (jq qX13_sizeBehind 24 rfl) rfl) ?_
      obtain ⟨b16, H⟩ := jm_O_inv H
      rcases jcI H with ⟨x15, h13, r14, H⟩ | ⟨w17, h18, r14, H⟩
      · refine Eq.trans (jb_nx (i := .invokevirtual 88) (n := 3) (q := (38, [some (.ref p0), some (.int i1), some (.int x5), some (.int (x10 - x5))], [.int x15, .int ((x11 - 2) - (x10 - x5))])) (jq qX13_sizeBehind 25 rfl) (jo_cv (y := mX13_markTargets) rfl (Nat.le_of_ble_eq_true rfl) rfl (Nat.le_of_ble_eq_true rfl) b16 rfl r14 jo_ret)) ?_
        refine Eq.trans (jb_nx (i := .iload_n 3) (n := 1) (q := (39, [some (.ref p0), some (.int i1), some (.int x5), some (.int (x10 - x5))], [.int (x10 - x5), .int x15, .int ((x11 - 2) - (x10 - x5))])) (jq qX13_sizeBehind 26 rfl) rfl) ?_
        refine Eq.trans (jb_nx (i := .iconst 1) (n := 1) (q := (40, [some (.ref p0), some (.int i1), some (.int x5), some (.int (x10 - x5))], [.int 1, .int (x10 - x5), .int x15, .int ((x11 - 2) - (x10 - x5))])) (jq qX13_sizeBehind 27 rfl) rfl) ?_
        refine Eq.trans (jb_nx (i := .isub) (n := 1) (q := (41, [some (.ref p0), some (.int i1), some (.int x5), some (.int (x10 - x5))], [.int ((x10 - x5) - 1), .int x15, .int ((x11 - 2) - (x10 - x5))])) (jq qX13_sizeBehind 28 rfl) rfl) ?_
        refine Eq.trans (jb_nx (i := .imul) (n := 1) (q := (42, [some (.ref p0), some (.int i1), some (.int x5), some (.int (x10 - x5))], [.int (x15 * ((x10 - x5) - 1)), .int ((x11 - 2) - (x10 - x5))])) (jq qX13_sizeBehind 29 rfl) rfl) ?_
        refine Eq.trans (jb_nx (i := .iadd) (n := 1) (q := (43, [some (.ref p0), some (.int i1), some (.int x5), some (.int (x10 - x5))], [.int (((x11 - 2) - (x10 - x5)) + (x15 * ((x10 - x5) - 1)))])) (jq qX13_sizeBehind 30 rfl) rfl) ?_
        exact Eq.trans (jb_rt (i := .ireturn) (n := 1) (jq qX13_sizeBehind 31 rfl) (jo_iret rfl rfl)) H
      · exact Eq.trans (jb_rt (i := .invokevirtual 88) (n := 3) (jq qX13_sizeBehind 25 rfl) (jo_cv (y := mX13_markTargets) rfl (Nat.le_of_ble_eq_true rfl) rfl (Nat.le_of_ble_eq_true rfl) b16 rfl r14 (jo_exn rfl))) H
    · exact Eq.trans (jb_rt (i := .invokestatic 78) (n := 3) (jq qX13_sizeBehind 10 rfl) (jo_cs (y := mX13_end) (w := 1) (by decide) rfl (Nat.le_of_ble_eq_true rfl) rfl (Nat.le_of_ble_eq_true rfl) rfl r9 (jo_exn rfl))) H
  · exact Eq.trans (jb_rt (i := .invokestatic 78) (n := 3) (jq qX13_sizeBehind 5 rfl) (jo_cs (y := mX13_end) (w := 1) (by decide) rfl (Nat.le_of_ble_eq_true rfl) rfl (Nat.le_of_ble_eq_true rfl) rfl r4 (jo_exn rfl))) H
/-! MaskPlaysModel markTargets (II)I -/
def tX13_markTargets : List (Nat × Instr × Nat) := [(0, .iconst 0, 1), (1, .istore_n 3, 1), (2, .iload_n 1, 1), (3, .iconst 1, 1), (4, .iadd, 1), (5, .istore 4, 2), (7, .iload 4, 2), (9, .iload_n 2, 1), (10, .if_icmp .ge 70, 3), (13, .aload_n 0, 1), (14, .getfield 52, 3), (17, .iload 4, 2), (19, .aload_n 0, 1), (20, .getfield 43, 3), (23, .iload 4, 2), (25, .laload, 1), (26, .aload_n 0, 1), (27, .getfield 43, 3), (30, .iload_n 1, 1), (31, .laload, 1), (32, .lneg, 1), (33, .lcmp, 1), (34, .ifCond .ne 20, 3), (37, .aload_n 0, 1), (38, .getfield 43, 3), (41, .iload 4, 2), (43, .invokestatic 85, 3), (46, .iload_n 1, 1), (47, .if_icmp .ne 7, 3), (50, .iconst 1, 1), (51, .goto 4, 3), (54, .iconst 0, 1), (55, .bastore, 1), (56, .iload_n 3, 1), (57, .aload_n 0, 1), (58, .getfield 52, 3), (61, .iload 4, 2), (63, .baload, 1), (64, .ifCond .eq 7, 3), (67, .iconst 1, 1), (68, .goto 4, 3), (71, .iconst 0, 1), (72, .iadd, 1), (73, .istore_n 3, 1), (74, .iinc 4 1, 3), (77, .goto (-70), 3), (80, .iload_n 3, 1), (81, .ireturn, 1)]
set_option maxRecDepth 100000 in
theorem qX13_markTargets : ∀ q ∈ tX13_markTargets, decode cX13_markTargets q.1 = .ok (q.2.1, q.2.2) := by decide +kernel
noncomputable def kX13_markTargets_7 (d : Nat) (p0 : Nat) (i1 : Int32) (i2 : Int32) (i3 : Int32) (i4 : Int32) (h : jm_H) : Option jm_R := jm_B d mX13_markTargets (7, [some (.ref p0), some (.int i1), some (.int i2), some (.int i3), some (.int i4)], []) h
noncomputable def kX13_markTargets_55 (d : Nat) (p0 : Nat) (i1 : Int32) (i2 : Int32) (i3 : Int32) (i4 : Int32) (si0 : Int32) (si1 : Int32) (sp2 : Nat) (h : jm_H) : Option jm_R := jm_B d mX13_markTargets (55, [some (.ref p0), some (.int i1), some (.int i2), some (.int i3), some (.int i4)], [.int si0, .int si1, .ref sp2]) h
theorem gX13_markTargets_7 {d : Nat} {p0 : Nat} {i1 : Int32} {i2 : Int32} {i3 : Int32} {i4 : Int32} {h : jm_H} {r : jm_R} (H : ((if i4 < i2 then (jr_R h p0 12 22 2).bind fun a2 => (jr_R h p0 12 18 2).bind fun a4 => (jm_all h a4 i4).bind fun y6 => (jr_R h p0 12 18 2).bind fun a8 => (jm_all h a8 i1).bind fun y10 => (if (lg_cmp y6 (-y10)) = 0 then (jr_R h p0 12 18 2).bind fun a13 => jc_I (jm_D d mX13_owner [.ref a13, .int i4] h) (fun x17 h15 => (if x17 = i1 then kX13_markTargets_55 d p0 i1 i2 i3 i4 1 i4 a2 h15 else kX13_markTargets_55 d p0 i1 i2 i3 i4 0 i4 a2 h15)) jx else kX13_markTargets_55 d p0 i1 i2 i3 i4 0 i4 a2 h) else some (.inl (some (.int i3)), h))) = some r) : kX13_markTargets_7 d p0 i1 i2 i3 i4 h = some r := by
  show jm_B d mX13_markTargets (7, [some (.ref p0), some (.int i1), some (.int i2), some (.int i3), some (.int i4)], []) h = some r
  refine Eq.trans (jb_nx (i := .iload 4) (n := 2) (q := (9, [some (.ref p0), some (.int i1), some (.int i2), some (.int i3), some (.int i4)], [.int i4])) (jq qX13_markTargets 6 rfl) rfl) ?_
  refine Eq.trans (jb_nx (i := .iload_n 2) (n := 1) (q := (10, [some (.ref p0), some (.int i1), some (.int i2), some (.int i3), some (.int i4)], [.int i2, .int i4])) (jq qX13_markTargets 7 rfl) rfl) ?_
  by_cases c1 : i4 < i2
  · rw [if_pos c1] at H
    refine Eq.trans (jb_nx (i := .if_icmp .ge 70) (n := 3) (q := (13, [some (.ref p0), some (.int i1), some (.int i2), some (.int i3), some (.int i4)], [])) (jq qX13_markTargets 8 rfl) (jo_icF (jz_geF c1))) ?_
    refine Eq.trans (jb_nx (i := .aload_n 0) (n := 1) (q := (14, [some (.ref p0), some (.int i1), some (.int i2), some (.int i3), some (.int i4)], [.ref p0])) (jq qX13_markTargets 9 rfl) rfl) ?_
    obtain ⟨a2, e3, H⟩ := jbd H
    refine Eq.trans (jb_nx (i := .getfield 52) (n := 3) (q := (17, [some (.ref p0), some (.int i1), some (.int i2), some (.int i3), some (.int i4)], [.ref a2])) (jq qX13_markTargets 10 rfl) (jo_gf rfl (jr_R_inv e3))) ?_
    refine Eq.trans (jb_nx (i := .iload 4) (n := 2) (q := (19, [some (.ref p0), some (.int i1), some (.int i2), some (.int i3), some (.int i4)], [.int i4, .ref a2])) (jq qX13_markTargets 11 rfl) rfl) ?_
    refine Eq.trans (jb_nx (i := .aload_n 0) (n := 1) (q := (20, [some (.ref p0), some (.int i1), some (.int i2), some (.int i3), some (.int i4)], [.ref p0, .int i4, .ref a2])) (jq qX13_markTargets 12 rfl) rfl) ?_
    obtain ⟨a4, e5, H⟩ := jbd H
    refine Eq.trans (jb_nx (i := .getfield 43) (n := 3) (q := (23, [some (.ref p0), some (.int i1), some (.int i2), some (.int i3), some (.int i4)], [.ref a4, .int i4, .ref a2])) (jq qX13_markTargets 13 rfl) (jo_gf rfl (jr_R_inv e5))) ?_
    refine Eq.trans (jb_nx (i := .iload 4) (n := 2) (q := (25, [some (.ref p0), some (.int i1), some (.int i2), some (.int i3), some (.int i4)], [.int i4, .ref a4, .int i4, .ref a2])) (jq qX13_markTargets 14 rfl) rfl) ?_
    obtain ⟨y6, e7, H⟩ := jbd H
    refine Eq.trans (jb_nx (i := .laload) (n := 1) (q := (26, [some (.ref p0), some (.int i1), some (.int i2), some (.int i3), some (.int i4)], [.long y6, .int i4, .ref a2])) (jq qX13_markTargets 15 rfl) (jo_lal e7)) ?_
    refine Eq.trans (jb_nx (i := .aload_n 0) (n := 1) (q := (27, [some (.ref p0), some (.int i1), some (.int i2), some (.int i3), some (.int i4)], [.ref p0, .long y6, .int i4, .ref a2])) (jq qX13_markTargets 16 rfl) rfl) ?_
    obtain ⟨a8, e9, H⟩ := jbd H
    refine Eq.trans (jb_nx (i := .getfield 43) (n := 3) (q := (30, [some (.ref p0), some (.int i1), some (.int i2), some (.int i3), some (.int i4)], [.ref a8, .long y6, .int i4, .ref a2])) (jq qX13_markTargets 17 rfl) (jo_gf rfl (jr_R_inv e9))) ?_
    refine Eq.trans (jb_nx (i := .iload_n 1) (n := 1) (q := (31, [some (.ref p0), some (.int i1), some (.int i2), some (.int i3), some (.int i4)], [.int i1, .ref a8, .long y6, .int i4, .ref a2])) (jq qX13_markTargets 18 rfl) rfl) ?_
    obtain ⟨y10, e11, H⟩ := jbd H
    refine Eq.trans (jb_nx (i := .laload) (n := 1) (q := (32, [some (.ref p0), some (.int i1), some (.int i2), some (.int i3), some (.int i4)], [.long y10, .long y6, .int i4, .ref a2])) (jq qX13_markTargets 19 rfl) (jo_lal e11)) ?_
    refine Eq.trans (jb_nx (i := .lneg) (n := 1) (q := (33, [some (.ref p0), some (.int i1), some (.int i2), some (.int i3), some (.int i4)], [.long (-y10), .long y6, .int i4, .ref a2])) (jq qX13_markTargets 20 rfl) rfl) ?_
    refine Eq.trans (jb_nx (i := .lcmp) (n := 1) (q := (34, [some (.ref p0), some (.int i1), some (.int i2), some (.int i3), some (.int i4)], [.int (lg_cmp y6 (-y10)), .int i4, .ref a2])) (jq qX13_markTargets 21 rfl) rfl) ?_
    by_cases c12 : (lg_cmp y6 (-y10)) = 0
    · rw [if_pos c12] at H
      refine Eq.trans (jb_nx (i := .ifCond .ne 20) (n := 3) (q := (37, [some (.ref p0), some (.int i1), some (.int i2), some (.int i3), some (.int i4)], [.int i4, .ref a2])) (jq qX13_markTargets 22 rfl) (jo_ifF (jz_neF c12))) ?_
      refine Eq.trans (jb_nx (i := .aload_n 0) (n := 1) (q := (38, [some (.ref p0), some (.int i1), some (.int i2), some (.int i3), some (.int i4)], [.ref p0, .int i4, .ref a2])) (jq qX13_markTargets 23 rfl) rfl) ?_
      obtain ⟨a13, e14, H⟩ := jbd H
      refine Eq.trans (jb_nx (i := .getfield 43) (n := 3) (q := (41, [some (.ref p0), some (.int i1), some (.int i2), some (.int i3), some (.int i4)], [.ref a13, .int i4, .ref a2])) (jq qX13_markTargets 24 rfl) (jo_gf rfl (jr_R_inv e14))) ?_
      refine Eq.trans (jb_nx (i := .iload 4) (n := 2) (q := (43, [some (.ref p0), some (.int i1), some (.int i2), some (.int i3), some (.int i4)], [.int i4, .ref a13, .int i4, .ref a2])) (jq qX13_markTargets 25 rfl) rfl) ?_
      rcases jcI H with ⟨x17, h15, r16, H⟩ | ⟨w19, h20, r16, H⟩
      · refine Eq.trans (jb_nx (i := .invokestatic 85) (n := 3) (q := (46, [some (.ref p0), some (.int i1), some (.int i2), some (.int i3), some (.int i4)], [.int x17, .int i4, .ref a2])) (jq qX13_markTargets 26 rfl) (jo_cs (y := mX13_owner) (w := 1) (by decide) rfl (Nat.le_of_ble_eq_true rfl) rfl (Nat.le_of_ble_eq_true rfl) rfl r16 jo_ret)) ?_
        refine Eq.trans (jb_nx (i := .iload_n 1) (n := 1) (q := (47, [some (.ref p0), some (.int i1), some (.int i2), some (.int i3), some (.int i4)], [.int i1, .int x17, .int i4, .ref a2])) (jq qX13_markTargets 27 rfl) rfl) ?_
        by_cases c18 : x17 = i1
        · rw [if_pos c18] at H
          refine Eq.trans (jb_nx (i := .if_icmp .ne 7) (n := 3) (q := (50, [some (.ref p0), some (.int i1), some (.int i2), some (.int i3), some (.int i4)], [.int i4, .ref a2])) (jq qX13_markTargets 28 rfl) (jo_icF (jz_neF c18))) ?_
          refine Eq.trans (jb_nx (i := .iconst 1) (n := 1) (q := (51, [some (.ref p0), some (.int i1), some (.int i2), some (.int i3), some (.int i4)], [.int 1, .int i4, .ref a2])) (jq qX13_markTargets 29 rfl) rfl) ?_
          refine Eq.trans (jb_nx (i := .goto 4) (n := 3) (q := (55, [some (.ref p0), some (.int i1), some (.int i2), some (.int i3), some (.int i4)], [.int 1, .int i4, .ref a2])) (jq qX13_markTargets 30 rfl) rfl) ?_
          exact H
        · rw [if_neg c18] at H
          refine Eq.trans (jb_nx (i := .if_icmp .ne 7) (n := 3) (q := (54, [some (.ref p0), some (.int i1), some (.int i2), some (.int i3), some (.int i4)], [.int i4, .ref a2])) (jq qX13_markTargets 28 rfl) (jo_icT (jz_neT c18) rfl)) ?_
          refine Eq.trans (jb_nx (i := .iconst 0) (n := 1) (q := (55, [some (.ref p0), some (.int i1), some (.int i2), some (.int i3), some (.int i4)], [.int 0, .int i4, .ref a2])) (jq qX13_markTargets 31 rfl) rfl) ?_
          exact H
      · exact Eq.trans (jb_rt (i := .invokestatic 85) (n := 3) (jq qX13_markTargets 26 rfl) (jo_cs (y := mX13_owner) (w := 1) (by decide) rfl (Nat.le_of_ble_eq_true rfl) rfl (Nat.le_of_ble_eq_true rfl) rfl r16 (jo_exn rfl))) H
    · rw [if_neg c12] at H
      refine Eq.trans (jb_nx (i := .ifCond .ne 20) (n := 3) (q := (54, [some (.ref p0), some (.int i1), some (.int i2), some (.int i3), some (.int i4)], [.int i4, .ref a2])) (jq qX13_markTargets 22 rfl) (jo_ifT (jz_neT c12) rfl)) ?_
      refine Eq.trans (jb_nx (i := .iconst 0) (n := 1) (q := (55, [some (.ref p0), some (.int i1), some (.int i2), some (.int i3), some (.int i4)], [.int 0, .int i4, .ref a2])) (jq qX13_markTargets 31 rfl) rfl) ?_
      exact H
  · rw [if_neg c1] at H
    refine Eq.trans (jb_nx (i := .if_icmp .ge 70) (n := 3) (q := (80, [some (.ref p0), some (.int i1), some (.int i2), some (.int i3), some (.int i4)], [])) (jq qX13_markTargets 8 rfl) (jo_icT (jz_geT c1) rfl)) ?_
    refine Eq.trans (jb_nx (i := .iload_n 3) (n := 1) (q := (81, [some (.ref p0), some (.int i1), some (.int i2), some (.int i3), some (.int i4)], [.int i3])) (jq qX13_markTargets 46 rfl) rfl) ?_
    exact Eq.trans (jb_rt (i := .ireturn) (n := 1) (jq qX13_markTargets 47 rfl) (jo_iret rfl rfl)) H
theorem gX13_markTargets_55 {d : Nat} {p0 : Nat} {i1 : Int32} {i2 : Int32} {i3 : Int32} {i4 : Int32} {si0 : Int32} {si1 : Int32} {sp2 : Nat} {h : jm_H} {r : jm_R} (H : ((jm_asi h sp2 3 si1 si0).bind fun h21 => (jr_R h21 p0 12 22 2).bind fun a23 => (jm_ali h21 a23 3 i4).bind fun x25 => (if x25 = 0 then kX13_markTargets_7 d p0 i1 i2 (i3 + 0) (i4 + 1) h21 else kX13_markTargets_7 d p0 i1 i2 (i3 + 1) (i4 + 1) h21)) = some r) : kX13_markTargets_55 d p0 i1 i2 i3 i4 si0 si1 sp2 h = some r := by
  show jm_B d mX13_markTargets (55, [some (.ref p0), some (.int i1), some (.int i2), some (.int i3), some (.int i4)], [.int si0, .int si1, .ref sp2]) h = some r
  obtain ⟨h21, e22, H⟩ := jbd H
  refine Eq.trans (jb_nx (i := .bastore) (n := 1) (q := (56, [some (.ref p0), some (.int i1), some (.int i2), some (.int i3), some (.int i4)], [])) (jq qX13_markTargets 32 rfl) (jo_zas e22)) ?_
  refine Eq.trans (jb_nx (i := .iload_n 3) (n := 1) (q := (57, [some (.ref p0), some (.int i1), some (.int i2), some (.int i3), some (.int i4)], [.int i3])) (jq qX13_markTargets 33 rfl) rfl) ?_
  refine Eq.trans (jb_nx (i := .aload_n 0) (n := 1) (q := (58, [some (.ref p0), some (.int i1), some (.int i2), some (.int i3), some (.int i4)], [.ref p0, .int i3])) (jq qX13_markTargets 34 rfl) rfl) ?_
  obtain ⟨a23, e24, H⟩ := jbd H
  refine Eq.trans (jb_nx (i := .getfield 52) (n := 3) (q := (61, [some (.ref p0), some (.int i1), some (.int i2), some (.int i3), some (.int i4)], [.ref a23, .int i3])) (jq qX13_markTargets 35 rfl) (jo_gf rfl (jr_R_inv e24))) ?_
  refine Eq.trans (jb_nx (i := .iload 4) (n := 2) (q := (63, [some (.ref p0), some (.int i1), some (.int i2), some (.int i3), some (.int i4)], [.int i4, .ref a23, .int i3])) (jq qX13_markTargets 36 rfl) rfl) ?_
  obtain ⟨x25, e26, H⟩ := jbd H
  refine Eq.trans (jb_nx (i := .baload) (n := 1) (q := (64, [some (.ref p0), some (.int i1), some (.int i2), some (.int i3), some (.int i4)], [.int x25, .int i3])) (jq qX13_markTargets 37 rfl) (jo_zal e26)) ?_
  by_cases c27 : x25 = 0
  · rw [if_pos c27] at H
    refine Eq.trans (jb_nx (i := .ifCond .eq 7) (n := 3) (q := (71, [some (.ref p0), some (.int i1), some (.int i2), some (.int i3), some (.int i4)], [.int i3])) (jq qX13_markTargets 38 rfl) (jo_ifT (jz_eqT c27) rfl)) ?_
    refine Eq.trans (jb_nx (i := .iconst 0) (n := 1) (q := (72, [some (.ref p0), some (.int i1), some (.int i2), some (.int i3), some (.int i4)], [.int 0, .int i3])) (jq qX13_markTargets 41 rfl) rfl) ?_
    refine Eq.trans (jb_nx (i := .iadd) (n := 1) (q := (73, [some (.ref p0), some (.int i1), some (.int i2), some (.int i3), some (.int i4)], [.int (i3 + 0)])) (jq qX13_markTargets 42 rfl) rfl) ?_
    refine Eq.trans (jb_nx (i := .istore_n 3) (n := 1) (q := (74, [some (.ref p0), some (.int i1), some (.int i2), some (.int (i3 + 0)), some (.int i4)], [])) (jq qX13_markTargets 43 rfl) rfl) ?_
    refine Eq.trans (jb_nx (i := .iinc 4 1) (n := 3) (q := (77, [some (.ref p0), some (.int i1), some (.int i2), some (.int (i3 + 0)), some (.int (i4 + 1))], [])) (jq qX13_markTargets 44 rfl) rfl) ?_
    refine Eq.trans (jb_nx (i := .goto (-70)) (n := 3) (q := (7, [some (.ref p0), some (.int i1), some (.int i2), some (.int (i3 + 0)), some (.int (i4 + 1))], [])) (jq qX13_markTargets 45 rfl) rfl) ?_
    exact H
  · rw [if_neg c27] at H
    refine Eq.trans (jb_nx (i := .ifCond .eq 7) (n := 3) (q := (67, [some (.ref p0), some (.int i1), some (.int i2), some (.int i3), some (.int i4)], [.int i3])) (jq qX13_markTargets 38 rfl) (jo_ifF (jz_eqF c27))) ?_
    refine Eq.trans (jb_nx (i := .iconst 1) (n := 1) (q := (68, [some (.ref p0), some (.int i1), some (.int i2), some (.int i3), some (.int i4)], [.int 1, .int i3])) (jq qX13_markTargets 39 rfl) rfl) ?_
    refine Eq.trans (jb_nx (i := .goto 4) (n := 3) (q := (72, [some (.ref p0), some (.int i1), some (.int i2), some (.int i3), some (.int i4)], [.int 1, .int i3])) (jq qX13_markTargets 40 rfl) rfl) ?_
    refine Eq.trans (jb_nx (i := .iadd) (n := 1) (q := (73, [some (.ref p0), some (.int i1), some (.int i2), some (.int i3), some (.int i4)], [.int (i3 + 1)])) (jq qX13_markTargets 42 rfl) rfl) ?_
    refine Eq.trans (jb_nx (i := .istore_n 3) (n := 1) (q := (74, [some (.ref p0), some (.int i1), some (.int i2), some (.int (i3 + 1)), some (.int i4)], [])) (jq qX13_markTargets 43 rfl) rfl) ?_
    refine Eq.trans (jb_nx (i := .iinc 4 1) (n := 3) (q := (77, [some (.ref p0), some (.int i1), some (.int i2), some (.int (i3 + 1)), some (.int (i4 + 1))], [])) (jq qX13_markTargets 44 rfl) rfl) ?_
    refine Eq.trans (jb_nx (i := .goto (-70)) (n := 3) (q := (7, [some (.ref p0), some (.int i1), some (.int i2), some (.int (i3 + 1)), some (.int (i4 + 1))], [])) (jq qX13_markTargets 45 rfl) rfl) ?_
    exact H
theorem gX13_markTargets {d : Nat} {p0 : Nat} {i1 : Int32} {i2 : Int32} {h : jm_H} {r : jm_R} (H : (kX13_markTargets_7 d p0 i1 i2 0 (i1 + 1) h) = some r) : jm_D (d + 1) mX13_markTargets [.ref p0, .int i1, .int i2] h = some r := by
  rw [jm_D_body (Nat.le_of_ble_eq_true rfl)]
  show jm_B d mX13_markTargets (0, [some (.ref p0), some (.int i1), some (.int i2), none, none], []) h = some r
  refine Eq.trans (jb_nx (i := .iconst 0) (n := 1) (q := (1, [some (.ref p0), some (.int i1), some (.int i2), none, none], [.int 0])) (jq qX13_markTargets 0 rfl) rfl) ?_
  refine Eq.trans (jb_nx (i := .istore_n 3) (n := 1) (q := (2, [some (.ref p0), some (.int i1), some (.int i2), some (.int 0), none], [])) (jq qX13_markTargets 1 rfl) rfl) ?_
  refine Eq.trans (jb_nx (i := .iload_n 1) (n := 1) (q := (3, [some (.ref p0), some (.int i1), some (.int i2), some (.int 0), none], [.int i1])) (jq qX13_markTargets 2 rfl) rfl) ?_
  refine Eq.trans (jb_nx (i := .iconst 1) (n := 1) (q := (4, [some (.ref p0), some (.int i1), some (.int i2), some (.int 0), none], [.int 1, .int i1])) (jq qX13_markTargets 3 rfl) rfl) ?_
  refine Eq.trans (jb_nx (i := .iadd) (n := 1) (q := (5, [some (.ref p0), some (.int i1), some (.int i2), some (.int 0), none], [.int (i1 + 1)])) (jq qX13_markTargets 4 rfl) rfl) ?_
  refine Eq.trans (jb_nx (i := .istore 4) (n := 2) (q := (7, [some (.ref p0), some (.int i1), some (.int i2), some (.int 0), some (.int (i1 + 1))], [])) (jq qX13_markTargets 5 rfl) rfl) ?_
  exact H
/-! MaskPlaysModel textLength (I)I -/
def tX13_textLength : List (Nat × Instr × Nat) := [(0, .aload_n 0, 1), (1, .iconst 0, 1), (2, .putfield 68, 3), (5, .aload_n 0, 1), (6, .iload_n 1, 1), (7, .invokevirtual 473, 3), (10, .ifCond .eq 11, 3), (13, .aload_n 0, 1), (14, .iload_n 1, 1), (15, .invokevirtual 488, 3), (18, .goto 8, 3), (21, .aload_n 0, 1), (22, .iconst 1, 1), (23, .invokevirtual 463, 3), (26, .ireturn, 1)]
set_option maxRecDepth 100000 in
theorem qX13_textLength : ∀ q ∈ tX13_textLength, decode cX13_textLength q.1 = .ok (q.2.1, q.2.2) := by decide +kernel
theorem gX13_textLength {d : Nat} {p0 : Nat} {i1 : Int32} {h : jm_H} {r : jm_R} (H : ((jm_pf h p0 12 0 0 (.int 0)).bind fun h1 => jm_O h1 p0 13 (jc_I (jm_D d mX13_isPlay [.ref p0, .int i1] h1) (fun x5 h3 => (if x5 = 0 then jm_O h3 p0 13 (jc_I (jm_D d mX13_no [.ref p0, .int 1] h3) (fun x9 h7 => some (.inl (some (.int x9)), h7)) jx) else jm_O h3 p0 13 (jc_I (jm_D d mX13_textOf [.ref p0, .int i1] h3) (fun x15 h13 => some (.inl (some (.int x15)), h13)) jx))) jx)) = some r) : jm_D (d + 1) mX13_textLength [.ref p0, .int i1] h = some r := by
  rw [jm_D_body (Nat.le_of_ble_eq_true rfl)]
  show jm_B d mX13_textLength (0, [some (.ref p0), some (.int i1)], []) h = some r
  refine Eq.trans (jb_nx (i := .aload_n 0) (n := 1) (q := (1, [some (.ref p0), some (.int i1)], [.ref p0])) (jq qX13_textLength 0 rfl) rfl) ?_
  refine Eq.trans (jb_nx (i := .iconst 0) (n := 1) (q := (2, [some (.ref p0), some (.int i1)], [.int 0, .ref p0])) (jq qX13_textLength 1 rfl) rfl) ?_
  obtain ⟨h1, e2, H⟩ := jbd H
  refine Eq.trans (jb_nx (i := .putfield 68) (n := 3) (q := (5, [some (.ref p0), some (.int i1)], [])) (jq qX13_textLength 2 rfl) (jo_pf rfl (Or.inl rfl) e2)) ?_
  refine Eq.trans (jb_nx (i := .aload_n 0) (n := 1) (q := (6, [some (.ref p0), some (.int i1)], [.ref p0])) (jq qX13_textLength 3 rfl) rfl) ?_
  refine Eq.trans (jb_nx (i := .iload_n 1) (n := 1) (q := (7, [some (.ref p0), some (.int i1)], [.int i1, .ref p0])) (jq qX13_textLength 4 rfl) rfl) ?_
  obtain ⟨b19, H⟩ := jm_O_inv H
  rcases jcI H with ⟨x5, h3, r4, H⟩ | ⟨w20, h21, r4, H⟩
  · refine Eq.trans (jb_nx (i := .invokevirtual 473) (n := 3) (q := (10, [some (.ref p0), some (.int i1)], [.int x5])) (jq qX13_textLength 5 rfl) (jo_cv (y := mX13_isPlay) rfl (Nat.le_of_ble_eq_true rfl) rfl (Nat.le_of_ble_eq_true rfl) b19 rfl r4 jo_ret)) ?_
    by_cases c6 : x5 = 0
    · rw [if_pos c6] at H
      refine Eq.trans (jb_nx (i := .ifCond .eq 11) (n := 3) (q := (21, [some (.ref p0), some (.int i1)], [])) (jq qX13_textLength 6 rfl) (jo_ifT (jz_eqT c6) rfl)) ?_
      refine Eq.trans (jb_nx (i := .aload_n 0) (n := 1) (q := (22, [some (.ref p0), some (.int i1)], [.ref p0])) (jq qX13_textLength 11 rfl) rfl) ?_
      refine Eq.trans (jb_nx (i := .iconst 1) (n := 1) (q := (23, [some (.ref p0), some (.int i1)], [.int 1, .ref p0])) (jq qX13_textLength 12 rfl) rfl) ?_
      obtain ⟨b10, H⟩ := jm_O_inv H
      rcases jcI H with ⟨x9, h7, r8, H⟩ | ⟨w11, h12, r8, H⟩
      · refine Eq.trans (jb_nx (i := .invokevirtual 463) (n := 3) (q := (26, [some (.ref p0), some (.int i1)], [.int x9])) (jq qX13_textLength 13 rfl) (jo_cv (y := mX13_no) rfl (Nat.le_of_ble_eq_true rfl) rfl (Nat.le_of_ble_eq_true rfl) b10 rfl r8 jo_ret)) ?_
        exact Eq.trans (jb_rt (i := .ireturn) (n := 1) (jq qX13_textLength 14 rfl) (jo_iret rfl rfl)) H
      · exact Eq.trans (jb_rt (i := .invokevirtual 463) (n := 3) (jq qX13_textLength 13 rfl) (jo_cv (y := mX13_no) rfl (Nat.le_of_ble_eq_true rfl) rfl (Nat.le_of_ble_eq_true rfl) b10 rfl r8 (jo_exn rfl))) H
    · rw [if_neg c6] at H
      refine Eq.trans (jb_nx (i := .ifCond .eq 11) (n := 3) (q := (13, [some (.ref p0), some (.int i1)], [])) (jq qX13_textLength 6 rfl) (jo_ifF (jz_eqF c6))) ?_
      refine Eq.trans (jb_nx (i := .aload_n 0) (n := 1) (q := (14, [some (.ref p0), some (.int i1)], [.ref p0])) (jq qX13_textLength 7 rfl) rfl) ?_
      refine Eq.trans (jb_nx (i := .iload_n 1) (n := 1) (q := (15, [some (.ref p0), some (.int i1)], [.int i1, .ref p0])) (jq qX13_textLength 8 rfl) rfl) ?_
      obtain ⟨b16, H⟩ := jm_O_inv H
      rcases jcI H with ⟨x15, h13, r14, H⟩ | ⟨w17, h18, r14, H⟩
      · refine Eq.trans (jb_nx (i := .invokevirtual 488) (n := 3) (q := (18, [some (.ref p0), some (.int i1)], [.int x15])) (jq qX13_textLength 9 rfl) (jo_cv (y := mX13_textOf) rfl (Nat.le_of_ble_eq_true rfl) rfl (Nat.le_of_ble_eq_true rfl) b16 rfl r14 jo_ret)) ?_
        refine Eq.trans (jb_nx (i := .goto 8) (n := 3) (q := (26, [some (.ref p0), some (.int i1)], [.int x15])) (jq qX13_textLength 10 rfl) rfl) ?_
        exact Eq.trans (jb_rt (i := .ireturn) (n := 1) (jq qX13_textLength 14 rfl) (jo_iret rfl rfl)) H
      · exact Eq.trans (jb_rt (i := .invokevirtual 488) (n := 3) (jq qX13_textLength 9 rfl) (jo_cv (y := mX13_textOf) rfl (Nat.le_of_ble_eq_true rfl) rfl (Nat.le_of_ble_eq_true rfl) b16 rfl r14 (jo_exn rfl))) H
  · exact Eq.trans (jb_rt (i := .invokevirtual 473) (n := 3) (jq qX13_textLength 5 rfl) (jo_cv (y := mX13_isPlay) rfl (Nat.le_of_ble_eq_true rfl) rfl (Nat.le_of_ble_eq_true rfl) b19 rfl r4 (jo_exn rfl))) H
/-! MaskPlaysModel textOf (I)I -/
def tX13_textOf : List (Nat × Instr × Nat) := [(0, .iconst 0, 1), (1, .istore_n 2, 1), (2, .sipush 150, 3), (5, .iload_n 1, 1), (6, .imul, 1), (7, .istore_n 3, 1), (8, .iload_n 3, 1), (9, .sipush 150, 3), (12, .iload_n 1, 1), (13, .imul, 1), (14, .aload_n 0, 1), (15, .getfield 28, 3), (18, .iload_n 1, 1), (19, .iaload, 1), (20, .iadd, 1), (21, .if_icmp .ge 63, 3), (24, .iload_n 2, 1), (25, .aload_n 0, 1), (26, .getfield 24, 3), (29, .iload_n 3, 1), (30, .laload, 1), (31, .lconst 0, 1), (32, .lcmp, 1), (33, .ifCond .ne 7, 3), (36, .iconst 3, 1), (37, .goto 39, 3), (40, .aload_n 0, 1), (41, .getfield 24, 3), (44, .iload_n 3, 1), (45, .laload, 1), (46, .lconst 0, 1), (47, .lcmp, 1), (48, .ifCond .ge 19, 3), (51, .bipush 7, 2), (53, .aload_n 0, 1), (54, .getfield 24, 3), (57, .iload_n 3, 1), (58, .laload, 1), (59, .lneg, 1), (60, .invokestatic 189, 3), (63, .iadd, 1), (64, .goto 12, 3), (67, .aload_n 0, 1), (68, .getfield 24, 3), (71, .iload_n 3, 1), (72, .laload, 1), (73, .invokestatic 189, 3), (76, .iadd, 1), (77, .istore_n 2, 1), (78, .iinc 3 1, 3), (81, .goto (-73), 3), (84, .iload_n 2, 1), (85, .ireturn, 1)]
set_option maxRecDepth 100000 in
theorem qX13_textOf : ∀ q ∈ tX13_textOf, decode cX13_textOf q.1 = .ok (q.2.1, q.2.2) := by decide +kernel
noncomputable def kX13_textOf_8 (d : Nat) (p0 : Nat) (i1 : Int32) (i2 : Int32) (i3 : Int32) (h : jm_H) : Option jm_R := jm_B d mX13_textOf (8, [some (.ref p0), some (.int i1), some (.int i2), some (.int i3)], []) h
theorem gX13_textOf_8 {d : Nat} {p0 : Nat} {i1 : Int32} {i2 : Int32} {i3 : Int32} {h : jm_H} {r : jm_R} (H : ((jr_R h p0 12 9 2).bind fun a1 => (jm_ali h a1 0 i1).bind fun x3 => (if i3 < ((150 * i1) + x3) then (jr_R h p0 12 8 2).bind fun a6 => (jm_all h a6 i3).bind fun y8 => (if (lg_cmp y8 0) = 0 then kX13_textOf_8 d p0 i1 (i2 + 3) (i3 + 1) h else (jr_R h p0 12 8 2).bind fun a11 => (jm_all h a11 i3).bind fun y13 => (if (lg_cmp y13 0) < 0 then (jr_R h p0 12 8 2).bind fun a25 => (jm_all h a25 i3).bind fun y27 => jc_I (jm_D d mX13_lettersOf [.long (-y27)] h) (fun x31 h29 => kX13_textOf_8 d p0 i1 (i2 + (7 + x31)) (i3 + 1) h29) jx else (jr_R h p0 12 8 2).bind fun a16 => (jm_all h a16 i3).bind fun y18 => jc_I (jm_D d mX13_lettersOf [.long y18] h) (fun x22 h20 => kX13_textOf_8 d p0 i1 (i2 + x22) (i3 + 1) h20) jx)) else some (.inl (some (.int i2)), h))) = some r) : kX13_textOf_8 d p0 i1 i2 i3 h = some r := by
  show jm_B d mX13_textOf (8, [some (.ref p0), some (.int i1), some (.int i2), some (.int i3)], []) h = some r
  refine Eq.trans (jb_nx (i := .iload_n 3) (n := 1) (q := (9, [some (.ref p0), some (.int i1), some (.int i2), some (.int i3)], [.int i3])) (jq qX13_textOf 6 rfl) rfl) ?_
  refine Eq.trans (jb_nx (i := .sipush 150) (n := 3) (q := (12, [some (.ref p0), some (.int i1), some (.int i2), some (.int i3)], [.int 150, .int i3])) (jq qX13_textOf 7 rfl) rfl) ?_
  refine Eq.trans (jb_nx (i := .iload_n 1) (n := 1) (q := (13, [some (.ref p0), some (.int i1), some (.int i2), some (.int i3)], [.int i1, .int 150, .int i3])) (jq qX13_textOf 8 rfl) rfl) ?_
  refine Eq.trans (jb_nx (i := .imul) (n := 1) (q := (14, [some (.ref p0), some (.int i1), some (.int i2), some (.int i3)], [.int (150 * i1), .int i3])) (jq qX13_textOf 9 rfl) rfl) ?_
  refine Eq.trans (jb_nx (i := .aload_n 0) (n := 1) (q := (15, [some (.ref p0), some (.int i1), some (.int i2), some (.int i3)], [.ref p0, .int (150 * i1), .int i3])) (jq qX13_textOf 10 rfl) rfl) ?_
  obtain ⟨a1, e2, H⟩ := jbd H
  refine Eq.trans (jb_nx (i := .getfield 28) (n := 3) (q := (18, [some (.ref p0), some (.int i1), some (.int i2), some (.int i3)], [.ref a1, .int (150 * i1), .int i3])) (jq qX13_textOf 11 rfl) (jo_gf rfl (jr_R_inv e2))) ?_
  refine Eq.trans (jb_nx (i := .iload_n 1) (n := 1) (q := (19, [some (.ref p0), some (.int i1), some (.int i2), some (.int i3)], [.int i1, .ref a1, .int (150 * i1), .int i3])) (jq qX13_textOf 12 rfl) rfl) ?_
  obtain ⟨x3, e4, H⟩ := jbd H
  refine Eq.trans (jb_nx (i := .iaload) (n := 1) (q := (20, [some (.ref p0), some (.int i1), some (.int i2), some (.int i3)], [.int x3, .int (150 * i1), .int i3])) (jq qX13_textOf 13 rfl) (jo_ial e4)) ?_
  refine Eq.trans (jb_nx (i := .iadd) (n := 1) (q := (21, [some (.ref p0), some (.int i1), some (.int i2), some (.int i3)], [.int ((150 * i1) + x3), .int i3])) (jq qX13_textOf 14 rfl) rfl) ?_
  by_cases c5 : i3 < ((150 * i1) + x3)
  · rw [if_pos c5] at H
    refine Eq.trans (jb_nx (i := .if_icmp .ge 63) (n := 3) (q := (24, [some (.ref p0), some (.int i1), some (.int i2), some (.int i3)], [])) (jq qX13_textOf 15 rfl) (jo_icF (jz_geF c5))) ?_
    refine Eq.trans (jb_nx (i := .iload_n 2) (n := 1) (q := (25, [some (.ref p0), some (.int i1), some (.int i2), some (.int i3)], [.int i2])) (jq qX13_textOf 16 rfl) rfl) ?_
    refine Eq.trans (jb_nx (i := .aload_n 0) (n := 1) (q := (26, [some (.ref p0), some (.int i1), some (.int i2), some (.int i3)], [.ref p0, .int i2])) (jq qX13_textOf 17 rfl) rfl) ?_
    obtain ⟨a6, e7, H⟩ := jbd H
    refine Eq.trans (jb_nx (i := .getfield 24) (n := 3) (q := (29, [some (.ref p0), some (.int i1), some (.int i2), some (.int i3)], [.ref a6, .int i2])) (jq qX13_textOf 18 rfl) (jo_gf rfl (jr_R_inv e7))) ?_
    refine Eq.trans (jb_nx (i := .iload_n 3) (n := 1) (q := (30, [some (.ref p0), some (.int i1), some (.int i2), some (.int i3)], [.int i3, .ref a6, .int i2])) (jq qX13_textOf 19 rfl) rfl) ?_
    obtain ⟨y8, e9, H⟩ := jbd H
    refine Eq.trans (jb_nx (i := .laload) (n := 1) (q := (31, [some (.ref p0), some (.int i1), some (.int i2), some (.int i3)], [.long y8, .int i2])) (jq qX13_textOf 20 rfl) (jo_lal e9)) ?_
    refine Eq.trans (jb_nx (i := .lconst 0) (n := 1) (q := (32, [some (.ref p0), some (.int i1), some (.int i2), some (.int i3)], [.long 0, .long y8, .int i2])) (jq qX13_textOf 21 rfl) rfl) ?_
    refine Eq.trans (jb_nx (i := .lcmp) (n := 1) (q := (33, [some (.ref p0), some (.int i1), some (.int i2), some (.int i3)], [.int (lg_cmp y8 0), .int i2])) (jq qX13_textOf 22 rfl) rfl) ?_
    by_cases c10 : (lg_cmp y8 0) = 0
    · rw [if_pos c10] at H
      refine Eq.trans (jb_nx (i := .ifCond .ne 7) (n := 3) (q := (36, [some (.ref p0), some (.int i1), some (.int i2), some (.int i3)], [.int i2])) (jq qX13_textOf 23 rfl) (jo_ifF (jz_neF c10))) ?_
      refine Eq.trans (jb_nx (i := .iconst 3) (n := 1) (q := (37, [some (.ref p0), some (.int i1), some (.int i2), some (.int i3)], [.int 3, .int i2])) (jq qX13_textOf 24 rfl) rfl) ?_
      refine Eq.trans (jb_nx (i := .goto 39) (n := 3) (q := (76, [some (.ref p0), some (.int i1), some (.int i2), some (.int i3)], [.int 3, .int i2])) (jq qX13_textOf 25 rfl) rfl) ?_
      refine Eq.trans (jb_nx (i := .iadd) (n := 1) (q := (77, [some (.ref p0), some (.int i1), some (.int i2), some (.int i3)], [.int (i2 + 3)])) (jq qX13_textOf 47 rfl) rfl) ?_
      refine Eq.trans (jb_nx (i := .istore_n 2) (n := 1) (q := (78, [some (.ref p0), some (.int i1), some (.int (i2 + 3)), some (.int i3)], [])) (jq qX13_textOf 48 rfl) rfl) ?_
      refine Eq.trans (jb_nx (i := .iinc 3 1) (n := 3) (q := (81, [some (.ref p0), some (.int i1), some (.int (i2 + 3)), some (.int (i3 + 1))], [])) (jq qX13_textOf 49 rfl) rfl) ?_
      refine Eq.trans (jb_nx (i := .goto (-73)) (n := 3) (q := (8, [some (.ref p0), some (.int i1), some (.int (i2 + 3)), some (.int (i3 + 1))], [])) (jq qX13_textOf 50 rfl) rfl) ?_
      exact H
    · rw [if_neg c10] at H
      refine Eq.trans (jb_nx (i := .ifCond .ne 7) (n := 3) (q := (40, [some (.ref p0), some (.int i1), some (.int i2), some (.int i3)], [.int i2])) (jq qX13_textOf 23 rfl) (jo_ifT (jz_neT c10) rfl)) ?_
      refine Eq.trans (jb_nx (i := .aload_n 0) (n := 1) (q := (41, [some (.ref p0), some (.int i1), some (.int i2), some (.int i3)], [.ref p0, .int i2])) (jq qX13_textOf 26 rfl) rfl) ?_
      obtain ⟨a11, e12, H⟩ := jbd H
      refine Eq.trans (jb_nx (i := .getfield 24) (n := 3) (q := (44, [some (.ref p0), some (.int i1), some (.int i2), some (.int i3)], [.ref a11, .int i2])) (jq qX13_textOf 27 rfl) (jo_gf rfl (jr_R_inv e12))) ?_
      refine Eq.trans (jb_nx (i := .iload_n 3) (n := 1) (q := (45, [some (.ref p0), some (.int i1), some (.int i2), some (.int i3)], [.int i3, .ref a11, .int i2])) (jq qX13_textOf 28 rfl) rfl) ?_
      obtain ⟨y13, e14, H⟩ := jbd H
      refine Eq.trans (jb_nx (i := .laload) (n := 1) (q := (46, [some (.ref p0), some (.int i1), some (.int i2), some (.int i3)], [.long y13, .int i2])) (jq qX13_textOf 29 rfl) (jo_lal e14)) ?_
      refine Eq.trans (jb_nx (i := .lconst 0) (n := 1) (q := (47, [some (.ref p0), some (.int i1), some (.int i2), some (.int i3)], [.long 0, .long y13, .int i2])) (jq qX13_textOf 30 rfl) rfl) ?_
      refine Eq.trans (jb_nx (i := .lcmp) (n := 1) (q := (48, [some (.ref p0), some (.int i1), some (.int i2), some (.int i3)], [.int (lg_cmp y13 0), .int i2])) (jq qX13_textOf 31 rfl) rfl) ?_
      by_cases c15 : (lg_cmp y13 0) < 0
      · rw [if_pos c15] at H
        refine Eq.trans (jb_nx (i := .ifCond .ge 19) (n := 3) (q := (51, [some (.ref p0), some (.int i1), some (.int i2), some (.int i3)], [.int i2])) (jq qX13_textOf 32 rfl) (jo_ifF (jz_geF c15))) ?_
        refine Eq.trans (jb_nx (i := .bipush 7) (n := 2) (q := (53, [some (.ref p0), some (.int i1), some (.int i2), some (.int i3)], [.int 7, .int i2])) (jq qX13_textOf 33 rfl) rfl) ?_
        refine Eq.trans (jb_nx (i := .aload_n 0) (n := 1) (q := (54, [some (.ref p0), some (.int i1), some (.int i2), some (.int i3)], [.ref p0, .int 7, .int i2])) (jq qX13_textOf 34 rfl) rfl) ?_
        obtain ⟨a25, e26, H⟩ := jbd H
        refine Eq.trans (jb_nx (i := .getfield 24) (n := 3) (q := (57, [some (.ref p0), some (.int i1), some (.int i2), some (.int i3)], [.ref a25, .int 7, .int i2])) (jq qX13_textOf 35 rfl) (jo_gf rfl (jr_R_inv e26))) ?_
        refine Eq.trans (jb_nx (i := .iload_n 3) (n := 1) (q := (58, [some (.ref p0), some (.int i1), some (.int i2), some (.int i3)], [.int i3, .ref a25, .int 7, .int i2])) (jq qX13_textOf 36 rfl) rfl) ?_
        obtain ⟨y27, e28, H⟩ := jbd H
        refine Eq.trans (jb_nx (i := .laload) (n := 1) (q := (59, [some (.ref p0), some (.int i1), some (.int i2), some (.int i3)], [.long y27, .int 7, .int i2])) (jq qX13_textOf 37 rfl) (jo_lal e28)) ?_
        refine Eq.trans (jb_nx (i := .lneg) (n := 1) (q := (60, [some (.ref p0), some (.int i1), some (.int i2), some (.int i3)], [.long (-y27), .int 7, .int i2])) (jq qX13_textOf 38 rfl) rfl) ?_
        rcases jcI H with ⟨x31, h29, r30, H⟩ | ⟨w32, h33, r30, H⟩
        · refine Eq.trans (jb_nx (i := .invokestatic 189) (n := 3) (q := (63, [some (.ref p0), some (.int i1), some (.int i2), some (.int i3)], [.int x31, .int 7, .int i2])) (jq qX13_textOf 39 rfl) (jo_cs (y := mX13_lettersOf) (w := 1) (by decide) rfl (Nat.le_of_ble_eq_true rfl) rfl (Nat.le_of_ble_eq_true rfl) rfl r30 jo_ret)) ?_
          refine Eq.trans (jb_nx (i := .iadd) (n := 1) (q := (64, [some (.ref p0), some (.int i1), some (.int i2), some (.int i3)], [.int (7 + x31), .int i2])) (jq qX13_textOf 40 rfl) rfl) ?_
          refine Eq.trans (jb_nx (i := .goto 12) (n := 3) (q := (76, [some (.ref p0), some (.int i1), some (.int i2), some (.int i3)], [.int (7 + x31), .int i2])) (jq qX13_textOf 41 rfl) rfl) ?_
          refine Eq.trans (jb_nx (i := .iadd) (n := 1) (q := (77, [some (.ref p0), some (.int i1), some (.int i2), some (.int i3)], [.int (i2 + (7 + x31))])) (jq qX13_textOf 47 rfl) rfl) ?_
          refine Eq.trans (jb_nx (i := .istore_n 2) (n := 1) (q := (78, [some (.ref p0), some (.int i1), some (.int (i2 + (7 + x31))), some (.int i3)], [])) (jq qX13_textOf 48 rfl) rfl) ?_
          refine Eq.trans (jb_nx (i := .iinc 3 1) (n := 3) (q := (81, [some (.ref p0), some (.int i1), some (.int (i2 + (7 + x31))), some (.int (i3 + 1))], [])) (jq qX13_textOf 49 rfl) rfl) ?_
          refine Eq.trans (jb_nx (i := .goto (-73)) (n := 3) (q := (8, [some (.ref p0), some (.int i1), some (.int (i2 + (7 + x31))), some (.int (i3 + 1))], [])) (jq qX13_textOf 50 rfl) rfl) ?_
          exact H
        · exact Eq.trans (jb_rt (i := .invokestatic 189) (n := 3) (jq qX13_textOf 39 rfl) (jo_cs (y := mX13_lettersOf) (w := 1) (by decide) rfl (Nat.le_of_ble_eq_true rfl) rfl (Nat.le_of_ble_eq_true rfl) rfl r30 (jo_exn rfl))) H
      · rw [if_neg c15] at H
        refine Eq.trans (jb_nx (i := .ifCond .ge 19) (n := 3) (q := (67, [some (.ref p0), some (.int i1), some (.int i2), some (.int i3)], [.int i2])) (jq qX13_textOf 32 rfl) (jo_ifT (jz_geT c15) rfl)) ?_
        refine Eq.trans (jb_nx (i := .aload_n 0) (n := 1) (q := (68, [some (.ref p0), some (.int i1), some (.int i2), some (.int i3)], [.ref p0, .int i2])) (jq qX13_textOf 42 rfl) rfl) ?_
        obtain ⟨a16, e17, H⟩ := jbd H
        refine Eq.trans (jb_nx (i := .getfield 24) (n := 3) (q := (71, [some (.ref p0), some (.int i1), some (.int i2), some (.int i3)], [.ref a16, .int i2])) (jq qX13_textOf 43 rfl) (jo_gf rfl (jr_R_inv e17))) ?_
        refine Eq.trans (jb_nx (i := .iload_n 3) (n := 1) (q := (72, [some (.ref p0), some (.int i1), some (.int i2), some (.int i3)], [.int i3, .ref a16, .int i2])) (jq qX13_textOf 44 rfl) rfl) ?_
        obtain ⟨y18, e19, H⟩ := jbd H
        refine Eq.trans (jb_nx (i := .laload) (n := 1) (q := (73, [some (.ref p0), some (.int i1), some (.int i2), some (.int i3)], [.long y18, .int i2])) (jq qX13_textOf 45 rfl) (jo_lal e19)) ?_
        rcases jcI H with ⟨x22, h20, r21, H⟩ | ⟨w23, h24, r21, H⟩
        · refine Eq.trans (jb_nx (i := .invokestatic 189) (n := 3) (q := (76, [some (.ref p0), some (.int i1), some (.int i2), some (.int i3)], [.int x22, .int i2])) (jq qX13_textOf 46 rfl) (jo_cs (y := mX13_lettersOf) (w := 1) (by decide) rfl (Nat.le_of_ble_eq_true rfl) rfl (Nat.le_of_ble_eq_true rfl) rfl r21 jo_ret)) ?_
          refine Eq.trans (jb_nx (i := .iadd) (n := 1) (q := (77, [some (.ref p0), some (.int i1), some (.int i2), some (.int i3)], [.int (i2 + x22)])) (jq qX13_textOf 47 rfl) rfl) ?_
          refine Eq.trans (jb_nx (i := .istore_n 2) (n := 1) (q := (78, [some (.ref p0), some (.int i1), some (.int (i2 + x22)), some (.int i3)], [])) (jq qX13_textOf 48 rfl) rfl) ?_
          refine Eq.trans (jb_nx (i := .iinc 3 1) (n := 3) (q := (81, [some (.ref p0), some (.int i1), some (.int (i2 + x22)), some (.int (i3 + 1))], [])) (jq qX13_textOf 49 rfl) rfl) ?_
          refine Eq.trans (jb_nx (i := .goto (-73)) (n := 3) (q := (8, [some (.ref p0), some (.int i1), some (.int (i2 + x22)), some (.int (i3 + 1))], [])) (jq qX13_textOf 50 rfl) rfl) ?_
          exact H
        · exact Eq.trans (jb_rt (i := .invokestatic 189) (n := 3) (jq qX13_textOf 46 rfl) (jo_cs (y := mX13_lettersOf) (w := 1) (by decide) rfl (Nat.le_of_ble_eq_true rfl) rfl (Nat.le_of_ble_eq_true rfl) rfl r21 (jo_exn rfl))) H
  · rw [if_neg c5] at H
    refine Eq.trans (jb_nx (i := .if_icmp .ge 63) (n := 3) (q := (84, [some (.ref p0), some (.int i1), some (.int i2), some (.int i3)], [])) (jq qX13_textOf 15 rfl) (jo_icT (jz_geT c5) rfl)) ?_
    refine Eq.trans (jb_nx (i := .iload_n 2) (n := 1) (q := (85, [some (.ref p0), some (.int i1), some (.int i2), some (.int i3)], [.int i2])) (jq qX13_textOf 51 rfl) rfl) ?_
    exact Eq.trans (jb_rt (i := .ireturn) (n := 1) (jq qX13_textOf 52 rfl) (jo_iret rfl rfl)) H
theorem gX13_textOf {d : Nat} {p0 : Nat} {i1 : Int32} {h : jm_H} {r : jm_R} (H : (kX13_textOf_8 d p0 i1 0 (150 * i1) h) = some r) : jm_D (d + 1) mX13_textOf [.ref p0, .int i1] h = some r := by
  rw [jm_D_body (Nat.le_of_ble_eq_true rfl)]
  show jm_B d mX13_textOf (0, [some (.ref p0), some (.int i1), none, none], []) h = some r
  refine Eq.trans (jb_nx (i := .iconst 0) (n := 1) (q := (1, [some (.ref p0), some (.int i1), none, none], [.int 0])) (jq qX13_textOf 0 rfl) rfl) ?_
  refine Eq.trans (jb_nx (i := .istore_n 2) (n := 1) (q := (2, [some (.ref p0), some (.int i1), some (.int 0), none], [])) (jq qX13_textOf 1 rfl) rfl) ?_
  refine Eq.trans (jb_nx (i := .sipush 150) (n := 3) (q := (5, [some (.ref p0), some (.int i1), some (.int 0), none], [.int 150])) (jq qX13_textOf 2 rfl) rfl) ?_
  refine Eq.trans (jb_nx (i := .iload_n 1) (n := 1) (q := (6, [some (.ref p0), some (.int i1), some (.int 0), none], [.int i1, .int 150])) (jq qX13_textOf 3 rfl) rfl) ?_
  refine Eq.trans (jb_nx (i := .imul) (n := 1) (q := (7, [some (.ref p0), some (.int i1), some (.int 0), none], [.int (150 * i1)])) (jq qX13_textOf 4 rfl) rfl) ?_
  refine Eq.trans (jb_nx (i := .istore_n 3) (n := 1) (q := (8, [some (.ref p0), some (.int i1), some (.int 0), some (.int (150 * i1))], [])) (jq qX13_textOf 5 rfl) rfl) ?_
  exact H
/-! MaskPlaysModel lettersOf (J)I -/
def tX13_lettersOf : List (Nat × Instr × Nat) := [(0, .iconst 0, 1), (1, .istore_n 2, 1), (2, .lload_n 0, 1), (3, .lstore_n 3, 1), (4, .lload_n 3, 1), (5, .lconst 0, 1), (6, .lcmp, 1), (7, .ifCond .le 15, 3), (10, .iinc 2 1, 3), (13, .lload_n 3, 1), (14, .ldc2_w 102, 3), (17, .ldiv, 1), (18, .lstore_n 3, 1), (19, .goto (-15), 3), (22, .iload_n 2, 1), (23, .ireturn, 1)]
set_option maxRecDepth 100000 in
theorem qX13_lettersOf : ∀ q ∈ tX13_lettersOf, decode cX13_lettersOf q.1 = .ok (q.2.1, q.2.2) := by decide +kernel
noncomputable def kX13_lettersOf_4 (d : Nat) (o0 : Option Value) (o1 : Option Value) (i2 : Int32) (j3 : Int64) (h : jm_H) : Option jm_R := jm_B d mX13_lettersOf (4, [o0, o1, some (.int i2), some (.long j3), none], []) h
theorem gX13_lettersOf_4 {d : Nat} {o0 : Option Value} {o1 : Option Value} {i2 : Int32} {j3 : Int64} {h : jm_H} {r : jm_R} (H : ((if 0 < (lg_cmp j3 0) then kX13_lettersOf_4 d o0 (jm_dm o1) (i2 + 1) (j3 / 37) h else some (.inl (some (.int i2)), h))) = some r) : kX13_lettersOf_4 d o0 o1 i2 j3 h = some r := by
  show jm_B d mX13_lettersOf (4, [o0, o1, some (.int i2), some (.long j3), none], []) h = some r
  refine Eq.trans (jb_nx (i := .lload_n 3) (n := 1) (q := (5, [o0, o1, some (.int i2), some (.long j3), none], [.long j3])) (jq qX13_lettersOf 4 rfl) rfl) ?_
  refine Eq.trans (jb_nx (i := .lconst 0) (n := 1) (q := (6, [o0, o1, some (.int i2), some (.long j3), none], [.long 0, .long j3])) (jq qX13_lettersOf 5 rfl) rfl) ?_
  refine Eq.trans (jb_nx (i := .lcmp) (n := 1) (q := (7, [o0, o1, some (.int i2), some (.long j3), none], [.int (lg_cmp j3 0)])) (jq qX13_lettersOf 6 rfl) rfl) ?_
  by_cases c1 : 0 < (lg_cmp j3 0)
  · rw [if_pos c1] at H
    refine Eq.trans (jb_nx (i := .ifCond .le 15) (n := 3) (q := (10, [o0, o1, some (.int i2), some (.long j3), none], [])) (jq qX13_lettersOf 7 rfl) (jo_ifF (jz_leF c1))) ?_
    refine Eq.trans (jb_nx (i := .iinc 2 1) (n := 3) (q := (13, [o0, (jm_dm o1), some (.int (i2 + 1)), some (.long j3), none], [])) (jq qX13_lettersOf 8 rfl) rfl) ?_
    refine Eq.trans (jb_nx (i := .lload_n 3) (n := 1) (q := (14, [o0, (jm_dm o1), some (.int (i2 + 1)), some (.long j3), none], [.long j3])) (jq qX13_lettersOf 9 rfl) rfl) ?_
    refine Eq.trans (jb_nx (i := .ldc2_w 102) (n := 3) (q := (17, [o0, (jm_dm o1), some (.int (i2 + 1)), some (.long j3), none], [.long 37, .long j3])) (jq qX13_lettersOf 10 rfl) rfl) ?_
    refine Eq.trans (jb_nx (i := .ldiv) (n := 1) (q := (18, [o0, (jm_dm o1), some (.int (i2 + 1)), some (.long j3), none], [.long (j3 / 37)])) (jq qX13_lettersOf 11 rfl) (jo_ldiv (by decide))) ?_
    refine Eq.trans (jb_nx (i := .lstore_n 3) (n := 1) (q := (19, [o0, (jm_dm o1), some (.int (i2 + 1)), some (.long (j3 / 37)), none], [])) (jq qX13_lettersOf 12 rfl) rfl) ?_
    refine Eq.trans (jb_nx (i := .goto (-15)) (n := 3) (q := (4, [o0, (jm_dm o1), some (.int (i2 + 1)), some (.long (j3 / 37)), none], [])) (jq qX13_lettersOf 13 rfl) rfl) ?_
    exact H
  · rw [if_neg c1] at H
    refine Eq.trans (jb_nx (i := .ifCond .le 15) (n := 3) (q := (22, [o0, o1, some (.int i2), some (.long j3), none], [])) (jq qX13_lettersOf 7 rfl) (jo_ifT (jz_leT c1) rfl)) ?_
    refine Eq.trans (jb_nx (i := .iload_n 2) (n := 1) (q := (23, [o0, o1, some (.int i2), some (.long j3), none], [.int i2])) (jq qX13_lettersOf 14 rfl) rfl) ?_
    exact Eq.trans (jb_rt (i := .ireturn) (n := 1) (jq qX13_lettersOf 15 rfl) (jo_iret rfl rfl)) H
theorem gX13_lettersOf {d : Nat} {j0 : Int64} {h : jm_H} {r : jm_R} (H : (kX13_lettersOf_4 d (some (.long j0)) none 0 j0 h) = some r) : jm_D (d + 1) mX13_lettersOf [.long j0] h = some r := by
  rw [jm_D_body (Nat.le_of_ble_eq_true rfl)]
  show jm_B d mX13_lettersOf (0, [some (.long j0), none, none, none, none], []) h = some r
  refine Eq.trans (jb_nx (i := .iconst 0) (n := 1) (q := (1, [some (.long j0), none, none, none, none], [.int 0])) (jq qX13_lettersOf 0 rfl) rfl) ?_
  refine Eq.trans (jb_nx (i := .istore_n 2) (n := 1) (q := (2, [some (.long j0), none, some (.int 0), none, none], [])) (jq qX13_lettersOf 1 rfl) rfl) ?_
  refine Eq.trans (jb_nx (i := .lload_n 0) (n := 1) (q := (3, [some (.long j0), none, some (.int 0), none, none], [.long j0])) (jq qX13_lettersOf 2 rfl) rfl) ?_
  refine Eq.trans (jb_nx (i := .lstore_n 3) (n := 1) (q := (4, [some (.long j0), none, some (.int 0), some (.long j0), none], [])) (jq qX13_lettersOf 3 rfl) rfl) ?_
  exact H
/-! MaskPlaysModel letterAt (II)I -/
def tX13_letterAt : List (Nat × Instr × Nat) := [(0, .aload_n 0, 1), (1, .iconst 0, 1), (2, .putfield 68, 3), (5, .aload_n 0, 1), (6, .iload_n 1, 1), (7, .invokevirtual 473, 3), (10, .ifCond .ne 9, 3), (13, .aload_n 0, 1), (14, .iconst 1, 1), (15, .invokevirtual 463, 3), (18, .ireturn, 1), (19, .aload_n 0, 1), (20, .iload_n 1, 1), (21, .invokevirtual 146, 3), (24, .aload_n 0, 1), (25, .invokevirtual 491, 3), (28, .iload_n 2, 1), (29, .iconst 0, 1), (30, .aload_n 0, 1), (31, .getfield 160, 3), (34, .iconst 1, 1), (35, .isub, 1), (36, .invokestatic 74, 3), (39, .ifCond .eq 12, 3), (42, .aload_n 0, 1), (43, .getfield 56, 3), (46, .iload_n 2, 1), (47, .iaload, 1), (48, .goto 8, 3), (51, .aload_n 0, 1), (52, .iconst 1, 1), (53, .invokevirtual 463, 3), (56, .ireturn, 1)]
set_option maxRecDepth 100000 in
theorem qX13_letterAt : ∀ q ∈ tX13_letterAt, decode cX13_letterAt q.1 = .ok (q.2.1, q.2.2) := by decide +kernel
theorem gX13_letterAt {d : Nat} {p0 : Nat} {i1 : Int32} {i2 : Int32} {h : jm_H} {r : jm_R} (H : ((jm_pf h p0 12 0 0 (.int 0)).bind fun h1 => jm_O h1 p0 13 (jc_I (jm_D d mX13_isPlay [.ref p0, .int i1] h1) (fun x5 h3 => (if x5 = 0 then jm_O h3 p0 13 (jc_I (jm_D d mX13_no [.ref p0, .int 1] h3) (fun x37 h35 => some (.inl (some (.int x37)), h35)) jx) else jm_O h3 p0 13 (jc_V (jm_D d mX13_takeUp [.ref p0, .int i1] h3) (fun h7 => jm_O h7 p0 13 (jc_V (jm_D d mX13_writePart [.ref p0] h7) (fun h9 => (jr_I h9 p0 12 24 0).bind fun x11 => jc_I (jm_D d mX13_isIn [.int i2, .int 0, .int (x11 - 1)] h9) (fun x15 h13 => (if x15 = 0 then jm_O h13 p0 13 (jc_I (jm_D d mX13_no [.ref p0, .int 1] h13) (fun x19 h17 => some (.inl (some (.int x19)), h17)) jx) else (jr_R h13 p0 12 23 2).bind fun a23 => (jm_ali h13 a23 0 i2).bind fun x25 => some (.inl (some (.int x25)), h13))) jx) jx)) jx))) jx)) = some r) : jm_D (d + 1) mX13_letterAt [.ref p0, .int i1, .int i2] h = some r := by
  rw [jm_D_body (Nat.le_of_ble_eq_true rfl)]
  show jm_B d mX13_letterAt (0, [some (.ref p0), some (.int i1), some (.int i2)], []) h = some r
  refine Eq.trans (jb_nx (i := .aload_n 0) (n := 1) (q := (1, [some (.ref p0), some (.int i1), some (.int i2)], [.ref p0])) (jq qX13_letterAt 0 rfl) rfl) ?_
  refine Eq.trans (jb_nx (i := .iconst 0) (n := 1) (q := (2, [some (.ref p0), some (.int i1), some (.int i2)], [.int 0, .ref p0])) (jq qX13_letterAt 1 rfl) rfl) ?_
  obtain ⟨h1, e2, H⟩ := jbd H
  refine Eq.trans (jb_nx (i := .putfield 68) (n := 3) (q := (5, [some (.ref p0), some (.int i1), some (.int i2)], [])) (jq qX13_letterAt 2 rfl) (jo_pf rfl (Or.inl rfl) e2)) ?_
  refine Eq.trans (jb_nx (i := .aload_n 0) (n := 1) (q := (6, [some (.ref p0), some (.int i1), some (.int i2)], [.ref p0])) (jq qX13_letterAt 3 rfl) rfl) ?_
  refine Eq.trans (jb_nx (i := .iload_n 1) (n := 1) (q := (7, [some (.ref p0), some (.int i1), some (.int i2)], [.int i1, .ref p0])) (jq qX13_letterAt 4 rfl) rfl) ?_
  obtain ⟨b41, H⟩ := jm_O_inv H
  rcases jcI H with ⟨x5, h3, r4, H⟩ | ⟨w42, h43, r4, H⟩
  · refine Eq.trans (jb_nx (i := .invokevirtual 473) (n := 3) (q := (10, [some (.ref p0), some (.int i1), some (.int i2)], [.int x5])) (jq qX13_letterAt 5 rfl) (jo_cv (y := mX13_isPlay) rfl (Nat.le_of_ble_eq_true rfl) rfl (Nat.le_of_ble_eq_true rfl) b41 rfl r4 jo_ret)) ?_
    by_cases c6 : x5 = 0
    · rw [if_pos c6] at H
      refine Eq.trans (jb_nx (i := .ifCond .ne 9) (n := 3) (q := (13, [some (.ref p0), some (.int i1), some (.int i2)], [])) (jq qX13_letterAt 6 rfl) (jo_ifF (jz_neF c6))) ?_
      refine Eq.trans (jb_nx (i := .aload_n 0) (n := 1) (q := (14, [some (.ref p0), some (.int i1), some (.int i2)], [.ref p0])) (jq qX13_letterAt 7 rfl) rfl) ?_
      refine Eq.trans (jb_nx (i := .iconst 1) (n := 1) (q := (15, [some (.ref p0), some (.int i1), some (.int i2)], [.int 1, .ref p0])) (jq qX13_letterAt 8 rfl) rfl) ?_
      obtain ⟨b38, H⟩ := jm_O_inv H
      rcases jcI H with ⟨x37, h35, r36, H⟩ | ⟨w39, h40, r36, H⟩
      · refine Eq.trans (jb_nx (i := .invokevirtual 463) (n := 3) (q := (18, [some (.ref p0), some (.int i1), some (.int i2)], [.int x37])) (jq qX13_letterAt 9 rfl) (jo_cv (y := mX13_no) rfl (Nat.le_of_ble_eq_true rfl) rfl (Nat.le_of_ble_eq_true rfl) b38 rfl r36 jo_ret)) ?_
        exact Eq.trans (jb_rt (i := .ireturn) (n := 1) (jq qX13_letterAt 10 rfl) (jo_iret rfl rfl)) H
      · exact Eq.trans (jb_rt (i := .invokevirtual 463) (n := 3) (jq qX13_letterAt 9 rfl) (jo_cv (y := mX13_no) rfl (Nat.le_of_ble_eq_true rfl) rfl (Nat.le_of_ble_eq_true rfl) b38 rfl r36 (jo_exn rfl))) H
    · rw [if_neg c6] at H
      refine Eq.trans (jb_nx (i := .ifCond .ne 9) (n := 3) (q := (19, [some (.ref p0), some (.int i1), some (.int i2)], [])) (jq qX13_letterAt 6 rfl) (jo_ifT (jz_neT c6) rfl)) ?_
      refine Eq.trans (jb_nx (i := .aload_n 0) (n := 1) (q := (20, [some (.ref p0), some (.int i1), some (.int i2)], [.ref p0])) (jq qX13_letterAt 11 rfl) rfl) ?_
      refine Eq.trans (jb_nx (i := .iload_n 1) (n := 1) (q := (21, [some (.ref p0), some (.int i1), some (.int i2)], [.int i1, .ref p0])) (jq qX13_letterAt 12 rfl) rfl) ?_
      obtain ⟨b32, H⟩ := jm_O_inv H
      rcases jcV H with ⟨h7, r8, H⟩ | ⟨w33, h34, r8, H⟩
      · refine Eq.trans (jb_nx (i := .invokevirtual 146) (n := 3) (q := (24, [some (.ref p0), some (.int i1), some (.int i2)], [])) (jq qX13_letterAt 13 rfl) (jo_cv (y := mX13_takeUp) rfl (Nat.le_of_ble_eq_true rfl) rfl (Nat.le_of_ble_eq_true rfl) b32 rfl r8 jo_ret)) ?_
        refine Eq.trans (jb_nx (i := .aload_n 0) (n := 1) (q := (25, [some (.ref p0), some (.int i1), some (.int i2)], [.ref p0])) (jq qX13_letterAt 14 rfl) rfl) ?_
        obtain ⟨b29, H⟩ := jm_O_inv H
        rcases jcV H with ⟨h9, r10, H⟩ | ⟨w30, h31, r10, H⟩
        · refine Eq.trans (jb_nx (i := .invokevirtual 491) (n := 3) (q := (28, [some (.ref p0), some (.int i1), some (.int i2)], [])) (jq qX13_letterAt 15 rfl) (jo_cv (y := mX13_writePart) rfl (Nat.le_of_ble_eq_true rfl) rfl (Nat.le_of_ble_eq_true rfl) b29 rfl r10 jo_ret)) ?_
          refine Eq.trans (jb_nx (i := .iload_n 2) (n := 1) (q := (29, [some (.ref p0), some (.int i1), some (.int i2)], [.int i2])) (jq qX13_letterAt 16 rfl) rfl) ?_
          refine Eq.trans (jb_nx (i := .iconst 0) (n := 1) (q := (30, [some (.ref p0), some (.int i1), some (.int i2)], [.int 0, .int i2])) (jq qX13_letterAt 17 rfl) rfl) ?_
          refine Eq.trans (jb_nx (i := .aload_n 0) (n := 1) (q := (31, [some (.ref p0), some (.int i1), some (.int i2)], [.ref p0, .int 0, .int i2])) (jq qX13_letterAt 18 rfl) rfl) ?_
          obtain ⟨x11, e12, H⟩ := jbd H
          refine Eq.trans (jb_nx (i := .getfield 160) (n := 3) (q := (34, [some (.ref p0), some (.int i1), some (.int i2)], [.int x11, .int 0, .int i2])) (jq qX13_letterAt 19 rfl) (jo_gf rfl (jr_I_inv e12))) ?_
          refine Eq.trans (jb_nx (i := .iconst 1) (n := 1) (q := (35, [some (.ref p0), some (.int i1), some (.int i2)], [.int 1, .int x11, .int 0, .int i2])) (jq qX13_letterAt 20 rfl) rfl) ?_
          refine Eq.trans (jb_nx (i := .isub) (n := 1) (q := (36, [some (.ref p0), some (.int i1), some (.int i2)], [.int (x11 - 1), .int 0, .int i2])) (jq qX13_letterAt 21 rfl) rfl) ?_
          rcases jcI H with ⟨x15, h13, r14, H⟩ | ⟨w27, h28, r14, H⟩
          · refine Eq.trans (jb_nx (i := .invokestatic 74) (n := 3) (q := (39, [some (.ref p0), some (.int i1), some (.int i2)], [.int x15])) (jq qX13_letterAt 22 rfl) (jo_cs (y := mX13_isIn) (w := 1) (by decide) rfl (Nat.le_of_ble_eq_true rfl) rfl (Nat.le_of_ble_eq_true rfl) rfl r14 jo_ret)) ?_
            by_cases c16 : x15 = 0
            · rw [if_pos c16] at H
              refine Eq.trans (jb_nx (i := .ifCond .eq 12) (n := 3) (q := (51, [some (.ref p0), some (.int i1), some (.int i2)], [])) (jq qX13_letterAt 23 rfl) (jo_ifT (jz_eqT c16) rfl)) ?_
              refine Eq.trans (jb_nx (i := .aload_n 0) (n := 1) (q := (52, [some (.ref p0), some (.int i1), some (.int i2)], [.ref p0])) (jq qX13_letterAt 29 rfl) rfl) ?_
              refine Eq.trans (jb_nx (i := .iconst 1) (n := 1) (q := (53, [some (.ref p0), some (.int i1), some (.int i2)], [.int 1, .ref p0])) (jq qX13_letterAt 30 rfl) rfl) ?_
              obtain ⟨b20, H⟩ := jm_O_inv H
              rcases jcI H with ⟨x19, h17, r18, H⟩ | ⟨w21, h22, r18, H⟩
              · refine Eq.trans (jb_nx (i := .invokevirtual 463) (n := 3) (q := (56, [some (.ref p0), some (.int i1), some (.int i2)], [.int x19])) (jq qX13_letterAt 31 rfl) (jo_cv (y := mX13_no) rfl (Nat.le_of_ble_eq_true rfl) rfl (Nat.le_of_ble_eq_true rfl) b20 rfl r18 jo_ret)) ?_
                exact Eq.trans (jb_rt (i := .ireturn) (n := 1) (jq qX13_letterAt 32 rfl) (jo_iret rfl rfl)) H
              · exact Eq.trans (jb_rt (i := .invokevirtual 463) (n := 3) (jq qX13_letterAt 31 rfl) (jo_cv (y := mX13_no) rfl (Nat.le_of_ble_eq_true rfl) rfl (Nat.le_of_ble_eq_true rfl) b20 rfl r18 (jo_exn rfl))) H
            · rw [if_neg c16] at H
              refine Eq.trans (jb_nx (i := .ifCond .eq 12) (n := 3) (q := (42, [some (.ref p0), some (.int i1), some (.int i2)], [])) (jq qX13_letterAt 23 rfl) (jo_ifF (jz_eqF c16))) ?_
              refine Eq.trans (jb_nx (i := .aload_n 0) (n := 1) (q := (43, [some (.ref p0), some (.int i1), some (.int i2)], [.ref p0])) (jq qX13_letterAt 24 rfl) rfl) ?_
              obtain ⟨a23, e24, H⟩ := jbd H
              refine Eq.trans (jb_nx (i := .getfield 56) (n := 3) (q := (46, [some (.ref p0), some (.int i1), some (.int i2)], [.ref a23])) (jq qX13_letterAt 25 rfl) (jo_gf rfl (jr_R_inv e24))) ?_
              refine Eq.trans (jb_nx (i := .iload_n 2) (n := 1) (q := (47, [some (.ref p0), some (.int i1), some (.int i2)], [.int i2, .ref a23])) (jq qX13_letterAt 26 rfl) rfl) ?_
              obtain ⟨x25, e26, H⟩ := jbd H
              refine Eq.trans (jb_nx (i := .iaload) (n := 1) (q := (48, [some (.ref p0), some (.int i1), some (.int i2)], [.int x25])) (jq qX13_letterAt 27 rfl) (jo_ial e26)) ?_
              refine Eq.trans (jb_nx (i := .goto 8) (n := 3) (q := (56, [some (.ref p0), some (.int i1), some (.int i2)], [.int x25])) (jq qX13_letterAt 28 rfl) rfl) ?_
              exact Eq.trans (jb_rt (i := .ireturn) (n := 1) (jq qX13_letterAt 32 rfl) (jo_iret rfl rfl)) H
          · exact Eq.trans (jb_rt (i := .invokestatic 74) (n := 3) (jq qX13_letterAt 22 rfl) (jo_cs (y := mX13_isIn) (w := 1) (by decide) rfl (Nat.le_of_ble_eq_true rfl) rfl (Nat.le_of_ble_eq_true rfl) rfl r14 (jo_exn rfl))) H
        · exact Eq.trans (jb_rt (i := .invokevirtual 491) (n := 3) (jq qX13_letterAt 15 rfl) (jo_cv (y := mX13_writePart) rfl (Nat.le_of_ble_eq_true rfl) rfl (Nat.le_of_ble_eq_true rfl) b29 rfl r10 (jo_exn rfl))) H
      · exact Eq.trans (jb_rt (i := .invokevirtual 146) (n := 3) (jq qX13_letterAt 13 rfl) (jo_cv (y := mX13_takeUp) rfl (Nat.le_of_ble_eq_true rfl) rfl (Nat.le_of_ble_eq_true rfl) b32 rfl r8 (jo_exn rfl))) H
  · exact Eq.trans (jb_rt (i := .invokevirtual 473) (n := 3) (jq qX13_letterAt 5 rfl) (jo_cv (y := mX13_isPlay) rfl (Nat.le_of_ble_eq_true rfl) rfl (Nat.le_of_ble_eq_true rfl) b41 rfl r4 (jo_exn rfl))) H
/-! MaskPlaysModel writePart ()V -/
def tX13_writePart : List (Nat × Instr × Nat) := [(0, .aload_n 0, 1), (1, .iconst 0, 1), (2, .putfield 160, 3), (5, .iconst 0, 1), (6, .istore_n 1, 1), (7, .iconst 0, 1), (8, .istore_n 2, 1), (9, .iload_n 2, 1), (10, .aload_n 0, 1), (11, .getfield 82, 3), (14, .if_icmp .ge 135, 3), (17, .aload_n 0, 1), (18, .getfield 59, 3), (21, .iload_n 2, 1), (22, .aload_n 0, 1), (23, .getfield 160, 3), (26, .iastore, 1), (27, .aload_n 0, 1), (28, .getfield 43, 3), (31, .iload_n 2, 1), (32, .laload, 1), (33, .lconst 0, 1), (34, .lcmp, 1), (35, .ifCond .le 22, 3), (38, .aload_n 0, 1), (39, .aload_n 0, 1), (40, .getfield 43, 3), (43, .iload_n 2, 1), (44, .laload, 1), (45, .invokevirtual 166, 3), (48, .aload_n 0, 1), (49, .iload_n 1, 1), (50, .invokevirtual 170, 3), (53, .istore_n 1, 1), (54, .goto 89, 3), (57, .aload_n 0, 1), (58, .getfield 43, 3), (61, .iload_n 2, 1), (62, .laload, 1), (63, .lconst 0, 1), (64, .lcmp, 1), (65, .ifCond .ge 29, 3), (68, .aload_n 0, 1), (69, .ldc 173, 2), (71, .invokestatic 175, 3), (74, .invokevirtual 166, 3), (77, .aload_n 0, 1), (78, .bipush 32, 2), (80, .invokevirtual 163, 3), (83, .aload_n 0, 1), (84, .aload_n 0, 1), (85, .getfield 43, 3), (88, .iload_n 2, 1), (89, .laload, 1), (90, .lneg, 1), (91, .invokevirtual 166, 3), (94, .aload_n 0, 1), (95, .aload_n 0, 1), (96, .getfield 43, 3), (99, .iload_n 2, 1), (100, .laload, 1), (101, .lconst 0, 1), (102, .lcmp, 1), (103, .ifCond .ge 8, 3), (106, .bipush 40, 2), (108, .goto 5, 3), (111, .bipush 91, 2), (113, .invokevirtual 163, 3), (116, .aload_n 0, 1), (117, .getfield 62, 3), (120, .iload_n 1, 1), (121, .aload_n 0, 1), (122, .getfield 43, 3), (125, .iload_n 2, 1), (126, .laload, 1), (127, .lconst 0, 1), (128, .lcmp, 1), (129, .ifCond .ge 8, 3), (132, .bipush 41, 2), (134, .goto 5, 3), (137, .bipush 32, 2), (139, .iastore, 1), (140, .iinc 1 1, 3), (143, .iinc 2 1, 3), (146, .goto (-137), 3), (149, .return_, 1)]
set_option maxRecDepth 100000 in
theorem qX13_writePart : ∀ q ∈ tX13_writePart, decode cX13_writePart q.1 = .ok (q.2.1, q.2.2) := by decide +kernel
noncomputable def kX13_writePart_9 (d : Nat) (p0 : Nat) (i1 : Int32) (i2 : Int32) (h : jm_H) : Option jm_R := jm_B d mX13_writePart (9, [some (.ref p0), some (.int i1), some (.int i2)], []) h
noncomputable def kX13_writePart_113 (d : Nat) (p0 : Nat) (i1 : Int32) (i2 : Int32) (si0 : Int32) (sp1 : Nat) (h : jm_H) : Option jm_R := jm_B d mX13_writePart (113, [some (.ref p0), some (.int i1), some (.int i2)], [.int si0, .ref sp1]) h
theorem gX13_writePart_9 {d : Nat} {p0 : Nat} {i1 : Int32} {i2 : Int32} {h : jm_H} {r : jm_R} (H : ((jr_I h p0 12 19 0).bind fun x3 => (if i2 < x3 then (jr_R h p0 12 25 2).bind fun a6 => (jr_I h p0 12 24 0).bind fun x8 => (jm_asi h a6 0 i2 x8).bind fun h10 => (jr_R h10 p0 12 18 2).bind fun a12 => (jm_all h10 a12 i2).bind fun y14 => (if 0 < (lg_cmp y14 0) then (jr_R h10 p0 12 18 2).bind fun a56 => (jm_all h10 a56 i2).bind fun y58 => jm_O h10 p0 13 (jc_V (jm_D d mX13_writeName [.ref p0, .long y58] h10) (fun h60 => jm_O h60 p0 13 (jc_I (jm_D d mX13_closeOn [.ref p0, .int i1] h60) (fun x64 h62 => kX13_writePart_9 d p0 x64 (i2 + 1) h62) jx)) jx) else (jr_R h10 p0 12 18 2).bind fun a17 => (jm_all h10 a17 i2).bind fun y19 => (if (lg_cmp y19 0) < 0 then jc_L (jm_D d mX13_nameOf [.ref 14] h10) (fun y29 h27 => jm_O h27 p0 13 (jc_V (jm_D d mX13_writeName [.ref p0, .long y29] h27) (fun h30 => jm_O h30 p0 13 (jc_V (jm_D d mX13_write [.ref p0, .int 32] h30) (fun h32 => (jr_R h32 p0 12 18 2).bind fun a34 => (jm_all h32 a34 i2).bind fun y36 => jm_O h32 p0 13 (jc_V (jm_D d mX13_writeName [.ref p0, .long (-y36)] h32) (fun h38 => (jr_R h38 p0 12 18 2).bind fun a40 => (jm_all h38 a40 i2).bind fun y42 => (if (lg_cmp y42 0) < 0 then kX13_writePart_113 d p0 i1 i2 40 p0 h38 else kX13_writePart_113 d p0 i1 i2 91 p0 h38)) jx)) jx)) jx)) jx else (jr_R h10 p0 12 18 2).bind fun a22 => (jm_all h10 a22 i2).bind fun y24 => (if (lg_cmp y24 0) < 0 then kX13_writePart_113 d p0 i1 i2 40 p0 h10 else kX13_writePart_113 d p0 i1 i2 91 p0 h10))) else some (.inl none, h))) = some r) : kX13_writePart_9 d p0 i1 i2 h = some r := by
  show jm_B d mX13_writePart (9, [some (.ref p0), some (.int i1), some (.int i2)], []) h = some r
  refine Eq.trans (jb_nx (i := .iload_n 2) (n := 1) (q := (10, [some (.ref p0), some (.int i1), some (.int i2)], [.int i2])) (jq qX13_writePart 7 rfl) rfl) ?_
  refine Eq.trans (jb_nx (i := .aload_n 0) (n := 1) (q := (11, [some (.ref p0), some (.int i1), some (.int i2)], [.ref p0, .int i2])) (jq qX13_writePart 8 rfl) rfl) ?_
  obtain ⟨x3, e4, H⟩ := jbd H
  refine Eq.trans (jb_nx (i := .getfield 82) (n := 3) (q := (14, [some (.ref p0), some (.int i1), some (.int i2)], [.int x3, .int i2])) (jq qX13_writePart 9 rfl) (jo_gf rfl (jr_I_inv e4))) ?_
  by_cases c5 : i2 < x3
  · rw [if_pos c5] at H
    refine Eq.trans (jb_nx (i := .if_icmp .ge 135) (n := 3) (q := (17, [some (.ref p0), some (.int i1), some (.int i2)], [])) (jq qX13_writePart 10 rfl) (jo_icF (jz_geF c5))) ?_
    refine Eq.trans (jb_nx (i := .aload_n 0) (n := 1) (q := (18, [some (.ref p0), some (.int i1), some (.int i2)], [.ref p0])) (jq qX13_writePart 11 rfl) rfl) ?_
    obtain ⟨a6, e7, H⟩ := jbd H
    refine Eq.trans (jb_nx (i := .getfield 59) (n := 3) (q := (21, [some (.ref p0), some (.int i1), some (.int i2)], [.ref a6])) (jq qX13_writePart 12 rfl) (jo_gf rfl (jr_R_inv e7))) ?_
    refine Eq.trans (jb_nx (i := .iload_n 2) (n := 1) (q := (22, [some (.ref p0), some (.int i1), some (.int i2)], [.int i2, .ref a6])) (jq qX13_writePart 13 rfl) rfl) ?_
    refine Eq.trans (jb_nx (i := .aload_n 0) (n := 1) (q := (23, [some (.ref p0), some (.int i1), some (.int i2)], [.ref p0, .int i2, .ref a6])) (jq qX13_writePart 14 rfl) rfl) ?_
    obtain ⟨x8, e9, H⟩ := jbd H
    refine Eq.trans (jb_nx (i := .getfield 160) (n := 3) (q := (26, [some (.ref p0), some (.int i1), some (.int i2)], [.int x8, .int i2, .ref a6])) (jq qX13_writePart 15 rfl) (jo_gf rfl (jr_I_inv e9))) ?_
    obtain ⟨h10, e11, H⟩ := jbd H
    refine Eq.trans (jb_nx (i := .iastore) (n := 1) (q := (27, [some (.ref p0), some (.int i1), some (.int i2)], [])) (jq qX13_writePart 16 rfl) (jo_ias e11)) ?_
    refine Eq.trans (jb_nx (i := .aload_n 0) (n := 1) (q := (28, [some (.ref p0), some (.int i1), some (.int i2)], [.ref p0])) (jq qX13_writePart 17 rfl) rfl) ?_
    obtain ⟨a12, e13, H⟩ := jbd H
    refine Eq.trans (jb_nx (i := .getfield 43) (n := 3) (q := (31, [some (.ref p0), some (.int i1), some (.int i2)], [.ref a12])) (jq qX13_writePart 18 rfl) (jo_gf rfl (jr_R_inv e13))) ?_
    refine Eq.trans (jb_nx (i := .iload_n 2) (n := 1) (q := (32, [some (.ref p0), some (.int i1), some (.int i2)], [.int i2, .ref a12])) (jq qX13_writePart 19 rfl) rfl) ?_
    obtain ⟨y14, e15, H⟩ := jbd H
    refine Eq.trans (jb_nx (i := .laload) (n := 1) (q := (33, [some (.ref p0), some (.int i1), some (.int i2)], [.long y14])) (jq qX13_writePart 20 rfl) (jo_lal e15)) ?_
    refine Eq.trans (jb_nx (i := .lconst 0) (n := 1) (q := (34, [some (.ref p0), some (.int i1), some (.int i2)], [.long 0, .long y14])) (jq qX13_writePart 21 rfl) rfl) ?_
    refine Eq.trans (jb_nx (i := .lcmp) (n := 1) (q := (35, [some (.ref p0), some (.int i1), some (.int i2)], [.int (lg_cmp y14 0)])) (jq qX13_writePart 22 rfl) rfl) ?_
    by_cases c16 : 0 < (lg_cmp y14 0)
    · rw [if_pos c16] at H
      refine Eq.trans (jb_nx (i := .ifCond .le 22) (n := 3) (q := (38, [some (.ref p0), some (.int i1), some (.int i2)], [])) (jq qX13_writePart 23 rfl) (jo_ifF (jz_leF c16))) ?_
      refine Eq.trans (jb_nx (i := .aload_n 0) (n := 1) (q := (39, [some (.ref p0), some (.int i1), some (.int i2)], [.ref p0])) (jq qX13_writePart 24 rfl) rfl) ?_
      refine Eq.trans (jb_nx (i := .aload_n 0) (n := 1) (q := (40, [some (.ref p0), some (.int i1), some (.int i2)], [.ref p0, .ref p0])) (jq qX13_writePart 25 rfl) rfl) ?_
      obtain ⟨a56, e57, H⟩ := jbd H
      refine Eq.trans (jb_nx (i := .getfield 43) (n := 3) (q := (43, [some (.ref p0), some (.int i1), some (.int i2)], [.ref a56, .ref p0])) (jq qX13_writePart 26 rfl) (jo_gf rfl (jr_R_inv e57))) ?_
      refine Eq.trans (jb_nx (i := .iload_n 2) (n := 1) (q := (44, [some (.ref p0), some (.int i1), some (.int i2)], [.int i2, .ref a56, .ref p0])) (jq qX13_writePart 27 rfl) rfl) ?_
      obtain ⟨y58, e59, H⟩ := jbd H
      refine Eq.trans (jb_nx (i := .laload) (n := 1) (q := (45, [some (.ref p0), some (.int i1), some (.int i2)], [.long y58, .ref p0])) (jq qX13_writePart 28 rfl) (jo_lal e59)) ?_
      obtain ⟨b68, H⟩ := jm_O_inv H
      rcases jcV H with ⟨h60, r61, H⟩ | ⟨w69, h70, r61, H⟩
      · refine Eq.trans (jb_nx (i := .invokevirtual 166) (n := 3) (q := (48, [some (.ref p0), some (.int i1), some (.int i2)], [])) (jq qX13_writePart 29 rfl) (jo_cv (y := mX13_writeName) rfl (Nat.le_of_ble_eq_true rfl) rfl (Nat.le_of_ble_eq_true rfl) b68 rfl r61 jo_ret)) ?_
        refine Eq.trans (jb_nx (i := .aload_n 0) (n := 1) (q := (49, [some (.ref p0), some (.int i1), some (.int i2)], [.ref p0])) (jq qX13_writePart 30 rfl) rfl) ?_
        refine Eq.trans (jb_nx (i := .iload_n 1) (n := 1) (q := (50, [some (.ref p0), some (.int i1), some (.int i2)], [.int i1, .ref p0])) (jq qX13_writePart 31 rfl) rfl) ?_
        obtain ⟨b65, H⟩ := jm_O_inv H
        rcases jcI H with ⟨x64, h62, r63, H⟩ | ⟨w66, h67, r63, H⟩
        · refine Eq.trans (jb_nx (i := .invokevirtual 170) (n := 3) (q := (53, [some (.ref p0), some (.int i1), some (.int i2)], [.int x64])) (jq qX13_writePart 32 rfl) (jo_cv (y := mX13_closeOn) rfl (Nat.le_of_ble_eq_true rfl) rfl (Nat.le_of_ble_eq_true rfl) b65 rfl r63 jo_ret)) ?_
          refine Eq.trans (jb_nx (i := .istore_n 1) (n := 1) (q := (54, [some (.ref p0), some (.int x64), some (.int i2)], [])) (jq qX13_writePart 33 rfl) rfl) ?_
          refine Eq.trans (jb_nx (i := .goto 89) (n := 3) (q := (143, [some (.ref p0), some (.int x64), some (.int i2)], [])) (jq qX13_writePart 34 rfl) rfl) ?_
          refine Eq.trans (jb_nx (i := .iinc 2 1) (n := 3) (q := (146, [some (.ref p0), some (.int x64), some (.int (i2 + 1))], [])) (jq qX13_writePart 83 rfl) rfl) ?_
          refine Eq.trans (jb_nx (i := .goto (-137)) (n := 3) (q := (9, [some (.ref p0), some (.int x64), some (.int (i2 + 1))], [])) (jq qX13_writePart 84 rfl) rfl) ?_
          exact H
        · exact Eq.trans (jb_rt (i := .invokevirtual 170) (n := 3) (jq qX13_writePart 32 rfl) (jo_cv (y := mX13_closeOn) rfl (Nat.le_of_ble_eq_true rfl) rfl (Nat.le_of_ble_eq_true rfl) b65 rfl r63 (jo_exn rfl))) H
      · exact Eq.trans (jb_rt (i := .invokevirtual 166) (n := 3) (jq qX13_writePart 29 rfl) (jo_cv (y := mX13_writeName) rfl (Nat.le_of_ble_eq_true rfl) rfl (Nat.le_of_ble_eq_true rfl) b68 rfl r61 (jo_exn rfl))) H
    · rw [if_neg c16] at H
      refine Eq.trans (jb_nx (i := .ifCond .le 22) (n := 3) (q := (57, [some (.ref p0), some (.int i1), some (.int i2)], [])) (jq qX13_writePart 23 rfl) (jo_ifT (jz_leT c16) rfl)) ?_
      refine Eq.trans (jb_nx (i := .aload_n 0) (n := 1) (q := (58, [some (.ref p0), some (.int i1), some (.int i2)], [.ref p0])) (jq qX13_writePart 35 rfl) rfl) ?_
      obtain ⟨a17, e18, H⟩ := jbd H
      refine Eq.trans (jb_nx (i := .getfield 43) (n := 3) (q := (61, [some (.ref p0), some (.int i1), some (.int i2)], [.ref a17])) (jq qX13_writePart 36 rfl) (jo_gf rfl (jr_R_inv e18))) ?_
      refine Eq.trans (jb_nx (i := .iload_n 2) (n := 1) (q := (62, [some (.ref p0), some (.int i1), some (.int i2)], [.int i2, .ref a17])) (jq qX13_writePart 37 rfl) rfl) ?_
      obtain ⟨y19, e20, H⟩ := jbd H
      refine Eq.trans (jb_nx (i := .laload) (n := 1) (q := (63, [some (.ref p0), some (.int i1), some (.int i2)], [.long y19])) (jq qX13_writePart 38 rfl) (jo_lal e20)) ?_
      refine Eq.trans (jb_nx (i := .lconst 0) (n := 1) (q := (64, [some (.ref p0), some (.int i1), some (.int i2)], [.long 0, .long y19])) (jq qX13_writePart 39 rfl) rfl) ?_
      refine Eq.trans (jb_nx (i := .lcmp) (n := 1) (q := (65, [some (.ref p0), some (.int i1), some (.int i2)], [.int (lg_cmp y19 0)])) (jq qX13_writePart 40 rfl) rfl) ?_
      by_cases c21 : (lg_cmp y19 0) < 0
      · rw [if_pos c21] at H
        refine Eq.trans (jb_nx (i := .ifCond .ge 29) (n := 3) (q := (68, [some (.ref p0), some (.int i1), some (.int i2)], [])) (jq qX13_writePart 41 rfl) (jo_ifF (jz_geF c21))) ?_
        refine Eq.trans (jb_nx (i := .aload_n 0) (n := 1) (q := (69, [some (.ref p0), some (.int i1), some (.int i2)], [.ref p0])) (jq qX13_writePart 42 rfl) rfl) ?_
        refine Eq.trans (jb_nx (i := .ldc 173) (n := 2) (q := (71, [some (.ref p0), some (.int i1), some (.int i2)], [.ref 14, .ref p0])) (jq qX13_writePart 43 rfl) rfl) ?_
        rcases jcL H with ⟨y29, h27, r28, H⟩ | ⟨w54, h55, r28, H⟩
        · refine Eq.trans (jb_nx (i := .invokestatic 175) (n := 3) (q := (74, [some (.ref p0), some (.int i1), some (.int i2)], [.long y29, .ref p0])) (jq qX13_writePart 44 rfl) (jo_cs (y := mX13_nameOf) (w := 1) (by decide) rfl (Nat.le_of_ble_eq_true rfl) rfl (Nat.le_of_ble_eq_true rfl) rfl r28 jo_ret)) ?_
          obtain ⟨b51, H⟩ := jm_O_inv H
          rcases jcV H with ⟨h30, r31, H⟩ | ⟨w52, h53, r31, H⟩
          · refine Eq.trans (jb_nx (i := .invokevirtual 166) (n := 3) (q := (77, [some (.ref p0), some (.int i1), some (.int i2)], [])) (jq qX13_writePart 45 rfl) (jo_cv (y := mX13_writeName) rfl (Nat.le_of_ble_eq_true rfl) rfl (Nat.le_of_ble_eq_true rfl) b51 rfl r31 jo_ret)) ?_
            refine Eq.trans (jb_nx (i := .aload_n 0) (n := 1) (q := (78, [some (.ref p0), some (.int i1), some (.int i2)], [.ref p0])) (jq qX13_writePart 46 rfl) rfl) ?_
            refine Eq.trans (jb_nx (i := .bipush 32) (n := 2) (q := (80, [some (.ref p0), some (.int i1), some (.int i2)], [.int 32, .ref p0])) (jq qX13_writePart 47 rfl) rfl) ?_
            obtain ⟨b48, H⟩ := jm_O_inv H
            rcases jcV H with ⟨h32, r33, H⟩ | ⟨w49, h50, r33, H⟩
            · refine Eq.trans (jb_nx (i := .invokevirtual 163) (n := 3) (q := (83, [some (.ref p0), some (.int i1), some (.int i2)], [])) (jq qX13_writePart 48 rfl) (jo_cv (y := mX13_write) rfl (Nat.le_of_ble_eq_true rfl) rfl (Nat.le_of_ble_eq_true rfl) b48 rfl r33 jo_ret)) ?_
              refine Eq.trans (jb_nx (i := .aload_n 0) (n := 1) (q := (84, [some (.ref p0), some (.int i1), some (.int i2)], [.ref p0])) (jq qX13_writePart 49 rfl) rfl) ?_
              refine Eq.trans (jb_nx (i := .aload_n 0) (n := 1) (q := (85, [some (.ref p0), some (.int i1), some (.int i2)], [.ref p0, .ref p0])) (jq qX13_writePart 50 rfl) rfl) ?_
              obtain ⟨a34, e35, H⟩ := jbd H
              refine Eq.trans (jb_nx (i := .getfield 43) (n := 3) (q := (88, [some (.ref p0), some (.int i1), some (.int i2)], [.ref a34, .ref p0])) (jq qX13_writePart 51 rfl) (jo_gf rfl (jr_R_inv e35))) ?_
              refine Eq.trans (jb_nx (i := .iload_n 2) (n := 1) (q := (89, [some (.ref p0), some (.int i1), some (.int i2)], [.int i2, .ref a34, .ref p0])) (jq qX13_writePart 52 rfl) rfl) ?_
              obtain ⟨y36, e37, H⟩ := jbd H
              refine Eq.trans (jb_nx (i := .laload) (n := 1) (q := (90, [some (.ref p0), some (.int i1), some (.int i2)], [.long y36, .ref p0])) (jq qX13_writePart 53 rfl) (jo_lal e37)) ?_
              refine Eq.trans (jb_nx (i := .lneg) (n := 1) (q := (91, [some (.ref p0), some (.int i1), some (.int i2)], [.long (-y36), .ref p0])) (jq qX13_writePart 54 rfl) rfl) ?_
              obtain ⟨b45, H⟩ := jm_O_inv H
              rcases jcV H with ⟨h38, r39, H⟩ | ⟨w46, h47, r39, H⟩
              · refine Eq.trans (jb_nx (i := .invokevirtual 166) (n := 3) (q := (94, [some (.ref p0), some (.int i1), some (.int i2)], [])) (jq qX13_writePart 55 rfl) (jo_cv (y := mX13_writeName) rfl (Nat.le_of_ble_eq_true rfl) rfl (Nat.le_of_ble_eq_true rfl) b45 rfl r39 jo_ret)) ?_
                refine Eq.trans (jb_nx (i := .aload_n 0) (n := 1) (q := (95, [some (.ref p0), some (.int i1), some (.int i2)], [.ref p0])) (jq qX13_writePart 56 rfl) rfl) ?_
                refine Eq.trans (jb_nx (i := .aload_n 0) (n := 1) (q := (96, [some (.ref p0), some (.int i1), some (.int i2)], [.ref p0, .ref p0])) (jq qX13_writePart 57 rfl) rfl) ?_
                obtain ⟨a40, e41, H⟩ := jbd H
                refine Eq.trans (jb_nx (i := .getfield 43) (n := 3) (q := (99, [some (.ref p0), some (.int i1), some (.int i2)], [.ref a40, .ref p0])) (jq qX13_writePart 58 rfl) (jo_gf rfl (jr_R_inv e41))) ?_
                refine Eq.trans (jb_nx (i := .iload_n 2) (n := 1) (q := (100, [some (.ref p0), some (.int i1), some (.int i2)], [.int i2, .ref a40, .ref p0])) (jq qX13_writePart 59 rfl) rfl) ?_
                obtain ⟨y42, e43, H⟩ := jbd H
                refine Eq.trans (jb_nx (i := .laload) (n := 1) (q := (101, [some (.ref p0), some (.int i1), some (.int i2)], [.long y42, .ref p0])) (jq qX13_writePart 60 rfl) (jo_lal e43)) ?_
                refine Eq.trans (jb_nx (i := .lconst 0) (n := 1) (q := (102, [some (.ref p0), some (.int i1), some (.int i2)], [.long 0, .long y42, .ref p0])) (jq qX13_writePart 61 rfl) rfl) ?_
                refine Eq.trans (jb_nx (i := .lcmp) (n := 1) (q := (103, [some (.ref p0), some (.int i1), some (.int i2)], [.int (lg_cmp y42 0), .ref p0])) (jq qX13_writePart 62 rfl) rfl) ?_
                by_cases c44 : (lg_cmp y42 0) < 0
                · rw [if_pos c44] at H
                  refine Eq.trans (jb_nx (i := .ifCond .ge 8) (n := 3) (q := (106, [some (.ref p0), some (.int i1), some (.int i2)], [.ref p0])) (jq qX13_writePart 63 rfl) (jo_ifF (jz_geF c44))) ?_
                  refine Eq.trans (jb_nx (i := .bipush 40) (n := 2) (q := (108, [some (.ref p0), some (.int i1), some (.int i2)], [.int 40, .ref p0])) (jq qX13_writePart 64 rfl) rfl) ?_
                  refine Eq.trans (jb_nx (i := .goto 5) (n := 3) (q := (113, [some (.ref p0), some (.int i1), some (.int i2)], [.int 40, .ref p0])) (jq qX13_writePart 65 rfl) rfl) ?_
                  exact H
                · rw [if_neg c44] at H
                  refine Eq.trans (jb_nx (i := .ifCond .ge 8) (n := 3) (q := (111, [some (.ref p0), some (.int i1), some (.int i2)], [.ref p0])) (jq qX13_writePart 63 rfl) (jo_ifT (jz_geT c44) rfl)) ?_
                  refine Eq.trans (jb_nx (i := .bipush 91) (n := 2) (q := (113, [some (.ref p0), some (.int i1), some (.int i2)], [.int 91, .ref p0])) (jq qX13_writePart 66 rfl) rfl) ?_
                  exact H
              · exact Eq.trans (jb_rt (i := .invokevirtual 166) (n := 3) (jq qX13_writePart 55 rfl) (jo_cv (y := mX13_writeName) rfl (Nat.le_of_ble_eq_true rfl) rfl (Nat.le_of_ble_eq_true rfl) b45 rfl r39 (jo_exn rfl))) H
            · exact Eq.trans (jb_rt (i := .invokevirtual 163) (n := 3) (jq qX13_writePart 48 rfl) (jo_cv (y := mX13_write) rfl (Nat.le_of_ble_eq_true rfl) rfl (Nat.le_of_ble_eq_true rfl) b48 rfl r33 (jo_exn rfl))) H
          · exact Eq.trans (jb_rt (i := .invokevirtual 166) (n := 3) (jq qX13_writePart 45 rfl) (jo_cv (y := mX13_writeName) rfl (Nat.le_of_ble_eq_true rfl) rfl (Nat.le_of_ble_eq_true rfl) b51 rfl r31 (jo_exn rfl))) H
        · exact Eq.trans (jb_rt (i := .invokestatic 175) (n := 3) (jq qX13_writePart 44 rfl) (jo_cs (y := mX13_nameOf) (w := 1) (by decide) rfl (Nat.le_of_ble_eq_true rfl) rfl (Nat.le_of_ble_eq_true rfl) rfl r28 (jo_exn rfl))) H
      · rw [if_neg c21] at H
        refine Eq.trans (jb_nx (i := .ifCond .ge 29) (n := 3) (q := (94, [some (.ref p0), some (.int i1), some (.int i2)], [])) (jq qX13_writePart 41 rfl) (jo_ifT (jz_geT c21) rfl)) ?_
        refine Eq.trans (jb_nx (i := .aload_n 0) (n := 1) (q := (95, [some (.ref p0), some (.int i1), some (.int i2)], [.ref p0])) (jq qX13_writePart 56 rfl) rfl) ?_
        refine Eq.trans (jb_nx (i := .aload_n 0) (n := 1) (q := (96, [some (.ref p0), some (.int i1), some (.int i2)], [.ref p0, .ref p0])) (jq qX13_writePart 57 rfl) rfl) ?_
        obtain ⟨a22, e23, H⟩ := jbd H
        refine Eq.trans (jb_nx (i := .getfield 43) (n := 3) (q := (99, [some (.ref p0), some (.int i1), some (.int i2)], [.ref a22, .ref p0])) (jq qX13_writePart 58 rfl) (jo_gf rfl (jr_R_inv e23))) ?_
        refine Eq.trans (jb_nx (i := .iload_n 2) (n := 1) (q := (100, [some (.ref p0), some (.int i1), some (.int i2)], [.int i2, .ref a22, .ref p0])) (jq qX13_writePart 59 rfl) rfl) ?_
        obtain ⟨y24, e25, H⟩ := jbd H
        refine Eq.trans (jb_nx (i := .laload) (n := 1) (q := (101, [some (.ref p0), some (.int i1), some (.int i2)], [.long y24, .ref p0])) (jq qX13_writePart 60 rfl) (jo_lal e25)) ?_
        refine Eq.trans (jb_nx (i := .lconst 0) (n := 1) (q := (102, [some (.ref p0), some (.int i1), some (.int i2)], [.long 0, .long y24, .ref p0])) (jq qX13_writePart 61 rfl) rfl) ?_
        refine Eq.trans (jb_nx (i := .lcmp) (n := 1) (q := (103, [some (.ref p0), some (.int i1), some (.int i2)], [.int (lg_cmp y24 0), .ref p0])) (jq qX13_writePart 62 rfl) rfl) ?_
        by_cases c26 : (lg_cmp y24 0) < 0
        · rw [if_pos c26] at H
          refine Eq.trans (jb_nx (i := .ifCond .ge 8) (n := 3) (q := (106, [some (.ref p0), some (.int i1), some (.int i2)], [.ref p0])) (jq qX13_writePart 63 rfl) (jo_ifF (jz_geF c26))) ?_
          refine Eq.trans (jb_nx (i := .bipush 40) (n := 2) (q := (108, [some (.ref p0), some (.int i1), some (.int i2)], [.int 40, .ref p0])) (jq qX13_writePart 64 rfl) rfl) ?_
          refine Eq.trans (jb_nx (i := .goto 5) (n := 3) (q := (113, [some (.ref p0), some (.int i1), some (.int i2)], [.int 40, .ref p0])) (jq qX13_writePart 65 rfl) rfl) ?_
          exact H
        · rw [if_neg c26] at H
          refine Eq.trans (jb_nx (i := .ifCond .ge 8) (n := 3) (q := (111, [some (.ref p0), some (.int i1), some (.int i2)], [.ref p0])) (jq qX13_writePart 63 rfl) (jo_ifT (jz_geT c26) rfl)) ?_
          refine Eq.trans (jb_nx (i := .bipush 91) (n := 2) (q := (113, [some (.ref p0), some (.int i1), some (.int i2)], [.int 91, .ref p0])) (jq qX13_writePart 66 rfl) rfl) ?_
          exact H
  · rw [if_neg c5] at H
    refine Eq.trans (jb_nx (i := .if_icmp .ge 135) (n := 3) (q := (149, [some (.ref p0), some (.int i1), some (.int i2)], [])) (jq qX13_writePart 10 rfl) (jo_icT (jz_geT c5) rfl)) ?_
    exact Eq.trans (jb_rt (i := .return_) (n := 1) (jq qX13_writePart 85 rfl) rfl) H
theorem gX13_writePart_113 {d : Nat} {p0 : Nat} {i1 : Int32} {i2 : Int32} {si0 : Int32} {sp1 : Nat} {h : jm_H} {r : jm_R} (H : (jm_O h sp1 13 (jc_V (jm_D d mX13_write [.ref sp1, .int si0] h) (fun h71 => (jr_R h71 p0 12 26 2).bind fun a73 => (jr_R h71 p0 12 18 2).bind fun a75 => (jm_all h71 a75 i2).bind fun y77 => (if (lg_cmp y77 0) < 0 then (jm_asi h71 a73 0 i1 41).bind fun h82 => kX13_writePart_9 d p0 (i1 + 1) (i2 + 1) h82 else (jm_asi h71 a73 0 i1 32).bind fun h80 => kX13_writePart_9 d p0 (i1 + 1) (i2 + 1) h80)) jx)) = some r) : kX13_writePart_113 d p0 i1 i2 si0 sp1 h = some r := by
  show jm_B d mX13_writePart (113, [some (.ref p0), some (.int i1), some (.int i2)], [.int si0, .ref sp1]) h = some r
  obtain ⟨b84, H⟩ := jm_O_inv H
  rcases jcV H with ⟨h71, r72, H⟩ | ⟨w85, h86, r72, H⟩
  · refine Eq.trans (jb_nx (i := .invokevirtual 163) (n := 3) (q := (116, [some (.ref p0), some (.int i1), some (.int i2)], [])) (jq qX13_writePart 67 rfl) (jo_cv (y := mX13_write) rfl (Nat.le_of_ble_eq_true rfl) rfl (Nat.le_of_ble_eq_true rfl) b84 rfl r72 jo_ret)) ?_
    refine Eq.trans (jb_nx (i := .aload_n 0) (n := 1) (q := (117, [some (.ref p0), some (.int i1), some (.int i2)], [.ref p0])) (jq qX13_writePart 68 rfl) rfl) ?_
    obtain ⟨a73, e74, H⟩ := jbd H
    refine Eq.trans (jb_nx (i := .getfield 62) (n := 3) (q := (120, [some (.ref p0), some (.int i1), some (.int i2)], [.ref a73])) (jq qX13_writePart 69 rfl) (jo_gf rfl (jr_R_inv e74))) ?_
    refine Eq.trans (jb_nx (i := .iload_n 1) (n := 1) (q := (121, [some (.ref p0), some (.int i1), some (.int i2)], [.int i1, .ref a73])) (jq qX13_writePart 70 rfl) rfl) ?_
    refine Eq.trans (jb_nx (i := .aload_n 0) (n := 1) (q := (122, [some (.ref p0), some (.int i1), some (.int i2)], [.ref p0, .int i1, .ref a73])) (jq qX13_writePart 71 rfl) rfl) ?_
    obtain ⟨a75, e76, H⟩ := jbd H
    refine Eq.trans (jb_nx (i := .getfield 43) (n := 3) (q := (125, [some (.ref p0), some (.int i1), some (.int i2)], [.ref a75, .int i1, .ref a73])) (jq qX13_writePart 72 rfl) (jo_gf rfl (jr_R_inv e76))) ?_
    refine Eq.trans (jb_nx (i := .iload_n 2) (n := 1) (q := (126, [some (.ref p0), some (.int i1), some (.int i2)], [.int i2, .ref a75, .int i1, .ref a73])) (jq qX13_writePart 73 rfl) rfl) ?_
    obtain ⟨y77, e78, H⟩ := jbd H
    refine Eq.trans (jb_nx (i := .laload) (n := 1) (q := (127, [some (.ref p0), some (.int i1), some (.int i2)], [.long y77, .int i1, .ref a73])) (jq qX13_writePart 74 rfl) (jo_lal e78)) ?_
    refine Eq.trans (jb_nx (i := .lconst 0) (n := 1) (q := (128, [some (.ref p0), some (.int i1), some (.int i2)], [.long 0, .long y77, .int i1, .ref a73])) (jq qX13_writePart 75 rfl) rfl) ?_
    refine Eq.trans (jb_nx (i := .lcmp) (n := 1) (q := (129, [some (.ref p0), some (.int i1), some (.int i2)], [.int (lg_cmp y77 0), .int i1, .ref a73])) (jq qX13_writePart 76 rfl) rfl) ?_
    by_cases c79 : (lg_cmp y77 0) < 0
    · rw [if_pos c79] at H
      refine Eq.trans (jb_nx (i := .ifCond .ge 8) (n := 3) (q := (132, [some (.ref p0), some (.int i1), some (.int i2)], [.int i1, .ref a73])) (jq qX13_writePart 77 rfl) (jo_ifF (jz_geF c79))) ?_
      refine Eq.trans (jb_nx (i := .bipush 41) (n := 2) (q := (134, [some (.ref p0), some (.int i1), some (.int i2)], [.int 41, .int i1, .ref a73])) (jq qX13_writePart 78 rfl) rfl) ?_
      refine Eq.trans (jb_nx (i := .goto 5) (n := 3) (q := (139, [some (.ref p0), some (.int i1), some (.int i2)], [.int 41, .int i1, .ref a73])) (jq qX13_writePart 79 rfl) rfl) ?_
      obtain ⟨h82, e83, H⟩ := jbd H
      refine Eq.trans (jb_nx (i := .iastore) (n := 1) (q := (140, [some (.ref p0), some (.int i1), some (.int i2)], [])) (jq qX13_writePart 81 rfl) (jo_ias e83)) ?_
      refine Eq.trans (jb_nx (i := .iinc 1 1) (n := 3) (q := (143, [some (.ref p0), some (.int (i1 + 1)), some (.int i2)], [])) (jq qX13_writePart 82 rfl) rfl) ?_
      refine Eq.trans (jb_nx (i := .iinc 2 1) (n := 3) (q := (146, [some (.ref p0), some (.int (i1 + 1)), some (.int (i2 + 1))], [])) (jq qX13_writePart 83 rfl) rfl) ?_
      refine Eq.trans (jb_nx (i := .goto (-137)) (n := 3) (q := (9, [some (.ref p0), some (.int (i1 + 1)), some (.int (i2 + 1))], [])) (jq qX13_writePart 84 rfl) rfl) ?_
      exact H
    · rw [if_neg c79] at H
      refine Eq.trans (jb_nx (i := .ifCond .ge 8) (n := 3) (q := (137, [some (.ref p0), some (.int i1), some (.int i2)], [.int i1, .ref a73])) (jq qX13_writePart 77 rfl) (jo_ifT (jz_geT c79) rfl)) ?_
      refine Eq.trans (jb_nx (i := .bipush 32) (n := 2) (q := (139, [some (.ref p0), some (.int i1), some (.int i2)], [.int 32, .int i1, .ref a73])) (jq qX13_writePart 80 rfl) rfl) ?_
      obtain ⟨h80, e81, H⟩ := jbd H
      refine Eq.trans (jb_nx (i := .iastore) (n := 1) (q := (140, [some (.ref p0), some (.int i1), some (.int i2)], [])) (jq qX13_writePart 81 rfl) (jo_ias e81)) ?_
      refine Eq.trans (jb_nx (i := .iinc 1 1) (n := 3) (q := (143, [some (.ref p0), some (.int (i1 + 1)), some (.int i2)], [])) (jq qX13_writePart 82 rfl) rfl) ?_
      refine Eq.trans (jb_nx (i := .iinc 2 1) (n := 3) (q := (146, [some (.ref p0), some (.int (i1 + 1)), some (.int (i2 + 1))], [])) (jq qX13_writePart 83 rfl) rfl) ?_
      refine Eq.trans (jb_nx (i := .goto (-137)) (n := 3) (q := (9, [some (.ref p0), some (.int (i1 + 1)), some (.int (i2 + 1))], [])) (jq qX13_writePart 84 rfl) rfl) ?_
      exact H
  · exact Eq.trans (jb_rt (i := .invokevirtual 163) (n := 3) (jq qX13_writePart 67 rfl) (jo_cv (y := mX13_write) rfl (Nat.le_of_ble_eq_true rfl) rfl (Nat.le_of_ble_eq_true rfl) b84 rfl r72 (jo_exn rfl))) H
theorem gX13_writePart {d : Nat} {p0 : Nat} {h : jm_H} {r : jm_R} (H : ((jm_pf h p0 12 24 0 (.int 0)).bind fun h1 => kX13_writePart_9 d p0 0 0 h1) = some r) : jm_D (d + 1) mX13_writePart [.ref p0] h = some r := by
  rw [jm_D_body (Nat.le_of_ble_eq_true rfl)]
  show jm_B d mX13_writePart (0, [some (.ref p0), none, none], []) h = some r
  refine Eq.trans (jb_nx (i := .aload_n 0) (n := 1) (q := (1, [some (.ref p0), none, none], [.ref p0])) (jq qX13_writePart 0 rfl) rfl) ?_
  refine Eq.trans (jb_nx (i := .iconst 0) (n := 1) (q := (2, [some (.ref p0), none, none], [.int 0, .ref p0])) (jq qX13_writePart 1 rfl) rfl) ?_
  obtain ⟨h1, e2, H⟩ := jbd H
  refine Eq.trans (jb_nx (i := .putfield 160) (n := 3) (q := (5, [some (.ref p0), none, none], [])) (jq qX13_writePart 2 rfl) (jo_pf rfl (Or.inl rfl) e2)) ?_
  refine Eq.trans (jb_nx (i := .iconst 0) (n := 1) (q := (6, [some (.ref p0), none, none], [.int 0])) (jq qX13_writePart 3 rfl) rfl) ?_
  refine Eq.trans (jb_nx (i := .istore_n 1) (n := 1) (q := (7, [some (.ref p0), some (.int 0), none], [])) (jq qX13_writePart 4 rfl) rfl) ?_
  refine Eq.trans (jb_nx (i := .iconst 0) (n := 1) (q := (8, [some (.ref p0), some (.int 0), none], [.int 0])) (jq qX13_writePart 5 rfl) rfl) ?_
  refine Eq.trans (jb_nx (i := .istore_n 2) (n := 1) (q := (9, [some (.ref p0), some (.int 0), some (.int 0)], [])) (jq qX13_writePart 6 rfl) rfl) ?_
  exact H
/-! MaskPlaysModel writeName (J)V -/
def tX13_writeName : List (Nat × Instr × Nat) := [(0, .lconst 1, 1), (1, .lstore_n 3, 1), (2, .lload_n 1, 1), (3, .lload_n 3, 1), (4, .ldiv, 1), (5, .ldc2_w 102, 3), (8, .lcmp, 1), (9, .ifCond .lt 12, 3), (12, .lload_n 3, 1), (13, .ldc2_w 102, 3), (16, .lmul, 1), (17, .lstore_n 3, 1), (18, .goto (-16), 3), (21, .lload_n 3, 1), (22, .lstore 5, 2), (24, .lload 5, 2), (26, .lconst 0, 1), (27, .lcmp, 1), (28, .ifCond .le 49, 3), (31, .lload_n 1, 1), (32, .lload 5, 2), (34, .ldiv, 1), (35, .ldc2_w 102, 3), (38, .lrem, 1), (39, .l2i, 1), (40, .istore 7, 2), (42, .aload_n 0, 1), (43, .iload 7, 2), (45, .bipush 27, 2), (47, .if_icmp .ge 11, 3), (50, .bipush 96, 2), (52, .iload 7, 2), (54, .iadd, 1), (55, .goto 8, 3), (58, .bipush 21, 2), (60, .iload 7, 2), (62, .iadd, 1), (63, .invokevirtual 163, 3), (66, .lload 5, 2), (68, .ldc2_w 102, 3), (71, .ldiv, 1), (72, .lstore 5, 2), (74, .goto (-50), 3), (77, .return_, 1)]
set_option maxRecDepth 100000 in
theorem qX13_writeName : ∀ q ∈ tX13_writeName, decode cX13_writeName q.1 = .ok (q.2.1, q.2.2) := by decide +kernel
noncomputable def kX13_writeName_2 (d : Nat) (p0 : Nat) (j1 : Int64) (j3 : Int64) (o5 : Option Value) (o6 : Option Value) (o7 : Option Value) (h : jm_H) : Option jm_R := jm_B d mX13_writeName (2, [some (.ref p0), some (.long j1), none, some (.long j3), none, o5, o6, o7], []) h
noncomputable def kX13_writeName_24 (d : Nat) (p0 : Nat) (j1 : Int64) (o3 : Option Value) (o4 : Option Value) (j5 : Int64) (o7 : Option Value) (h : jm_H) : Option jm_R := jm_B d mX13_writeName (24, [some (.ref p0), some (.long j1), none, o3, o4, some (.long j5), none, o7], []) h
theorem gX13_writeName_2 {d : Nat} {p0 : Nat} {j1 : Int64} {j3 : Int64} {o5 : Option Value} {o6 : Option Value} {o7 : Option Value} {h : jm_H} {r : jm_R} (H : ((if j3 = 0 then none else (if (lg_cmp (j1 / j3) 37) < 0 then kX13_writeName_24 d p0 j1 (some (.long j3)) none j3 o7 h else kX13_writeName_2 d p0 j1 (j3 * 37) o5 o6 o7 h))) = some r) : kX13_writeName_2 d p0 j1 j3 o5 o6 o7 h = some r := by
  show jm_B d mX13_writeName (2, [some (.ref p0), some (.long j1), none, some (.long j3), none, o5, o6, o7], []) h = some r
  refine Eq.trans (jb_nx (i := .lload_n 1) (n := 1) (q := (3, [some (.ref p0), some (.long j1), none, some (.long j3), none, o5, o6, o7], [.long j1])) (jq qX13_writeName 2 rfl) rfl) ?_
  refine Eq.trans (jb_nx (i := .lload_n 3) (n := 1) (q := (4, [some (.ref p0), some (.long j1), none, some (.long j3), none, o5, o6, o7], [.long j3, .long j1])) (jq qX13_writeName 3 rfl) rfl) ?_
  by_cases c1 : j3 = 0
  · rw [if_pos c1] at H; cases H
  · rw [if_neg c1] at H
    refine Eq.trans (jb_nx (i := .ldiv) (n := 1) (q := (5, [some (.ref p0), some (.long j1), none, some (.long j3), none, o5, o6, o7], [.long (j1 / j3)])) (jq qX13_writeName 4 rfl) (jo_ldiv c1)) ?_
    refine Eq.trans (jb_nx (i := .ldc2_w 102) (n := 3) (q := (8, [some (.ref p0), some (.long j1), none, some (.long j3), none, o5, o6, o7], [.long 37, .long (j1 / j3)])) (jq qX13_writeName 5 rfl) rfl) ?_
    refine Eq.trans (jb_nx (i := .lcmp) (n := 1) (q := (9, [some (.ref p0), some (.long j1), none, some (.long j3), none, o5, o6, o7], [.int (lg_cmp (j1 / j3) 37)])) (jq qX13_writeName 6 rfl) rfl) ?_
    by_cases c2 : (lg_cmp (j1 / j3) 37) < 0
    · rw [if_pos c2] at H
      refine Eq.trans (jb_nx (i := .ifCond .lt 12) (n := 3) (q := (21, [some (.ref p0), some (.long j1), none, some (.long j3), none, o5, o6, o7], [])) (jq qX13_writeName 7 rfl) (jo_ifT (jz_ltT c2) rfl)) ?_
      refine Eq.trans (jb_nx (i := .lload_n 3) (n := 1) (q := (22, [some (.ref p0), some (.long j1), none, some (.long j3), none, o5, o6, o7], [.long j3])) (jq qX13_writeName 13 rfl) rfl) ?_
      refine Eq.trans (jb_nx (i := .lstore 5) (n := 2) (q := (24, [some (.ref p0), some (.long j1), none, some (.long j3), none, some (.long j3), none, o7], [])) (jq qX13_writeName 14 rfl) rfl) ?_
      exact H
    · rw [if_neg c2] at H
      refine Eq.trans (jb_nx (i := .ifCond .lt 12) (n := 3) (q := (12, [some (.ref p0), some (.long j1), none, some (.long j3), none, o5, o6, o7], [])) (jq qX13_writeName 7 rfl) (jo_ifF (jz_ltF c2))) ?_
      refine Eq.trans (jb_nx (i := .lload_n 3) (n := 1) (q := (13, [some (.ref p0), some (.long j1), none, some (.long j3), none, o5, o6, o7], [.long j3])) (jq qX13_writeName 8 rfl) rfl) ?_
      refine Eq.trans (jb_nx (i := .ldc2_w 102) (n := 3) (q := (16, [some (.ref p0), some (.long j1), none, some (.long j3), none, o5, o6, o7], [.long 37, .long j3])) (jq qX13_writeName 9 rfl) rfl) ?_
      refine Eq.trans (jb_nx (i := .lmul) (n := 1) (q := (17, [some (.ref p0), some (.long j1), none, some (.long j3), none, o5, o6, o7], [.long (j3 * 37)])) (jq qX13_writeName 10 rfl) rfl) ?_
      refine Eq.trans (jb_nx (i := .lstore_n 3) (n := 1) (q := (18, [some (.ref p0), some (.long j1), none, some (.long (j3 * 37)), none, o5, o6, o7], [])) (jq qX13_writeName 11 rfl) rfl) ?_
      refine Eq.trans (jb_nx (i := .goto (-16)) (n := 3) (q := (2, [some (.ref p0), some (.long j1), none, some (.long (j3 * 37)), none, o5, o6, o7], [])) (jq qX13_writeName 12 rfl) rfl) ?_
      exact H
theorem gX13_writeName_24 {d : Nat} {p0 : Nat} {j1 : Int64} {o3 : Option Value} {o4 : Option Value} {j5 : Int64} {o7 : Option Value} {h : jm_H} {r : jm_R} (H : ((if 0 < (lg_cmp j5 0) then (if j5 = 0 then none else (if (Int64.toInt32 ((j1 / j5) - (j1 / j5) / 37 * 37)) < 27 then jm_O h p0 13 (jc_V (jm_D d mX13_write [.ref p0, .int (96 + (Int64.toInt32 ((j1 / j5) - (j1 / j5) / 37 * 37)))] h) (fun h11 => kX13_writeName_24 d p0 j1 o3 (jm_dm o4) (j5 / 37) (some (.int (Int64.toInt32 ((j1 / j5) - (j1 / j5) / 37 * 37)))) h11) jx) else jm_O h p0 13 (jc_V (jm_D d mX13_write [.ref p0, .int (21 + (Int64.toInt32 ((j1 / j5) - (j1 / j5) / 37 * 37)))] h) (fun h6 => kX13_writeName_24 d p0 j1 o3 (jm_dm o4) (j5 / 37) (some (.int (Int64.toInt32 ((j1 / j5) - (j1 / j5) / 37 * 37)))) h6) jx))) else some (.inl none, h))) = some r) : kX13_writeName_24 d p0 j1 o3 o4 j5 o7 h = some r := by
  show jm_B d mX13_writeName (24, [some (.ref p0), some (.long j1), none, o3, o4, some (.long j5), none, o7], []) h = some r
  refine Eq.trans (jb_nx (i := .lload 5) (n := 2) (q := (26, [some (.ref p0), some (.long j1), none, o3, o4, some (.long j5), none, o7], [.long j5])) (jq qX13_writeName 15 rfl) rfl) ?_
  refine Eq.trans (jb_nx (i := .lconst 0) (n := 1) (q := (27, [some (.ref p0), some (.long j1), none, o3, o4, some (.long j5), none, o7], [.long 0, .long j5])) (jq qX13_writeName 16 rfl) rfl) ?_
  refine Eq.trans (jb_nx (i := .lcmp) (n := 1) (q := (28, [some (.ref p0), some (.long j1), none, o3, o4, some (.long j5), none, o7], [.int (lg_cmp j5 0)])) (jq qX13_writeName 17 rfl) rfl) ?_
  by_cases c3 : 0 < (lg_cmp j5 0)
  · rw [if_pos c3] at H
    refine Eq.trans (jb_nx (i := .ifCond .le 49) (n := 3) (q := (31, [some (.ref p0), some (.long j1), none, o3, o4, some (.long j5), none, o7], [])) (jq qX13_writeName 18 rfl) (jo_ifF (jz_leF c3))) ?_
    refine Eq.trans (jb_nx (i := .lload_n 1) (n := 1) (q := (32, [some (.ref p0), some (.long j1), none, o3, o4, some (.long j5), none, o7], [.long j1])) (jq qX13_writeName 19 rfl) rfl) ?_
    refine Eq.trans (jb_nx (i := .lload 5) (n := 2) (q := (34, [some (.ref p0), some (.long j1), none, o3, o4, some (.long j5), none, o7], [.long j5, .long j1])) (jq qX13_writeName 20 rfl) rfl) ?_
    by_cases c4 : j5 = 0
    · rw [if_pos c4] at H; cases H
    · rw [if_neg c4] at H
      refine Eq.trans (jb_nx (i := .ldiv) (n := 1) (q := (35, [some (.ref p0), some (.long j1), none, o3, o4, some (.long j5), none, o7], [.long (j1 / j5)])) (jq qX13_writeName 21 rfl) (jo_ldiv c4)) ?_
      refine Eq.trans (jb_nx (i := .ldc2_w 102) (n := 3) (q := (38, [some (.ref p0), some (.long j1), none, o3, o4, some (.long j5), none, o7], [.long 37, .long (j1 / j5)])) (jq qX13_writeName 22 rfl) rfl) ?_
      refine Eq.trans (jb_nx (i := .lrem) (n := 1) (q := (39, [some (.ref p0), some (.long j1), none, o3, o4, some (.long j5), none, o7], [.long ((j1 / j5) - (j1 / j5) / 37 * 37)])) (jq qX13_writeName 23 rfl) (jo_lrem (by decide))) ?_
      refine Eq.trans (jb_nx (i := .l2i) (n := 1) (q := (40, [some (.ref p0), some (.long j1), none, o3, o4, some (.long j5), none, o7], [.int (Int64.toInt32 ((j1 / j5) - (j1 / j5) / 37 * 37))])) (jq qX13_writeName 24 rfl) rfl) ?_
      refine Eq.trans (jb_nx (i := .istore 7) (n := 2) (q := (42, [some (.ref p0), some (.long j1), none, o3, o4, some (.long j5), none, some (.int (Int64.toInt32 ((j1 / j5) - (j1 / j5) / 37 * 37)))], [])) (jq qX13_writeName 25 rfl) rfl) ?_
      refine Eq.trans (jb_nx (i := .aload_n 0) (n := 1) (q := (43, [some (.ref p0), some (.long j1), none, o3, o4, some (.long j5), none, some (.int (Int64.toInt32 ((j1 / j5) - (j1 / j5) / 37 * 37)))], [.ref p0])) (jq qX13_writeName 26 rfl) rfl) ?_
      refine Eq.trans (jb_nx (i := .iload 7) (n := 2) (q := (45, [some (.ref p0), some (.long j1), none, o3, o4, some (.long j5), none, some (.int (Int64.toInt32 ((j1 / j5) - (j1 / j5) / 37 * 37)))], [.int (Int64.toInt32 ((j1 / j5) - (j1 / j5) / 37 * 37)), .ref p0])) (jq qX13_writeName 27 rfl) rfl) ?_
      refine Eq.trans (jb_nx (i := .bipush 27) (n := 2) (q := (47, [some (.ref p0), some (.long j1), none, o3, o4, some (.long j5), none, some (.int (Int64.toInt32 ((j1 / j5) - (j1 / j5) / 37 * 37)))], [.int 27, .int (Int64.toInt32 ((j1 / j5) - (j1 / j5) / 37 * 37)), .ref p0])) (jq qX13_writeName 28 rfl) rfl) ?_
      by_cases c5 : (Int64.toInt32 ((j1 / j5) - (j1 / j5) / 37 * 37)) < 27
      · rw [if_pos c5] at H
        refine Eq.trans (jb_nx (i := .if_icmp .ge 11) (n := 3) (q := (50, [some (.ref p0), some (.long j1), none, o3, o4, some (.long j5), none, some (.int (Int64.toInt32 ((j1 / j5) - (j1 / j5) / 37 * 37)))], [.ref p0])) (jq qX13_writeName 29 rfl) (jo_icF (jz_geF c5))) ?_
        refine Eq.trans (jb_nx (i := .bipush 96) (n := 2) (q := (52, [some (.ref p0), some (.long j1), none, o3, o4, some (.long j5), none, some (.int (Int64.toInt32 ((j1 / j5) - (j1 / j5) / 37 * 37)))], [.int 96, .ref p0])) (jq qX13_writeName 30 rfl) rfl) ?_
        refine Eq.trans (jb_nx (i := .iload 7) (n := 2) (q := (54, [some (.ref p0), some (.long j1), none, o3, o4, some (.long j5), none, some (.int (Int64.toInt32 ((j1 / j5) - (j1 / j5) / 37 * 37)))], [.int (Int64.toInt32 ((j1 / j5) - (j1 / j5) / 37 * 37)), .int 96, .ref p0])) (jq qX13_writeName 31 rfl) rfl) ?_
        refine Eq.trans (jb_nx (i := .iadd) (n := 1) (q := (55, [some (.ref p0), some (.long j1), none, o3, o4, some (.long j5), none, some (.int (Int64.toInt32 ((j1 / j5) - (j1 / j5) / 37 * 37)))], [.int (96 + (Int64.toInt32 ((j1 / j5) - (j1 / j5) / 37 * 37))), .ref p0])) (jq qX13_writeName 32 rfl) rfl) ?_
        refine Eq.trans (jb_nx (i := .goto 8) (n := 3) (q := (63, [some (.ref p0), some (.long j1), none, o3, o4, some (.long j5), none, some (.int (Int64.toInt32 ((j1 / j5) - (j1 / j5) / 37 * 37)))], [.int (96 + (Int64.toInt32 ((j1 / j5) - (j1 / j5) / 37 * 37))), .ref p0])) (jq qX13_writeName 33 rfl) rfl) ?_
        obtain ⟨b13, H⟩ := jm_O_inv H
        rcases jcV H with ⟨h11, r12, H⟩ | ⟨w14, h15, r12, H⟩
        · refine Eq.trans (jb_nx (i := .invokevirtual 163) (n := 3) (q := (66, [some (.ref p0), some (.long j1), none, o3, o4, some (.long j5), none, some (.int (Int64.toInt32 ((j1 / j5) - (j1 / j5) / 37 * 37)))], [])) (jq qX13_writeName 37 rfl) (jo_cv (y := mX13_write) rfl (Nat.le_of_ble_eq_true rfl) rfl (Nat.le_of_ble_eq_true rfl) b13 rfl r12 jo_ret)) ?_
          refine Eq.trans (jb_nx (i := .lload 5) (n := 2) (q := (68, [some (.ref p0), some (.long j1), none, o3, o4, some (.long j5), none, some (.int (Int64.toInt32 ((j1 / j5) - (j1 / j5) / 37 * 37)))], [.long j5])) (jq qX13_writeName 38 rfl) rfl) ?_
          refine Eq.trans (jb_nx (i := .ldc2_w 102) (n := 3) (q := (71, [some (.ref p0), some (.long j1), none, o3, o4, some (.long j5), none, some (.int (Int64.toInt32 ((j1 / j5) - (j1 / j5) / 37 * 37)))], [.long 37, .long j5])) (jq qX13_writeName 39 rfl) rfl) ?_
          refine Eq.trans (jb_nx (i := .ldiv) (n := 1) (q := (72, [some (.ref p0), some (.long j1), none, o3, o4, some (.long j5), none, some (.int (Int64.toInt32 ((j1 / j5) - (j1 / j5) / 37 * 37)))], [.long (j5 / 37)])) (jq qX13_writeName 40 rfl) (jo_ldiv (by decide))) ?_
          refine Eq.trans (jb_nx (i := .lstore 5) (n := 2) (q := (74, [some (.ref p0), some (.long j1), none, o3, (jm_dm o4), some (.long (j5 / 37)), none, some (.int (Int64.toInt32 ((j1 / j5) - (j1 / j5) / 37 * 37)))], [])) (jq qX13_writeName 41 rfl) rfl) ?_
          refine Eq.trans (jb_nx (i := .goto (-50)) (n := 3) (q := (24, [some (.ref p0), some (.long j1), none, o3, (jm_dm o4), some (.long (j5 / 37)), none, some (.int (Int64.toInt32 ((j1 / j5) - (j1 / j5) / 37 * 37)))], [])) (jq qX13_writeName 42 rfl) rfl) ?_
          exact H
        · exact Eq.trans (jb_rt (i := .invokevirtual 163) (n := 3) (jq qX13_writeName 37 rfl) (jo_cv (y := mX13_write) rfl (Nat.le_of_ble_eq_true rfl) rfl (Nat.le_of_ble_eq_true rfl) b13 rfl r12 (jo_exn rfl))) H
      · rw [if_neg c5] at H
        refine Eq.trans (jb_nx (i := .if_icmp .ge 11) (n := 3) (q := (58, [some (.ref p0), some (.long j1), none, o3, o4, some (.long j5), none, some (.int (Int64.toInt32 ((j1 / j5) - (j1 / j5) / 37 * 37)))], [.ref p0])) (jq qX13_writeName 29 rfl) (jo_icT (jz_geT c5) rfl)) ?_
        refine Eq.trans (jb_nx (i := .bipush 21) (n := 2) (q := (60, [some (.ref p0), some (.long j1), none, o3, o4, some (.long j5), none, some (.int (Int64.toInt32 ((j1 / j5) - (j1 / j5) / 37 * 37)))], [.int 21, .ref p0])) (jq qX13_writeName 34 rfl) rfl) ?_
        refine Eq.trans (jb_nx (i := .iload 7) (n := 2) (q := (62, [some (.ref p0), some (.long j1), none, o3, o4, some (.long j5), none, some (.int (Int64.toInt32 ((j1 / j5) - (j1 / j5) / 37 * 37)))], [.int (Int64.toInt32 ((j1 / j5) - (j1 / j5) / 37 * 37)), .int 21, .ref p0])) (jq qX13_writeName 35 rfl) rfl) ?_
        refine Eq.trans (jb_nx (i := .iadd) (n := 1) (q := (63, [some (.ref p0), some (.long j1), none, o3, o4, some (.long j5), none, some (.int (Int64.toInt32 ((j1 / j5) - (j1 / j5) / 37 * 37)))], [.int (21 + (Int64.toInt32 ((j1 / j5) - (j1 / j5) / 37 * 37))), .ref p0])) (jq qX13_writeName 36 rfl) rfl) ?_
        obtain ⟨b8, H⟩ := jm_O_inv H
        rcases jcV H with ⟨h6, r7, H⟩ | ⟨w9, h10, r7, H⟩
        · refine Eq.trans (jb_nx (i := .invokevirtual 163) (n := 3) (q := (66, [some (.ref p0), some (.long j1), none, o3, o4, some (.long j5), none, some (.int (Int64.toInt32 ((j1 / j5) - (j1 / j5) / 37 * 37)))], [])) (jq qX13_writeName 37 rfl) (jo_cv (y := mX13_write) rfl (Nat.le_of_ble_eq_true rfl) rfl (Nat.le_of_ble_eq_true rfl) b8 rfl r7 jo_ret)) ?_
          refine Eq.trans (jb_nx (i := .lload 5) (n := 2) (q := (68, [some (.ref p0), some (.long j1), none, o3, o4, some (.long j5), none, some (.int (Int64.toInt32 ((j1 / j5) - (j1 / j5) / 37 * 37)))], [.long j5])) (jq qX13_writeName 38 rfl) rfl) ?_
          refine Eq.trans (jb_nx (i := .ldc2_w 102) (n := 3) (q := (71, [some (.ref p0), some (.long j1), none, o3, o4, some (.long j5), none, some (.int (Int64.toInt32 ((j1 / j5) - (j1 / j5) / 37 * 37)))], [.long 37, .long j5])) (jq qX13_writeName 39 rfl) rfl) ?_
          refine Eq.trans (jb_nx (i := .ldiv) (n := 1) (q := (72, [some (.ref p0), some (.long j1), none, o3, o4, some (.long j5), none, some (.int (Int64.toInt32 ((j1 / j5) - (j1 / j5) / 37 * 37)))], [.long (j5 / 37)])) (jq qX13_writeName 40 rfl) (jo_ldiv (by decide))) ?_
          refine Eq.trans (jb_nx (i := .lstore 5) (n := 2) (q := (74, [some (.ref p0), some (.long j1), none, o3, (jm_dm o4), some (.long (j5 / 37)), none, some (.int (Int64.toInt32 ((j1 / j5) - (j1 / j5) / 37 * 37)))], [])) (jq qX13_writeName 41 rfl) rfl) ?_
          refine Eq.trans (jb_nx (i := .goto (-50)) (n := 3) (q := (24, [some (.ref p0), some (.long j1), none, o3, (jm_dm o4), some (.long (j5 / 37)), none, some (.int (Int64.toInt32 ((j1 / j5) - (j1 / j5) / 37 * 37)))], [])) (jq qX13_writeName 42 rfl) rfl) ?_
          exact H
        · exact Eq.trans (jb_rt (i := .invokevirtual 163) (n := 3) (jq qX13_writeName 37 rfl) (jo_cv (y := mX13_write) rfl (Nat.le_of_ble_eq_true rfl) rfl (Nat.le_of_ble_eq_true rfl) b8 rfl r7 (jo_exn rfl))) H
  · rw [if_neg c3] at H
    refine Eq.trans (jb_nx (i := .ifCond .le 49) (n := 3) (q := (77, [some (.ref p0), some (.long j1), none, o3, o4, some (.long j5), none, o7], [])) (jq qX13_writeName 18 rfl) (jo_ifT (jz_leT c3) rfl)) ?_
    exact Eq.trans (jb_rt (i := .return_) (n := 1) (jq qX13_writeName 43 rfl) rfl) H
theorem gX13_writeName {d : Nat} {p0 : Nat} {j1 : Int64} {h : jm_H} {r : jm_R} (H : (kX13_writeName_2 d p0 j1 1 none none none h) = some r) : jm_D (d + 1) mX13_writeName [.ref p0, .long j1] h = some r := by
  rw [jm_D_body (Nat.le_of_ble_eq_true rfl)]
  show jm_B d mX13_writeName (0, [some (.ref p0), some (.long j1), none, none, none, none, none, none], []) h = some r
  refine Eq.trans (jb_nx (i := .lconst 1) (n := 1) (q := (1, [some (.ref p0), some (.long j1), none, none, none, none, none, none], [.long 1])) (jq qX13_writeName 0 rfl) rfl) ?_
  refine Eq.trans (jb_nx (i := .lstore_n 3) (n := 1) (q := (2, [some (.ref p0), some (.long j1), none, some (.long 1), none, none, none, none], [])) (jq qX13_writeName 1 rfl) rfl) ?_
  exact H
/-! MaskPlaysModel write (I)V -/
def tX13_write : List (Nat × Instr × Nat) := [(0, .aload_n 0, 1), (1, .getfield 56, 3), (4, .aload_n 0, 1), (5, .getfield 160, 3), (8, .iload_n 1, 1), (9, .iastore, 1), (10, .aload_n 0, 1), (11, .dup, 1), (12, .getfield 160, 3), (15, .iconst 1, 1), (16, .iadd, 1), (17, .putfield 160, 3), (20, .return_, 1)]
set_option maxRecDepth 100000 in
theorem qX13_write : ∀ q ∈ tX13_write, decode cX13_write q.1 = .ok (q.2.1, q.2.2) := by decide +kernel
theorem gX13_write {d : Nat} {p0 : Nat} {i1 : Int32} {h : jm_H} {r : jm_R} (H : ((jr_R h p0 12 23 2).bind fun a1 => (jr_I h p0 12 24 0).bind fun x3 => (jm_asi h a1 0 x3 i1).bind fun h5 => (jr_I h5 p0 12 24 0).bind fun x7 => (jm_pf h5 p0 12 24 0 (.int (x7 + 1))).bind fun h9 => some (.inl none, h9)) = some r) : jm_D (d + 1) mX13_write [.ref p0, .int i1] h = some r := by
  rw [jm_D_body (Nat.le_of_ble_eq_true rfl)]
  show jm_B d mX13_write (0, [some (.ref p0), some (.int i1)], []) h = some r
  refine Eq.trans (jb_nx (i := .aload_n 0) (n := 1) (q := (1, [some (.ref p0), some (.int i1)], [.ref p0])) (jq qX13_write 0 rfl) rfl) ?_
  obtain ⟨a1, e2, H⟩ := jbd H
  refine Eq.trans (jb_nx (i := .getfield 56) (n := 3) (q := (4, [some (.ref p0), some (.int i1)], [.ref a1])) (jq qX13_write 1 rfl) (jo_gf rfl (jr_R_inv e2))) ?_
  refine Eq.trans (jb_nx (i := .aload_n 0) (n := 1) (q := (5, [some (.ref p0), some (.int i1)], [.ref p0, .ref a1])) (jq qX13_write 2 rfl) rfl) ?_
  obtain ⟨x3, e4, H⟩ := jbd H
  refine Eq.trans (jb_nx (i := .getfield 160) (n := 3) (q := (8, [some (.ref p0), some (.int i1)], [.int x3, .ref a1])) (jq qX13_write 3 rfl) (jo_gf rfl (jr_I_inv e4))) ?_
  refine Eq.trans (jb_nx (i := .iload_n 1) (n := 1) (q := (9, [some (.ref p0), some (.int i1)], [.int i1, .int x3, .ref a1])) (jq qX13_write 4 rfl) rfl) ?_
  obtain ⟨h5, e6, H⟩ := jbd H
  refine Eq.trans (jb_nx (i := .iastore) (n := 1) (q := (10, [some (.ref p0), some (.int i1)], [])) (jq qX13_write 5 rfl) (jo_ias e6)) ?_
  refine Eq.trans (jb_nx (i := .aload_n 0) (n := 1) (q := (11, [some (.ref p0), some (.int i1)], [.ref p0])) (jq qX13_write 6 rfl) rfl) ?_
  refine Eq.trans (jb_nx (i := .dup) (n := 1) (q := (12, [some (.ref p0), some (.int i1)], [.ref p0, .ref p0])) (jq qX13_write 7 rfl) rfl) ?_
  obtain ⟨x7, e8, H⟩ := jbd H
  refine Eq.trans (jb_nx (i := .getfield 160) (n := 3) (q := (15, [some (.ref p0), some (.int i1)], [.int x7, .ref p0])) (jq qX13_write 8 rfl) (jo_gf rfl (jr_I_inv e8))) ?_
  refine Eq.trans (jb_nx (i := .iconst 1) (n := 1) (q := (16, [some (.ref p0), some (.int i1)], [.int 1, .int x7, .ref p0])) (jq qX13_write 9 rfl) rfl) ?_
  refine Eq.trans (jb_nx (i := .iadd) (n := 1) (q := (17, [some (.ref p0), some (.int i1)], [.int (x7 + 1), .ref p0])) (jq qX13_write 10 rfl) rfl) ?_
  obtain ⟨h9, e10, H⟩ := jbd H
  refine Eq.trans (jb_nx (i := .putfield 160) (n := 3) (q := (20, [some (.ref p0), some (.int i1)], [])) (jq qX13_write 11 rfl) (jo_pf rfl (Or.inl rfl) e10)) ?_
  exact Eq.trans (jb_rt (i := .return_) (n := 1) (jq qX13_write 12 rfl) rfl) H
/-! MaskPlaysModel closeOn (I)I -/
def tX13_closeOn : List (Nat × Instr × Nat) := [(0, .iload_n 1, 1), (1, .istore_n 2, 1), (2, .iload_n 2, 1), (3, .ifCond .le 47, 3), (6, .aload_n 0, 1), (7, .getfield 62, 3), (10, .iload_n 2, 1), (11, .iconst 1, 1), (12, .isub, 1), (13, .iaload, 1), (14, .istore_n 3, 1), (15, .iload_n 3, 1), (16, .bipush 32, 2), (18, .if_icmp .ne 21, 3), (21, .aload_n 0, 1), (22, .bipush 32, 2), (24, .invokevirtual 163, 3), (27, .aload_n 0, 1), (28, .getfield 62, 3), (31, .iload_n 2, 1), (32, .iconst 1, 1), (33, .isub, 1), (34, .bipush 93, 2), (36, .iastore, 1), (37, .iload_n 2, 1), (38, .ireturn, 1), (39, .aload_n 0, 1), (40, .iload_n 3, 1), (41, .invokevirtual 163, 3), (44, .iinc 2 (-1), 3), (47, .goto (-45), 3), (50, .iload_n 2, 1), (51, .ireturn, 1)]
set_option maxRecDepth 100000 in
theorem qX13_closeOn : ∀ q ∈ tX13_closeOn, decode cX13_closeOn q.1 = .ok (q.2.1, q.2.2) := by decide +kernel
noncomputable def kX13_closeOn_2 (d : Nat) (p0 : Nat) (o1 : Option Value) (i2 : Int32) (o3 : Option Value) (h : jm_H) : Option jm_R := jm_B d mX13_closeOn (2, [some (.ref p0), o1, some (.int i2), o3], []) h
theorem gX13_closeOn_2 {d : Nat} {p0 : Nat} {o1 : Option Value} {i2 : Int32} {o3 : Option Value} {h : jm_H} {r : jm_R} (H : ((if 0 < i2 then (jr_R h p0 12 26 2).bind fun a2 => (jm_ali h a2 0 (i2 - 1)).bind fun x4 => (if x4 = 32 then jm_O h p0 13 (jc_V (jm_D d mX13_write [.ref p0, .int 32] h) (fun h12 => (jr_R h12 p0 12 26 2).bind fun a14 => (jm_asi h12 a14 0 (i2 - 1) 93).bind fun h16 => some (.inl (some (.int i2)), h16)) jx) else jm_O h p0 13 (jc_V (jm_D d mX13_write [.ref p0, .int x4] h) (fun h7 => kX13_closeOn_2 d p0 (jm_dm o1) (i2 + (-1)) (some (.int x4)) h7) jx)) else some (.inl (some (.int i2)), h))) = some r) : kX13_closeOn_2 d p0 o1 i2 o3 h = some r := by
  show jm_B d mX13_closeOn (2, [some (.ref p0), o1, some (.int i2), o3], []) h = some r
  refine Eq.trans (jb_nx (i := .iload_n 2) (n := 1) (q := (3, [some (.ref p0), o1, some (.int i2), o3], [.int i2])) (jq qX13_closeOn 2 rfl) rfl) ?_
  by_cases c1 : 0 < i2
  · rw [if_pos c1] at H
    refine Eq.trans (jb_nx (i := .ifCond .le 47) (n := 3) (q := (6, [some (.ref p0), o1, some (.int i2), o3], [])) (jq qX13_closeOn 3 rfl) (jo_ifF (jz_leF c1))) ?_
    refine Eq.trans (jb_nx (i := .aload_n 0) (n := 1) (q := (7, [some (.ref p0), o1, some (.int i2), o3], [.ref p0])) (jq qX13_closeOn 4 rfl) rfl) ?_
    obtain ⟨a2, e3, H⟩ := jbd H
    refine Eq.trans (jb_nx (i := .getfield 62) (n := 3) (q := (10, [some (.ref p0), o1, some (.int i2), o3], [.ref a2])) (jq qX13_closeOn 5 rfl) (jo_gf rfl (jr_R_inv e3))) ?_
    refine Eq.trans (jb_nx (i := .iload_n 2) (n := 1) (q := (11, [some (.ref p0), o1, some (.int i2), o3], [.int i2, .ref a2])) (jq qX13_closeOn 6 rfl) rfl) ?_
    refine Eq.trans (jb_nx (i := .iconst 1) (n := 1) (q := (12, [some (.ref p0), o1, some (.int i2), o3], [.int 1, .int i2, .ref a2])) (jq qX13_closeOn 7 rfl) rfl) ?_
    refine Eq.trans (jb_nx (i := .isub) (n := 1) (q := (13, [some (.ref p0), o1, some (.int i2), o3], [.int (i2 - 1), .ref a2])) (jq qX13_closeOn 8 rfl) rfl) ?_
    obtain ⟨x4, e5, H⟩ := jbd H
    refine Eq.trans (jb_nx (i := .iaload) (n := 1) (q := (14, [some (.ref p0), o1, some (.int i2), o3], [.int x4])) (jq qX13_closeOn 9 rfl) (jo_ial e5)) ?_
    refine Eq.trans (jb_nx (i := .istore_n 3) (n := 1) (q := (15, [some (.ref p0), o1, some (.int i2), some (.int x4)], [])) (jq qX13_closeOn 10 rfl) rfl) ?_
    refine Eq.trans (jb_nx (i := .iload_n 3) (n := 1) (q := (16, [some (.ref p0), o1, some (.int i2), some (.int x4)], [.int x4])) (jq qX13_closeOn 11 rfl) rfl) ?_
    refine Eq.trans (jb_nx (i := .bipush 32) (n := 2) (q := (18, [some (.ref p0), o1, some (.int i2), some (.int x4)], [.int 32, .int x4])) (jq qX13_closeOn 12 rfl) rfl) ?_
    by_cases c6 : x4 = 32
    · rw [if_pos c6] at H
      refine Eq.trans (jb_nx (i := .if_icmp .ne 21) (n := 3) (q := (21, [some (.ref p0), o1, some (.int i2), some (.int x4)], [])) (jq qX13_closeOn 13 rfl) (jo_icF (jz_neF c6))) ?_
      refine Eq.trans (jb_nx (i := .aload_n 0) (n := 1) (q := (22, [some (.ref p0), o1, some (.int i2), some (.int x4)], [.ref p0])) (jq qX13_closeOn 14 rfl) rfl) ?_
      refine Eq.trans (jb_nx (i := .bipush 32) (n := 2) (q := (24, [some (.ref p0), o1, some (.int i2), some (.int x4)], [.int 32, .ref p0])) (jq qX13_closeOn 15 rfl) rfl) ?_
      obtain ⟨b18, H⟩ := jm_O_inv H
      rcases jcV H with ⟨h12, r13, H⟩ | ⟨w19, h20, r13, H⟩
      · refine Eq.trans (jb_nx (i := .invokevirtual 163) (n := 3) (q := (27, [some (.ref p0), o1, some (.int i2), some (.int x4)], [])) (jq qX13_closeOn 16 rfl) (jo_cv (y := mX13_write) rfl (Nat.le_of_ble_eq_true rfl) rfl (Nat.le_of_ble_eq_true rfl) b18 rfl r13 jo_ret)) ?_
        refine Eq.trans (jb_nx (i := .aload_n 0) (n := 1) (q := (28, [some (.ref p0), o1, some (.int i2), some (.int x4)], [.ref p0])) (jq qX13_closeOn 17 rfl) rfl) ?_
        obtain ⟨a14, e15, H⟩ := jbd H
        refine Eq.trans (jb_nx (i := .getfield 62) (n := 3) (q := (31, [some (.ref p0), o1, some (.int i2), some (.int x4)], [.ref a14])) (jq qX13_closeOn 18 rfl) (jo_gf rfl (jr_R_inv e15))) ?_
        refine Eq.trans (jb_nx (i := .iload_n 2) (n := 1) (q := (32, [some (.ref p0), o1, some (.int i2), some (.int x4)], [.int i2, .ref a14])) (jq qX13_closeOn 19 rfl) rfl) ?_
        refine Eq.trans (jb_nx (i := .iconst 1) (n := 1) (q := (33, [some (.ref p0), o1, some (.int i2), some (.int x4)], [.int 1, .int i2, .ref a14])) (jq qX13_closeOn 20 rfl) rfl) ?_
        refine Eq.trans (jb_nx (i := .isub) (n := 1) (q := (34, [some (.ref p0), o1, some (.int i2), some (.int x4)], [.int (i2 - 1), .ref a14])) (jq qX13_closeOn 21 rfl) rfl) ?_
        refine Eq.trans (jb_nx (i := .bipush 93) (n := 2) (q := (36, [some (.ref p0), o1, some (.int i2), some (.int x4)], [.int 93, .int (i2 - 1), .ref a14])) (jq qX13_closeOn 22 rfl) rfl) ?_
        obtain ⟨h16, e17, H⟩ := jbd H
        refine Eq.trans (jb_nx (i := .iastore) (n := 1) (q := (37, [some (.ref p0), o1, some (.int i2), some (.int x4)], [])) (jq qX13_closeOn 23 rfl) (jo_ias e17)) ?_
        refine Eq.trans (jb_nx (i := .iload_n 2) (n := 1) (q := (38, [some (.ref p0), o1, some (.int i2), some (.int x4)], [.int i2])) (jq qX13_closeOn 24 rfl) rfl) ?_
        exact Eq.trans (jb_rt (i := .ireturn) (n := 1) (jq qX13_closeOn 25 rfl) (jo_iret rfl rfl)) H
      · exact Eq.trans (jb_rt (i := .invokevirtual 163) (n := 3) (jq qX13_closeOn 16 rfl) (jo_cv (y := mX13_write) rfl (Nat.le_of_ble_eq_true rfl) rfl (Nat.le_of_ble_eq_true rfl) b18 rfl r13 (jo_exn rfl))) H
    · rw [if_neg c6] at H
      refine Eq.trans (jb_nx (i := .if_icmp .ne 21) (n := 3) (q := (39, [some (.ref p0), o1, some (.int i2), some (.int x4)], [])) (jq qX13_closeOn 13 rfl) (jo_icT (jz_neT c6) rfl)) ?_
      refine Eq.trans (jb_nx (i := .aload_n 0) (n := 1) (q := (40, [some (.ref p0), o1, some (.int i2), some (.int x4)], [.ref p0])) (jq qX13_closeOn 26 rfl) rfl) ?_
      refine Eq.trans (jb_nx (i := .iload_n 3) (n := 1) (q := (41, [some (.ref p0), o1, some (.int i2), some (.int x4)], [.int x4, .ref p0])) (jq qX13_closeOn 27 rfl) rfl) ?_
      obtain ⟨b9, H⟩ := jm_O_inv H
      rcases jcV H with ⟨h7, r8, H⟩ | ⟨w10, h11, r8, H⟩
      · refine Eq.trans (jb_nx (i := .invokevirtual 163) (n := 3) (q := (44, [some (.ref p0), o1, some (.int i2), some (.int x4)], [])) (jq qX13_closeOn 28 rfl) (jo_cv (y := mX13_write) rfl (Nat.le_of_ble_eq_true rfl) rfl (Nat.le_of_ble_eq_true rfl) b9 rfl r8 jo_ret)) ?_
        refine Eq.trans (jb_nx (i := .iinc 2 (-1)) (n := 3) (q := (47, [some (.ref p0), (jm_dm o1), some (.int (i2 + (-1))), some (.int x4)], [])) (jq qX13_closeOn 29 rfl) rfl) ?_
        refine Eq.trans (jb_nx (i := .goto (-45)) (n := 3) (q := (2, [some (.ref p0), (jm_dm o1), some (.int (i2 + (-1))), some (.int x4)], [])) (jq qX13_closeOn 30 rfl) rfl) ?_
        exact H
      · exact Eq.trans (jb_rt (i := .invokevirtual 163) (n := 3) (jq qX13_closeOn 28 rfl) (jo_cv (y := mX13_write) rfl (Nat.le_of_ble_eq_true rfl) rfl (Nat.le_of_ble_eq_true rfl) b9 rfl r8 (jo_exn rfl))) H
  · rw [if_neg c1] at H
    refine Eq.trans (jb_nx (i := .ifCond .le 47) (n := 3) (q := (50, [some (.ref p0), o1, some (.int i2), o3], [])) (jq qX13_closeOn 3 rfl) (jo_ifT (jz_leT c1) rfl)) ?_
    refine Eq.trans (jb_nx (i := .iload_n 2) (n := 1) (q := (51, [some (.ref p0), o1, some (.int i2), o3], [.int i2])) (jq qX13_closeOn 31 rfl) rfl) ?_
    exact Eq.trans (jb_rt (i := .ireturn) (n := 1) (jq qX13_closeOn 32 rfl) (jo_iret rfl rfl)) H
theorem gX13_closeOn {d : Nat} {p0 : Nat} {i1 : Int32} {h : jm_H} {r : jm_R} (H : (kX13_closeOn_2 d p0 (some (.int i1)) i1 none h) = some r) : jm_D (d + 1) mX13_closeOn [.ref p0, .int i1] h = some r := by
  rw [jm_D_body (Nat.le_of_ble_eq_true rfl)]
  show jm_B d mX13_closeOn (0, [some (.ref p0), some (.int i1), none, none], []) h = some r
  refine Eq.trans (jb_nx (i := .iload_n 1) (n := 1) (q := (1, [some (.ref p0), some (.int i1), none, none], [.int i1])) (jq qX13_closeOn 0 rfl) rfl) ?_
  refine Eq.trans (jb_nx (i := .istore_n 2) (n := 1) (q := (2, [some (.ref p0), some (.int i1), some (.int i1), none], [])) (jq qX13_closeOn 1 rfl) rfl) ?_
  exact H
/-! MaskPlaysModel nextSceneAt (I)I -/
def tX13_nextSceneAt : List (Nat × Instr × Nat) := [(0, .aload_n 0, 1), (1, .iconst 0, 1), (2, .putfield 68, 3), (5, .aload_n 0, 1), (6, .iload_n 1, 1), (7, .invokevirtual 473, 3), (10, .ifCond .ne 9, 3), (13, .aload_n 0, 1), (14, .iconst 1, 1), (15, .invokevirtual 463, 3), (18, .ireturn, 1), (19, .aload_n 0, 1), (20, .iload_n 1, 1), (21, .invokevirtual 146, 3), (24, .aload_n 0, 1), (25, .invokevirtual 92, 3), (28, .istore_n 2, 1), (29, .iload_n 2, 1), (30, .iconst (-1), 1), (31, .if_icmp .ne 9, 3), (34, .aload_n 0, 1), (35, .iconst 2, 1), (36, .invokevirtual 463, 3), (39, .ireturn, 1), (40, .aload_n 0, 1), (41, .invokevirtual 491, 3), (44, .aload_n 0, 1), (45, .getfield 59, 3), (48, .iload_n 2, 1), (49, .iaload, 1), (50, .ireturn, 1)]
set_option maxRecDepth 100000 in
theorem qX13_nextSceneAt : ∀ q ∈ tX13_nextSceneAt, decode cX13_nextSceneAt q.1 = .ok (q.2.1, q.2.2) := by decide +kernel
theorem gX13_nextSceneAt {d : Nat} {p0 : Nat} {i1 : Int32} {h : jm_H} {r : jm_R} (H : ((jm_pf h p0 12 0 0 (.int 0)).bind fun h1 => jm_O h1 p0 13 (jc_I (jm_D d mX13_isPlay [.ref p0, .int i1] h1) (fun x5 h3 => (if x5 = 0 then jm_O h3 p0 13 (jc_I (jm_D d mX13_no [.ref p0, .int 1] h3) (fun x36 h34 => some (.inl (some (.int x36)), h34)) jx) else jm_O h3 p0 13 (jc_V (jm_D d mX13_takeUp [.ref p0, .int i1] h3) (fun h7 => jm_O h7 p0 13 (jc_I (jm_D d mX13_nextScene [.ref p0] h7) (fun x11 h9 => (if x11 = (-1) then jm_O h9 p0 13 (jc_I (jm_D d mX13_no [.ref p0, .int 2] h9) (fun x24 h22 => some (.inl (some (.int x24)), h22)) jx) else jm_O h9 p0 13 (jc_V (jm_D d mX13_writePart [.ref p0] h9) (fun h13 => (jr_R h13 p0 12 25 2).bind fun a15 => (jm_ali h13 a15 0 x11).bind fun x17 => some (.inl (some (.int x17)), h13)) jx))) jx)) jx))) jx)) = some r) : jm_D (d + 1) mX13_nextSceneAt [.ref p0, .int i1] h = some r := by
  rw [jm_D_body (Nat.le_of_ble_eq_true rfl)]
  show jm_B d mX13_nextSceneAt (0, [some (.ref p0), some (.int i1), none], []) h = some r
  refine Eq.trans (jb_nx (i := .aload_n 0) (n := 1) (q := (1, [some (.ref p0), some (.int i1), none], [.ref p0])) (jq qX13_nextSceneAt 0 rfl) rfl) ?_
  refine Eq.trans (jb_nx (i := .iconst 0) (n := 1) (q := (2, [some (.ref p0), some (.int i1), none], [.int 0, .ref p0])) (jq qX13_nextSceneAt 1 rfl) rfl) ?_
  obtain ⟨h1, e2, H⟩ := jbd H
  refine Eq.trans (jb_nx (i := .putfield 68) (n := 3) (q := (5, [some (.ref p0), some (.int i1), none], [])) (jq qX13_nextSceneAt 2 rfl) (jo_pf rfl (Or.inl rfl) e2)) ?_
  refine Eq.trans (jb_nx (i := .aload_n 0) (n := 1) (q := (6, [some (.ref p0), some (.int i1), none], [.ref p0])) (jq qX13_nextSceneAt 3 rfl) rfl) ?_
  refine Eq.trans (jb_nx (i := .iload_n 1) (n := 1) (q := (7, [some (.ref p0), some (.int i1), none], [.int i1, .ref p0])) (jq qX13_nextSceneAt 4 rfl) rfl) ?_
  obtain ⟨b40, H⟩ := jm_O_inv H
  rcases jcI H with ⟨x5, h3, r4, H⟩ | ⟨w41, h42, r4, H⟩
  · refine Eq.trans (jb_nx (i := .invokevirtual 473) (n := 3) (q := (10, [some (.ref p0), some (.int i1), none], [.int x5])) (jq qX13_nextSceneAt 5 rfl) (jo_cv (y := mX13_isPlay) rfl (Nat.le_of_ble_eq_true rfl) rfl (Nat.le_of_ble_eq_true rfl) b40 rfl r4 jo_ret)) ?_
    by_cases c6 : x5 = 0
    · rw [if_pos c6] at H
      refine Eq.trans (jb_nx (i := .ifCond .ne 9) (n := 3) (q := (13, [some (.ref p0), some (.int i1), none], [])) (jq qX13_nextSceneAt 6 rfl) (jo_ifF (jz_neF c6))) ?_
      refine Eq.trans (jb_nx (i := .aload_n 0) (n := 1) (q := (14, [some (.ref p0), some (.int i1), none], [.ref p0])) (jq qX13_nextSceneAt 7 rfl) rfl) ?_
      refine Eq.trans (jb_nx (i := .iconst 1) (n := 1) (q := (15, [some (.ref p0), some (.int i1), none], [.int 1, .ref p0])) (jq qX13_nextSceneAt 8 rfl) rfl) ?_
      obtain ⟨b37, H⟩ := jm_O_inv H
      rcases jcI H with ⟨x36, h34, r35, H⟩ | ⟨w38, h39, r35, H⟩
      · refine Eq.trans (jb_nx (i := .invokevirtual 463) (n := 3) (q := (18, [some (.ref p0), some (.int i1), none], [.int x36])) (jq qX13_nextSceneAt 9 rfl) (jo_cv (y := mX13_no) rfl (Nat.le_of_ble_eq_true rfl) rfl (Nat.le_of_ble_eq_true rfl) b37 rfl r35 jo_ret)) ?_
        exact Eq.trans (jb_rt (i := .ireturn) (n := 1) (jq qX13_nextSceneAt 10 rfl) (jo_iret rfl rfl)) H
      · exact Eq.trans (jb_rt (i := .invokevirtual 463) (n := 3) (jq qX13_nextSceneAt 9 rfl) (jo_cv (y := mX13_no) rfl (Nat.le_of_ble_eq_true rfl) rfl (Nat.le_of_ble_eq_true rfl) b37 rfl r35 (jo_exn rfl))) H
    · rw [if_neg c6] at H
      refine Eq.trans (jb_nx (i := .ifCond .ne 9) (n := 3) (q := (19, [some (.ref p0), some (.int i1), none], [])) (jq qX13_nextSceneAt 6 rfl) (jo_ifT (jz_neT c6) rfl)) ?_
      refine Eq.trans (jb_nx (i := .aload_n 0) (n := 1) (q := (20, [some (.ref p0), some (.int i1), none], [.ref p0])) (jq qX13_nextSceneAt 11 rfl) rfl) ?_
      refine Eq.trans (jb_nx (i := .iload_n 1) (n := 1) (q := (21, [some (.ref p0), some (.int i1), none], [.int i1, .ref p0])) (jq qX13_nextSceneAt 12 rfl) rfl) ?_
      obtain ⟨b31, H⟩ := jm_O_inv H
      rcases jcV H with ⟨h7, r8, H⟩ | ⟨w32, h33, r8, H⟩
      · refine Eq.trans (jb_nx (i := .invokevirtual 146) (n := 3) (q := (24, [some (.ref p0), some (.int i1), none], [])) (jq qX13_nextSceneAt 13 rfl) (jo_cv (y := mX13_takeUp) rfl (Nat.le_of_ble_eq_true rfl) rfl (Nat.le_of_ble_eq_true rfl) b31 rfl r8 jo_ret)) ?_
        refine Eq.trans (jb_nx (i := .aload_n 0) (n := 1) (q := (25, [some (.ref p0), some (.int i1), none], [.ref p0])) (jq qX13_nextSceneAt 14 rfl) rfl) ?_
        obtain ⟨b28, H⟩ := jm_O_inv H
        rcases jcI H with ⟨x11, h9, r10, H⟩ | ⟨w29, h30, r10, H⟩
        · refine Eq.trans (jb_nx (i := .invokevirtual 92) (n := 3) (q := (28, [some (.ref p0), some (.int i1), none], [.int x11])) (jq qX13_nextSceneAt 15 rfl) (jo_cv (y := mX13_nextScene) rfl (Nat.le_of_ble_eq_true rfl) rfl (Nat.le_of_ble_eq_true rfl) b28 rfl r10 jo_ret)) ?_
          refine Eq.trans (jb_nx (i := .istore_n 2) (n := 1) (q := (29, [some (.ref p0), some (.int i1), some (.int x11)], [])) (jq qX13_nextSceneAt 16 rfl) rfl) ?_
          refine Eq.trans (jb_nx (i := .iload_n 2) (n := 1) (q := (30, [some (.ref p0), some (.int i1), some (.int x11)], [.int x11])) (jq qX13_nextSceneAt 17 rfl) rfl) ?_
          refine Eq.trans (jb_nx (i := .iconst (-1)) (n := 1) (q := (31, [some (.ref p0), some (.int i1), some (.int x11)], [.int (-1), .int x11])) (jq qX13_nextSceneAt 18 rfl) rfl) ?_
          by_cases c12 : x11 = (-1)
          · rw [if_pos c12] at H
            refine Eq.trans (jb_nx (i := .if_icmp .ne 9) (n := 3) (q := (34, [some (.ref p0), some (.int i1), some (.int x11)], [])) (jq qX13_nextSceneAt 19 rfl) (jo_icF (jz_neF c12))) ?_
            refine Eq.trans (jb_nx (i := .aload_n 0) (n := 1) (q := (35, [some (.ref p0), some (.int i1), some (.int x11)], [.ref p0])) (jq qX13_nextSceneAt 20 rfl) rfl) ?_
            refine Eq.trans (jb_nx (i := .iconst 2) (n := 1) (q := (36, [some (.ref p0), some (.int i1), some (.int x11)], [.int 2, .ref p0])) (jq qX13_nextSceneAt 21 rfl) rfl) ?_
            obtain ⟨b25, H⟩ := jm_O_inv H
            rcases jcI H with ⟨x24, h22, r23, H⟩ | ⟨w26, h27, r23, H⟩
            · refine Eq.trans (jb_nx (i := .invokevirtual 463) (n := 3) (q := (39, [some (.ref p0), some (.int i1), some (.int x11)], [.int x24])) (jq qX13_nextSceneAt 22 rfl) (jo_cv (y := mX13_no) rfl (Nat.le_of_ble_eq_true rfl) rfl (Nat.le_of_ble_eq_true rfl) b25 rfl r23 jo_ret)) ?_
              exact Eq.trans (jb_rt (i := .ireturn) (n := 1) (jq qX13_nextSceneAt 23 rfl) (jo_iret rfl rfl)) H
            · exact Eq.trans (jb_rt (i := .invokevirtual 463) (n := 3) (jq qX13_nextSceneAt 22 rfl) (jo_cv (y := mX13_no) rfl (Nat.le_of_ble_eq_true rfl) rfl (Nat.le_of_ble_eq_true rfl) b25 rfl r23 (jo_exn rfl))) H
          · rw [if_neg c12] at H
            refine Eq.trans (jb_nx (i := .if_icmp .ne 9) (n := 3) (q := (40, [some (.ref p0), some (.int i1), some (.int x11)], [])) (jq qX13_nextSceneAt 19 rfl) (jo_icT (jz_neT c12) rfl)) ?_
            refine Eq.trans (jb_nx (i := .aload_n 0) (n := 1) (q := (41, [some (.ref p0), some (.int i1), some (.int x11)], [.ref p0])) (jq qX13_nextSceneAt 24 rfl) rfl) ?_
            obtain ⟨b19, H⟩ := jm_O_inv H
            rcases jcV H with ⟨h13, r14, H⟩ | ⟨w20, h21, r14, H⟩
            · refine Eq.trans (jb_nx (i := .invokevirtual 491) (n := 3) (q := (44, [some (.ref p0), some (.int i1), some (.int x11)], [])) (jq qX13_nextSceneAt 25 rfl) (jo_cv (y := mX13_writePart) rfl (Nat.le_of_ble_eq_true rfl) rfl (Nat.le_of_ble_eq_true rfl) b19 rfl r14 jo_ret)) ?_
              refine Eq.trans (jb_nx (i := .aload_n 0) (n := 1) (q := (45, [some (.ref p0), some (.int i1), some (.int x11)], [.ref p0])) (jq qX13_nextSceneAt 26 rfl) rfl) ?_
              obtain ⟨a15, e16, H⟩ := jbd H
              refine Eq.trans (jb_nx (i := .getfield 59) (n := 3) (q := (48, [some (.ref p0), some (.int i1), some (.int x11)], [.ref a15])) (jq qX13_nextSceneAt 27 rfl) (jo_gf rfl (jr_R_inv e16))) ?_
              refine Eq.trans (jb_nx (i := .iload_n 2) (n := 1) (q := (49, [some (.ref p0), some (.int i1), some (.int x11)], [.int x11, .ref a15])) (jq qX13_nextSceneAt 28 rfl) rfl) ?_
              obtain ⟨x17, e18, H⟩ := jbd H
              refine Eq.trans (jb_nx (i := .iaload) (n := 1) (q := (50, [some (.ref p0), some (.int i1), some (.int x11)], [.int x17])) (jq qX13_nextSceneAt 29 rfl) (jo_ial e18)) ?_
              exact Eq.trans (jb_rt (i := .ireturn) (n := 1) (jq qX13_nextSceneAt 30 rfl) (jo_iret rfl rfl)) H
            · exact Eq.trans (jb_rt (i := .invokevirtual 491) (n := 3) (jq qX13_nextSceneAt 25 rfl) (jo_cv (y := mX13_writePart) rfl (Nat.le_of_ble_eq_true rfl) rfl (Nat.le_of_ble_eq_true rfl) b19 rfl r14 (jo_exn rfl))) H
        · exact Eq.trans (jb_rt (i := .invokevirtual 92) (n := 3) (jq qX13_nextSceneAt 15 rfl) (jo_cv (y := mX13_nextScene) rfl (Nat.le_of_ble_eq_true rfl) rfl (Nat.le_of_ble_eq_true rfl) b28 rfl r10 (jo_exn rfl))) H
      · exact Eq.trans (jb_rt (i := .invokevirtual 146) (n := 3) (jq qX13_nextSceneAt 13 rfl) (jo_cv (y := mX13_takeUp) rfl (Nat.le_of_ble_eq_true rfl) rfl (Nat.le_of_ble_eq_true rfl) b31 rfl r8 (jo_exn rfl))) H
  · exact Eq.trans (jb_rt (i := .invokevirtual 473) (n := 3) (jq qX13_nextSceneAt 5 rfl) (jo_cv (y := mX13_isPlay) rfl (Nat.le_of_ble_eq_true rfl) rfl (Nat.le_of_ble_eq_true rfl) b40 rfl r4 (jo_exn rfl))) H
/-! MaskPlaysModel renamedByStep (I)I -/
def tX13_renamedByStep : List (Nat × Instr × Nat) := [(0, .aload_n 0, 1), (1, .iconst 0, 1), (2, .putfield 68, 3), (5, .aload_n 0, 1), (6, .iload_n 1, 1), (7, .invokevirtual 473, 3), (10, .ifCond .ne 9, 3), (13, .aload_n 0, 1), (14, .iconst 1, 1), (15, .invokevirtual 463, 3), (18, .ireturn, 1), (19, .aload_n 0, 1), (20, .iload_n 1, 1), (21, .invokevirtual 146, 3), (24, .aload_n 0, 1), (25, .invokevirtual 260, 3), (28, .ifCond .eq 10, 3), (31, .aload_n 0, 1), (32, .invokevirtual 270, 3), (35, .goto 8, 3), (38, .aload_n 0, 1), (39, .iconst 2, 1), (40, .invokevirtual 463, 3), (43, .ireturn, 1)]
set_option maxRecDepth 100000 in
theorem qX13_renamedByStep : ∀ q ∈ tX13_renamedByStep, decode cX13_renamedByStep q.1 = .ok (q.2.1, q.2.2) := by decide +kernel
theorem gX13_renamedByStep {d : Nat} {p0 : Nat} {i1 : Int32} {h : jm_H} {r : jm_R} (H : ((jm_pf h p0 12 0 0 (.int 0)).bind fun h1 => jm_O h1 p0 13 (jc_I (jm_D d mX13_isPlay [.ref p0, .int i1] h1) (fun x5 h3 => (if x5 = 0 then jm_O h3 p0 13 (jc_I (jm_D d mX13_no [.ref p0, .int 1] h3) (fun x33 h31 => some (.inl (some (.int x33)), h31)) jx) else jm_O h3 p0 13 (jc_V (jm_D d mX13_takeUp [.ref p0, .int i1] h3) (fun h7 => jm_O h7 p0 13 (jc_I (jm_D d mX13_canStepNow [.ref p0] h7) (fun x11 h9 => (if x11 = 0 then jm_O h9 p0 13 (jc_I (jm_D d mX13_no [.ref p0, .int 2] h9) (fun x15 h13 => some (.inl (some (.int x15)), h13)) jx) else jm_O h9 p0 13 (jc_I (jm_D d mX13_takeOff [.ref p0] h9) (fun x21 h19 => some (.inl (some (.int x21)), h19)) jx))) jx)) jx))) jx)) = some r) : jm_D (d + 1) mX13_renamedByStep [.ref p0, .int i1] h = some r := by
  rw [jm_D_body (Nat.le_of_ble_eq_true rfl)]
  show jm_B d mX13_renamedByStep (0, [some (.ref p0), some (.int i1)], []) h = some r
  refine Eq.trans (jb_nx (i := .aload_n 0) (n := 1) (q := (1, [some (.ref p0), some (.int i1)], [.ref p0])) (jq qX13_renamedByStep 0 rfl) rfl) ?_
  refine Eq.trans (jb_nx (i := .iconst 0) (n := 1) (q := (2, [some (.ref p0), some (.int i1)], [.int 0, .ref p0])) (jq qX13_renamedByStep 1 rfl) rfl) ?_
  obtain ⟨h1, e2, H⟩ := jbd H
  refine Eq.trans (jb_nx (i := .putfield 68) (n := 3) (q := (5, [some (.ref p0), some (.int i1)], [])) (jq qX13_renamedByStep 2 rfl) (jo_pf rfl (Or.inl rfl) e2)) ?_
  refine Eq.trans (jb_nx (i := .aload_n 0) (n := 1) (q := (6, [some (.ref p0), some (.int i1)], [.ref p0])) (jq qX13_renamedByStep 3 rfl) rfl) ?_
  refine Eq.trans (jb_nx (i := .iload_n 1) (n := 1) (q := (7, [some (.ref p0), some (.int i1)], [.int i1, .ref p0])) (jq qX13_renamedByStep 4 rfl) rfl) ?_
  obtain ⟨b37, H⟩ := jm_O_inv H
  rcases jcI H with ⟨x5, h3, r4, H⟩ | ⟨w38, h39, r4, H⟩
  · refine Eq.trans (jb_nx (i := .invokevirtual 473) (n := 3) (q := (10, [some (.ref p0), some (.int i1)], [.int x5])) (jq qX13_renamedByStep 5 rfl) (jo_cv (y := mX13_isPlay) rfl (Nat.le_of_ble_eq_true rfl) rfl (Nat.le_of_ble_eq_true rfl) b37 rfl r4 jo_ret)) ?_
    by_cases c6 : x5 = 0
    · rw [if_pos c6] at H
      refine Eq.trans (jb_nx (i := .ifCond .ne 9) (n := 3) (q := (13, [some (.ref p0), some (.int i1)], [])) (jq qX13_renamedByStep 6 rfl) (jo_ifF (jz_neF c6))) ?_
      refine Eq.trans (jb_nx (i := .aload_n 0) (n := 1) (q := (14, [some (.ref p0), some (.int i1)], [.ref p0])) (jq qX13_renamedByStep 7 rfl) rfl) ?_
      refine Eq.trans (jb_nx (i := .iconst 1) (n := 1) (q := (15, [some (.ref p0), some (.int i1)], [.int 1, .ref p0])) (jq qX13_renamedByStep 8 rfl) rfl) ?_
      obtain ⟨b34, H⟩ := jm_O_inv H
      rcases jcI H with ⟨x33, h31, r32, H⟩ | ⟨w35, h36, r32, H⟩
      · refine Eq.trans (jb_nx (i := .invokevirtual 463) (n := 3) (q := (18, [some (.ref p0), some (.int i1)], [.int x33])) (jq qX13_renamedByStep 9 rfl) (jo_cv (y := mX13_no) rfl (Nat.le_of_ble_eq_true rfl) rfl (Nat.le_of_ble_eq_true rfl) b34 rfl r32 jo_ret)) ?_
        exact Eq.trans (jb_rt (i := .ireturn) (n := 1) (jq qX13_renamedByStep 10 rfl) (jo_iret rfl rfl)) H
      · exact Eq.trans (jb_rt (i := .invokevirtual 463) (n := 3) (jq qX13_renamedByStep 9 rfl) (jo_cv (y := mX13_no) rfl (Nat.le_of_ble_eq_true rfl) rfl (Nat.le_of_ble_eq_true rfl) b34 rfl r32 (jo_exn rfl))) H
    · rw [if_neg c6] at H
      refine Eq.trans (jb_nx (i := .ifCond .ne 9) (n := 3) (q := (19, [some (.ref p0), some (.int i1)], [])) (jq qX13_renamedByStep 6 rfl) (jo_ifT (jz_neT c6) rfl)) ?_
      refine Eq.trans (jb_nx (i := .aload_n 0) (n := 1) (q := (20, [some (.ref p0), some (.int i1)], [.ref p0])) (jq qX13_renamedByStep 11 rfl) rfl) ?_
      refine Eq.trans (jb_nx (i := .iload_n 1) (n := 1) (q := (21, [some (.ref p0), some (.int i1)], [.int i1, .ref p0])) (jq qX13_renamedByStep 12 rfl) rfl) ?_
      obtain ⟨b28, H⟩ := jm_O_inv H
      rcases jcV H with ⟨h7, r8, H⟩ | ⟨w29, h30, r8, H⟩
      · refine Eq.trans (jb_nx (i := .invokevirtual 146) (n := 3) (q := (24, [some (.ref p0), some (.int i1)], [])) (jq qX13_renamedByStep 13 rfl) (jo_cv (y := mX13_takeUp) rfl (Nat.le_of_ble_eq_true rfl) rfl (Nat.le_of_ble_eq_true rfl) b28 rfl r8 jo_ret)) ?_
        refine Eq.trans (jb_nx (i := .aload_n 0) (n := 1) (q := (25, [some (.ref p0), some (.int i1)], [.ref p0])) (jq qX13_renamedByStep 14 rfl) rfl) ?_
        obtain ⟨b25, H⟩ := jm_O_inv H
        rcases jcI H with ⟨x11, h9, r10, H⟩ | ⟨w26, h27, r10, H⟩
        · refine Eq.trans (jb_nx (i := .invokevirtual 260) (n := 3) (q := (28, [some (.ref p0), some (.int i1)], [.int x11])) (jq qX13_renamedByStep 15 rfl) (jo_cv (y := mX13_canStepNow) rfl (Nat.le_of_ble_eq_true rfl) rfl (Nat.le_of_ble_eq_true rfl) b25 rfl r10 jo_ret)) ?_
          by_cases c12 : x11 = 0
          · rw [if_pos c12] at H
            refine Eq.trans (jb_nx (i := .ifCond .eq 10) (n := 3) (q := (38, [some (.ref p0), some (.int i1)], [])) (jq qX13_renamedByStep 16 rfl) (jo_ifT (jz_eqT c12) rfl)) ?_
            refine Eq.trans (jb_nx (i := .aload_n 0) (n := 1) (q := (39, [some (.ref p0), some (.int i1)], [.ref p0])) (jq qX13_renamedByStep 20 rfl) rfl) ?_
            refine Eq.trans (jb_nx (i := .iconst 2) (n := 1) (q := (40, [some (.ref p0), some (.int i1)], [.int 2, .ref p0])) (jq qX13_renamedByStep 21 rfl) rfl) ?_
            obtain ⟨b16, H⟩ := jm_O_inv H
            rcases jcI H with ⟨x15, h13, r14, H⟩ | ⟨w17, h18, r14, H⟩
            · refine Eq.trans (jb_nx (i := .invokevirtual 463) (n := 3) (q := (43, [some (.ref p0), some (.int i1)], [.int x15])) (jq qX13_renamedByStep 22 rfl) (jo_cv (y := mX13_no) rfl (Nat.le_of_ble_eq_true rfl) rfl (Nat.le_of_ble_eq_true rfl) b16 rfl r14 jo_ret)) ?_
              exact Eq.trans (jb_rt (i := .ireturn) (n := 1) (jq qX13_renamedByStep 23 rfl) (jo_iret rfl rfl)) H
            · exact Eq.trans (jb_rt (i := .invokevirtual 463) (n := 3) (jq qX13_renamedByStep 22 rfl) (jo_cv (y := mX13_no) rfl (Nat.le_of_ble_eq_true rfl) rfl (Nat.le_of_ble_eq_true rfl) b16 rfl r14 (jo_exn rfl))) H
          · rw [if_neg c12] at H
            refine Eq.trans (jb_nx (i := .ifCond .eq 10) (n := 3) (q := (31, [some (.ref p0), some (.int i1)], [])) (jq qX13_renamedByStep 16 rfl) (jo_ifF (jz_eqF c12))) ?_
            refine Eq.trans (jb_nx (i := .aload_n 0) (n := 1) (q := (32, [some (.ref p0), some (.int i1)], [.ref p0])) (jq qX13_renamedByStep 17 rfl) rfl) ?_
            obtain ⟨b22, H⟩ := jm_O_inv H
            rcases jcI H with ⟨x21, h19, r20, H⟩ | ⟨w23, h24, r20, H⟩
            · refine Eq.trans (jb_nx (i := .invokevirtual 270) (n := 3) (q := (35, [some (.ref p0), some (.int i1)], [.int x21])) (jq qX13_renamedByStep 18 rfl) (jo_cv (y := mX13_takeOff) rfl (Nat.le_of_ble_eq_true rfl) rfl (Nat.le_of_ble_eq_true rfl) b22 rfl r20 jo_ret)) ?_
              refine Eq.trans (jb_nx (i := .goto 8) (n := 3) (q := (43, [some (.ref p0), some (.int i1)], [.int x21])) (jq qX13_renamedByStep 19 rfl) rfl) ?_
              exact Eq.trans (jb_rt (i := .ireturn) (n := 1) (jq qX13_renamedByStep 23 rfl) (jo_iret rfl rfl)) H
            · exact Eq.trans (jb_rt (i := .invokevirtual 270) (n := 3) (jq qX13_renamedByStep 18 rfl) (jo_cv (y := mX13_takeOff) rfl (Nat.le_of_ble_eq_true rfl) rfl (Nat.le_of_ble_eq_true rfl) b22 rfl r20 (jo_exn rfl))) H
        · exact Eq.trans (jb_rt (i := .invokevirtual 260) (n := 3) (jq qX13_renamedByStep 15 rfl) (jo_cv (y := mX13_canStepNow) rfl (Nat.le_of_ble_eq_true rfl) rfl (Nat.le_of_ble_eq_true rfl) b25 rfl r10 (jo_exn rfl))) H
      · exact Eq.trans (jb_rt (i := .invokevirtual 146) (n := 3) (jq qX13_renamedByStep 13 rfl) (jo_cv (y := mX13_takeUp) rfl (Nat.le_of_ble_eq_true rfl) rfl (Nat.le_of_ble_eq_true rfl) b28 rfl r8 (jo_exn rfl))) H
  · exact Eq.trans (jb_rt (i := .invokevirtual 473) (n := 3) (jq qX13_renamedByStep 5 rfl) (jo_cv (y := mX13_isPlay) rfl (Nat.le_of_ble_eq_true rfl) rfl (Nat.le_of_ble_eq_true rfl) b37 rfl r4 (jo_exn rfl))) H
/-! MaskPlaysModel takeOff ()I -/
def tX13_takeOff : List (Nat × Instr × Nat) := [(0, .aload_n 0, 1), (1, .invokevirtual 92, 3), (4, .istore_n 1, 1), (5, .aload_n 0, 1), (6, .iload_n 1, 1), (7, .invokevirtual 125, 3), (10, .istore_n 2, 1), (11, .aload_n 0, 1), (12, .getfield 43, 3), (15, .iload_n 1, 1), (16, .iconst 2, 1), (17, .iadd, 1), (18, .invokestatic 78, 3), (21, .istore_n 3, 1), (22, .aload_n 0, 1), (23, .getfield 43, 3), (26, .iload_n 3, 1), (27, .invokestatic 78, 3), (30, .istore 4, 2), (32, .iload_n 1, 1), (33, .istore 5, 2), (35, .aload_n 0, 1), (36, .getfield 43, 3), (39, .iconst 0, 1), (40, .aload_n 0, 1), (41, .getfield 46, 3), (44, .iconst 0, 1), (45, .iload_n 1, 1), (46, .invokestatic 128, 3), (49, .iload_n 1, 1), (50, .iconst 2, 1), (51, .iadd, 1), (52, .istore 6, 2), (54, .iload 6, 2), (56, .iload_n 3, 1), (57, .if_icmp .ge 66, 3), (60, .aload_n 0, 1), (61, .getfield 52, 3), (64, .iload 6, 2), (66, .baload, 1), (67, .ifCond .eq 33, 3), (70, .aload_n 0, 1), (71, .getfield 43, 3), (74, .iload_n 3, 1), (75, .aload_n 0, 1), (76, .getfield 46, 3), (79, .iload 5, 2), (81, .iload 4, 2), (83, .iload_n 3, 1), (84, .isub, 1), (85, .invokestatic 128, 3), (88, .iload 5, 2), (90, .iload 4, 2), (92, .iload_n 3, 1), (93, .isub, 1), (94, .iadd, 1), (95, .istore 5, 2), (97, .goto 20, 3), (100, .aload_n 0, 1), (101, .getfield 46, 3), (104, .iload 5, 2), (106, .aload_n 0, 1), (107, .getfield 43, 3), (110, .iload 6, 2), (112, .laload, 1), (113, .lastore, 1), (114, .iinc 5 1, 3), (117, .iinc 6 1, 3), (120, .goto (-66), 3), (123, .aload_n 0, 1), (124, .getfield 43, 3), (127, .iload 4, 2), (129, .aload_n 0, 1), (130, .getfield 46, 3), (133, .iload 5, 2), (135, .aload_n 0, 1), (136, .getfield 82, 3), (139, .iload 4, 2), (141, .isub, 1), (142, .invokestatic 128, 3), (145, .aload_n 0, 1), (146, .iload 5, 2), (148, .aload_n 0, 1), (149, .getfield 82, 3), (152, .iadd, 1), (153, .iload 4, 2), (155, .isub, 1), (156, .putfield 82, 3), (159, .aload_n 0, 1), (160, .getfield 46, 3), (163, .iconst 0, 1), (164, .aload_n 0, 1), (165, .getfield 43, 3), (168, .iconst 0, 1), (169, .aload_n 0, 1), (170, .getfield 82, 3), (173, .invokestatic 128, 3), (176, .iload_n 2, 1), (177, .ireturn, 1)]
set_option maxRecDepth 100000 in
theorem qX13_takeOff : ∀ q ∈ tX13_takeOff, decode cX13_takeOff q.1 = .ok (q.2.1, q.2.2) := by decide +kernel
noncomputable def kX13_takeOff_54 (d : Nat) (p0 : Nat) (o1 : Option Value) (i2 : Int32) (i3 : Int32) (i4 : Int32) (i5 : Int32) (i6 : Int32) (h : jm_H) : Option jm_R := jm_B d mX13_takeOff (54, [some (.ref p0), o1, some (.int i2), some (.int i3), some (.int i4), some (.int i5), some (.int i6)], []) h
theorem gX13_takeOff_54 {d : Nat} {p0 : Nat} {o1 : Option Value} {i2 : Int32} {i3 : Int32} {i4 : Int32} {i5 : Int32} {i6 : Int32} {h : jm_H} {r : jm_R} (H : ((if i6 < i3 then (jr_R h p0 12 22 2).bind fun a54 => (jm_ali h a54 3 i6).bind fun x56 => (if x56 = 0 then (jr_R h p0 12 20 2).bind fun a59 => (jr_R h p0 12 18 2).bind fun a61 => (jm_all h a61 i6).bind fun y63 => (jm_asl h a59 i5 y63).bind fun h65 => kX13_takeOff_54 d p0 o1 i2 i3 i4 (i5 + 1) (i6 + 1) h65 else (jr_R h p0 12 18 2).bind fun a67 => (jr_R h p0 12 20 2).bind fun a69 => (jm_cpy h a67 i3 a69 i5 (i4 - i3)).bind fun h71 => kX13_takeOff_54 d p0 o1 i2 i3 i4 (i5 + (i4 - i3)) (i6 + 1) h71) else (jr_R h p0 12 18 2).bind fun a34 => (jr_R h p0 12 20 2).bind fun a36 => (jr_I h p0 12 19 0).bind fun x38 => (jm_cpy h a34 i4 a36 i5 (x38 - i4)).bind fun h40 => (jr_I h40 p0 12 19 0).bind fun x42 => (jm_pf h40 p0 12 19 0 (.int ((i5 + x42) - i4))).bind fun h44 => (jr_R h44 p0 12 20 2).bind fun a46 => (jr_R h44 p0 12 18 2).bind fun a48 => (jr_I h44 p0 12 19 0).bind fun x50 => (jm_cpy h44 a46 0 a48 0 x50).bind fun h52 => some (.inl (some (.int i2)), h52))) = some r) : kX13_takeOff_54 d p0 o1 i2 i3 i4 i5 i6 h = some r := by
  show jm_B d mX13_takeOff (54, [some (.ref p0), o1, some (.int i2), some (.int i3), some (.int i4), some (.int i5), some (.int i6)], []) h = some r
  refine Eq.trans (jb_nx (i := .iload 6) (n := 2) (q := (56, [some (.ref p0), o1, some (.int i2), some (.int i3), some (.int i4), some (.int i5), some (.int i6)], [.int i6])) (jq qX13_takeOff 33 rfl) rfl) ?_
  refine Eq.trans (jb_nx (i := .iload_n 3) (n := 1) (q := (57, [some (.ref p0), o1, some (.int i2), some (.int i3), some (.int i4), some (.int i5), some (.int i6)], [.int i3, .int i6])) (jq qX13_takeOff 34 rfl) rfl) ?_
  by_cases c33 : i6 < i3
  · rw [if_pos c33] at H
    refine Eq.trans (jb_nx (i := .if_icmp .ge 66) (n := 3) (q := (60, [some (.ref p0), o1, some (.int i2), some (.int i3), some (.int i4), some (.int i5), some (.int i6)], [])) (jq qX13_takeOff 35 rfl) (jo_icF (jz_geF c33))) ?_
    refine Eq.trans (jb_nx (i := .aload_n 0) (n := 1) (q := (61, [some (.ref p0), o1, some (.int i2), some (.int i3), some (.int i4), some (.int i5), some (.int i6)], [.ref p0])) (jq qX13_takeOff 36 rfl) rfl) ?_
    obtain ⟨a54, e55, H⟩ := jbd H
    refine Eq.trans (jb_nx (i := .getfield 52) (n := 3) (q := (64, [some (.ref p0), o1, some (.int i2), some (.int i3), some (.int i4), some (.int i5), some (.int i6)], [.ref a54])) (jq qX13_takeOff 37 rfl) (jo_gf rfl (jr_R_inv e55))) ?_
    refine Eq.trans (jb_nx (i := .iload 6) (n := 2) (q := (66, [some (.ref p0), o1, some (.int i2), some (.int i3), some (.int i4), some (.int i5), some (.int i6)], [.int i6, .ref a54])) (jq qX13_takeOff 38 rfl) rfl) ?_
    obtain ⟨x56, e57, H⟩ := jbd H
    refine Eq.trans (jb_nx (i := .baload) (n := 1) (q := (67, [some (.ref p0), o1, some (.int i2), some (.int i3), some (.int i4), some (.int i5), some (.int i6)], [.int x56])) (jq qX13_takeOff 39 rfl) (jo_zal e57)) ?_
    by_cases c58 : x56 = 0
    · rw [if_pos c58] at H
      refine Eq.trans (jb_nx (i := .ifCond .eq 33) (n := 3) (q := (100, [some (.ref p0), o1, some (.int i2), some (.int i3), some (.int i4), some (.int i5), some (.int i6)], [])) (jq qX13_takeOff 40 rfl) (jo_ifT (jz_eqT c58) rfl)) ?_
      refine Eq.trans (jb_nx (i := .aload_n 0) (n := 1) (q := (101, [some (.ref p0), o1, some (.int i2), some (.int i3), some (.int i4), some (.int i5), some (.int i6)], [.ref p0])) (jq qX13_takeOff 58 rfl) rfl) ?_
      obtain ⟨a59, e60, H⟩ := jbd H
      refine Eq.trans (jb_nx (i := .getfield 46) (n := 3) (q := (104, [some (.ref p0), o1, some (.int i2), some (.int i3), some (.int i4), some (.int i5), some (.int i6)], [.ref a59])) (jq qX13_takeOff 59 rfl) (jo_gf rfl (jr_R_inv e60))) ?_
      refine Eq.trans (jb_nx (i := .iload 5) (n := 2) (q := (106, [some (.ref p0), o1, some (.int i2), some (.int i3), some (.int i4), some (.int i5), some (.int i6)], [.int i5, .ref a59])) (jq qX13_takeOff 60 rfl) rfl) ?_
      refine Eq.trans (jb_nx (i := .aload_n 0) (n := 1) (q := (107, [some (.ref p0), o1, some (.int i2), some (.int i3), some (.int i4), some (.int i5), some (.int i6)], [.ref p0, .int i5, .ref a59])) (jq qX13_takeOff 61 rfl) rfl) ?_
      obtain ⟨a61, e62, H⟩ := jbd H
      refine Eq.trans (jb_nx (i := .getfield 43) (n := 3) (q := (110, [some (.ref p0), o1, some (.int i2), some (.int i3), some (.int i4), some (.int i5), some (.int i6)], [.ref a61, .int i5, .ref a59])) (jq qX13_takeOff 62 rfl) (jo_gf rfl (jr_R_inv e62))) ?_
      refine Eq.trans (jb_nx (i := .iload 6) (n := 2) (q := (112, [some (.ref p0), o1, some (.int i2), some (.int i3), some (.int i4), some (.int i5), some (.int i6)], [.int i6, .ref a61, .int i5, .ref a59])) (jq qX13_takeOff 63 rfl) rfl) ?_
      obtain ⟨y63, e64, H⟩ := jbd H
      refine Eq.trans (jb_nx (i := .laload) (n := 1) (q := (113, [some (.ref p0), o1, some (.int i2), some (.int i3), some (.int i4), some (.int i5), some (.int i6)], [.long y63, .int i5, .ref a59])) (jq qX13_takeOff 64 rfl) (jo_lal e64)) ?_
      obtain ⟨h65, e66, H⟩ := jbd H
      refine Eq.trans (jb_nx (i := .lastore) (n := 1) (q := (114, [some (.ref p0), o1, some (.int i2), some (.int i3), some (.int i4), some (.int i5), some (.int i6)], [])) (jq qX13_takeOff 65 rfl) (jo_las e66)) ?_
      refine Eq.trans (jb_nx (i := .iinc 5 1) (n := 3) (q := (117, [some (.ref p0), o1, some (.int i2), some (.int i3), some (.int i4), some (.int (i5 + 1)), some (.int i6)], [])) (jq qX13_takeOff 66 rfl) rfl) ?_
      refine Eq.trans (jb_nx (i := .iinc 6 1) (n := 3) (q := (120, [some (.ref p0), o1, some (.int i2), some (.int i3), some (.int i4), some (.int (i5 + 1)), some (.int (i6 + 1))], [])) (jq qX13_takeOff 67 rfl) rfl) ?_
      refine Eq.trans (jb_nx (i := .goto (-66)) (n := 3) (q := (54, [some (.ref p0), o1, some (.int i2), some (.int i3), some (.int i4), some (.int (i5 + 1)), some (.int (i6 + 1))], [])) (jq qX13_takeOff 68 rfl) rfl) ?_
      exact H
    · rw [if_neg c58] at H
      refine Eq.trans (jb_nx (i := .ifCond .eq 33) (n := 3) (q := (70, [some (.ref p0), o1, some (.int i2), some (.int i3), some (.int i4), some (.int i5), some (.int i6)], [])) (jq qX13_takeOff 40 rfl) (jo_ifF (jz_eqF c58))) ?_
      refine Eq.trans (jb_nx (i := .aload_n 0) (n := 1) (q := (71, [some (.ref p0), o1, some (.int i2), some (.int i3), some (.int i4), some (.int i5), some (.int i6)], [.ref p0])) (jq qX13_takeOff 41 rfl) rfl) ?_
      obtain ⟨a67, e68, H⟩ := jbd H
      refine Eq.trans (jb_nx (i := .getfield 43) (n := 3) (q := (74, [some (.ref p0), o1, some (.int i2), some (.int i3), some (.int i4), some (.int i5), some (.int i6)], [.ref a67])) (jq qX13_takeOff 42 rfl) (jo_gf rfl (jr_R_inv e68))) ?_
      refine Eq.trans (jb_nx (i := .iload_n 3) (n := 1) (q := (75, [some (.ref p0), o1, some (.int i2), some (.int i3), some (.int i4), some (.int i5), some (.int i6)], [.int i3, .ref a67])) (jq qX13_takeOff 43 rfl) rfl) ?_
      refine Eq.trans (jb_nx (i := .aload_n 0) (n := 1) (q := (76, [some (.ref p0), o1, some (.int i2), some (.int i3), some (.int i4), some (.int i5), some (.int i6)], [.ref p0, .int i3, .ref a67])) (jq qX13_takeOff 44 rfl) rfl) ?_
      obtain ⟨a69, e70, H⟩ := jbd H
      refine Eq.trans (jb_nx (i := .getfield 46) (n := 3) (q := (79, [some (.ref p0), o1, some (.int i2), some (.int i3), some (.int i4), some (.int i5), some (.int i6)], [.ref a69, .int i3, .ref a67])) (jq qX13_takeOff 45 rfl) (jo_gf rfl (jr_R_inv e70))) ?_
      refine Eq.trans (jb_nx (i := .iload 5) (n := 2) (q := (81, [some (.ref p0), o1, some (.int i2), some (.int i3), some (.int i4), some (.int i5), some (.int i6)], [.int i5, .ref a69, .int i3, .ref a67])) (jq qX13_takeOff 46 rfl) rfl) ?_
      refine Eq.trans (jb_nx (i := .iload 4) (n := 2) (q := (83, [some (.ref p0), o1, some (.int i2), some (.int i3), some (.int i4), some (.int i5), some (.int i6)], [.int i4, .int i5, .ref a69, .int i3, .ref a67])) (jq qX13_takeOff 47 rfl) rfl) ?_
      refine Eq.trans (jb_nx (i := .iload_n 3) (n := 1) (q := (84, [some (.ref p0), o1, some (.int i2), some (.int i3), some (.int i4), some (.int i5), some (.int i6)], [.int i3, .int i4, .int i5, .ref a69, .int i3, .ref a67])) (jq qX13_takeOff 48 rfl) rfl) ?_
      refine Eq.trans (jb_nx (i := .isub) (n := 1) (q := (85, [some (.ref p0), o1, some (.int i2), some (.int i3), some (.int i4), some (.int i5), some (.int i6)], [.int (i4 - i3), .int i5, .ref a69, .int i3, .ref a67])) (jq qX13_takeOff 49 rfl) rfl) ?_
      obtain ⟨h71, e72, H⟩ := jbd H
      refine Eq.trans (jb_nx (i := .invokestatic 128) (n := 3) (q := (88, [some (.ref p0), o1, some (.int i2), some (.int i3), some (.int i4), some (.int i5), some (.int i6)], [])) (jq qX13_takeOff 50 rfl) (jo_cpy (z := mX3_clear) rfl (Nat.le_of_ble_eq_true rfl) e72)) ?_
      refine Eq.trans (jb_nx (i := .iload 5) (n := 2) (q := (90, [some (.ref p0), o1, some (.int i2), some (.int i3), some (.int i4), some (.int i5), some (.int i6)], [.int i5])) (jq qX13_takeOff 51 rfl) rfl) ?_
      refine Eq.trans (jb_nx (i := .iload 4) (n := 2) (q := (92, [some (.ref p0), o1, some (.int i2), some (.int i3), some (.int i4), some (.int i5), some (.int i6)], [.int i4, .int i5])) (jq qX13_takeOff 52 rfl) rfl) ?_
      refine Eq.trans (jb_nx (i := .iload_n 3) (n := 1) (q := (93, [some (.ref p0), o1, some (.int i2), some (.int i3), some (.int i4), some (.int i5), some (.int i6)], [.int i3, .int i4, .int i5])) (jq qX13_takeOff 53 rfl) rfl) ?_
      refine Eq.trans (jb_nx (i := .isub) (n := 1) (q := (94, [some (.ref p0), o1, some (.int i2), some (.int i3), some (.int i4), some (.int i5), some (.int i6)], [.int (i4 - i3), .int i5])) (jq qX13_takeOff 54 rfl) rfl) ?_
      refine Eq.trans (jb_nx (i := .iadd) (n := 1) (q := (95, [some (.ref p0), o1, some (.int i2), some (.int i3), some (.int i4), some (.int i5), some (.int i6)], [.int (i5 + (i4 - i3))])) (jq qX13_takeOff 55 rfl) rfl) ?_
      refine Eq.trans (jb_nx (i := .istore 5) (n := 2) (q := (97, [some (.ref p0), o1, some (.int i2), some (.int i3), some (.int i4), some (.int (i5 + (i4 - i3))), some (.int i6)], [])) (jq qX13_takeOff 56 rfl) rfl) ?_
      refine Eq.trans (jb_nx (i := .goto 20) (n := 3) (q := (117, [some (.ref p0), o1, some (.int i2), some (.int i3), some (.int i4), some (.int (i5 + (i4 - i3))), some (.int i6)], [])) (jq qX13_takeOff 57 rfl) rfl) ?_
      refine Eq.trans (jb_nx (i := .iinc 6 1) (n := 3) (q := (120, [some (.ref p0), o1, some (.int i2), some (.int i3), some (.int i4), some (.int (i5 + (i4 - i3))), some (.int (i6 + 1))], [])) (jq qX13_takeOff 67 rfl) rfl) ?_
      refine Eq.trans (jb_nx (i := .goto (-66)) (n := 3) (q := (54, [some (.ref p0), o1, some (.int i2), some (.int i3), some (.int i4), some (.int (i5 + (i4 - i3))), some (.int (i6 + 1))], [])) (jq qX13_takeOff 68 rfl) rfl) ?_
      exact H
  · rw [if_neg c33] at H
    refine Eq.trans (jb_nx (i := .if_icmp .ge 66) (n := 3) (q := (123, [some (.ref p0), o1, some (.int i2), some (.int i3), some (.int i4), some (.int i5), some (.int i6)], [])) (jq qX13_takeOff 35 rfl) (jo_icT (jz_geT c33) rfl)) ?_
    refine Eq.trans (jb_nx (i := .aload_n 0) (n := 1) (q := (124, [some (.ref p0), o1, some (.int i2), some (.int i3), some (.int i4), some (.int i5), some (.int i6)], [.ref p0])) (jq qX13_takeOff 69 rfl) rfl) ?_
    obtain ⟨a34, e35, H⟩ := jbd H
    refine Eq.trans (jb_nx (i := .getfield 43) (n := 3) (q := (127, [some (.ref p0), o1, some (.int i2), some (.int i3), some (.int i4), some (.int i5), some (.int i6)], [.ref a34])) (jq qX13_takeOff 70 rfl) (jo_gf rfl (jr_R_inv e35))) ?_
    refine Eq.trans (jb_nx (i := .iload 4) (n := 2) (q := (129, [some (.ref p0), o1, some (.int i2), some (.int i3), some (.int i4), some (.int i5), some (.int i6)], [.int i4, .ref a34])) (jq qX13_takeOff 71 rfl) rfl) ?_
    refine Eq.trans (jb_nx (i := .aload_n 0) (n := 1) (q := (130, [some (.ref p0), o1, some (.int i2), some (.int i3), some (.int i4), some (.int i5), some (.int i6)], [.ref p0, .int i4, .ref a34])) (jq qX13_takeOff 72 rfl) rfl) ?_
    obtain ⟨a36, e37, H⟩ := jbd H
    refine Eq.trans (jb_nx (i := .getfield 46) (n := 3) (q := (133, [some (.ref p0), o1, some (.int i2), some (.int i3), some (.int i4), some (.int i5), some (.int i6)], [.ref a36, .int i4, .ref a34])) (jq qX13_takeOff 73 rfl) (jo_gf rfl (jr_R_inv e37))) ?_
    refine Eq.trans (jb_nx (i := .iload 5) (n := 2) (q := (135, [some (.ref p0), o1, some (.int i2), some (.int i3), some (.int i4), some (.int i5), some (.int i6)], [.int i5, .ref a36, .int i4, .ref a34])) (jq qX13_takeOff 74 rfl) rfl) ?_
    refine Eq.trans (jb_nx (i := .aload_n 0) (n := 1) (q := (136, [some (.ref p0), o1, some (.int i2), some (.int i3), some (.int i4), some (.int i5), some (.int i6)], [.ref p0, .int i5, .ref a36, .int i4, .ref a34])) (jq qX13_takeOff 75 rfl) rfl) ?_
    obtain ⟨x38, e39, H⟩ := jbd H
    refine Eq.trans (jb_nx (i := .getfield 82) (n := 3) (q := (139, [some (.ref p0), o1, some (.int i2), some (.int i3), some (.int i4), some (.int i5), some (.int i6)], [.int x38, .int i5, .ref a36, .int i4, .ref a34])) (jq qX13_takeOff 76 rfl) (jo_gf rfl (jr_I_inv e39))) ?_
    refine Eq.trans (jb_nx (i := .iload 4) (n := 2) (q := (141, [some (.ref p0), o1, some (.int i2), some (.int i3), some (.int i4), some (.int i5), some (.int i6)], [.int i4, .int x38, .int i5, .ref a36, .int i4, .ref a34])) (jq qX13_takeOff 77 rfl) rfl) ?_
    refine Eq.trans (jb_nx (i := .isub) (n := 1) (q := (142, [some (.ref p0), o1, some (.int i2), some (.int i3), some (.int i4), some (.int i5), some (.int i6)], [.int (x38 - i4), .int i5, .ref a36, .int i4, .ref a34])) (jq qX13_takeOff 78 rfl) rfl) ?_
    obtain ⟨h40, e41, H⟩ := jbd H
    refine Eq.trans (jb_nx (i := .invokestatic 128) (n := 3) (q := (145, [some (.ref p0), o1, some (.int i2), some (.int i3), some (.int i4), some (.int i5), some (.int i6)], [])) (jq qX13_takeOff 79 rfl) (jo_cpy (z := mX3_clear) rfl (Nat.le_of_ble_eq_true rfl) e41)) ?_
    refine Eq.trans (jb_nx (i := .aload_n 0) (n := 1) (q := (146, [some (.ref p0), o1, some (.int i2), some (.int i3), some (.int i4), some (.int i5), some (.int i6)], [.ref p0])) (jq qX13_takeOff 80 rfl) rfl) ?_
    refine Eq.trans (jb_nx (i := .iload 5) (n := 2) (q := (148, [some (.ref p0), o1, some (.int i2), some (.int i3), some (.int i4), some (.int i5), some (.int i6)], [.int i5, .ref p0])) (jq qX13_takeOff 81 rfl) rfl) ?_
    refine Eq.trans (jb_nx (i := .aload_n 0) (n := 1) (q := (149, [some (.ref p0), o1, some (.int i2), some (.int i3), some (.int i4), some (.int i5), some (.int i6)], [.ref p0, .int i5, .ref p0])) (jq qX13_takeOff 82 rfl) rfl) ?_
    obtain ⟨x42, e43, H⟩ := jbd H
    refine Eq.trans (jb_nx (i := .getfield 82) (n := 3) (q := (152, [some (.ref p0), o1, some (.int i2), some (.int i3), some (.int i4), some (.int i5), some (.int i6)], [.int x42, .int i5, .ref p0])) (jq qX13_takeOff 83 rfl) (jo_gf rfl (jr_I_inv e43))) ?_
    refine Eq.trans (jb_nx (i := .iadd) (n := 1) (q := (153, [some (.ref p0), o1, some (.int i2), some (.int i3), some (.int i4), some (.int i5), some (.int i6)], [.int (i5 + x42), .ref p0])) (jq qX13_takeOff 84 rfl) rfl) ?_
    refine Eq.trans (jb_nx (i := .iload 4) (n := 2) (q := (155, [some (.ref p0), o1, some (.int i2), some (.int i3), some (.int i4), some (.int i5), some (.int i6)], [.int i4, .int (i5 + x42), .ref p0])) (jq qX13_takeOff 85 rfl) rfl) ?_
    refine Eq.trans (jb_nx (i := .isub) (n := 1) (q := (156, [some (.ref p0), o1, some (.int i2), some (.int i3), some (.int i4), some (.int i5), some (.int i6)], [.int ((i5 + x42) - i4), .ref p0])) (jq qX13_takeOff 86 rfl) rfl) ?_
    obtain ⟨h44, e45, H⟩ := jbd H
    refine Eq.trans (jb_nx (i := .putfield 82) (n := 3) (q := (159, [some (.ref p0), o1, some (.int i2), some (.int i3), some (.int i4), some (.int i5), some (.int i6)], [])) (jq qX13_takeOff 87 rfl) (jo_pf rfl (Or.inl rfl) e45)) ?_
    refine Eq.trans (jb_nx (i := .aload_n 0) (n := 1) (q := (160, [some (.ref p0), o1, some (.int i2), some (.int i3), some (.int i4), some (.int i5), some (.int i6)], [.ref p0])) (jq qX13_takeOff 88 rfl) rfl) ?_
    obtain ⟨a46, e47, H⟩ := jbd H
    refine Eq.trans (jb_nx (i := .getfield 46) (n := 3) (q := (163, [some (.ref p0), o1, some (.int i2), some (.int i3), some (.int i4), some (.int i5), some (.int i6)], [.ref a46])) (jq qX13_takeOff 89 rfl) (jo_gf rfl (jr_R_inv e47))) ?_
    refine Eq.trans (jb_nx (i := .iconst 0) (n := 1) (q := (164, [some (.ref p0), o1, some (.int i2), some (.int i3), some (.int i4), some (.int i5), some (.int i6)], [.int 0, .ref a46])) (jq qX13_takeOff 90 rfl) rfl) ?_
    refine Eq.trans (jb_nx (i := .aload_n 0) (n := 1) (q := (165, [some (.ref p0), o1, some (.int i2), some (.int i3), some (.int i4), some (.int i5), some (.int i6)], [.ref p0, .int 0, .ref a46])) (jq qX13_takeOff 91 rfl) rfl) ?_
    obtain ⟨a48, e49, H⟩ := jbd H
    refine Eq.trans (jb_nx (i := .getfield 43) (n := 3) (q := (168, [some (.ref p0), o1, some (.int i2), some (.int i3), some (.int i4), some (.int i5), some (.int i6)], [.ref a48, .int 0, .ref a46])) (jq qX13_takeOff 92 rfl) (jo_gf rfl (jr_R_inv e49))) ?_
    refine Eq.trans (jb_nx (i := .iconst 0) (n := 1) (q := (169, [some (.ref p0), o1, some (.int i2), some (.int i3), some (.int i4), some (.int i5), some (.int i6)], [.int 0, .ref a48, .int 0, .ref a46])) (jq qX13_takeOff 93 rfl) rfl) ?_
    refine Eq.trans (jb_nx (i := .aload_n 0) (n := 1) (q := (170, [some (.ref p0), o1, some (.int i2), some (.int i3), some (.int i4), some (.int i5), some (.int i6)], [.ref p0, .int 0, .ref a48, .int 0, .ref a46])) (jq qX13_takeOff 94 rfl) rfl) ?_
    obtain ⟨x50, e51, H⟩ := jbd H
    refine Eq.trans (jb_nx (i := .getfield 82) (n := 3) (q := (173, [some (.ref p0), o1, some (.int i2), some (.int i3), some (.int i4), some (.int i5), some (.int i6)], [.int x50, .int 0, .ref a48, .int 0, .ref a46])) (jq qX13_takeOff 95 rfl) (jo_gf rfl (jr_I_inv e51))) ?_
    obtain ⟨h52, e53, H⟩ := jbd H
    refine Eq.trans (jb_nx (i := .invokestatic 128) (n := 3) (q := (176, [some (.ref p0), o1, some (.int i2), some (.int i3), some (.int i4), some (.int i5), some (.int i6)], [])) (jq qX13_takeOff 96 rfl) (jo_cpy (z := mX3_clear) rfl (Nat.le_of_ble_eq_true rfl) e53)) ?_
    refine Eq.trans (jb_nx (i := .iload_n 2) (n := 1) (q := (177, [some (.ref p0), o1, some (.int i2), some (.int i3), some (.int i4), some (.int i5), some (.int i6)], [.int i2])) (jq qX13_takeOff 97 rfl) rfl) ?_
    exact Eq.trans (jb_rt (i := .ireturn) (n := 1) (jq qX13_takeOff 98 rfl) (jo_iret rfl rfl)) H
theorem gX13_takeOff {d : Nat} {p0 : Nat} {h : jm_H} {r : jm_R} (H : (jm_O h p0 13 (jc_I (jm_D d mX13_nextScene [.ref p0] h) (fun x3 h1 => jm_O h1 p0 13 (jc_I (jm_D d mX13_renameAll [.ref p0, .int x3] h1) (fun x6 h4 => (jr_R h4 p0 12 18 2).bind fun a7 => jc_I (jm_D d mX13_end [.ref a7, .int (x3 + 2)] h4) (fun x11 h9 => (jr_R h9 p0 12 18 2).bind fun a12 => jc_I (jm_D d mX13_end [.ref a12, .int x11] h9) (fun x16 h14 => (jr_R h14 p0 12 18 2).bind fun a17 => (jr_R h14 p0 12 20 2).bind fun a19 => (jm_cpy h14 a17 0 a19 0 x3).bind fun h21 => kX13_takeOff_54 d p0 (some (.int x3)) x6 x11 x16 x3 (x3 + 2) h21) jx) jx) jx)) jx)) = some r) : jm_D (d + 1) mX13_takeOff [.ref p0] h = some r := by
  rw [jm_D_body (Nat.le_of_ble_eq_true rfl)]
  show jm_B d mX13_takeOff (0, [some (.ref p0), none, none, none, none, none, none], []) h = some r
  refine Eq.trans (jb_nx (i := .aload_n 0) (n := 1) (q := (1, [some (.ref p0), none, none, none, none, none, none], [.ref p0])) (jq qX13_takeOff 0 rfl) rfl) ?_
  obtain ⟨b30, H⟩ := jm_O_inv H
  rcases jcI H with ⟨x3, h1, r2, H⟩ | ⟨w31, h32, r2, H⟩
  · refine Eq.trans (jb_nx (i := .invokevirtual 92) (n := 3) (q := (4, [some (.ref p0), none, none, none, none, none, none], [.int x3])) (jq qX13_takeOff 1 rfl) (jo_cv (y := mX13_nextScene) rfl (Nat.le_of_ble_eq_true rfl) rfl (Nat.le_of_ble_eq_true rfl) b30 rfl r2 jo_ret)) ?_
    refine Eq.trans (jb_nx (i := .istore_n 1) (n := 1) (q := (5, [some (.ref p0), some (.int x3), none, none, none, none, none], [])) (jq qX13_takeOff 2 rfl) rfl) ?_
    refine Eq.trans (jb_nx (i := .aload_n 0) (n := 1) (q := (6, [some (.ref p0), some (.int x3), none, none, none, none, none], [.ref p0])) (jq qX13_takeOff 3 rfl) rfl) ?_
    refine Eq.trans (jb_nx (i := .iload_n 1) (n := 1) (q := (7, [some (.ref p0), some (.int x3), none, none, none, none, none], [.int x3, .ref p0])) (jq qX13_takeOff 4 rfl) rfl) ?_
    obtain ⟨b27, H⟩ := jm_O_inv H
    rcases jcI H with ⟨x6, h4, r5, H⟩ | ⟨w28, h29, r5, H⟩
    · refine Eq.trans (jb_nx (i := .invokevirtual 125) (n := 3) (q := (10, [some (.ref p0), some (.int x3), none, none, none, none, none], [.int x6])) (jq qX13_takeOff 5 rfl) (jo_cv (y := mX13_renameAll) rfl (Nat.le_of_ble_eq_true rfl) rfl (Nat.le_of_ble_eq_true rfl) b27 rfl r5 jo_ret)) ?_
      refine Eq.trans (jb_nx (i := .istore_n 2) (n := 1) (q := (11, [some (.ref p0), some (.int x3), some (.int x6), none, none, none, none], [])) (jq qX13_takeOff 6 rfl) rfl) ?_
      refine Eq.trans (jb_nx (i := .aload_n 0) (n := 1) (q := (12, [some (.ref p0), some (.int x3), some (.int x6), none, none, none, none], [.ref p0])) (jq qX13_takeOff 7 rfl) rfl) ?_
      obtain ⟨a7, e8, H⟩ := jbd H
      refine Eq.trans (jb_nx (i := .getfield 43) (n := 3) (q := (15, [some (.ref p0), some (.int x3), some (.int x6), none, none, none, none], [.ref a7])) (jq qX13_takeOff 8 rfl) (jo_gf rfl (jr_R_inv e8))) ?_
      refine Eq.trans (jb_nx (i := .iload_n 1) (n := 1) (q := (16, [some (.ref p0), some (.int x3), some (.int x6), none, none, none, none], [.int x3, .ref a7])) (jq qX13_takeOff 9 rfl) rfl) ?_
      refine Eq.trans (jb_nx (i := .iconst 2) (n := 1) (q := (17, [some (.ref p0), some (.int x3), some (.int x6), none, none, none, none], [.int 2, .int x3, .ref a7])) (jq qX13_takeOff 10 rfl) rfl) ?_
      refine Eq.trans (jb_nx (i := .iadd) (n := 1) (q := (18, [some (.ref p0), some (.int x3), some (.int x6), none, none, none, none], [.int (x3 + 2), .ref a7])) (jq qX13_takeOff 11 rfl) rfl) ?_
      rcases jcI H with ⟨x11, h9, r10, H⟩ | ⟨w25, h26, r10, H⟩
      · refine Eq.trans (jb_nx (i := .invokestatic 78) (n := 3) (q := (21, [some (.ref p0), some (.int x3), some (.int x6), none, none, none, none], [.int x11])) (jq qX13_takeOff 12 rfl) (jo_cs (y := mX13_end) (w := 1) (by decide) rfl (Nat.le_of_ble_eq_true rfl) rfl (Nat.le_of_ble_eq_true rfl) rfl r10 jo_ret)) ?_
        refine Eq.trans (jb_nx (i := .istore_n 3) (n := 1) (q := (22, [some (.ref p0), some (.int x3), some (.int x6), some (.int x11), none, none, none], [])) (jq qX13_takeOff 13 rfl) rfl) ?_
        refine Eq.trans (jb_nx (i := .aload_n 0) (n := 1) (q := (23, [some (.ref p0), some (.int x3), some (.int x6), some (.int x11), none, none, none], [.ref p0])) (jq qX13_takeOff 14 rfl) rfl) ?_
        obtain ⟨a12, e13, H⟩ := jbd H
        refine Eq.trans (jb_nx (i := .getfield 43) (n := 3) (q := (26, [some (.ref p0), some (.int x3), some (.int x6), some (.int x11), none, none, none], [.ref a12])) (jq qX13_takeOff 15 rfl) (jo_gf rfl (jr_R_inv e13))) ?_
        refine Eq.trans (jb_nx (i := .iload_n 3) (n := 1) (q := (27, [some (.ref p0), some (.int x3), some (.int x6), some (.int x11), none, none, none], [.int x11, .ref a12])) (jq qX13_takeOff 16 rfl) rfl) ?_
        rcases jcI H with ⟨x16, h14, r15, H⟩ | ⟨w23, h24, r15, H⟩
        · refine Eq.trans (jb_nx (i := .invokestatic 78) (n := 3) (q := (30, [some (.ref p0), some (.int x3), some (.int x6), some (.int x11), none, none, none], [.int x16])) (jq qX13_takeOff 17 rfl) (jo_cs (y := mX13_end) (w := 1) (by decide) rfl (Nat.le_of_ble_eq_true rfl) rfl (Nat.le_of_ble_eq_true rfl) rfl r15 jo_ret)) ?_
          refine Eq.trans (jb_nx (i := .istore 4) (n := 2) (q := (32, [some (.ref p0), some (.int x3), some (.int x6), some (.int x11), some (.int x16), none, none], [])) (jq qX13_takeOff 18 rfl) rfl) ?_
          refine Eq.trans (jb_nx (i := .iload_n 1) (n := 1) (q := (33, [some (.ref p0), some (.int x3), some (.int x6), some (.int x11), some (.int x16), none, none], [.int x3])) (jq qX13_takeOff 19 rfl) rfl) ?_
          refine Eq.trans (jb_nx (i := .istore 5) (n := 2) (q := (35, [some (.ref p0), some (.int x3), some (.int x6), some (.int x11), some (.int x16), some (.int x3), none], [])) (jq qX13_takeOff 20 rfl) rfl) ?_
          refine Eq.trans (jb_nx (i := .aload_n 0) (n := 1) (q := (36, [some (.ref p0), some (.int x3), some (.int x6), some (.int x11), some (.int x16), some (.int x3), none], [.ref p0])) (jq qX13_takeOff 21 rfl) rfl) ?_
          obtain ⟨a17, e18, H⟩ := jbd H
          refine Eq.trans (jb_nx (i := .getfield 43) (n := 3) (q := (39, [some (.ref p0), some (.int x3), some (.int x6), some (.int x11), some (.int x16), some (.int x3), none], [.ref a17])) (jq qX13_takeOff 22 rfl) (jo_gf rfl (jr_R_inv e18))) ?_
          refine Eq.trans (jb_nx (i := .iconst 0) (n := 1) (q := (40, [some (.ref p0), some (.int x3), some (.int x6), some (.int x11), some (.int x16), some (.int x3), none], [.int 0, .ref a17])) (jq qX13_takeOff 23 rfl) rfl) ?_
          refine Eq.trans (jb_nx (i := .aload_n 0) (n := 1) (q := (41, [some (.ref p0), some (.int x3), some (.int x6), some (.int x11), some (.int x16), some (.int x3), none], [.ref p0, .int 0, .ref a17])) (jq qX13_takeOff 24 rfl) rfl) ?_
          obtain ⟨a19, e20, H⟩ := jbd H
          refine Eq.trans (jb_nx (i := .getfield 46) (n := 3) (q := (44, [some (.ref p0), some (.int x3), some (.int x6), some (.int x11), some (.int x16), some (.int x3), none], [.ref a19, .int 0, .ref a17])) (jq qX13_takeOff 25 rfl) (jo_gf rfl (jr_R_inv e20))) ?_
          refine Eq.trans (jb_nx (i := .iconst 0) (n := 1) (q := (45, [some (.ref p0), some (.int x3), some (.int x6), some (.int x11), some (.int x16), some (.int x3), none], [.int 0, .ref a19, .int 0, .ref a17])) (jq qX13_takeOff 26 rfl) rfl) ?_
          refine Eq.trans (jb_nx (i := .iload_n 1) (n := 1) (q := (46, [some (.ref p0), some (.int x3), some (.int x6), some (.int x11), some (.int x16), some (.int x3), none], [.int x3, .int 0, .ref a19, .int 0, .ref a17])) (jq qX13_takeOff 27 rfl) rfl) ?_
          obtain ⟨h21, e22, H⟩ := jbd H
          refine Eq.trans (jb_nx (i := .invokestatic 128) (n := 3) (q := (49, [some (.ref p0), some (.int x3), some (.int x6), some (.int x11), some (.int x16), some (.int x3), none], [])) (jq qX13_takeOff 28 rfl) (jo_cpy (z := mX3_clear) rfl (Nat.le_of_ble_eq_true rfl) e22)) ?_
          refine Eq.trans (jb_nx (i := .iload_n 1) (n := 1) (q := (50, [some (.ref p0), some (.int x3), some (.int x6), some (.int x11), some (.int x16), some (.int x3), none], [.int x3])) (jq qX13_takeOff 29 rfl) rfl) ?_
          refine Eq.trans (jb_nx (i := .iconst 2) (n := 1) (q := (51, [some (.ref p0), some (.int x3), some (.int x6), some (.int x11), some (.int x16), some (.int x3), none], [.int 2, .int x3])) (jq qX13_takeOff 30 rfl) rfl) ?_
          refine Eq.trans (jb_nx (i := .iadd) (n := 1) (q := (52, [some (.ref p0), some (.int x3), some (.int x6), some (.int x11), some (.int x16), some (.int x3), none], [.int (x3 + 2)])) (jq qX13_takeOff 31 rfl) rfl) ?_
          refine Eq.trans (jb_nx (i := .istore 6) (n := 2) (q := (54, [some (.ref p0), some (.int x3), some (.int x6), some (.int x11), some (.int x16), some (.int x3), some (.int (x3 + 2))], [])) (jq qX13_takeOff 32 rfl) rfl) ?_
          exact H
        · exact Eq.trans (jb_rt (i := .invokestatic 78) (n := 3) (jq qX13_takeOff 17 rfl) (jo_cs (y := mX13_end) (w := 1) (by decide) rfl (Nat.le_of_ble_eq_true rfl) rfl (Nat.le_of_ble_eq_true rfl) rfl r15 (jo_exn rfl))) H
      · exact Eq.trans (jb_rt (i := .invokestatic 78) (n := 3) (jq qX13_takeOff 12 rfl) (jo_cs (y := mX13_end) (w := 1) (by decide) rfl (Nat.le_of_ble_eq_true rfl) rfl (Nat.le_of_ble_eq_true rfl) rfl r10 (jo_exn rfl))) H
    · exact Eq.trans (jb_rt (i := .invokevirtual 125) (n := 3) (jq qX13_takeOff 5 rfl) (jo_cv (y := mX13_renameAll) rfl (Nat.le_of_ble_eq_true rfl) rfl (Nat.le_of_ble_eq_true rfl) b27 rfl r5 (jo_exn rfl))) H
  · exact Eq.trans (jb_rt (i := .invokevirtual 92) (n := 3) (jq qX13_takeOff 1 rfl) (jo_cv (y := mX13_nextScene) rfl (Nat.le_of_ble_eq_true rfl) rfl (Nat.le_of_ble_eq_true rfl) b30 rfl r2 (jo_exn rfl))) H
/-! MaskPlaysModel renameAll (I)I -/
def tX13_renameAll : List (Nat × Instr × Nat) := [(0, .aload_n 0, 1), (1, .getfield 43, 3), (4, .iload_n 1, 1), (5, .iconst 2, 1), (6, .iadd, 1), (7, .invokestatic 78, 3), (10, .istore_n 2, 1), (11, .aload_n 0, 1), (12, .getfield 43, 3), (15, .iload_n 2, 1), (16, .invokestatic 78, 3), (19, .istore_n 3, 1), (20, .aload_n 0, 1), (21, .iload_n 1, 1), (22, .iconst 1, 1), (23, .iadd, 1), (24, .iload_n 2, 1), (25, .invokevirtual 88, 3), (28, .pop, 1), (29, .iconst 0, 1), (30, .istore 4, 2), (32, .iload_n 1, 1), (33, .iconst 2, 1), (34, .iadd, 1), (35, .istore 5, 2), (37, .iload 5, 2), (39, .iload_n 2, 1), (40, .if_icmp .ge 72, 3), (43, .aload_n 0, 1), (44, .getfield 43, 3), (47, .iload 5, 2), (49, .laload, 1), (50, .lconst 0, 1), (51, .lcmp, 1), (52, .ifCond .ge 54, 3), (55, .aload_n 0, 1), (56, .iload 5, 2), (58, .iconst 1, 1), (59, .iadd, 1), (60, .aload_n 0, 1), (61, .getfield 43, 3), (64, .iload 5, 2), (66, .invokestatic 78, 3), (69, .invokevirtual 117, 3), (72, .ifCond .eq 34, 3), (75, .aload_n 0, 1), (76, .aload_n 0, 1), (77, .getfield 43, 3), (80, .iload 5, 2), (82, .laload, 1), (83, .lneg, 1), (84, .iload_n 2, 1), (85, .iload_n 3, 1), (86, .invokevirtual 114, 3), (89, .ifCond .ne 6, 3), (92, .goto 14, 3), (95, .aload_n 0, 1), (96, .iload 5, 2), (98, .iload_n 2, 1), (99, .iload_n 3, 1), (100, .invokevirtual 121, 3), (103, .iinc 4 1, 3), (106, .iinc 5 1, 3), (109, .goto (-72), 3), (112, .iload 4, 2), (114, .ireturn, 1)]
set_option maxRecDepth 100000 in
theorem qX13_renameAll : ∀ q ∈ tX13_renameAll, decode cX13_renameAll q.1 = .ok (q.2.1, q.2.2) := by decide +kernel
noncomputable def kX13_renameAll_37 (d : Nat) (p0 : Nat) (o1 : Option Value) (i2 : Int32) (i3 : Int32) (i4 : Int32) (i5 : Int32) (h : jm_H) : Option jm_R := jm_B d mX13_renameAll (37, [some (.ref p0), o1, some (.int i2), some (.int i3), some (.int i4), some (.int i5)], []) h
theorem gX13_renameAll_37 {d : Nat} {p0 : Nat} {o1 : Option Value} {i2 : Int32} {i3 : Int32} {i4 : Int32} {i5 : Int32} {h : jm_H} {r : jm_R} (H : ((if i5 < i2 then (jr_R h p0 12 18 2).bind fun a22 => (jm_all h a22 i5).bind fun y24 => (if (lg_cmp y24 0) < 0 then (jr_R h p0 12 18 2).bind fun a27 => jc_I (jm_D d mX13_end [.ref a27, .int i5] h) (fun x31 h29 => jm_O h29 p0 13 (jc_I (jm_D d mX13_hasTarget [.ref p0, .int (i5 + 1), .int x31] h29) (fun x34 h32 => (if x34 = 0 then kX13_renameAll_37 d p0 o1 i2 i3 i4 (i5 + 1) h32 else (jr_R h32 p0 12 18 2).bind fun a36 => (jm_all h32 a36 i5).bind fun y38 => jm_O h32 p0 13 (jc_I (jm_D d mX13_isOpenIn [.ref p0, .long (-y38), .int i2, .int i3] h32) (fun x42 h40 => (if x42 = 0 then kX13_renameAll_37 d p0 o1 i2 i3 i4 (i5 + 1) h40 else jm_O h40 p0 13 (jc_V (jm_D d mX13_rename [.ref p0, .int i5, .int i2, .int i3] h40) (fun h44 => kX13_renameAll_37 d p0 o1 i2 i3 (i4 + 1) (i5 + 1) h44) jx))) jx))) jx)) jx else kX13_renameAll_37 d p0 o1 i2 i3 i4 (i5 + 1) h) else some (.inl (some (.int i4)), h))) = some r) : kX13_renameAll_37 d p0 o1 i2 i3 i4 i5 h = some r := by
  show jm_B d mX13_renameAll (37, [some (.ref p0), o1, some (.int i2), some (.int i3), some (.int i4), some (.int i5)], []) h = some r
  refine Eq.trans (jb_nx (i := .iload 5) (n := 2) (q := (39, [some (.ref p0), o1, some (.int i2), some (.int i3), some (.int i4), some (.int i5)], [.int i5])) (jq qX13_renameAll 25 rfl) rfl) ?_
  refine Eq.trans (jb_nx (i := .iload_n 2) (n := 1) (q := (40, [some (.ref p0), o1, some (.int i2), some (.int i3), some (.int i4), some (.int i5)], [.int i2, .int i5])) (jq qX13_renameAll 26 rfl) rfl) ?_
  by_cases c21 : i5 < i2
  · rw [if_pos c21] at H
    refine Eq.trans (jb_nx (i := .if_icmp .ge 72) (n := 3) (q := (43, [some (.ref p0), o1, some (.int i2), some (.int i3), some (.int i4), some (.int i5)], [])) (jq qX13_renameAll 27 rfl) (jo_icF (jz_geF c21))) ?_
    refine Eq.trans (jb_nx (i := .aload_n 0) (n := 1) (q := (44, [some (.ref p0), o1, some (.int i2), some (.int i3), some (.int i4), some (.int i5)], [.ref p0])) (jq qX13_renameAll 28 rfl) rfl) ?_
    obtain ⟨a22, e23, H⟩ := jbd H
    refine Eq.trans (jb_nx (i := .getfield 43) (n := 3) (q := (47, [some (.ref p0), o1, some (.int i2), some (.int i3), some (.int i4), some (.int i5)], [.ref a22])) (jq qX13_renameAll 29 rfl) (jo_gf rfl (jr_R_inv e23))) ?_
    refine Eq.trans (jb_nx (i := .iload 5) (n := 2) (q := (49, [some (.ref p0), o1, some (.int i2), some (.int i3), some (.int i4), some (.int i5)], [.int i5, .ref a22])) (jq qX13_renameAll 30 rfl) rfl) ?_
    obtain ⟨y24, e25, H⟩ := jbd H
    refine Eq.trans (jb_nx (i := .laload) (n := 1) (q := (50, [some (.ref p0), o1, some (.int i2), some (.int i3), some (.int i4), some (.int i5)], [.long y24])) (jq qX13_renameAll 31 rfl) (jo_lal e25)) ?_
    refine Eq.trans (jb_nx (i := .lconst 0) (n := 1) (q := (51, [some (.ref p0), o1, some (.int i2), some (.int i3), some (.int i4), some (.int i5)], [.long 0, .long y24])) (jq qX13_renameAll 32 rfl) rfl) ?_
    refine Eq.trans (jb_nx (i := .lcmp) (n := 1) (q := (52, [some (.ref p0), o1, some (.int i2), some (.int i3), some (.int i4), some (.int i5)], [.int (lg_cmp y24 0)])) (jq qX13_renameAll 33 rfl) rfl) ?_
    by_cases c26 : (lg_cmp y24 0) < 0
    · rw [if_pos c26] at H
      refine Eq.trans (jb_nx (i := .ifCond .ge 54) (n := 3) (q := (55, [some (.ref p0), o1, some (.int i2), some (.int i3), some (.int i4), some (.int i5)], [])) (jq qX13_renameAll 34 rfl) (jo_ifF (jz_geF c26))) ?_
      refine Eq.trans (jb_nx (i := .aload_n 0) (n := 1) (q := (56, [some (.ref p0), o1, some (.int i2), some (.int i3), some (.int i4), some (.int i5)], [.ref p0])) (jq qX13_renameAll 35 rfl) rfl) ?_
      refine Eq.trans (jb_nx (i := .iload 5) (n := 2) (q := (58, [some (.ref p0), o1, some (.int i2), some (.int i3), some (.int i4), some (.int i5)], [.int i5, .ref p0])) (jq qX13_renameAll 36 rfl) rfl) ?_
      refine Eq.trans (jb_nx (i := .iconst 1) (n := 1) (q := (59, [some (.ref p0), o1, some (.int i2), some (.int i3), some (.int i4), some (.int i5)], [.int 1, .int i5, .ref p0])) (jq qX13_renameAll 37 rfl) rfl) ?_
      refine Eq.trans (jb_nx (i := .iadd) (n := 1) (q := (60, [some (.ref p0), o1, some (.int i2), some (.int i3), some (.int i4), some (.int i5)], [.int (i5 + 1), .ref p0])) (jq qX13_renameAll 38 rfl) rfl) ?_
      refine Eq.trans (jb_nx (i := .aload_n 0) (n := 1) (q := (61, [some (.ref p0), o1, some (.int i2), some (.int i3), some (.int i4), some (.int i5)], [.ref p0, .int (i5 + 1), .ref p0])) (jq qX13_renameAll 39 rfl) rfl) ?_
      obtain ⟨a27, e28, H⟩ := jbd H
      refine Eq.trans (jb_nx (i := .getfield 43) (n := 3) (q := (64, [some (.ref p0), o1, some (.int i2), some (.int i3), some (.int i4), some (.int i5)], [.ref a27, .int (i5 + 1), .ref p0])) (jq qX13_renameAll 40 rfl) (jo_gf rfl (jr_R_inv e28))) ?_
      refine Eq.trans (jb_nx (i := .iload 5) (n := 2) (q := (66, [some (.ref p0), o1, some (.int i2), some (.int i3), some (.int i4), some (.int i5)], [.int i5, .ref a27, .int (i5 + 1), .ref p0])) (jq qX13_renameAll 41 rfl) rfl) ?_
      rcases jcI H with ⟨x31, h29, r30, H⟩ | ⟨w55, h56, r30, H⟩
      · refine Eq.trans (jb_nx (i := .invokestatic 78) (n := 3) (q := (69, [some (.ref p0), o1, some (.int i2), some (.int i3), some (.int i4), some (.int i5)], [.int x31, .int (i5 + 1), .ref p0])) (jq qX13_renameAll 42 rfl) (jo_cs (y := mX13_end) (w := 1) (by decide) rfl (Nat.le_of_ble_eq_true rfl) rfl (Nat.le_of_ble_eq_true rfl) rfl r30 jo_ret)) ?_
        obtain ⟨b52, H⟩ := jm_O_inv H
        rcases jcI H with ⟨x34, h32, r33, H⟩ | ⟨w53, h54, r33, H⟩
        · refine Eq.trans (jb_nx (i := .invokevirtual 117) (n := 3) (q := (72, [some (.ref p0), o1, some (.int i2), some (.int i3), some (.int i4), some (.int i5)], [.int x34])) (jq qX13_renameAll 43 rfl) (jo_cv (y := mX13_hasTarget) rfl (Nat.le_of_ble_eq_true rfl) rfl (Nat.le_of_ble_eq_true rfl) b52 rfl r33 jo_ret)) ?_
          by_cases c35 : x34 = 0
          · rw [if_pos c35] at H
            refine Eq.trans (jb_nx (i := .ifCond .eq 34) (n := 3) (q := (106, [some (.ref p0), o1, some (.int i2), some (.int i3), some (.int i4), some (.int i5)], [])) (jq qX13_renameAll 44 rfl) (jo_ifT (jz_eqT c35) rfl)) ?_
            refine Eq.trans (jb_nx (i := .iinc 5 1) (n := 3) (q := (109, [some (.ref p0), o1, some (.int i2), some (.int i3), some (.int i4), some (.int (i5 + 1))], [])) (jq qX13_renameAll 62 rfl) rfl) ?_
            refine Eq.trans (jb_nx (i := .goto (-72)) (n := 3) (q := (37, [some (.ref p0), o1, some (.int i2), some (.int i3), some (.int i4), some (.int (i5 + 1))], [])) (jq qX13_renameAll 63 rfl) rfl) ?_
            exact H
          · rw [if_neg c35] at H
            refine Eq.trans (jb_nx (i := .ifCond .eq 34) (n := 3) (q := (75, [some (.ref p0), o1, some (.int i2), some (.int i3), some (.int i4), some (.int i5)], [])) (jq qX13_renameAll 44 rfl) (jo_ifF (jz_eqF c35))) ?_
            refine Eq.trans (jb_nx (i := .aload_n 0) (n := 1) (q := (76, [some (.ref p0), o1, some (.int i2), some (.int i3), some (.int i4), some (.int i5)], [.ref p0])) (jq qX13_renameAll 45 rfl) rfl) ?_
            refine Eq.trans (jb_nx (i := .aload_n 0) (n := 1) (q := (77, [some (.ref p0), o1, some (.int i2), some (.int i3), some (.int i4), some (.int i5)], [.ref p0, .ref p0])) (jq qX13_renameAll 46 rfl) rfl) ?_
            obtain ⟨a36, e37, H⟩ := jbd H
            refine Eq.trans (jb_nx (i := .getfield 43) (n := 3) (q := (80, [some (.ref p0), o1, some (.int i2), some (.int i3), some (.int i4), some (.int i5)], [.ref a36, .ref p0])) (jq qX13_renameAll 47 rfl) (jo_gf rfl (jr_R_inv e37))) ?_
            refine Eq.trans (jb_nx (i := .iload 5) (n := 2) (q := (82, [some (.ref p0), o1, some (.int i2), some (.int i3), some (.int i4), some (.int i5)], [.int i5, .ref a36, .ref p0])) (jq qX13_renameAll 48 rfl) rfl) ?_
            obtain ⟨y38, e39, H⟩ := jbd H
            refine Eq.trans (jb_nx (i := .laload) (n := 1) (q := (83, [some (.ref p0), o1, some (.int i2), some (.int i3), some (.int i4), some (.int i5)], [.long y38, .ref p0])) (jq qX13_renameAll 49 rfl) (jo_lal e39)) ?_
            refine Eq.trans (jb_nx (i := .lneg) (n := 1) (q := (84, [some (.ref p0), o1, some (.int i2), some (.int i3), some (.int i4), some (.int i5)], [.long (-y38), .ref p0])) (jq qX13_renameAll 50 rfl) rfl) ?_
            refine Eq.trans (jb_nx (i := .iload_n 2) (n := 1) (q := (85, [some (.ref p0), o1, some (.int i2), some (.int i3), some (.int i4), some (.int i5)], [.int i2, .long (-y38), .ref p0])) (jq qX13_renameAll 51 rfl) rfl) ?_
            refine Eq.trans (jb_nx (i := .iload_n 3) (n := 1) (q := (86, [some (.ref p0), o1, some (.int i2), some (.int i3), some (.int i4), some (.int i5)], [.int i3, .int i2, .long (-y38), .ref p0])) (jq qX13_renameAll 52 rfl) rfl) ?_
            obtain ⟨b49, H⟩ := jm_O_inv H
            rcases jcI H with ⟨x42, h40, r41, H⟩ | ⟨w50, h51, r41, H⟩
            · refine Eq.trans (jb_nx (i := .invokevirtual 114) (n := 3) (q := (89, [some (.ref p0), o1, some (.int i2), some (.int i3), some (.int i4), some (.int i5)], [.int x42])) (jq qX13_renameAll 53 rfl) (jo_cv (y := mX13_isOpenIn) rfl (Nat.le_of_ble_eq_true rfl) rfl (Nat.le_of_ble_eq_true rfl) b49 rfl r41 jo_ret)) ?_
              by_cases c43 : x42 = 0
              · rw [if_pos c43] at H
                refine Eq.trans (jb_nx (i := .ifCond .ne 6) (n := 3) (q := (92, [some (.ref p0), o1, some (.int i2), some (.int i3), some (.int i4), some (.int i5)], [])) (jq qX13_renameAll 54 rfl) (jo_ifF (jz_neF c43))) ?_
                refine Eq.trans (jb_nx (i := .goto 14) (n := 3) (q := (106, [some (.ref p0), o1, some (.int i2), some (.int i3), some (.int i4), some (.int i5)], [])) (jq qX13_renameAll 55 rfl) rfl) ?_
                refine Eq.trans (jb_nx (i := .iinc 5 1) (n := 3) (q := (109, [some (.ref p0), o1, some (.int i2), some (.int i3), some (.int i4), some (.int (i5 + 1))], [])) (jq qX13_renameAll 62 rfl) rfl) ?_
                refine Eq.trans (jb_nx (i := .goto (-72)) (n := 3) (q := (37, [some (.ref p0), o1, some (.int i2), some (.int i3), some (.int i4), some (.int (i5 + 1))], [])) (jq qX13_renameAll 63 rfl) rfl) ?_
                exact H
              · rw [if_neg c43] at H
                refine Eq.trans (jb_nx (i := .ifCond .ne 6) (n := 3) (q := (95, [some (.ref p0), o1, some (.int i2), some (.int i3), some (.int i4), some (.int i5)], [])) (jq qX13_renameAll 54 rfl) (jo_ifT (jz_neT c43) rfl)) ?_
                refine Eq.trans (jb_nx (i := .aload_n 0) (n := 1) (q := (96, [some (.ref p0), o1, some (.int i2), some (.int i3), some (.int i4), some (.int i5)], [.ref p0])) (jq qX13_renameAll 56 rfl) rfl) ?_
                refine Eq.trans (jb_nx (i := .iload 5) (n := 2) (q := (98, [some (.ref p0), o1, some (.int i2), some (.int i3), some (.int i4), some (.int i5)], [.int i5, .ref p0])) (jq qX13_renameAll 57 rfl) rfl) ?_
                refine Eq.trans (jb_nx (i := .iload_n 2) (n := 1) (q := (99, [some (.ref p0), o1, some (.int i2), some (.int i3), some (.int i4), some (.int i5)], [.int i2, .int i5, .ref p0])) (jq qX13_renameAll 58 rfl) rfl) ?_
                refine Eq.trans (jb_nx (i := .iload_n 3) (n := 1) (q := (100, [some (.ref p0), o1, some (.int i2), some (.int i3), some (.int i4), some (.int i5)], [.int i3, .int i2, .int i5, .ref p0])) (jq qX13_renameAll 59 rfl) rfl) ?_
                obtain ⟨b46, H⟩ := jm_O_inv H
                rcases jcV H with ⟨h44, r45, H⟩ | ⟨w47, h48, r45, H⟩
                · refine Eq.trans (jb_nx (i := .invokevirtual 121) (n := 3) (q := (103, [some (.ref p0), o1, some (.int i2), some (.int i3), some (.int i4), some (.int i5)], [])) (jq qX13_renameAll 60 rfl) (jo_cv (y := mX13_rename) rfl (Nat.le_of_ble_eq_true rfl) rfl (Nat.le_of_ble_eq_true rfl) b46 rfl r45 jo_ret)) ?_
                  refine Eq.trans (jb_nx (i := .iinc 4 1) (n := 3) (q := (106, [some (.ref p0), o1, some (.int i2), some (.int i3), some (.int (i4 + 1)), some (.int i5)], [])) (jq qX13_renameAll 61 rfl) rfl) ?_
                  refine Eq.trans (jb_nx (i := .iinc 5 1) (n := 3) (q := (109, [some (.ref p0), o1, some (.int i2), some (.int i3), some (.int (i4 + 1)), some (.int (i5 + 1))], [])) (jq qX13_renameAll 62 rfl) rfl) ?_
                  refine Eq.trans (jb_nx (i := .goto (-72)) (n := 3) (q := (37, [some (.ref p0), o1, some (.int i2), some (.int i3), some (.int (i4 + 1)), some (.int (i5 + 1))], [])) (jq qX13_renameAll 63 rfl) rfl) ?_
                  exact H
                · exact Eq.trans (jb_rt (i := .invokevirtual 121) (n := 3) (jq qX13_renameAll 60 rfl) (jo_cv (y := mX13_rename) rfl (Nat.le_of_ble_eq_true rfl) rfl (Nat.le_of_ble_eq_true rfl) b46 rfl r45 (jo_exn rfl))) H
            · exact Eq.trans (jb_rt (i := .invokevirtual 114) (n := 3) (jq qX13_renameAll 53 rfl) (jo_cv (y := mX13_isOpenIn) rfl (Nat.le_of_ble_eq_true rfl) rfl (Nat.le_of_ble_eq_true rfl) b49 rfl r41 (jo_exn rfl))) H
        · exact Eq.trans (jb_rt (i := .invokevirtual 117) (n := 3) (jq qX13_renameAll 43 rfl) (jo_cv (y := mX13_hasTarget) rfl (Nat.le_of_ble_eq_true rfl) rfl (Nat.le_of_ble_eq_true rfl) b52 rfl r33 (jo_exn rfl))) H
      · exact Eq.trans (jb_rt (i := .invokestatic 78) (n := 3) (jq qX13_renameAll 42 rfl) (jo_cs (y := mX13_end) (w := 1) (by decide) rfl (Nat.le_of_ble_eq_true rfl) rfl (Nat.le_of_ble_eq_true rfl) rfl r30 (jo_exn rfl))) H
    · rw [if_neg c26] at H
      refine Eq.trans (jb_nx (i := .ifCond .ge 54) (n := 3) (q := (106, [some (.ref p0), o1, some (.int i2), some (.int i3), some (.int i4), some (.int i5)], [])) (jq qX13_renameAll 34 rfl) (jo_ifT (jz_geT c26) rfl)) ?_
      refine Eq.trans (jb_nx (i := .iinc 5 1) (n := 3) (q := (109, [some (.ref p0), o1, some (.int i2), some (.int i3), some (.int i4), some (.int (i5 + 1))], [])) (jq qX13_renameAll 62 rfl) rfl) ?_
      refine Eq.trans (jb_nx (i := .goto (-72)) (n := 3) (q := (37, [some (.ref p0), o1, some (.int i2), some (.int i3), some (.int i4), some (.int (i5 + 1))], [])) (jq qX13_renameAll 63 rfl) rfl) ?_
      exact H
  · rw [if_neg c21] at H
    refine Eq.trans (jb_nx (i := .if_icmp .ge 72) (n := 3) (q := (112, [some (.ref p0), o1, some (.int i2), some (.int i3), some (.int i4), some (.int i5)], [])) (jq qX13_renameAll 27 rfl) (jo_icT (jz_geT c21) rfl)) ?_
    refine Eq.trans (jb_nx (i := .iload 4) (n := 2) (q := (114, [some (.ref p0), o1, some (.int i2), some (.int i3), some (.int i4), some (.int i5)], [.int i4])) (jq qX13_renameAll 64 rfl) rfl) ?_
    exact Eq.trans (jb_rt (i := .ireturn) (n := 1) (jq qX13_renameAll 65 rfl) (jo_iret rfl rfl)) H
theorem gX13_renameAll {d : Nat} {p0 : Nat} {i1 : Int32} {h : jm_H} {r : jm_R} (H : ((jr_R h p0 12 18 2).bind fun a1 => jc_I (jm_D d mX13_end [.ref a1, .int (i1 + 2)] h) (fun x5 h3 => (jr_R h3 p0 12 18 2).bind fun a6 => jc_I (jm_D d mX13_end [.ref a6, .int x5] h3) (fun x10 h8 => jm_O h8 p0 13 (jc_I (jm_D d mX13_markTargets [.ref p0, .int (i1 + 1), .int x5] h8) (fun x13 h11 => kX13_renameAll_37 d p0 (some (.int i1)) x5 x10 0 (i1 + 2) h11) jx)) jx) jx) = some r) : jm_D (d + 1) mX13_renameAll [.ref p0, .int i1] h = some r := by
  rw [jm_D_body (Nat.le_of_ble_eq_true rfl)]
  show jm_B d mX13_renameAll (0, [some (.ref p0), some (.int i1), none, none, none, none], []) h = some r
  refine Eq.trans (jb_nx (i := .aload_n 0) (n := 1) (q := (1, [some (.ref p0), some (.int i1), none, none, none, none], [.ref p0])) (jq qX13_renameAll 0 rfl) rfl) ?_
  obtain ⟨a1, e2, H⟩ := jbd H
  refine Eq.trans (jb_nx (i := .getfield 43) (n := 3) (q := (4, [some (.ref p0), some (.int i1), none, none, none, none], [.ref a1])) (jq qX13_renameAll 1 rfl) (jo_gf rfl (jr_R_inv e2))) ?_
  refine Eq.trans (jb_nx (i := .iload_n 1) (n := 1) (q := (5, [some (.ref p0), some (.int i1), none, none, none, none], [.int i1, .ref a1])) (jq qX13_renameAll 2 rfl) rfl) ?_
  refine Eq.trans (jb_nx (i := .iconst 2) (n := 1) (q := (6, [some (.ref p0), some (.int i1), none, none, none, none], [.int 2, .int i1, .ref a1])) (jq qX13_renameAll 3 rfl) rfl) ?_
  refine Eq.trans (jb_nx (i := .iadd) (n := 1) (q := (7, [some (.ref p0), some (.int i1), none, none, none, none], [.int (i1 + 2), .ref a1])) (jq qX13_renameAll 4 rfl) rfl) ?_
  rcases jcI H with ⟨x5, h3, r4, H⟩ | ⟨w19, h20, r4, H⟩
  · refine Eq.trans (jb_nx (i := .invokestatic 78) (n := 3) (q := (10, [some (.ref p0), some (.int i1), none, none, none, none], [.int x5])) (jq qX13_renameAll 5 rfl) (jo_cs (y := mX13_end) (w := 1) (by decide) rfl (Nat.le_of_ble_eq_true rfl) rfl (Nat.le_of_ble_eq_true rfl) rfl r4 jo_ret)) ?_
    refine Eq.trans (jb_nx (i := .istore_n 2) (n := 1) (q := (11, [some (.ref p0), some (.int i1), some (.int x5), none, none, none], [])) (jq qX13_renameAll 6 rfl) rfl) ?_
    refine Eq.trans (jb_nx (i := .aload_n 0) (n := 1) (q := (12, [some (.ref p0), some (.int i1), some (.int x5), none, none, none], [.ref p0])) (jq qX13_renameAll 7 rfl) rfl) ?_
    obtain ⟨a6, e7, H⟩ := jbd H
    refine Eq.trans (jb_nx (i := .getfield 43) (n := 3) (q := (15, [some (.ref p0), some (.int i1), some (.int x5), none, none, none], [.ref a6])) (jq qX13_renameAll 8 rfl) (jo_gf rfl (jr_R_inv e7))) ?_
    refine Eq.trans (jb_nx (i := .iload_n 2) (n := 1) (q := (16, [some (.ref p0), some (.int i1), some (.int x5), none, none, none], [.int x5, .ref a6])) (jq qX13_renameAll 9 rfl) rfl) ?_
    rcases jcI H with ⟨x10, h8, r9, H⟩ | ⟨w17, h18, r9, H⟩
    · refine Eq.trans (jb_nx (i := .invokestatic 78) (n := 3) (q := (19, [some (.ref p0), some (.int i1), some (.int x5), none, none, none], [.int x10])) (jq qX13_renameAll 10 rfl) (jo_cs (y := mX13_end) (w := 1) (by decide) rfl (Nat.le_of_ble_eq_true rfl) rfl (Nat.le_of_ble_eq_true rfl) rfl r9 jo_ret)) ?_
      refine Eq.trans (jb_nx (i := .istore_n 3) (n := 1) (q := (20, [some (.ref p0), some (.int i1), some (.int x5), some (.int x10), none, none], [])) (jq qX13_renameAll 11 rfl) rfl) ?_
      refine Eq.trans (jb_nx (i := .aload_n 0) (n := 1) (q := (21, [some (.ref p0), some (.int i1), some (.int x5), some (.int x10), none, none], [.ref p0])) (jq qX13_renameAll 12 rfl) rfl) ?_
      refine Eq.trans (jb_nx (i := .iload_n 1) (n := 1) (q := (22, [some (.ref p0), some (.int i1), some (.int x5), some (.int x10), none, none], [.int i1, .ref p0])) (jq qX13_renameAll 13 rfl) rfl) ?_
      refine Eq.trans (jb_nx (i := .iconst 1) (n := 1) (q := (23, [some (.ref p0), some (.int i1), some (.int x5), some (.int x10), none, none], [.int 1, .int i1, .ref p0])) (jq qX13_renameAll 14 rfl) rfl) ?_
      refine Eq.trans (jb_nx (i := .iadd) (n := 1) (q := (24, [some (.ref p0), some (.int i1), some (.int x5), some (.int x10), none, none], [.int (i1 + 1), .ref p0])) (jq qX13_renameAll 15 rfl) rfl) ?_
      refine Eq.trans (jb_nx (i := .iload_n 2) (n := 1) (q := (25, [some (.ref p0), some (.int i1), some (.int x5), some (.int x10), none, none], [.int x5, .int (i1 + 1), .ref p0])) (jq qX13_renameAll 16 rfl) rfl) ?_
      obtain ⟨b14, H⟩ := jm_O_inv H
      rcases jcI H with ⟨x13, h11, r12, H⟩ | ⟨w15, h16, r12, H⟩
      · refine Eq.trans (jb_nx (i := .invokevirtual 88) (n := 3) (q := (28, [some (.ref p0), some (.int i1), some (.int x5), some (.int x10), none, none], [.int x13])) (jq qX13_renameAll 17 rfl) (jo_cv (y := mX13_markTargets) rfl (Nat.le_of_ble_eq_true rfl) rfl (Nat.le_of_ble_eq_true rfl) b14 rfl r12 jo_ret)) ?_
        refine Eq.trans (jb_nx (i := .pop) (n := 1) (q := (29, [some (.ref p0), some (.int i1), some (.int x5), some (.int x10), none, none], [])) (jq qX13_renameAll 18 rfl) rfl) ?_
        refine Eq.trans (jb_nx (i := .iconst 0) (n := 1) (q := (30, [some (.ref p0), some (.int i1), some (.int x5), some (.int x10), none, none], [.int 0])) (jq qX13_renameAll 19 rfl) rfl) ?_
        refine Eq.trans (jb_nx (i := .istore 4) (n := 2) (q := (32, [some (.ref p0), some (.int i1), some (.int x5), some (.int x10), some (.int 0), none], [])) (jq qX13_renameAll 20 rfl) rfl) ?_
        refine Eq.trans (jb_nx (i := .iload_n 1) (n := 1) (q := (33, [some (.ref p0), some (.int i1), some (.int x5), some (.int x10), some (.int 0), none], [.int i1])) (jq qX13_renameAll 21 rfl) rfl) ?_
        refine Eq.trans (jb_nx (i := .iconst 2) (n := 1) (q := (34, [some (.ref p0), some (.int i1), some (.int x5), some (.int x10), some (.int 0), none], [.int 2, .int i1])) (jq qX13_renameAll 22 rfl) rfl) ?_
        refine Eq.trans (jb_nx (i := .iadd) (n := 1) (q := (35, [some (.ref p0), some (.int i1), some (.int x5), some (.int x10), some (.int 0), none], [.int (i1 + 2)])) (jq qX13_renameAll 23 rfl) rfl) ?_
        refine Eq.trans (jb_nx (i := .istore 5) (n := 2) (q := (37, [some (.ref p0), some (.int i1), some (.int x5), some (.int x10), some (.int 0), some (.int (i1 + 2))], [])) (jq qX13_renameAll 24 rfl) rfl) ?_
        exact H
      · exact Eq.trans (jb_rt (i := .invokevirtual 88) (n := 3) (jq qX13_renameAll 17 rfl) (jo_cv (y := mX13_markTargets) rfl (Nat.le_of_ble_eq_true rfl) rfl (Nat.le_of_ble_eq_true rfl) b14 rfl r12 (jo_exn rfl))) H
    · exact Eq.trans (jb_rt (i := .invokestatic 78) (n := 3) (jq qX13_renameAll 10 rfl) (jo_cs (y := mX13_end) (w := 1) (by decide) rfl (Nat.le_of_ble_eq_true rfl) rfl (Nat.le_of_ble_eq_true rfl) rfl r9 (jo_exn rfl))) H
  · exact Eq.trans (jb_rt (i := .invokestatic 78) (n := 3) (jq qX13_renameAll 5 rfl) (jo_cs (y := mX13_end) (w := 1) (by decide) rfl (Nat.le_of_ble_eq_true rfl) rfl (Nat.le_of_ble_eq_true rfl) rfl r4 (jo_exn rfl))) H
/-! MaskPlaysModel hasTarget (II)Z -/
def tX13_hasTarget : List (Nat × Instr × Nat) := [(0, .iload_n 1, 1), (1, .istore_n 3, 1), (2, .iload_n 3, 1), (3, .iload_n 2, 1), (4, .if_icmp .ge 20, 3), (7, .aload_n 0, 1), (8, .getfield 52, 3), (11, .iload_n 3, 1), (12, .baload, 1), (13, .ifCond .eq 5, 3), (16, .iconst 1, 1), (17, .ireturn, 1), (18, .iinc 3 1, 3), (21, .goto (-19), 3), (24, .iconst 0, 1), (25, .ireturn, 1)]
set_option maxRecDepth 100000 in
theorem qX13_hasTarget : ∀ q ∈ tX13_hasTarget, decode cX13_hasTarget q.1 = .ok (q.2.1, q.2.2) := by decide +kernel
noncomputable def kX13_hasTarget_2 (d : Nat) (p0 : Nat) (o1 : Option Value) (i2 : Int32) (i3 : Int32) (h : jm_H) : Option jm_R := jm_B d mX13_hasTarget (2, [some (.ref p0), o1, some (.int i2), some (.int i3)], []) h
theorem gX13_hasTarget_2 {d : Nat} {p0 : Nat} {o1 : Option Value} {i2 : Int32} {i3 : Int32} {h : jm_H} {r : jm_R} (H : ((if i3 < i2 then (jr_R h p0 12 22 2).bind fun a2 => (jm_ali h a2 3 i3).bind fun x4 => (if x4 = 0 then kX13_hasTarget_2 d p0 o1 i2 (i3 + 1) h else some (.inl (some (.int 1)), h)) else some (.inl (some (.int 0)), h))) = some r) : kX13_hasTarget_2 d p0 o1 i2 i3 h = some r := by
  show jm_B d mX13_hasTarget (2, [some (.ref p0), o1, some (.int i2), some (.int i3)], []) h = some r
  refine Eq.trans (jb_nx (i := .iload_n 3) (n := 1) (q := (3, [some (.ref p0), o1, some (.int i2), some (.int i3)], [.int i3])) (jq qX13_hasTarget 2 rfl) rfl) ?_
  refine Eq.trans (jb_nx (i := .iload_n 2) (n := 1) (q := (4, [some (.ref p0), o1, some (.int i2), some (.int i3)], [.int i2, .int i3])) (jq qX13_hasTarget 3 rfl) rfl) ?_
  by_cases c1 : i3 < i2
  · rw [if_pos c1] at H
    refine Eq.trans (jb_nx (i := .if_icmp .ge 20) (n := 3) (q := (7, [some (.ref p0), o1, some (.int i2), some (.int i3)], [])) (jq qX13_hasTarget 4 rfl) (jo_icF (jz_geF c1))) ?_
    refine Eq.trans (jb_nx (i := .aload_n 0) (n := 1) (q := (8, [some (.ref p0), o1, some (.int i2), some (.int i3)], [.ref p0])) (jq qX13_hasTarget 5 rfl) rfl) ?_
    obtain ⟨a2, e3, H⟩ := jbd H
    refine Eq.trans (jb_nx (i := .getfield 52) (n := 3) (q := (11, [some (.ref p0), o1, some (.int i2), some (.int i3)], [.ref a2])) (jq qX13_hasTarget 6 rfl) (jo_gf rfl (jr_R_inv e3))) ?_
    refine Eq.trans (jb_nx (i := .iload_n 3) (n := 1) (q := (12, [some (.ref p0), o1, some (.int i2), some (.int i3)], [.int i3, .ref a2])) (jq qX13_hasTarget 7 rfl) rfl) ?_
    obtain ⟨x4, e5, H⟩ := jbd H
    refine Eq.trans (jb_nx (i := .baload) (n := 1) (q := (13, [some (.ref p0), o1, some (.int i2), some (.int i3)], [.int x4])) (jq qX13_hasTarget 8 rfl) (jo_zal e5)) ?_
    by_cases c6 : x4 = 0
    · rw [if_pos c6] at H
      refine Eq.trans (jb_nx (i := .ifCond .eq 5) (n := 3) (q := (18, [some (.ref p0), o1, some (.int i2), some (.int i3)], [])) (jq qX13_hasTarget 9 rfl) (jo_ifT (jz_eqT c6) rfl)) ?_
      refine Eq.trans (jb_nx (i := .iinc 3 1) (n := 3) (q := (21, [some (.ref p0), o1, some (.int i2), some (.int (i3 + 1))], [])) (jq qX13_hasTarget 12 rfl) rfl) ?_
      refine Eq.trans (jb_nx (i := .goto (-19)) (n := 3) (q := (2, [some (.ref p0), o1, some (.int i2), some (.int (i3 + 1))], [])) (jq qX13_hasTarget 13 rfl) rfl) ?_
      exact H
    · rw [if_neg c6] at H
      refine Eq.trans (jb_nx (i := .ifCond .eq 5) (n := 3) (q := (16, [some (.ref p0), o1, some (.int i2), some (.int i3)], [])) (jq qX13_hasTarget 9 rfl) (jo_ifF (jz_eqF c6))) ?_
      refine Eq.trans (jb_nx (i := .iconst 1) (n := 1) (q := (17, [some (.ref p0), o1, some (.int i2), some (.int i3)], [.int 1])) (jq qX13_hasTarget 10 rfl) rfl) ?_
      exact Eq.trans (jb_rt (i := .ireturn) (n := 1) (jq qX13_hasTarget 11 rfl) (jo_iret rfl (by decide))) H
  · rw [if_neg c1] at H
    refine Eq.trans (jb_nx (i := .if_icmp .ge 20) (n := 3) (q := (24, [some (.ref p0), o1, some (.int i2), some (.int i3)], [])) (jq qX13_hasTarget 4 rfl) (jo_icT (jz_geT c1) rfl)) ?_
    refine Eq.trans (jb_nx (i := .iconst 0) (n := 1) (q := (25, [some (.ref p0), o1, some (.int i2), some (.int i3)], [.int 0])) (jq qX13_hasTarget 14 rfl) rfl) ?_
    exact Eq.trans (jb_rt (i := .ireturn) (n := 1) (jq qX13_hasTarget 15 rfl) (jo_iret rfl (by decide))) H
theorem gX13_hasTarget {d : Nat} {p0 : Nat} {i1 : Int32} {i2 : Int32} {h : jm_H} {r : jm_R} (H : (kX13_hasTarget_2 d p0 (some (.int i1)) i2 i1 h) = some r) : jm_D (d + 1) mX13_hasTarget [.ref p0, .int i1, .int i2] h = some r := by
  rw [jm_D_body (Nat.le_of_ble_eq_true rfl)]
  show jm_B d mX13_hasTarget (0, [some (.ref p0), some (.int i1), some (.int i2), none], []) h = some r
  refine Eq.trans (jb_nx (i := .iload_n 1) (n := 1) (q := (1, [some (.ref p0), some (.int i1), some (.int i2), none], [.int i1])) (jq qX13_hasTarget 0 rfl) rfl) ?_
  refine Eq.trans (jb_nx (i := .istore_n 3) (n := 1) (q := (2, [some (.ref p0), some (.int i1), some (.int i2), some (.int i1)], [])) (jq qX13_hasTarget 1 rfl) rfl) ?_
  exact H
/-! MaskPlaysModel isOpenIn (JII)Z -/
def tX13_isOpenIn : List (Nat × Instr × Nat) := [(0, .iload_n 3, 1), (1, .istore 5, 2), (3, .iload 5, 2), (5, .iload 4, 2), (7, .if_icmp .ge 36, 3), (10, .aload_n 0, 1), (11, .getfield 43, 3), (14, .iload 5, 2), (16, .laload, 1), (17, .lload_n 1, 1), (18, .lcmp, 1), (19, .ifCond .ne 18, 3), (22, .aload_n 0, 1), (23, .getfield 43, 3), (26, .iload 5, 2), (28, .invokestatic 85, 3), (31, .iload_n 3, 1), (32, .if_icmp .ge 5, 3), (35, .iconst 1, 1), (36, .ireturn, 1), (37, .iinc 5 1, 3), (40, .goto (-37), 3), (43, .iconst 0, 1), (44, .ireturn, 1)]
set_option maxRecDepth 100000 in
theorem qX13_isOpenIn : ∀ q ∈ tX13_isOpenIn, decode cX13_isOpenIn q.1 = .ok (q.2.1, q.2.2) := by decide +kernel
noncomputable def kX13_isOpenIn_3 (d : Nat) (p0 : Nat) (j1 : Int64) (i3 : Int32) (i4 : Int32) (i5 : Int32) (h : jm_H) : Option jm_R := jm_B d mX13_isOpenIn (3, [some (.ref p0), some (.long j1), none, some (.int i3), some (.int i4), some (.int i5)], []) h
theorem gX13_isOpenIn_3 {d : Nat} {p0 : Nat} {j1 : Int64} {i3 : Int32} {i4 : Int32} {i5 : Int32} {h : jm_H} {r : jm_R} (H : ((if i5 < i4 then (jr_R h p0 12 18 2).bind fun a2 => (jm_all h a2 i5).bind fun y4 => (if (lg_cmp y4 j1) = 0 then (jr_R h p0 12 18 2).bind fun a7 => jc_I (jm_D d mX13_owner [.ref a7, .int i5] h) (fun x11 h9 => (if x11 < i3 then some (.inl (some (.int 1)), h9) else kX13_isOpenIn_3 d p0 j1 i3 i4 (i5 + 1) h9)) jx else kX13_isOpenIn_3 d p0 j1 i3 i4 (i5 + 1) h) else some (.inl (some (.int 0)), h))) = some r) : kX13_isOpenIn_3 d p0 j1 i3 i4 i5 h = some r := by
  show jm_B d mX13_isOpenIn (3, [some (.ref p0), some (.long j1), none, some (.int i3), some (.int i4), some (.int i5)], []) h = some r
  refine Eq.trans (jb_nx (i := .iload 5) (n := 2) (q := (5, [some (.ref p0), some (.long j1), none, some (.int i3), some (.int i4), some (.int i5)], [.int i5])) (jq qX13_isOpenIn 2 rfl) rfl) ?_
  refine Eq.trans (jb_nx (i := .iload 4) (n := 2) (q := (7, [some (.ref p0), some (.long j1), none, some (.int i3), some (.int i4), some (.int i5)], [.int i4, .int i5])) (jq qX13_isOpenIn 3 rfl) rfl) ?_
  by_cases c1 : i5 < i4
  · rw [if_pos c1] at H
    refine Eq.trans (jb_nx (i := .if_icmp .ge 36) (n := 3) (q := (10, [some (.ref p0), some (.long j1), none, some (.int i3), some (.int i4), some (.int i5)], [])) (jq qX13_isOpenIn 4 rfl) (jo_icF (jz_geF c1))) ?_
    refine Eq.trans (jb_nx (i := .aload_n 0) (n := 1) (q := (11, [some (.ref p0), some (.long j1), none, some (.int i3), some (.int i4), some (.int i5)], [.ref p0])) (jq qX13_isOpenIn 5 rfl) rfl) ?_
    obtain ⟨a2, e3, H⟩ := jbd H
    refine Eq.trans (jb_nx (i := .getfield 43) (n := 3) (q := (14, [some (.ref p0), some (.long j1), none, some (.int i3), some (.int i4), some (.int i5)], [.ref a2])) (jq qX13_isOpenIn 6 rfl) (jo_gf rfl (jr_R_inv e3))) ?_
    refine Eq.trans (jb_nx (i := .iload 5) (n := 2) (q := (16, [some (.ref p0), some (.long j1), none, some (.int i3), some (.int i4), some (.int i5)], [.int i5, .ref a2])) (jq qX13_isOpenIn 7 rfl) rfl) ?_
    obtain ⟨y4, e5, H⟩ := jbd H
    refine Eq.trans (jb_nx (i := .laload) (n := 1) (q := (17, [some (.ref p0), some (.long j1), none, some (.int i3), some (.int i4), some (.int i5)], [.long y4])) (jq qX13_isOpenIn 8 rfl) (jo_lal e5)) ?_
    refine Eq.trans (jb_nx (i := .lload_n 1) (n := 1) (q := (18, [some (.ref p0), some (.long j1), none, some (.int i3), some (.int i4), some (.int i5)], [.long j1, .long y4])) (jq qX13_isOpenIn 9 rfl) rfl) ?_
    refine Eq.trans (jb_nx (i := .lcmp) (n := 1) (q := (19, [some (.ref p0), some (.long j1), none, some (.int i3), some (.int i4), some (.int i5)], [.int (lg_cmp y4 j1)])) (jq qX13_isOpenIn 10 rfl) rfl) ?_
    by_cases c6 : (lg_cmp y4 j1) = 0
    · rw [if_pos c6] at H
      refine Eq.trans (jb_nx (i := .ifCond .ne 18) (n := 3) (q := (22, [some (.ref p0), some (.long j1), none, some (.int i3), some (.int i4), some (.int i5)], [])) (jq qX13_isOpenIn 11 rfl) (jo_ifF (jz_neF c6))) ?_
      refine Eq.trans (jb_nx (i := .aload_n 0) (n := 1) (q := (23, [some (.ref p0), some (.long j1), none, some (.int i3), some (.int i4), some (.int i5)], [.ref p0])) (jq qX13_isOpenIn 12 rfl) rfl) ?_
      obtain ⟨a7, e8, H⟩ := jbd H
      refine Eq.trans (jb_nx (i := .getfield 43) (n := 3) (q := (26, [some (.ref p0), some (.long j1), none, some (.int i3), some (.int i4), some (.int i5)], [.ref a7])) (jq qX13_isOpenIn 13 rfl) (jo_gf rfl (jr_R_inv e8))) ?_
      refine Eq.trans (jb_nx (i := .iload 5) (n := 2) (q := (28, [some (.ref p0), some (.long j1), none, some (.int i3), some (.int i4), some (.int i5)], [.int i5, .ref a7])) (jq qX13_isOpenIn 14 rfl) rfl) ?_
      rcases jcI H with ⟨x11, h9, r10, H⟩ | ⟨w13, h14, r10, H⟩
      · refine Eq.trans (jb_nx (i := .invokestatic 85) (n := 3) (q := (31, [some (.ref p0), some (.long j1), none, some (.int i3), some (.int i4), some (.int i5)], [.int x11])) (jq qX13_isOpenIn 15 rfl) (jo_cs (y := mX13_owner) (w := 1) (by decide) rfl (Nat.le_of_ble_eq_true rfl) rfl (Nat.le_of_ble_eq_true rfl) rfl r10 jo_ret)) ?_
        refine Eq.trans (jb_nx (i := .iload_n 3) (n := 1) (q := (32, [some (.ref p0), some (.long j1), none, some (.int i3), some (.int i4), some (.int i5)], [.int i3, .int x11])) (jq qX13_isOpenIn 16 rfl) rfl) ?_
        by_cases c12 : x11 < i3
        · rw [if_pos c12] at H
          refine Eq.trans (jb_nx (i := .if_icmp .ge 5) (n := 3) (q := (35, [some (.ref p0), some (.long j1), none, some (.int i3), some (.int i4), some (.int i5)], [])) (jq qX13_isOpenIn 17 rfl) (jo_icF (jz_geF c12))) ?_
          refine Eq.trans (jb_nx (i := .iconst 1) (n := 1) (q := (36, [some (.ref p0), some (.long j1), none, some (.int i3), some (.int i4), some (.int i5)], [.int 1])) (jq qX13_isOpenIn 18 rfl) rfl) ?_
          exact Eq.trans (jb_rt (i := .ireturn) (n := 1) (jq qX13_isOpenIn 19 rfl) (jo_iret rfl (by decide))) H
        · rw [if_neg c12] at H
          refine Eq.trans (jb_nx (i := .if_icmp .ge 5) (n := 3) (q := (37, [some (.ref p0), some (.long j1), none, some (.int i3), some (.int i4), some (.int i5)], [])) (jq qX13_isOpenIn 17 rfl) (jo_icT (jz_geT c12) rfl)) ?_
          refine Eq.trans (jb_nx (i := .iinc 5 1) (n := 3) (q := (40, [some (.ref p0), some (.long j1), none, some (.int i3), some (.int i4), some (.int (i5 + 1))], [])) (jq qX13_isOpenIn 20 rfl) rfl) ?_
          refine Eq.trans (jb_nx (i := .goto (-37)) (n := 3) (q := (3, [some (.ref p0), some (.long j1), none, some (.int i3), some (.int i4), some (.int (i5 + 1))], [])) (jq qX13_isOpenIn 21 rfl) rfl) ?_
          exact H
      · exact Eq.trans (jb_rt (i := .invokestatic 85) (n := 3) (jq qX13_isOpenIn 15 rfl) (jo_cs (y := mX13_owner) (w := 1) (by decide) rfl (Nat.le_of_ble_eq_true rfl) rfl (Nat.le_of_ble_eq_true rfl) rfl r10 (jo_exn rfl))) H
    · rw [if_neg c6] at H
      refine Eq.trans (jb_nx (i := .ifCond .ne 18) (n := 3) (q := (37, [some (.ref p0), some (.long j1), none, some (.int i3), some (.int i4), some (.int i5)], [])) (jq qX13_isOpenIn 11 rfl) (jo_ifT (jz_neT c6) rfl)) ?_
      refine Eq.trans (jb_nx (i := .iinc 5 1) (n := 3) (q := (40, [some (.ref p0), some (.long j1), none, some (.int i3), some (.int i4), some (.int (i5 + 1))], [])) (jq qX13_isOpenIn 20 rfl) rfl) ?_
      refine Eq.trans (jb_nx (i := .goto (-37)) (n := 3) (q := (3, [some (.ref p0), some (.long j1), none, some (.int i3), some (.int i4), some (.int (i5 + 1))], [])) (jq qX13_isOpenIn 21 rfl) rfl) ?_
      exact H
  · rw [if_neg c1] at H
    refine Eq.trans (jb_nx (i := .if_icmp .ge 36) (n := 3) (q := (43, [some (.ref p0), some (.long j1), none, some (.int i3), some (.int i4), some (.int i5)], [])) (jq qX13_isOpenIn 4 rfl) (jo_icT (jz_geT c1) rfl)) ?_
    refine Eq.trans (jb_nx (i := .iconst 0) (n := 1) (q := (44, [some (.ref p0), some (.long j1), none, some (.int i3), some (.int i4), some (.int i5)], [.int 0])) (jq qX13_isOpenIn 22 rfl) rfl) ?_
    exact Eq.trans (jb_rt (i := .ireturn) (n := 1) (jq qX13_isOpenIn 23 rfl) (jo_iret rfl (by decide))) H
theorem gX13_isOpenIn {d : Nat} {p0 : Nat} {j1 : Int64} {i3 : Int32} {i4 : Int32} {h : jm_H} {r : jm_R} (H : (kX13_isOpenIn_3 d p0 j1 i3 i4 i3 h) = some r) : jm_D (d + 1) mX13_isOpenIn [.ref p0, .long j1, .int i3, .int i4] h = some r := by
  rw [jm_D_body (Nat.le_of_ble_eq_true rfl)]
  show jm_B d mX13_isOpenIn (0, [some (.ref p0), some (.long j1), none, some (.int i3), some (.int i4), none], []) h = some r
  refine Eq.trans (jb_nx (i := .iload_n 3) (n := 1) (q := (1, [some (.ref p0), some (.long j1), none, some (.int i3), some (.int i4), none], [.int i3])) (jq qX13_isOpenIn 0 rfl) rfl) ?_
  refine Eq.trans (jb_nx (i := .istore 5) (n := 2) (q := (3, [some (.ref p0), some (.long j1), none, some (.int i3), some (.int i4), some (.int i3)], [])) (jq qX13_isOpenIn 1 rfl) rfl) ?_
  exact H
/-! MaskPlaysModel rename (III)V -/
def tX13_rename : List (Nat × Instr × Nat) := [(0, .aload_n 0, 1), (1, .getfield 43, 3), (4, .iload_n 1, 1), (5, .invokestatic 78, 3), (8, .istore 4, 2), (10, .iconst 0, 1), (11, .istore 5, 2), (13, .aload_n 0, 1), (14, .iload 5, 2), (16, .invokestatic 106, 3), (19, .iload_n 1, 1), (20, .iconst 1, 1), (21, .iadd, 1), (22, .iload 4, 2), (24, .invokevirtual 110, 3), (27, .ifCond .ne 17, 3), (30, .aload_n 0, 1), (31, .iload 5, 2), (33, .invokestatic 106, 3), (36, .iload_n 2, 1), (37, .iload_n 3, 1), (38, .invokevirtual 114, 3), (41, .ifCond .eq 9, 3), (44, .iinc 5 1, 3), (47, .goto (-34), 3), (50, .iload 4, 2), (52, .iconst 1, 1), (53, .isub, 1), (54, .istore 6, 2), (56, .iload 6, 2), (58, .iload_n 1, 1), (59, .if_icmp .le 52, 3), (62, .aload_n 0, 1), (63, .getfield 43, 3), (66, .iload 6, 2), (68, .laload, 1), (69, .aload_n 0, 1), (70, .getfield 43, 3), (73, .iload_n 1, 1), (74, .laload, 1), (75, .lneg, 1), (76, .lcmp, 1), (77, .ifCond .ne 28, 3), (80, .aload_n 0, 1), (81, .getfield 43, 3), (84, .iload 6, 2), (86, .invokestatic 85, 3), (89, .iload_n 1, 1), (90, .if_icmp .ne 15, 3), (93, .aload_n 0, 1), (94, .getfield 43, 3), (97, .iload 6, 2), (99, .iload 5, 2), (101, .invokestatic 106, 3), (104, .lastore, 1), (105, .iinc 6 (-1), 3), (108, .goto (-52), 3), (111, .aload_n 0, 1), (112, .getfield 43, 3), (115, .iload_n 1, 1), (116, .iload 5, 2), (118, .invokestatic 106, 3), (121, .lneg, 1), (122, .lastore, 1), (123, .return_, 1)]
set_option maxRecDepth 100000 in
theorem qX13_rename : ∀ q ∈ tX13_rename, decode cX13_rename q.1 = .ok (q.2.1, q.2.2) := by decide +kernel
noncomputable def kX13_rename_13 (d : Nat) (p0 : Nat) (i1 : Int32) (i2 : Int32) (i3 : Int32) (i4 : Int32) (i5 : Int32) (o6 : Option Value) (h : jm_H) : Option jm_R := jm_B d mX13_rename (13, [some (.ref p0), some (.int i1), some (.int i2), some (.int i3), some (.int i4), some (.int i5), o6], []) h
noncomputable def kX13_rename_56 (d : Nat) (p0 : Nat) (i1 : Int32) (o2 : Option Value) (o3 : Option Value) (o4 : Option Value) (i5 : Int32) (i6 : Int32) (h : jm_H) : Option jm_R := jm_B d mX13_rename (56, [some (.ref p0), some (.int i1), o2, o3, o4, some (.int i5), some (.int i6)], []) h
theorem gX13_rename_13 {d : Nat} {p0 : Nat} {i1 : Int32} {i2 : Int32} {i3 : Int32} {i4 : Int32} {i5 : Int32} {o6 : Option Value} {h : jm_H} {r : jm_R} (H : (jc_L (jm_D d mX13_zName [.int i5] h) (fun y10 h8 => jm_O h8 p0 13 (jc_I (jm_D d mX13_isNameIn [.ref p0, .long y10, .int (i1 + 1), .int i4] h8) (fun x13 h11 => (if x13 = 0 then jc_L (jm_D d mX13_zName [.int i5] h11) (fun y17 h15 => jm_O h15 p0 13 (jc_I (jm_D d mX13_isOpenIn [.ref p0, .long y17, .int i2, .int i3] h15) (fun x20 h18 => (if x20 = 0 then kX13_rename_56 d p0 i1 (some (.int i2)) (some (.int i3)) (some (.int i4)) i5 (i4 - 1) h18 else kX13_rename_13 d p0 i1 i2 i3 i4 (i5 + 1) o6 h18)) jx)) jx else kX13_rename_13 d p0 i1 i2 i3 i4 (i5 + 1) o6 h11)) jx)) jx) = some r) : kX13_rename_13 d p0 i1 i2 i3 i4 i5 o6 h = some r := by
  show jm_B d mX13_rename (13, [some (.ref p0), some (.int i1), some (.int i2), some (.int i3), some (.int i4), some (.int i5), o6], []) h = some r
  refine Eq.trans (jb_nx (i := .aload_n 0) (n := 1) (q := (14, [some (.ref p0), some (.int i1), some (.int i2), some (.int i3), some (.int i4), some (.int i5), o6], [.ref p0])) (jq qX13_rename 7 rfl) rfl) ?_
  refine Eq.trans (jb_nx (i := .iload 5) (n := 2) (q := (16, [some (.ref p0), some (.int i1), some (.int i2), some (.int i3), some (.int i4), some (.int i5), o6], [.int i5, .ref p0])) (jq qX13_rename 8 rfl) rfl) ?_
  rcases jcL H with ⟨y10, h8, r9, H⟩ | ⟨w30, h31, r9, H⟩
  · refine Eq.trans (jb_nx (i := .invokestatic 106) (n := 3) (q := (19, [some (.ref p0), some (.int i1), some (.int i2), some (.int i3), some (.int i4), some (.int i5), o6], [.long y10, .ref p0])) (jq qX13_rename 9 rfl) (jo_cs (y := mX13_zName) (w := 1) (by decide) rfl (Nat.le_of_ble_eq_true rfl) rfl (Nat.le_of_ble_eq_true rfl) rfl r9 jo_ret)) ?_
    refine Eq.trans (jb_nx (i := .iload_n 1) (n := 1) (q := (20, [some (.ref p0), some (.int i1), some (.int i2), some (.int i3), some (.int i4), some (.int i5), o6], [.int i1, .long y10, .ref p0])) (jq qX13_rename 10 rfl) rfl) ?_
    refine Eq.trans (jb_nx (i := .iconst 1) (n := 1) (q := (21, [some (.ref p0), some (.int i1), some (.int i2), some (.int i3), some (.int i4), some (.int i5), o6], [.int 1, .int i1, .long y10, .ref p0])) (jq qX13_rename 11 rfl) rfl) ?_
    refine Eq.trans (jb_nx (i := .iadd) (n := 1) (q := (22, [some (.ref p0), some (.int i1), some (.int i2), some (.int i3), some (.int i4), some (.int i5), o6], [.int (i1 + 1), .long y10, .ref p0])) (jq qX13_rename 12 rfl) rfl) ?_
    refine Eq.trans (jb_nx (i := .iload 4) (n := 2) (q := (24, [some (.ref p0), some (.int i1), some (.int i2), some (.int i3), some (.int i4), some (.int i5), o6], [.int i4, .int (i1 + 1), .long y10, .ref p0])) (jq qX13_rename 13 rfl) rfl) ?_
    obtain ⟨b27, H⟩ := jm_O_inv H
    rcases jcI H with ⟨x13, h11, r12, H⟩ | ⟨w28, h29, r12, H⟩
    · refine Eq.trans (jb_nx (i := .invokevirtual 110) (n := 3) (q := (27, [some (.ref p0), some (.int i1), some (.int i2), some (.int i3), some (.int i4), some (.int i5), o6], [.int x13])) (jq qX13_rename 14 rfl) (jo_cv (y := mX13_isNameIn) rfl (Nat.le_of_ble_eq_true rfl) rfl (Nat.le_of_ble_eq_true rfl) b27 rfl r12 jo_ret)) ?_
      by_cases c14 : x13 = 0
      · rw [if_pos c14] at H
        refine Eq.trans (jb_nx (i := .ifCond .ne 17) (n := 3) (q := (30, [some (.ref p0), some (.int i1), some (.int i2), some (.int i3), some (.int i4), some (.int i5), o6], [])) (jq qX13_rename 15 rfl) (jo_ifF (jz_neF c14))) ?_
        refine Eq.trans (jb_nx (i := .aload_n 0) (n := 1) (q := (31, [some (.ref p0), some (.int i1), some (.int i2), some (.int i3), some (.int i4), some (.int i5), o6], [.ref p0])) (jq qX13_rename 16 rfl) rfl) ?_
        refine Eq.trans (jb_nx (i := .iload 5) (n := 2) (q := (33, [some (.ref p0), some (.int i1), some (.int i2), some (.int i3), some (.int i4), some (.int i5), o6], [.int i5, .ref p0])) (jq qX13_rename 17 rfl) rfl) ?_
        rcases jcL H with ⟨y17, h15, r16, H⟩ | ⟨w25, h26, r16, H⟩
        · refine Eq.trans (jb_nx (i := .invokestatic 106) (n := 3) (q := (36, [some (.ref p0), some (.int i1), some (.int i2), some (.int i3), some (.int i4), some (.int i5), o6], [.long y17, .ref p0])) (jq qX13_rename 18 rfl) (jo_cs (y := mX13_zName) (w := 1) (by decide) rfl (Nat.le_of_ble_eq_true rfl) rfl (Nat.le_of_ble_eq_true rfl) rfl r16 jo_ret)) ?_
          refine Eq.trans (jb_nx (i := .iload_n 2) (n := 1) (q := (37, [some (.ref p0), some (.int i1), some (.int i2), some (.int i3), some (.int i4), some (.int i5), o6], [.int i2, .long y17, .ref p0])) (jq qX13_rename 19 rfl) rfl) ?_
          refine Eq.trans (jb_nx (i := .iload_n 3) (n := 1) (q := (38, [some (.ref p0), some (.int i1), some (.int i2), some (.int i3), some (.int i4), some (.int i5), o6], [.int i3, .int i2, .long y17, .ref p0])) (jq qX13_rename 20 rfl) rfl) ?_
          obtain ⟨b22, H⟩ := jm_O_inv H
          rcases jcI H with ⟨x20, h18, r19, H⟩ | ⟨w23, h24, r19, H⟩
          · refine Eq.trans (jb_nx (i := .invokevirtual 114) (n := 3) (q := (41, [some (.ref p0), some (.int i1), some (.int i2), some (.int i3), some (.int i4), some (.int i5), o6], [.int x20])) (jq qX13_rename 21 rfl) (jo_cv (y := mX13_isOpenIn) rfl (Nat.le_of_ble_eq_true rfl) rfl (Nat.le_of_ble_eq_true rfl) b22 rfl r19 jo_ret)) ?_
            by_cases c21 : x20 = 0
            · rw [if_pos c21] at H
              refine Eq.trans (jb_nx (i := .ifCond .eq 9) (n := 3) (q := (50, [some (.ref p0), some (.int i1), some (.int i2), some (.int i3), some (.int i4), some (.int i5), o6], [])) (jq qX13_rename 22 rfl) (jo_ifT (jz_eqT c21) rfl)) ?_
              refine Eq.trans (jb_nx (i := .iload 4) (n := 2) (q := (52, [some (.ref p0), some (.int i1), some (.int i2), some (.int i3), some (.int i4), some (.int i5), o6], [.int i4])) (jq qX13_rename 25 rfl) rfl) ?_
              refine Eq.trans (jb_nx (i := .iconst 1) (n := 1) (q := (53, [some (.ref p0), some (.int i1), some (.int i2), some (.int i3), some (.int i4), some (.int i5), o6], [.int 1, .int i4])) (jq qX13_rename 26 rfl) rfl) ?_
              refine Eq.trans (jb_nx (i := .isub) (n := 1) (q := (54, [some (.ref p0), some (.int i1), some (.int i2), some (.int i3), some (.int i4), some (.int i5), o6], [.int (i4 - 1)])) (jq qX13_rename 27 rfl) rfl) ?_
              refine Eq.trans (jb_nx (i := .istore 6) (n := 2) (q := (56, [some (.ref p0), some (.int i1), some (.int i2), some (.int i3), some (.int i4), some (.int i5), some (.int (i4 - 1))], [])) (jq qX13_rename 28 rfl) rfl) ?_
              exact H
            · rw [if_neg c21] at H
              refine Eq.trans (jb_nx (i := .ifCond .eq 9) (n := 3) (q := (44, [some (.ref p0), some (.int i1), some (.int i2), some (.int i3), some (.int i4), some (.int i5), o6], [])) (jq qX13_rename 22 rfl) (jo_ifF (jz_eqF c21))) ?_
              refine Eq.trans (jb_nx (i := .iinc 5 1) (n := 3) (q := (47, [some (.ref p0), some (.int i1), some (.int i2), some (.int i3), some (.int i4), some (.int (i5 + 1)), o6], [])) (jq qX13_rename 23 rfl) rfl) ?_
              refine Eq.trans (jb_nx (i := .goto (-34)) (n := 3) (q := (13, [some (.ref p0), some (.int i1), some (.int i2), some (.int i3), some (.int i4), some (.int (i5 + 1)), o6], [])) (jq qX13_rename 24 rfl) rfl) ?_
              exact H
          · exact Eq.trans (jb_rt (i := .invokevirtual 114) (n := 3) (jq qX13_rename 21 rfl) (jo_cv (y := mX13_isOpenIn) rfl (Nat.le_of_ble_eq_true rfl) rfl (Nat.le_of_ble_eq_true rfl) b22 rfl r19 (jo_exn rfl))) H
        · exact Eq.trans (jb_rt (i := .invokestatic 106) (n := 3) (jq qX13_rename 18 rfl) (jo_cs (y := mX13_zName) (w := 1) (by decide) rfl (Nat.le_of_ble_eq_true rfl) rfl (Nat.le_of_ble_eq_true rfl) rfl r16 (jo_exn rfl))) H
      · rw [if_neg c14] at H
        refine Eq.trans (jb_nx (i := .ifCond .ne 17) (n := 3) (q := (44, [some (.ref p0), some (.int i1), some (.int i2), some (.int i3), some (.int i4), some (.int i5), o6], [])) (jq qX13_rename 15 rfl) (jo_ifT (jz_neT c14) rfl)) ?_
        refine Eq.trans (jb_nx (i := .iinc 5 1) (n := 3) (q := (47, [some (.ref p0), some (.int i1), some (.int i2), some (.int i3), some (.int i4), some (.int (i5 + 1)), o6], [])) (jq qX13_rename 23 rfl) rfl) ?_
        refine Eq.trans (jb_nx (i := .goto (-34)) (n := 3) (q := (13, [some (.ref p0), some (.int i1), some (.int i2), some (.int i3), some (.int i4), some (.int (i5 + 1)), o6], [])) (jq qX13_rename 24 rfl) rfl) ?_
        exact H
    · exact Eq.trans (jb_rt (i := .invokevirtual 110) (n := 3) (jq qX13_rename 14 rfl) (jo_cv (y := mX13_isNameIn) rfl (Nat.le_of_ble_eq_true rfl) rfl (Nat.le_of_ble_eq_true rfl) b27 rfl r12 (jo_exn rfl))) H
  · exact Eq.trans (jb_rt (i := .invokestatic 106) (n := 3) (jq qX13_rename 9 rfl) (jo_cs (y := mX13_zName) (w := 1) (by decide) rfl (Nat.le_of_ble_eq_true rfl) rfl (Nat.le_of_ble_eq_true rfl) rfl r9 (jo_exn rfl))) H
theorem gX13_rename_56 {d : Nat} {p0 : Nat} {i1 : Int32} {o2 : Option Value} {o3 : Option Value} {o4 : Option Value} {i5 : Int32} {i6 : Int32} {h : jm_H} {r : jm_R} (H : ((if i1 < i6 then (jr_R h p0 12 18 2).bind fun a42 => (jm_all h a42 i6).bind fun y44 => (jr_R h p0 12 18 2).bind fun a46 => (jm_all h a46 i1).bind fun y48 => (if (lg_cmp y44 (-y48)) = 0 then (jr_R h p0 12 18 2).bind fun a51 => jc_I (jm_D d mX13_owner [.ref a51, .int i6] h) (fun x55 h53 => (if x55 = i1 then (jr_R h53 p0 12 18 2).bind fun a57 => jc_L (jm_D d mX13_zName [.int i5] h53) (fun y61 h59 => (jm_asl h59 a57 i6 y61).bind fun h62 => kX13_rename_56 d p0 i1 o2 o3 o4 i5 (i6 + (-1)) h62) jx else kX13_rename_56 d p0 i1 o2 o3 o4 i5 (i6 + (-1)) h53)) jx else kX13_rename_56 d p0 i1 o2 o3 o4 i5 (i6 + (-1)) h) else (jr_R h p0 12 18 2).bind fun a33 => jc_L (jm_D d mX13_zName [.int i5] h) (fun y37 h35 => (jm_asl h35 a33 i1 (-y37)).bind fun h38 => some (.inl none, h38)) jx)) = some r) : kX13_rename_56 d p0 i1 o2 o3 o4 i5 i6 h = some r := by
  show jm_B d mX13_rename (56, [some (.ref p0), some (.int i1), o2, o3, o4, some (.int i5), some (.int i6)], []) h = some r
  refine Eq.trans (jb_nx (i := .iload 6) (n := 2) (q := (58, [some (.ref p0), some (.int i1), o2, o3, o4, some (.int i5), some (.int i6)], [.int i6])) (jq qX13_rename 29 rfl) rfl) ?_
  refine Eq.trans (jb_nx (i := .iload_n 1) (n := 1) (q := (59, [some (.ref p0), some (.int i1), o2, o3, o4, some (.int i5), some (.int i6)], [.int i1, .int i6])) (jq qX13_rename 30 rfl) rfl) ?_
  by_cases c32 : i1 < i6
  · rw [if_pos c32] at H
    refine Eq.trans (jb_nx (i := .if_icmp .le 52) (n := 3) (q := (62, [some (.ref p0), some (.int i1), o2, o3, o4, some (.int i5), some (.int i6)], [])) (jq qX13_rename 31 rfl) (jo_icF (jz_leF c32))) ?_
    refine Eq.trans (jb_nx (i := .aload_n 0) (n := 1) (q := (63, [some (.ref p0), some (.int i1), o2, o3, o4, some (.int i5), some (.int i6)], [.ref p0])) (jq qX13_rename 32 rfl) rfl) ?_
    obtain ⟨a42, e43, H⟩ := jbd H
    refine Eq.trans (jb_nx (i := .getfield 43) (n := 3) (q := (66, [some (.ref p0), some (.int i1), o2, o3, o4, some (.int i5), some (.int i6)], [.ref a42])) (jq qX13_rename 33 rfl) (jo_gf rfl (jr_R_inv e43))) ?_
    refine Eq.trans (jb_nx (i := .iload 6) (n := 2) (q := (68, [some (.ref p0), some (.int i1), o2, o3, o4, some (.int i5), some (.int i6)], [.int i6, .ref a42])) (jq qX13_rename 34 rfl) rfl) ?_
    obtain ⟨y44, e45, H⟩ := jbd H
    refine Eq.trans (jb_nx (i := .laload) (n := 1) (q := (69, [some (.ref p0), some (.int i1), o2, o3, o4, some (.int i5), some (.int i6)], [.long y44])) (jq qX13_rename 35 rfl) (jo_lal e45)) ?_
    refine Eq.trans (jb_nx (i := .aload_n 0) (n := 1) (q := (70, [some (.ref p0), some (.int i1), o2, o3, o4, some (.int i5), some (.int i6)], [.ref p0, .long y44])) (jq qX13_rename 36 rfl) rfl) ?_
    obtain ⟨a46, e47, H⟩ := jbd H
    refine Eq.trans (jb_nx (i := .getfield 43) (n := 3) (q := (73, [some (.ref p0), some (.int i1), o2, o3, o4, some (.int i5), some (.int i6)], [.ref a46, .long y44])) (jq qX13_rename 37 rfl) (jo_gf rfl (jr_R_inv e47))) ?_
    refine Eq.trans (jb_nx (i := .iload_n 1) (n := 1) (q := (74, [some (.ref p0), some (.int i1), o2, o3, o4, some (.int i5), some (.int i6)], [.int i1, .ref a46, .long y44])) (jq qX13_rename 38 rfl) rfl) ?_
    obtain ⟨y48, e49, H⟩ := jbd H
    refine Eq.trans (jb_nx (i := .laload) (n := 1) (q := (75, [some (.ref p0), some (.int i1), o2, o3, o4, some (.int i5), some (.int i6)], [.long y48, .long y44])) (jq qX13_rename 39 rfl) (jo_lal e49)) ?_
    refine Eq.trans (jb_nx (i := .lneg) (n := 1) (q := (76, [some (.ref p0), some (.int i1), o2, o3, o4, some (.int i5), some (.int i6)], [.long (-y48), .long y44])) (jq qX13_rename 40 rfl) rfl) ?_
    refine Eq.trans (jb_nx (i := .lcmp) (n := 1) (q := (77, [some (.ref p0), some (.int i1), o2, o3, o4, some (.int i5), some (.int i6)], [.int (lg_cmp y44 (-y48))])) (jq qX13_rename 41 rfl) rfl) ?_
    by_cases c50 : (lg_cmp y44 (-y48)) = 0
    · rw [if_pos c50] at H
      refine Eq.trans (jb_nx (i := .ifCond .ne 28) (n := 3) (q := (80, [some (.ref p0), some (.int i1), o2, o3, o4, some (.int i5), some (.int i6)], [])) (jq qX13_rename 42 rfl) (jo_ifF (jz_neF c50))) ?_
      refine Eq.trans (jb_nx (i := .aload_n 0) (n := 1) (q := (81, [some (.ref p0), some (.int i1), o2, o3, o4, some (.int i5), some (.int i6)], [.ref p0])) (jq qX13_rename 43 rfl) rfl) ?_
      obtain ⟨a51, e52, H⟩ := jbd H
      refine Eq.trans (jb_nx (i := .getfield 43) (n := 3) (q := (84, [some (.ref p0), some (.int i1), o2, o3, o4, some (.int i5), some (.int i6)], [.ref a51])) (jq qX13_rename 44 rfl) (jo_gf rfl (jr_R_inv e52))) ?_
      refine Eq.trans (jb_nx (i := .iload 6) (n := 2) (q := (86, [some (.ref p0), some (.int i1), o2, o3, o4, some (.int i5), some (.int i6)], [.int i6, .ref a51])) (jq qX13_rename 45 rfl) rfl) ?_
      rcases jcI H with ⟨x55, h53, r54, H⟩ | ⟨w66, h67, r54, H⟩
      · refine Eq.trans (jb_nx (i := .invokestatic 85) (n := 3) (q := (89, [some (.ref p0), some (.int i1), o2, o3, o4, some (.int i5), some (.int i6)], [.int x55])) (jq qX13_rename 46 rfl) (jo_cs (y := mX13_owner) (w := 1) (by decide) rfl (Nat.le_of_ble_eq_true rfl) rfl (Nat.le_of_ble_eq_true rfl) rfl r54 jo_ret)) ?_
        refine Eq.trans (jb_nx (i := .iload_n 1) (n := 1) (q := (90, [some (.ref p0), some (.int i1), o2, o3, o4, some (.int i5), some (.int i6)], [.int i1, .int x55])) (jq qX13_rename 47 rfl) rfl) ?_
        by_cases c56 : x55 = i1
        · rw [if_pos c56] at H
          refine Eq.trans (jb_nx (i := .if_icmp .ne 15) (n := 3) (q := (93, [some (.ref p0), some (.int i1), o2, o3, o4, some (.int i5), some (.int i6)], [])) (jq qX13_rename 48 rfl) (jo_icF (jz_neF c56))) ?_
          refine Eq.trans (jb_nx (i := .aload_n 0) (n := 1) (q := (94, [some (.ref p0), some (.int i1), o2, o3, o4, some (.int i5), some (.int i6)], [.ref p0])) (jq qX13_rename 49 rfl) rfl) ?_
          obtain ⟨a57, e58, H⟩ := jbd H
          refine Eq.trans (jb_nx (i := .getfield 43) (n := 3) (q := (97, [some (.ref p0), some (.int i1), o2, o3, o4, some (.int i5), some (.int i6)], [.ref a57])) (jq qX13_rename 50 rfl) (jo_gf rfl (jr_R_inv e58))) ?_
          refine Eq.trans (jb_nx (i := .iload 6) (n := 2) (q := (99, [some (.ref p0), some (.int i1), o2, o3, o4, some (.int i5), some (.int i6)], [.int i6, .ref a57])) (jq qX13_rename 51 rfl) rfl) ?_
          refine Eq.trans (jb_nx (i := .iload 5) (n := 2) (q := (101, [some (.ref p0), some (.int i1), o2, o3, o4, some (.int i5), some (.int i6)], [.int i5, .int i6, .ref a57])) (jq qX13_rename 52 rfl) rfl) ?_
          rcases jcL H with ⟨y61, h59, r60, H⟩ | ⟨w64, h65, r60, H⟩
          · refine Eq.trans (jb_nx (i := .invokestatic 106) (n := 3) (q := (104, [some (.ref p0), some (.int i1), o2, o3, o4, some (.int i5), some (.int i6)], [.long y61, .int i6, .ref a57])) (jq qX13_rename 53 rfl) (jo_cs (y := mX13_zName) (w := 1) (by decide) rfl (Nat.le_of_ble_eq_true rfl) rfl (Nat.le_of_ble_eq_true rfl) rfl r60 jo_ret)) ?_
            obtain ⟨h62, e63, H⟩ := jbd H
            refine Eq.trans (jb_nx (i := .lastore) (n := 1) (q := (105, [some (.ref p0), some (.int i1), o2, o3, o4, some (.int i5), some (.int i6)], [])) (jq qX13_rename 54 rfl) (jo_las e63)) ?_
            refine Eq.trans (jb_nx (i := .iinc 6 (-1)) (n := 3) (q := (108, [some (.ref p0), some (.int i1), o2, o3, o4, some (.int i5), some (.int (i6 + (-1)))], [])) (jq qX13_rename 55 rfl) rfl) ?_
            refine Eq.trans (jb_nx (i := .goto (-52)) (n := 3) (q := (56, [some (.ref p0), some (.int i1), o2, o3, o4, some (.int i5), some (.int (i6 + (-1)))], [])) (jq qX13_rename 56 rfl) rfl) ?_
            exact H
          · exact Eq.trans (jb_rt (i := .invokestatic 106) (n := 3) (jq qX13_rename 53 rfl) (jo_cs (y := mX13_zName) (w := 1) (by decide) rfl (Nat.le_of_ble_eq_true rfl) rfl (Nat.le_of_ble_eq_true rfl) rfl r60 (jo_exn rfl))) H
        · rw [if_neg c56] at H
          refine Eq.trans (jb_nx (i := .if_icmp .ne 15) (n := 3) (q := (105, [some (.ref p0), some (.int i1), o2, o3, o4, some (.int i5), some (.int i6)], [])) (jq qX13_rename 48 rfl) (jo_icT (jz_neT c56) rfl)) ?_
          refine Eq.trans (jb_nx (i := .iinc 6 (-1)) (n := 3) (q := (108, [some (.ref p0), some (.int i1), o2, o3, o4, some (.int i5), some (.int (i6 + (-1)))], [])) (jq qX13_rename 55 rfl) rfl) ?_
          refine Eq.trans (jb_nx (i := .goto (-52)) (n := 3) (q := (56, [some (.ref p0), some (.int i1), o2, o3, o4, some (.int i5), some (.int (i6 + (-1)))], [])) (jq qX13_rename 56 rfl) rfl) ?_
          exact H
      · exact Eq.trans (jb_rt (i := .invokestatic 85) (n := 3) (jq qX13_rename 46 rfl) (jo_cs (y := mX13_owner) (w := 1) (by decide) rfl (Nat.le_of_ble_eq_true rfl) rfl (Nat.le_of_ble_eq_true rfl) rfl r54 (jo_exn rfl))) H
    · rw [if_neg c50] at H
      refine Eq.trans (jb_nx (i := .ifCond .ne 28) (n := 3) (q := (105, [some (.ref p0), some (.int i1), o2, o3, o4, some (.int i5), some (.int i6)], [])) (jq qX13_rename 42 rfl) (jo_ifT (jz_neT c50) rfl)) ?_
      refine Eq.trans (jb_nx (i := .iinc 6 (-1)) (n := 3) (q := (108, [some (.ref p0), some (.int i1), o2, o3, o4, some (.int i5), some (.int (i6 + (-1)))], [])) (jq qX13_rename 55 rfl) rfl) ?_
      refine Eq.trans (jb_nx (i := .goto (-52)) (n := 3) (q := (56, [some (.ref p0), some (.int i1), o2, o3, o4, some (.int i5), some (.int (i6 + (-1)))], [])) (jq qX13_rename 56 rfl) rfl) ?_
      exact H
  · rw [if_neg c32] at H
    refine Eq.trans (jb_nx (i := .if_icmp .le 52) (n := 3) (q := (111, [some (.ref p0), some (.int i1), o2, o3, o4, some (.int i5), some (.int i6)], [])) (jq qX13_rename 31 rfl) (jo_icT (jz_leT c32) rfl)) ?_
    refine Eq.trans (jb_nx (i := .aload_n 0) (n := 1) (q := (112, [some (.ref p0), some (.int i1), o2, o3, o4, some (.int i5), some (.int i6)], [.ref p0])) (jq qX13_rename 57 rfl) rfl) ?_
    obtain ⟨a33, e34, H⟩ := jbd H
    refine Eq.trans (jb_nx (i := .getfield 43) (n := 3) (q := (115, [some (.ref p0), some (.int i1), o2, o3, o4, some (.int i5), some (.int i6)], [.ref a33])) (jq qX13_rename 58 rfl) (jo_gf rfl (jr_R_inv e34))) ?_
    refine Eq.trans (jb_nx (i := .iload_n 1) (n := 1) (q := (116, [some (.ref p0), some (.int i1), o2, o3, o4, some (.int i5), some (.int i6)], [.int i1, .ref a33])) (jq qX13_rename 59 rfl) rfl) ?_
    refine Eq.trans (jb_nx (i := .iload 5) (n := 2) (q := (118, [some (.ref p0), some (.int i1), o2, o3, o4, some (.int i5), some (.int i6)], [.int i5, .int i1, .ref a33])) (jq qX13_rename 60 rfl) rfl) ?_
    rcases jcL H with ⟨y37, h35, r36, H⟩ | ⟨w40, h41, r36, H⟩
    · refine Eq.trans (jb_nx (i := .invokestatic 106) (n := 3) (q := (121, [some (.ref p0), some (.int i1), o2, o3, o4, some (.int i5), some (.int i6)], [.long y37, .int i1, .ref a33])) (jq qX13_rename 61 rfl) (jo_cs (y := mX13_zName) (w := 1) (by decide) rfl (Nat.le_of_ble_eq_true rfl) rfl (Nat.le_of_ble_eq_true rfl) rfl r36 jo_ret)) ?_
      refine Eq.trans (jb_nx (i := .lneg) (n := 1) (q := (122, [some (.ref p0), some (.int i1), o2, o3, o4, some (.int i5), some (.int i6)], [.long (-y37), .int i1, .ref a33])) (jq qX13_rename 62 rfl) rfl) ?_
      obtain ⟨h38, e39, H⟩ := jbd H
      refine Eq.trans (jb_nx (i := .lastore) (n := 1) (q := (123, [some (.ref p0), some (.int i1), o2, o3, o4, some (.int i5), some (.int i6)], [])) (jq qX13_rename 63 rfl) (jo_las e39)) ?_
      exact Eq.trans (jb_rt (i := .return_) (n := 1) (jq qX13_rename 64 rfl) rfl) H
    · exact Eq.trans (jb_rt (i := .invokestatic 106) (n := 3) (jq qX13_rename 61 rfl) (jo_cs (y := mX13_zName) (w := 1) (by decide) rfl (Nat.le_of_ble_eq_true rfl) rfl (Nat.le_of_ble_eq_true rfl) rfl r36 (jo_exn rfl))) H
theorem gX13_rename {d : Nat} {p0 : Nat} {i1 : Int32} {i2 : Int32} {i3 : Int32} {h : jm_H} {r : jm_R} (H : ((jr_R h p0 12 18 2).bind fun a1 => jc_I (jm_D d mX13_end [.ref a1, .int i1] h) (fun x5 h3 => kX13_rename_13 d p0 i1 i2 i3 x5 0 none h3) jx) = some r) : jm_D (d + 1) mX13_rename [.ref p0, .int i1, .int i2, .int i3] h = some r := by
  rw [jm_D_body (Nat.le_of_ble_eq_true rfl)]
  show jm_B d mX13_rename (0, [some (.ref p0), some (.int i1), some (.int i2), some (.int i3), none, none, none], []) h = some r
  refine Eq.trans (jb_nx (i := .aload_n 0) (n := 1) (q := (1, [some (.ref p0), some (.int i1), some (.int i2), some (.int i3), none, none, none], [.ref p0])) (jq qX13_rename 0 rfl) rfl) ?_
  obtain ⟨a1, e2, H⟩ := jbd H
  refine Eq.trans (jb_nx (i := .getfield 43) (n := 3) (q := (4, [some (.ref p0), some (.int i1), some (.int i2), some (.int i3), none, none, none], [.ref a1])) (jq qX13_rename 1 rfl) (jo_gf rfl (jr_R_inv e2))) ?_
  refine Eq.trans (jb_nx (i := .iload_n 1) (n := 1) (q := (5, [some (.ref p0), some (.int i1), some (.int i2), some (.int i3), none, none, none], [.int i1, .ref a1])) (jq qX13_rename 2 rfl) rfl) ?_
  rcases jcI H with ⟨x5, h3, r4, H⟩ | ⟨w6, h7, r4, H⟩
  · refine Eq.trans (jb_nx (i := .invokestatic 78) (n := 3) (q := (8, [some (.ref p0), some (.int i1), some (.int i2), some (.int i3), none, none, none], [.int x5])) (jq qX13_rename 3 rfl) (jo_cs (y := mX13_end) (w := 1) (by decide) rfl (Nat.le_of_ble_eq_true rfl) rfl (Nat.le_of_ble_eq_true rfl) rfl r4 jo_ret)) ?_
    refine Eq.trans (jb_nx (i := .istore 4) (n := 2) (q := (10, [some (.ref p0), some (.int i1), some (.int i2), some (.int i3), some (.int x5), none, none], [])) (jq qX13_rename 4 rfl) rfl) ?_
    refine Eq.trans (jb_nx (i := .iconst 0) (n := 1) (q := (11, [some (.ref p0), some (.int i1), some (.int i2), some (.int i3), some (.int x5), none, none], [.int 0])) (jq qX13_rename 5 rfl) rfl) ?_
    refine Eq.trans (jb_nx (i := .istore 5) (n := 2) (q := (13, [some (.ref p0), some (.int i1), some (.int i2), some (.int i3), some (.int x5), some (.int 0), none], [])) (jq qX13_rename 6 rfl) rfl) ?_
    exact H
  · exact Eq.trans (jb_rt (i := .invokestatic 78) (n := 3) (jq qX13_rename 3 rfl) (jo_cs (y := mX13_end) (w := 1) (by decide) rfl (Nat.le_of_ble_eq_true rfl) rfl (Nat.le_of_ble_eq_true rfl) rfl r4 (jo_exn rfl))) H
/-! MaskPlaysModel zName (I)J -/
def tX13_zName : List (Nat × Instr × Nat) := [(0, .ldc2_w 100, 3), (3, .lstore_n 1, 1), (4, .iconst 1, 1), (5, .istore_n 3, 1), (6, .iload_n 0, 1), (7, .iload_n 3, 1), (8, .idiv, 1), (9, .bipush 9, 2), (11, .if_icmp .le 11, 3), (14, .iload_n 3, 1), (15, .bipush 10, 2), (17, .imul, 1), (18, .istore_n 3, 1), (19, .goto (-13), 3), (22, .iload_n 3, 1), (23, .istore 4, 2), (25, .iload 4, 2), (27, .ifCond .le 32, 3), (30, .ldc2_w 102, 3), (33, .lload_n 1, 1), (34, .lmul, 1), (35, .ldc2_w 104, 3), (38, .ladd, 1), (39, .iload_n 0, 1), (40, .iload 4, 2), (42, .idiv, 1), (43, .bipush 10, 2), (45, .irem, 1), (46, .i2l, 1), (47, .ladd, 1), (48, .lstore_n 1, 1), (49, .iload 4, 2), (51, .bipush 10, 2), (53, .idiv, 1), (54, .istore 4, 2), (56, .goto (-31), 3), (59, .lload_n 1, 1), (60, .lreturn, 1)]
set_option maxRecDepth 100000 in
theorem qX13_zName : ∀ q ∈ tX13_zName, decode cX13_zName q.1 = .ok (q.2.1, q.2.2) := by decide +kernel
noncomputable def kX13_zName_6 (d : Nat) (i0 : Int32) (j1 : Int64) (i3 : Int32) (o4 : Option Value) (h : jm_H) : Option jm_R := jm_B d mX13_zName (6, [some (.int i0), some (.long j1), none, some (.int i3), o4], []) h
noncomputable def kX13_zName_25 (d : Nat) (i0 : Int32) (j1 : Int64) (o3 : Option Value) (i4 : Int32) (h : jm_H) : Option jm_R := jm_B d mX13_zName (25, [some (.int i0), some (.long j1), none, o3, some (.int i4)], []) h
theorem gX13_zName_6 {d : Nat} {i0 : Int32} {j1 : Int64} {i3 : Int32} {o4 : Option Value} {h : jm_H} {r : jm_R} (H : ((if i3 = 0 then none else (if 9 < (i0 / i3) then kX13_zName_6 d i0 j1 (i3 * 10) o4 h else kX13_zName_25 d i0 j1 (some (.int i3)) i3 h))) = some r) : kX13_zName_6 d i0 j1 i3 o4 h = some r := by
  show jm_B d mX13_zName (6, [some (.int i0), some (.long j1), none, some (.int i3), o4], []) h = some r
  refine Eq.trans (jb_nx (i := .iload_n 0) (n := 1) (q := (7, [some (.int i0), some (.long j1), none, some (.int i3), o4], [.int i0])) (jq qX13_zName 4 rfl) rfl) ?_
  refine Eq.trans (jb_nx (i := .iload_n 3) (n := 1) (q := (8, [some (.int i0), some (.long j1), none, some (.int i3), o4], [.int i3, .int i0])) (jq qX13_zName 5 rfl) rfl) ?_
  by_cases c1 : i3 = 0
  · rw [if_pos c1] at H; cases H
  · rw [if_neg c1] at H
    refine Eq.trans (jb_nx (i := .idiv) (n := 1) (q := (9, [some (.int i0), some (.long j1), none, some (.int i3), o4], [.int (i0 / i3)])) (jq qX13_zName 6 rfl) (jo_idiv c1)) ?_
    refine Eq.trans (jb_nx (i := .bipush 9) (n := 2) (q := (11, [some (.int i0), some (.long j1), none, some (.int i3), o4], [.int 9, .int (i0 / i3)])) (jq qX13_zName 7 rfl) rfl) ?_
    by_cases c2 : 9 < (i0 / i3)
    · rw [if_pos c2] at H
      refine Eq.trans (jb_nx (i := .if_icmp .le 11) (n := 3) (q := (14, [some (.int i0), some (.long j1), none, some (.int i3), o4], [])) (jq qX13_zName 8 rfl) (jo_icF (jz_leF c2))) ?_
      refine Eq.trans (jb_nx (i := .iload_n 3) (n := 1) (q := (15, [some (.int i0), some (.long j1), none, some (.int i3), o4], [.int i3])) (jq qX13_zName 9 rfl) rfl) ?_
      refine Eq.trans (jb_nx (i := .bipush 10) (n := 2) (q := (17, [some (.int i0), some (.long j1), none, some (.int i3), o4], [.int 10, .int i3])) (jq qX13_zName 10 rfl) rfl) ?_
      refine Eq.trans (jb_nx (i := .imul) (n := 1) (q := (18, [some (.int i0), some (.long j1), none, some (.int i3), o4], [.int (i3 * 10)])) (jq qX13_zName 11 rfl) rfl) ?_
      refine Eq.trans (jb_nx (i := .istore_n 3) (n := 1) (q := (19, [some (.int i0), some (.long j1), none, some (.int (i3 * 10)), o4], [])) (jq qX13_zName 12 rfl) rfl) ?_
      refine Eq.trans (jb_nx (i := .goto (-13)) (n := 3) (q := (6, [some (.int i0), some (.long j1), none, some (.int (i3 * 10)), o4], [])) (jq qX13_zName 13 rfl) rfl) ?_
      exact H
    · rw [if_neg c2] at H
      refine Eq.trans (jb_nx (i := .if_icmp .le 11) (n := 3) (q := (22, [some (.int i0), some (.long j1), none, some (.int i3), o4], [])) (jq qX13_zName 8 rfl) (jo_icT (jz_leT c2) rfl)) ?_
      refine Eq.trans (jb_nx (i := .iload_n 3) (n := 1) (q := (23, [some (.int i0), some (.long j1), none, some (.int i3), o4], [.int i3])) (jq qX13_zName 14 rfl) rfl) ?_
      refine Eq.trans (jb_nx (i := .istore 4) (n := 2) (q := (25, [some (.int i0), some (.long j1), none, some (.int i3), some (.int i3)], [])) (jq qX13_zName 15 rfl) rfl) ?_
      exact H
theorem gX13_zName_25 {d : Nat} {i0 : Int32} {j1 : Int64} {o3 : Option Value} {i4 : Int32} {h : jm_H} {r : jm_R} (H : ((if 0 < i4 then (if i4 = 0 then none else kX13_zName_25 d i0 (((37 * j1) + 27) + (Int32.toInt64 ((i0 / i4) - (i0 / i4) / 10 * 10))) (jm_dm o3) (i4 / 10) h) else some (.inl (some (.long j1)), h))) = some r) : kX13_zName_25 d i0 j1 o3 i4 h = some r := by
  show jm_B d mX13_zName (25, [some (.int i0), some (.long j1), none, o3, some (.int i4)], []) h = some r
  refine Eq.trans (jb_nx (i := .iload 4) (n := 2) (q := (27, [some (.int i0), some (.long j1), none, o3, some (.int i4)], [.int i4])) (jq qX13_zName 16 rfl) rfl) ?_
  by_cases c3 : 0 < i4
  · rw [if_pos c3] at H
    refine Eq.trans (jb_nx (i := .ifCond .le 32) (n := 3) (q := (30, [some (.int i0), some (.long j1), none, o3, some (.int i4)], [])) (jq qX13_zName 17 rfl) (jo_ifF (jz_leF c3))) ?_
    refine Eq.trans (jb_nx (i := .ldc2_w 102) (n := 3) (q := (33, [some (.int i0), some (.long j1), none, o3, some (.int i4)], [.long 37])) (jq qX13_zName 18 rfl) rfl) ?_
    refine Eq.trans (jb_nx (i := .lload_n 1) (n := 1) (q := (34, [some (.int i0), some (.long j1), none, o3, some (.int i4)], [.long j1, .long 37])) (jq qX13_zName 19 rfl) rfl) ?_
    refine Eq.trans (jb_nx (i := .lmul) (n := 1) (q := (35, [some (.int i0), some (.long j1), none, o3, some (.int i4)], [.long (37 * j1)])) (jq qX13_zName 20 rfl) rfl) ?_
    refine Eq.trans (jb_nx (i := .ldc2_w 104) (n := 3) (q := (38, [some (.int i0), some (.long j1), none, o3, some (.int i4)], [.long 27, .long (37 * j1)])) (jq qX13_zName 21 rfl) rfl) ?_
    refine Eq.trans (jb_nx (i := .ladd) (n := 1) (q := (39, [some (.int i0), some (.long j1), none, o3, some (.int i4)], [.long ((37 * j1) + 27)])) (jq qX13_zName 22 rfl) rfl) ?_
    refine Eq.trans (jb_nx (i := .iload_n 0) (n := 1) (q := (40, [some (.int i0), some (.long j1), none, o3, some (.int i4)], [.int i0, .long ((37 * j1) + 27)])) (jq qX13_zName 23 rfl) rfl) ?_
    refine Eq.trans (jb_nx (i := .iload 4) (n := 2) (q := (42, [some (.int i0), some (.long j1), none, o3, some (.int i4)], [.int i4, .int i0, .long ((37 * j1) + 27)])) (jq qX13_zName 24 rfl) rfl) ?_
    by_cases c4 : i4 = 0
    · rw [if_pos c4] at H; cases H
    · rw [if_neg c4] at H
      refine Eq.trans (jb_nx (i := .idiv) (n := 1) (q := (43, [some (.int i0), some (.long j1), none, o3, some (.int i4)], [.int (i0 / i4), .long ((37 * j1) + 27)])) (jq qX13_zName 25 rfl) (jo_idiv c4)) ?_
      refine Eq.trans (jb_nx (i := .bipush 10) (n := 2) (q := (45, [some (.int i0), some (.long j1), none, o3, some (.int i4)], [.int 10, .int (i0 / i4), .long ((37 * j1) + 27)])) (jq qX13_zName 26 rfl) rfl) ?_
      refine Eq.trans (jb_nx (i := .irem) (n := 1) (q := (46, [some (.int i0), some (.long j1), none, o3, some (.int i4)], [.int ((i0 / i4) - (i0 / i4) / 10 * 10), .long ((37 * j1) + 27)])) (jq qX13_zName 27 rfl) (jo_irem (by decide))) ?_
      refine Eq.trans (jb_nx (i := .i2l) (n := 1) (q := (47, [some (.int i0), some (.long j1), none, o3, some (.int i4)], [.long (Int32.toInt64 ((i0 / i4) - (i0 / i4) / 10 * 10)), .long ((37 * j1) + 27)])) (jq qX13_zName 28 rfl) rfl) ?_
      refine Eq.trans (jb_nx (i := .ladd) (n := 1) (q := (48, [some (.int i0), some (.long j1), none, o3, some (.int i4)], [.long (((37 * j1) + 27) + (Int32.toInt64 ((i0 / i4) - (i0 / i4) / 10 * 10)))])) (jq qX13_zName 29 rfl) rfl) ?_
      refine Eq.trans (jb_nx (i := .lstore_n 1) (n := 1) (q := (49, [some (.int i0), some (.long (((37 * j1) + 27) + (Int32.toInt64 ((i0 / i4) - (i0 / i4) / 10 * 10)))), none, o3, some (.int i4)], [])) (jq qX13_zName 30 rfl) rfl) ?_
      refine Eq.trans (jb_nx (i := .iload 4) (n := 2) (q := (51, [some (.int i0), some (.long (((37 * j1) + 27) + (Int32.toInt64 ((i0 / i4) - (i0 / i4) / 10 * 10)))), none, o3, some (.int i4)], [.int i4])) (jq qX13_zName 31 rfl) rfl) ?_
      refine Eq.trans (jb_nx (i := .bipush 10) (n := 2) (q := (53, [some (.int i0), some (.long (((37 * j1) + 27) + (Int32.toInt64 ((i0 / i4) - (i0 / i4) / 10 * 10)))), none, o3, some (.int i4)], [.int 10, .int i4])) (jq qX13_zName 32 rfl) rfl) ?_
      refine Eq.trans (jb_nx (i := .idiv) (n := 1) (q := (54, [some (.int i0), some (.long (((37 * j1) + 27) + (Int32.toInt64 ((i0 / i4) - (i0 / i4) / 10 * 10)))), none, o3, some (.int i4)], [.int (i4 / 10)])) (jq qX13_zName 33 rfl) (jo_idiv (by decide))) ?_
      refine Eq.trans (jb_nx (i := .istore 4) (n := 2) (q := (56, [some (.int i0), some (.long (((37 * j1) + 27) + (Int32.toInt64 ((i0 / i4) - (i0 / i4) / 10 * 10)))), none, (jm_dm o3), some (.int (i4 / 10))], [])) (jq qX13_zName 34 rfl) rfl) ?_
      refine Eq.trans (jb_nx (i := .goto (-31)) (n := 3) (q := (25, [some (.int i0), some (.long (((37 * j1) + 27) + (Int32.toInt64 ((i0 / i4) - (i0 / i4) / 10 * 10)))), none, (jm_dm o3), some (.int (i4 / 10))], [])) (jq qX13_zName 35 rfl) rfl) ?_
      exact H
  · rw [if_neg c3] at H
    refine Eq.trans (jb_nx (i := .ifCond .le 32) (n := 3) (q := (59, [some (.int i0), some (.long j1), none, o3, some (.int i4)], [])) (jq qX13_zName 17 rfl) (jo_ifT (jz_leT c3) rfl)) ?_
    refine Eq.trans (jb_nx (i := .lload_n 1) (n := 1) (q := (60, [some (.int i0), some (.long j1), none, o3, some (.int i4)], [.long j1])) (jq qX13_zName 36 rfl) rfl) ?_
    exact Eq.trans (jb_rt (i := .lreturn) (n := 1) (jq qX13_zName 37 rfl) rfl) H
theorem gX13_zName {d : Nat} {i0 : Int32} {h : jm_H} {r : jm_R} (H : (kX13_zName_6 d i0 26 1 none h) = some r) : jm_D (d + 1) mX13_zName [.int i0] h = some r := by
  rw [jm_D_body (Nat.le_of_ble_eq_true rfl)]
  show jm_B d mX13_zName (0, [some (.int i0), none, none, none, none], []) h = some r
  refine Eq.trans (jb_nx (i := .ldc2_w 100) (n := 3) (q := (3, [some (.int i0), none, none, none, none], [.long 26])) (jq qX13_zName 0 rfl) rfl) ?_
  refine Eq.trans (jb_nx (i := .lstore_n 1) (n := 1) (q := (4, [some (.int i0), some (.long 26), none, none, none], [])) (jq qX13_zName 1 rfl) rfl) ?_
  refine Eq.trans (jb_nx (i := .iconst 1) (n := 1) (q := (5, [some (.int i0), some (.long 26), none, none, none], [.int 1])) (jq qX13_zName 2 rfl) rfl) ?_
  refine Eq.trans (jb_nx (i := .istore_n 3) (n := 1) (q := (6, [some (.int i0), some (.long 26), none, some (.int 1), none], [])) (jq qX13_zName 3 rfl) rfl) ?_
  exact H
/-! MaskPlaysModel isNameIn (JII)Z -/
def tX13_isNameIn : List (Nat × Instr × Nat) := [(0, .iload_n 3, 1), (1, .istore 5, 2), (3, .iload 5, 2), (5, .iload 4, 2), (7, .if_icmp .ge 36, 3), (10, .aload_n 0, 1), (11, .getfield 43, 3), (14, .iload 5, 2), (16, .laload, 1), (17, .lload_n 1, 1), (18, .lcmp, 1), (19, .ifCond .eq 16, 3), (22, .aload_n 0, 1), (23, .getfield 43, 3), (26, .iload 5, 2), (28, .laload, 1), (29, .lload_n 1, 1), (30, .lneg, 1), (31, .lcmp, 1), (32, .ifCond .ne 5, 3), (35, .iconst 1, 1), (36, .ireturn, 1), (37, .iinc 5 1, 3), (40, .goto (-37), 3), (43, .iconst 0, 1), (44, .ireturn, 1)]
set_option maxRecDepth 100000 in
theorem qX13_isNameIn : ∀ q ∈ tX13_isNameIn, decode cX13_isNameIn q.1 = .ok (q.2.1, q.2.2) := by decide +kernel
noncomputable def kX13_isNameIn_3 (d : Nat) (p0 : Nat) (j1 : Int64) (o3 : Option Value) (i4 : Int32) (i5 : Int32) (h : jm_H) : Option jm_R := jm_B d mX13_isNameIn (3, [some (.ref p0), some (.long j1), none, o3, some (.int i4), some (.int i5)], []) h
theorem gX13_isNameIn_3 {d : Nat} {p0 : Nat} {j1 : Int64} {o3 : Option Value} {i4 : Int32} {i5 : Int32} {h : jm_H} {r : jm_R} (H : ((if i5 < i4 then (jr_R h p0 12 18 2).bind fun a2 => (jm_all h a2 i5).bind fun y4 => (if (lg_cmp y4 j1) = 0 then some (.inl (some (.int 1)), h) else (jr_R h p0 12 18 2).bind fun a7 => (jm_all h a7 i5).bind fun y9 => (if (lg_cmp y9 (-j1)) = 0 then some (.inl (some (.int 1)), h) else kX13_isNameIn_3 d p0 j1 o3 i4 (i5 + 1) h)) else some (.inl (some (.int 0)), h))) = some r) : kX13_isNameIn_3 d p0 j1 o3 i4 i5 h = some r := by
  show jm_B d mX13_isNameIn (3, [some (.ref p0), some (.long j1), none, o3, some (.int i4), some (.int i5)], []) h = some r
  refine Eq.trans (jb_nx (i := .iload 5) (n := 2) (q := (5, [some (.ref p0), some (.long j1), none, o3, some (.int i4), some (.int i5)], [.int i5])) (jq qX13_isNameIn 2 rfl) rfl) ?_
  refine Eq.trans (jb_nx (i := .iload 4) (n := 2) (q := (7, [some (.ref p0), some (.long j1), none, o3, some (.int i4), some (.int i5)], [.int i4, .int i5])) (jq qX13_isNameIn 3 rfl) rfl) ?_
  by_cases c1 : i5 < i4
  · rw [if_pos c1] at H
    refine Eq.trans (jb_nx (i := .if_icmp .ge 36) (n := 3) (q := (10, [some (.ref p0), some (.long j1), none, o3, some (.int i4), some (.int i5)], [])) (jq qX13_isNameIn 4 rfl) (jo_icF (jz_geF c1))) ?_
    refine Eq.trans (jb_nx (i := .aload_n 0) (n := 1) (q := (11, [some (.ref p0), some (.long j1), none, o3, some (.int i4), some (.int i5)], [.ref p0])) (jq qX13_isNameIn 5 rfl) rfl) ?_
    obtain ⟨a2, e3, H⟩ := jbd H
    refine Eq.trans (jb_nx (i := .getfield 43) (n := 3) (q := (14, [some (.ref p0), some (.long j1), none, o3, some (.int i4), some (.int i5)], [.ref a2])) (jq qX13_isNameIn 6 rfl) (jo_gf rfl (jr_R_inv e3))) ?_
    refine Eq.trans (jb_nx (i := .iload 5) (n := 2) (q := (16, [some (.ref p0), some (.long j1), none, o3, some (.int i4), some (.int i5)], [.int i5, .ref a2])) (jq qX13_isNameIn 7 rfl) rfl) ?_
    obtain ⟨y4, e5, H⟩ := jbd H
    refine Eq.trans (jb_nx (i := .laload) (n := 1) (q := (17, [some (.ref p0), some (.long j1), none, o3, some (.int i4), some (.int i5)], [.long y4])) (jq qX13_isNameIn 8 rfl) (jo_lal e5)) ?_
    refine Eq.trans (jb_nx (i := .lload_n 1) (n := 1) (q := (18, [some (.ref p0), some (.long j1), none, o3, some (.int i4), some (.int i5)], [.long j1, .long y4])) (jq qX13_isNameIn 9 rfl) rfl) ?_
    refine Eq.trans (jb_nx (i := .lcmp) (n := 1) (q := (19, [some (.ref p0), some (.long j1), none, o3, some (.int i4), some (.int i5)], [.int (lg_cmp y4 j1)])) (jq qX13_isNameIn 10 rfl) rfl) ?_
    by_cases c6 : (lg_cmp y4 j1) = 0
    · rw [if_pos c6] at H
      refine Eq.trans (jb_nx (i := .ifCond .eq 16) (n := 3) (q := (35, [some (.ref p0), some (.long j1), none, o3, some (.int i4), some (.int i5)], [])) (jq qX13_isNameIn 11 rfl) (jo_ifT (jz_eqT c6) rfl)) ?_
      refine Eq.trans (jb_nx (i := .iconst 1) (n := 1) (q := (36, [some (.ref p0), some (.long j1), none, o3, some (.int i4), some (.int i5)], [.int 1])) (jq qX13_isNameIn 20 rfl) rfl) ?_
      exact Eq.trans (jb_rt (i := .ireturn) (n := 1) (jq qX13_isNameIn 21 rfl) (jo_iret rfl (by decide))) H
    · rw [if_neg c6] at H
      refine Eq.trans (jb_nx (i := .ifCond .eq 16) (n := 3) (q := (22, [some (.ref p0), some (.long j1), none, o3, some (.int i4), some (.int i5)], [])) (jq qX13_isNameIn 11 rfl) (jo_ifF (jz_eqF c6))) ?_
      refine Eq.trans (jb_nx (i := .aload_n 0) (n := 1) (q := (23, [some (.ref p0), some (.long j1), none, o3, some (.int i4), some (.int i5)], [.ref p0])) (jq qX13_isNameIn 12 rfl) rfl) ?_
      obtain ⟨a7, e8, H⟩ := jbd H
      refine Eq.trans (jb_nx (i := .getfield 43) (n := 3) (q := (26, [some (.ref p0), some (.long j1), none, o3, some (.int i4), some (.int i5)], [.ref a7])) (jq qX13_isNameIn 13 rfl) (jo_gf rfl (jr_R_inv e8))) ?_
      refine Eq.trans (jb_nx (i := .iload 5) (n := 2) (q := (28, [some (.ref p0), some (.long j1), none, o3, some (.int i4), some (.int i5)], [.int i5, .ref a7])) (jq qX13_isNameIn 14 rfl) rfl) ?_
      obtain ⟨y9, e10, H⟩ := jbd H
      refine Eq.trans (jb_nx (i := .laload) (n := 1) (q := (29, [some (.ref p0), some (.long j1), none, o3, some (.int i4), some (.int i5)], [.long y9])) (jq qX13_isNameIn 15 rfl) (jo_lal e10)) ?_
      refine Eq.trans (jb_nx (i := .lload_n 1) (n := 1) (q := (30, [some (.ref p0), some (.long j1), none, o3, some (.int i4), some (.int i5)], [.long j1, .long y9])) (jq qX13_isNameIn 16 rfl) rfl) ?_
      refine Eq.trans (jb_nx (i := .lneg) (n := 1) (q := (31, [some (.ref p0), some (.long j1), none, o3, some (.int i4), some (.int i5)], [.long (-j1), .long y9])) (jq qX13_isNameIn 17 rfl) rfl) ?_
      refine Eq.trans (jb_nx (i := .lcmp) (n := 1) (q := (32, [some (.ref p0), some (.long j1), none, o3, some (.int i4), some (.int i5)], [.int (lg_cmp y9 (-j1))])) (jq qX13_isNameIn 18 rfl) rfl) ?_
      by_cases c11 : (lg_cmp y9 (-j1)) = 0
      · rw [if_pos c11] at H
        refine Eq.trans (jb_nx (i := .ifCond .ne 5) (n := 3) (q := (35, [some (.ref p0), some (.long j1), none, o3, some (.int i4), some (.int i5)], [])) (jq qX13_isNameIn 19 rfl) (jo_ifF (jz_neF c11))) ?_
        refine Eq.trans (jb_nx (i := .iconst 1) (n := 1) (q := (36, [some (.ref p0), some (.long j1), none, o3, some (.int i4), some (.int i5)], [.int 1])) (jq qX13_isNameIn 20 rfl) rfl) ?_
        exact Eq.trans (jb_rt (i := .ireturn) (n := 1) (jq qX13_isNameIn 21 rfl) (jo_iret rfl (by decide))) H
      · rw [if_neg c11] at H
        refine Eq.trans (jb_nx (i := .ifCond .ne 5) (n := 3) (q := (37, [some (.ref p0), some (.long j1), none, o3, some (.int i4), some (.int i5)], [])) (jq qX13_isNameIn 19 rfl) (jo_ifT (jz_neT c11) rfl)) ?_
        refine Eq.trans (jb_nx (i := .iinc 5 1) (n := 3) (q := (40, [some (.ref p0), some (.long j1), none, o3, some (.int i4), some (.int (i5 + 1))], [])) (jq qX13_isNameIn 22 rfl) rfl) ?_
        refine Eq.trans (jb_nx (i := .goto (-37)) (n := 3) (q := (3, [some (.ref p0), some (.long j1), none, o3, some (.int i4), some (.int (i5 + 1))], [])) (jq qX13_isNameIn 23 rfl) rfl) ?_
        exact H
  · rw [if_neg c1] at H
    refine Eq.trans (jb_nx (i := .if_icmp .ge 36) (n := 3) (q := (43, [some (.ref p0), some (.long j1), none, o3, some (.int i4), some (.int i5)], [])) (jq qX13_isNameIn 4 rfl) (jo_icT (jz_geT c1) rfl)) ?_
    refine Eq.trans (jb_nx (i := .iconst 0) (n := 1) (q := (44, [some (.ref p0), some (.long j1), none, o3, some (.int i4), some (.int i5)], [.int 0])) (jq qX13_isNameIn 24 rfl) rfl) ?_
    exact Eq.trans (jb_rt (i := .ireturn) (n := 1) (jq qX13_isNameIn 25 rfl) (jo_iret rfl (by decide))) H
theorem gX13_isNameIn {d : Nat} {p0 : Nat} {j1 : Int64} {i3 : Int32} {i4 : Int32} {h : jm_H} {r : jm_R} (H : (kX13_isNameIn_3 d p0 j1 (some (.int i3)) i4 i3 h) = some r) : jm_D (d + 1) mX13_isNameIn [.ref p0, .long j1, .int i3, .int i4] h = some r := by
  rw [jm_D_body (Nat.le_of_ble_eq_true rfl)]
  show jm_B d mX13_isNameIn (0, [some (.ref p0), some (.long j1), none, some (.int i3), some (.int i4), none], []) h = some r
  refine Eq.trans (jb_nx (i := .iload_n 3) (n := 1) (q := (1, [some (.ref p0), some (.long j1), none, some (.int i3), some (.int i4), none], [.int i3])) (jq qX13_isNameIn 0 rfl) rfl) ?_
  refine Eq.trans (jb_nx (i := .istore 5) (n := 2) (q := (3, [some (.ref p0), some (.long j1), none, some (.int i3), some (.int i4), some (.int i3)], [])) (jq qX13_isNameIn 1 rfl) rfl) ?_
  exact H
/-! MaskPlaysModel isSame (II)Z -/
def tX13_isSame : List (Nat × Instr × Nat) := [(0, .aload_n 0, 1), (1, .iconst 0, 1), (2, .putfield 68, 3), (5, .aload_n 0, 1), (6, .iload_n 1, 1), (7, .invokevirtual 473, 3), (10, .ifCond .eq 20, 3), (13, .aload_n 0, 1), (14, .iload_n 2, 1), (15, .invokevirtual 473, 3), (18, .ifCond .eq 12, 3), (21, .aload_n 0, 1), (22, .iload_n 1, 1), (23, .iload_n 2, 1), (24, .invokevirtual 201, 3), (27, .goto 8, 3), (30, .aload_n 0, 1), (31, .iconst 1, 1), (32, .invokevirtual 485, 3), (35, .ireturn, 1)]
set_option maxRecDepth 100000 in
theorem qX13_isSame : ∀ q ∈ tX13_isSame, decode cX13_isSame q.1 = .ok (q.2.1, q.2.2) := by decide +kernel
theorem gX13_isSame {d : Nat} {p0 : Nat} {i1 : Int32} {i2 : Int32} {h : jm_H} {r : jm_R} (H : ((jm_pf h p0 12 0 0 (.int 0)).bind fun h1 => jm_O h1 p0 13 (jc_I (jm_D d mX13_isPlay [.ref p0, .int i1] h1) (fun x5 h3 => (if x5 = 0 then jm_O h3 p0 13 (jc_I (jm_D d mX13_isNot [.ref p0, .int 1] h3) (fun x9 h7 => jm_Y .boolean x9 (some (.inl (some (.int x9)), h7))) jx) else jm_O h3 p0 13 (jc_I (jm_D d mX13_isPlay [.ref p0, .int i2] h3) (fun x16 h14 => (if x16 = 0 then jm_O h14 p0 13 (jc_I (jm_D d mX13_isNot [.ref p0, .int 1] h14) (fun x20 h18 => jm_Y .boolean x20 (some (.inl (some (.int x20)), h18))) jx) else jm_O h14 p0 13 (jc_I (jm_D d mX13_same [.ref p0, .int i1, .int i2] h14) (fun x27 h25 => jm_Y .boolean x27 (some (.inl (some (.int x27)), h25))) jx))) jx))) jx)) = some r) : jm_D (d + 1) mX13_isSame [.ref p0, .int i1, .int i2] h = some r := by
  rw [jm_D_body (Nat.le_of_ble_eq_true rfl)]
  show jm_B d mX13_isSame (0, [some (.ref p0), some (.int i1), some (.int i2)], []) h = some r
  refine Eq.trans (jb_nx (i := .aload_n 0) (n := 1) (q := (1, [some (.ref p0), some (.int i1), some (.int i2)], [.ref p0])) (jq qX13_isSame 0 rfl) rfl) ?_
  refine Eq.trans (jb_nx (i := .iconst 0) (n := 1) (q := (2, [some (.ref p0), some (.int i1), some (.int i2)], [.int 0, .ref p0])) (jq qX13_isSame 1 rfl) rfl) ?_
  obtain ⟨h1, e2, H⟩ := jbd H
  refine Eq.trans (jb_nx (i := .putfield 68) (n := 3) (q := (5, [some (.ref p0), some (.int i1), some (.int i2)], [])) (jq qX13_isSame 2 rfl) (jo_pf rfl (Or.inl rfl) e2)) ?_
  refine Eq.trans (jb_nx (i := .aload_n 0) (n := 1) (q := (6, [some (.ref p0), some (.int i1), some (.int i2)], [.ref p0])) (jq qX13_isSame 3 rfl) rfl) ?_
  refine Eq.trans (jb_nx (i := .iload_n 1) (n := 1) (q := (7, [some (.ref p0), some (.int i1), some (.int i2)], [.int i1, .ref p0])) (jq qX13_isSame 4 rfl) rfl) ?_
  obtain ⟨b35, H⟩ := jm_O_inv H
  rcases jcI H with ⟨x5, h3, r4, H⟩ | ⟨w36, h37, r4, H⟩
  · refine Eq.trans (jb_nx (i := .invokevirtual 473) (n := 3) (q := (10, [some (.ref p0), some (.int i1), some (.int i2)], [.int x5])) (jq qX13_isSame 5 rfl) (jo_cv (y := mX13_isPlay) rfl (Nat.le_of_ble_eq_true rfl) rfl (Nat.le_of_ble_eq_true rfl) b35 rfl r4 jo_ret)) ?_
    by_cases c6 : x5 = 0
    · rw [if_pos c6] at H
      refine Eq.trans (jb_nx (i := .ifCond .eq 20) (n := 3) (q := (30, [some (.ref p0), some (.int i1), some (.int i2)], [])) (jq qX13_isSame 6 rfl) (jo_ifT (jz_eqT c6) rfl)) ?_
      refine Eq.trans (jb_nx (i := .aload_n 0) (n := 1) (q := (31, [some (.ref p0), some (.int i1), some (.int i2)], [.ref p0])) (jq qX13_isSame 16 rfl) rfl) ?_
      refine Eq.trans (jb_nx (i := .iconst 1) (n := 1) (q := (32, [some (.ref p0), some (.int i1), some (.int i2)], [.int 1, .ref p0])) (jq qX13_isSame 17 rfl) rfl) ?_
      obtain ⟨b11, H⟩ := jm_O_inv H
      rcases jcI H with ⟨x9, h7, r8, H⟩ | ⟨w12, h13, r8, H⟩
      · refine Eq.trans (jb_nx (i := .invokevirtual 485) (n := 3) (q := (35, [some (.ref p0), some (.int i1), some (.int i2)], [.int x9])) (jq qX13_isSame 18 rfl) (jo_cv (y := mX13_isNot) rfl (Nat.le_of_ble_eq_true rfl) rfl (Nat.le_of_ble_eq_true rfl) b11 rfl r8 jo_ret)) ?_
        obtain ⟨u10, H⟩ := jm_Y_inv H
        exact Eq.trans (jb_rt (i := .ireturn) (n := 1) (jq qX13_isSame 19 rfl) (jo_iret rfl u10)) H
      · exact Eq.trans (jb_rt (i := .invokevirtual 485) (n := 3) (jq qX13_isSame 18 rfl) (jo_cv (y := mX13_isNot) rfl (Nat.le_of_ble_eq_true rfl) rfl (Nat.le_of_ble_eq_true rfl) b11 rfl r8 (jo_exn rfl))) H
    · rw [if_neg c6] at H
      refine Eq.trans (jb_nx (i := .ifCond .eq 20) (n := 3) (q := (13, [some (.ref p0), some (.int i1), some (.int i2)], [])) (jq qX13_isSame 6 rfl) (jo_ifF (jz_eqF c6))) ?_
      refine Eq.trans (jb_nx (i := .aload_n 0) (n := 1) (q := (14, [some (.ref p0), some (.int i1), some (.int i2)], [.ref p0])) (jq qX13_isSame 7 rfl) rfl) ?_
      refine Eq.trans (jb_nx (i := .iload_n 2) (n := 1) (q := (15, [some (.ref p0), some (.int i1), some (.int i2)], [.int i2, .ref p0])) (jq qX13_isSame 8 rfl) rfl) ?_
      obtain ⟨b32, H⟩ := jm_O_inv H
      rcases jcI H with ⟨x16, h14, r15, H⟩ | ⟨w33, h34, r15, H⟩
      · refine Eq.trans (jb_nx (i := .invokevirtual 473) (n := 3) (q := (18, [some (.ref p0), some (.int i1), some (.int i2)], [.int x16])) (jq qX13_isSame 9 rfl) (jo_cv (y := mX13_isPlay) rfl (Nat.le_of_ble_eq_true rfl) rfl (Nat.le_of_ble_eq_true rfl) b32 rfl r15 jo_ret)) ?_
        by_cases c17 : x16 = 0
        · rw [if_pos c17] at H
          refine Eq.trans (jb_nx (i := .ifCond .eq 12) (n := 3) (q := (30, [some (.ref p0), some (.int i1), some (.int i2)], [])) (jq qX13_isSame 10 rfl) (jo_ifT (jz_eqT c17) rfl)) ?_
          refine Eq.trans (jb_nx (i := .aload_n 0) (n := 1) (q := (31, [some (.ref p0), some (.int i1), some (.int i2)], [.ref p0])) (jq qX13_isSame 16 rfl) rfl) ?_
          refine Eq.trans (jb_nx (i := .iconst 1) (n := 1) (q := (32, [some (.ref p0), some (.int i1), some (.int i2)], [.int 1, .ref p0])) (jq qX13_isSame 17 rfl) rfl) ?_
          obtain ⟨b22, H⟩ := jm_O_inv H
          rcases jcI H with ⟨x20, h18, r19, H⟩ | ⟨w23, h24, r19, H⟩
          · refine Eq.trans (jb_nx (i := .invokevirtual 485) (n := 3) (q := (35, [some (.ref p0), some (.int i1), some (.int i2)], [.int x20])) (jq qX13_isSame 18 rfl) (jo_cv (y := mX13_isNot) rfl (Nat.le_of_ble_eq_true rfl) rfl (Nat.le_of_ble_eq_true rfl) b22 rfl r19 jo_ret)) ?_
            obtain ⟨u21, H⟩ := jm_Y_inv H
            exact Eq.trans (jb_rt (i := .ireturn) (n := 1) (jq qX13_isSame 19 rfl) (jo_iret rfl u21)) H
          · exact Eq.trans (jb_rt (i := .invokevirtual 485) (n := 3) (jq qX13_isSame 18 rfl) (jo_cv (y := mX13_isNot) rfl (Nat.le_of_ble_eq_true rfl) rfl (Nat.le_of_ble_eq_true rfl) b22 rfl r19 (jo_exn rfl))) H
        · rw [if_neg c17] at H
          refine Eq.trans (jb_nx (i := .ifCond .eq 12) (n := 3) (q := (21, [some (.ref p0), some (.int i1), some (.int i2)], [])) (jq qX13_isSame 10 rfl) (jo_ifF (jz_eqF c17))) ?_
          refine Eq.trans (jb_nx (i := .aload_n 0) (n := 1) (q := (22, [some (.ref p0), some (.int i1), some (.int i2)], [.ref p0])) (jq qX13_isSame 11 rfl) rfl) ?_
          refine Eq.trans (jb_nx (i := .iload_n 1) (n := 1) (q := (23, [some (.ref p0), some (.int i1), some (.int i2)], [.int i1, .ref p0])) (jq qX13_isSame 12 rfl) rfl) ?_
          refine Eq.trans (jb_nx (i := .iload_n 2) (n := 1) (q := (24, [some (.ref p0), some (.int i1), some (.int i2)], [.int i2, .int i1, .ref p0])) (jq qX13_isSame 13 rfl) rfl) ?_
          obtain ⟨b29, H⟩ := jm_O_inv H
          rcases jcI H with ⟨x27, h25, r26, H⟩ | ⟨w30, h31, r26, H⟩
          · refine Eq.trans (jb_nx (i := .invokevirtual 201) (n := 3) (q := (27, [some (.ref p0), some (.int i1), some (.int i2)], [.int x27])) (jq qX13_isSame 14 rfl) (jo_cv (y := mX13_same) rfl (Nat.le_of_ble_eq_true rfl) rfl (Nat.le_of_ble_eq_true rfl) b29 rfl r26 jo_ret)) ?_
            refine Eq.trans (jb_nx (i := .goto 8) (n := 3) (q := (35, [some (.ref p0), some (.int i1), some (.int i2)], [.int x27])) (jq qX13_isSame 15 rfl) rfl) ?_
            obtain ⟨u28, H⟩ := jm_Y_inv H
            exact Eq.trans (jb_rt (i := .ireturn) (n := 1) (jq qX13_isSame 19 rfl) (jo_iret rfl u28)) H
          · exact Eq.trans (jb_rt (i := .invokevirtual 201) (n := 3) (jq qX13_isSame 14 rfl) (jo_cv (y := mX13_same) rfl (Nat.le_of_ble_eq_true rfl) rfl (Nat.le_of_ble_eq_true rfl) b29 rfl r26 (jo_exn rfl))) H
      · exact Eq.trans (jb_rt (i := .invokevirtual 473) (n := 3) (jq qX13_isSame 9 rfl) (jo_cv (y := mX13_isPlay) rfl (Nat.le_of_ble_eq_true rfl) rfl (Nat.le_of_ble_eq_true rfl) b32 rfl r15 (jo_exn rfl))) H
  · exact Eq.trans (jb_rt (i := .invokevirtual 473) (n := 3) (jq qX13_isSame 5 rfl) (jo_cv (y := mX13_isPlay) rfl (Nat.le_of_ble_eq_true rfl) rfl (Nat.le_of_ble_eq_true rfl) b35 rfl r4 (jo_exn rfl))) H
/-! MaskPlaysModel same (II)Z -/
def tX13_same : List (Nat × Instr × Nat) := [(0, .aload_n 0, 1), (1, .iload_n 1, 1), (2, .invokevirtual 146, 3), (5, .aload_n 0, 1), (6, .invokevirtual 150, 3), (9, .istore_n 3, 1), (10, .aload_n 0, 1), (11, .iload_n 2, 1), (12, .invokevirtual 146, 3), (15, .aload_n 0, 1), (16, .iload_n 3, 1), (17, .invokevirtual 153, 3), (20, .ireturn, 1)]
set_option maxRecDepth 100000 in
theorem qX13_same : ∀ q ∈ tX13_same, decode cX13_same q.1 = .ok (q.2.1, q.2.2) := by decide +kernel
theorem gX13_same {d : Nat} {p0 : Nat} {i1 : Int32} {i2 : Int32} {h : jm_H} {r : jm_R} (H : (jm_O h p0 13 (jc_V (jm_D d mX13_takeUp [.ref p0, .int i1] h) (fun h1 => jm_O h1 p0 13 (jc_I (jm_D d mX13_setAside [.ref p0] h1) (fun x5 h3 => jm_O h3 p0 13 (jc_V (jm_D d mX13_takeUp [.ref p0, .int i2] h3) (fun h6 => jm_O h6 p0 13 (jc_I (jm_D d mX13_isAlike [.ref p0, .int x5] h6) (fun x10 h8 => jm_Y .boolean x10 (some (.inl (some (.int x10)), h8))) jx)) jx)) jx)) jx)) = some r) : jm_D (d + 1) mX13_same [.ref p0, .int i1, .int i2] h = some r := by
  rw [jm_D_body (Nat.le_of_ble_eq_true rfl)]
  show jm_B d mX13_same (0, [some (.ref p0), some (.int i1), some (.int i2), none], []) h = some r
  refine Eq.trans (jb_nx (i := .aload_n 0) (n := 1) (q := (1, [some (.ref p0), some (.int i1), some (.int i2), none], [.ref p0])) (jq qX13_same 0 rfl) rfl) ?_
  refine Eq.trans (jb_nx (i := .iload_n 1) (n := 1) (q := (2, [some (.ref p0), some (.int i1), some (.int i2), none], [.int i1, .ref p0])) (jq qX13_same 1 rfl) rfl) ?_
  obtain ⟨b21, H⟩ := jm_O_inv H
  rcases jcV H with ⟨h1, r2, H⟩ | ⟨w22, h23, r2, H⟩
  · refine Eq.trans (jb_nx (i := .invokevirtual 146) (n := 3) (q := (5, [some (.ref p0), some (.int i1), some (.int i2), none], [])) (jq qX13_same 2 rfl) (jo_cv (y := mX13_takeUp) rfl (Nat.le_of_ble_eq_true rfl) rfl (Nat.le_of_ble_eq_true rfl) b21 rfl r2 jo_ret)) ?_
    refine Eq.trans (jb_nx (i := .aload_n 0) (n := 1) (q := (6, [some (.ref p0), some (.int i1), some (.int i2), none], [.ref p0])) (jq qX13_same 3 rfl) rfl) ?_
    obtain ⟨b18, H⟩ := jm_O_inv H
    rcases jcI H with ⟨x5, h3, r4, H⟩ | ⟨w19, h20, r4, H⟩
    · refine Eq.trans (jb_nx (i := .invokevirtual 150) (n := 3) (q := (9, [some (.ref p0), some (.int i1), some (.int i2), none], [.int x5])) (jq qX13_same 4 rfl) (jo_cv (y := mX13_setAside) rfl (Nat.le_of_ble_eq_true rfl) rfl (Nat.le_of_ble_eq_true rfl) b18 rfl r4 jo_ret)) ?_
      refine Eq.trans (jb_nx (i := .istore_n 3) (n := 1) (q := (10, [some (.ref p0), some (.int i1), some (.int i2), some (.int x5)], [])) (jq qX13_same 5 rfl) rfl) ?_
      refine Eq.trans (jb_nx (i := .aload_n 0) (n := 1) (q := (11, [some (.ref p0), some (.int i1), some (.int i2), some (.int x5)], [.ref p0])) (jq qX13_same 6 rfl) rfl) ?_
      refine Eq.trans (jb_nx (i := .iload_n 2) (n := 1) (q := (12, [some (.ref p0), some (.int i1), some (.int i2), some (.int x5)], [.int i2, .ref p0])) (jq qX13_same 7 rfl) rfl) ?_
      obtain ⟨b15, H⟩ := jm_O_inv H
      rcases jcV H with ⟨h6, r7, H⟩ | ⟨w16, h17, r7, H⟩
      · refine Eq.trans (jb_nx (i := .invokevirtual 146) (n := 3) (q := (15, [some (.ref p0), some (.int i1), some (.int i2), some (.int x5)], [])) (jq qX13_same 8 rfl) (jo_cv (y := mX13_takeUp) rfl (Nat.le_of_ble_eq_true rfl) rfl (Nat.le_of_ble_eq_true rfl) b15 rfl r7 jo_ret)) ?_
        refine Eq.trans (jb_nx (i := .aload_n 0) (n := 1) (q := (16, [some (.ref p0), some (.int i1), some (.int i2), some (.int x5)], [.ref p0])) (jq qX13_same 9 rfl) rfl) ?_
        refine Eq.trans (jb_nx (i := .iload_n 3) (n := 1) (q := (17, [some (.ref p0), some (.int i1), some (.int i2), some (.int x5)], [.int x5, .ref p0])) (jq qX13_same 10 rfl) rfl) ?_
        obtain ⟨b12, H⟩ := jm_O_inv H
        rcases jcI H with ⟨x10, h8, r9, H⟩ | ⟨w13, h14, r9, H⟩
        · refine Eq.trans (jb_nx (i := .invokevirtual 153) (n := 3) (q := (20, [some (.ref p0), some (.int i1), some (.int i2), some (.int x5)], [.int x10])) (jq qX13_same 11 rfl) (jo_cv (y := mX13_isAlike) rfl (Nat.le_of_ble_eq_true rfl) rfl (Nat.le_of_ble_eq_true rfl) b12 rfl r9 jo_ret)) ?_
          obtain ⟨u11, H⟩ := jm_Y_inv H
          exact Eq.trans (jb_rt (i := .ireturn) (n := 1) (jq qX13_same 12 rfl) (jo_iret rfl u11)) H
        · exact Eq.trans (jb_rt (i := .invokevirtual 153) (n := 3) (jq qX13_same 11 rfl) (jo_cv (y := mX13_isAlike) rfl (Nat.le_of_ble_eq_true rfl) rfl (Nat.le_of_ble_eq_true rfl) b12 rfl r9 (jo_exn rfl))) H
      · exact Eq.trans (jb_rt (i := .invokevirtual 146) (n := 3) (jq qX13_same 8 rfl) (jo_cv (y := mX13_takeUp) rfl (Nat.le_of_ble_eq_true rfl) rfl (Nat.le_of_ble_eq_true rfl) b15 rfl r7 (jo_exn rfl))) H
    · exact Eq.trans (jb_rt (i := .invokevirtual 150) (n := 3) (jq qX13_same 4 rfl) (jo_cv (y := mX13_setAside) rfl (Nat.le_of_ble_eq_true rfl) rfl (Nat.le_of_ble_eq_true rfl) b18 rfl r4 (jo_exn rfl))) H
  · exact Eq.trans (jb_rt (i := .invokevirtual 146) (n := 3) (jq qX13_same 2 rfl) (jo_cv (y := mX13_takeUp) rfl (Nat.le_of_ble_eq_true rfl) rfl (Nat.le_of_ble_eq_true rfl) b21 rfl r2 (jo_exn rfl))) H
