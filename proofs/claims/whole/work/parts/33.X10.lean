/-! ===== LEVEL 2: X10 ===== -/
/-! MaskPlays$Words longer (JI)J -/
def tX10_longer : List (Nat × Instr × Nat) := [(0, .iload_n 2, 1), (1, .bipush 97, 2), (3, .if_icmp .lt 12, 3), (6, .iload_n 2, 1), (7, .bipush 97, 2), (9, .isub, 1), (10, .iconst 1, 1), (11, .iadd, 1), (12, .goto 10, 3), (15, .iload_n 2, 1), (16, .bipush 48, 2), (18, .isub, 1), (19, .bipush 27, 2), (21, .iadd, 1), (22, .istore_n 3, 1), (23, .lload_n 0, 1), (24, .bipush 6, 2), (26, .lshl, 1), (27, .iload_n 3, 1), (28, .i2l, 1), (29, .lor, 1), (30, .lreturn, 1)]
set_option maxRecDepth 100000 in
theorem qX10_longer : ∀ q ∈ tX10_longer, decode cX10_longer q.1 = .ok (q.2.1, q.2.2) := by decide +kernel
theorem gX10_longer {d : Nat} {j0 : Int64} {i2 : Int32} {h : jm_H} {r : jm_R} (H : ((if i2 < 97 then some (.inl (some (.long ((j0 <<< (Int32.toInt64 6 &&& 63)) ||| (Int32.toInt64 ((i2 - 48) + 27))))), h) else some (.inl (some (.long ((j0 <<< (Int32.toInt64 6 &&& 63)) ||| (Int32.toInt64 ((i2 - 97) + 1))))), h))) = some r) : jm_D (d + 1) mX10_longer [.long j0, .int i2] h = some r := by
  rw [jm_D_body (Nat.le_of_ble_eq_true rfl)]
  show jm_B d mX10_longer (0, [some (.long j0), none, some (.int i2), none], []) h = some r
  refine Eq.trans (jb_nx (i := .iload_n 2) (n := 1) (q := (1, [some (.long j0), none, some (.int i2), none], [.int i2])) (jq qX10_longer 0 rfl) rfl) ?_
  refine Eq.trans (jb_nx (i := .bipush 97) (n := 2) (q := (3, [some (.long j0), none, some (.int i2), none], [.int 97, .int i2])) (jq qX10_longer 1 rfl) rfl) ?_
  by_cases c1 : i2 < 97
  · rw [if_pos c1] at H
    refine Eq.trans (jb_nx (i := .if_icmp .lt 12) (n := 3) (q := (15, [some (.long j0), none, some (.int i2), none], [])) (jq qX10_longer 2 rfl) (jo_icT (jz_ltT c1) rfl)) ?_
    refine Eq.trans (jb_nx (i := .iload_n 2) (n := 1) (q := (16, [some (.long j0), none, some (.int i2), none], [.int i2])) (jq qX10_longer 9 rfl) rfl) ?_
    refine Eq.trans (jb_nx (i := .bipush 48) (n := 2) (q := (18, [some (.long j0), none, some (.int i2), none], [.int 48, .int i2])) (jq qX10_longer 10 rfl) rfl) ?_
    refine Eq.trans (jb_nx (i := .isub) (n := 1) (q := (19, [some (.long j0), none, some (.int i2), none], [.int (i2 - 48)])) (jq qX10_longer 11 rfl) rfl) ?_
    refine Eq.trans (jb_nx (i := .bipush 27) (n := 2) (q := (21, [some (.long j0), none, some (.int i2), none], [.int 27, .int (i2 - 48)])) (jq qX10_longer 12 rfl) rfl) ?_
    refine Eq.trans (jb_nx (i := .iadd) (n := 1) (q := (22, [some (.long j0), none, some (.int i2), none], [.int ((i2 - 48) + 27)])) (jq qX10_longer 13 rfl) rfl) ?_
    refine Eq.trans (jb_nx (i := .istore_n 3) (n := 1) (q := (23, [some (.long j0), none, some (.int i2), some (.int ((i2 - 48) + 27))], [])) (jq qX10_longer 14 rfl) rfl) ?_
    refine Eq.trans (jb_nx (i := .lload_n 0) (n := 1) (q := (24, [some (.long j0), none, some (.int i2), some (.int ((i2 - 48) + 27))], [.long j0])) (jq qX10_longer 15 rfl) rfl) ?_
    refine Eq.trans (jb_nx (i := .bipush 6) (n := 2) (q := (26, [some (.long j0), none, some (.int i2), some (.int ((i2 - 48) + 27))], [.int 6, .long j0])) (jq qX10_longer 16 rfl) rfl) ?_
    refine Eq.trans (jb_nx (i := .lshl) (n := 1) (q := (27, [some (.long j0), none, some (.int i2), some (.int ((i2 - 48) + 27))], [.long (j0 <<< (Int32.toInt64 6 &&& 63))])) (jq qX10_longer 17 rfl) rfl) ?_
    refine Eq.trans (jb_nx (i := .iload_n 3) (n := 1) (q := (28, [some (.long j0), none, some (.int i2), some (.int ((i2 - 48) + 27))], [.int ((i2 - 48) + 27), .long (j0 <<< (Int32.toInt64 6 &&& 63))])) (jq qX10_longer 18 rfl) rfl) ?_
    refine Eq.trans (jb_nx (i := .i2l) (n := 1) (q := (29, [some (.long j0), none, some (.int i2), some (.int ((i2 - 48) + 27))], [.long (Int32.toInt64 ((i2 - 48) + 27)), .long (j0 <<< (Int32.toInt64 6 &&& 63))])) (jq qX10_longer 19 rfl) rfl) ?_
    refine Eq.trans (jb_nx (i := .lor) (n := 1) (q := (30, [some (.long j0), none, some (.int i2), some (.int ((i2 - 48) + 27))], [.long ((j0 <<< (Int32.toInt64 6 &&& 63)) ||| (Int32.toInt64 ((i2 - 48) + 27)))])) (jq qX10_longer 20 rfl) rfl) ?_
    exact Eq.trans (jb_rt (i := .lreturn) (n := 1) (jq qX10_longer 21 rfl) rfl) H
  · rw [if_neg c1] at H
    refine Eq.trans (jb_nx (i := .if_icmp .lt 12) (n := 3) (q := (6, [some (.long j0), none, some (.int i2), none], [])) (jq qX10_longer 2 rfl) (jo_icF (jz_ltF c1))) ?_
    refine Eq.trans (jb_nx (i := .iload_n 2) (n := 1) (q := (7, [some (.long j0), none, some (.int i2), none], [.int i2])) (jq qX10_longer 3 rfl) rfl) ?_
    refine Eq.trans (jb_nx (i := .bipush 97) (n := 2) (q := (9, [some (.long j0), none, some (.int i2), none], [.int 97, .int i2])) (jq qX10_longer 4 rfl) rfl) ?_
    refine Eq.trans (jb_nx (i := .isub) (n := 1) (q := (10, [some (.long j0), none, some (.int i2), none], [.int (i2 - 97)])) (jq qX10_longer 5 rfl) rfl) ?_
    refine Eq.trans (jb_nx (i := .iconst 1) (n := 1) (q := (11, [some (.long j0), none, some (.int i2), none], [.int 1, .int (i2 - 97)])) (jq qX10_longer 6 rfl) rfl) ?_
    refine Eq.trans (jb_nx (i := .iadd) (n := 1) (q := (12, [some (.long j0), none, some (.int i2), none], [.int ((i2 - 97) + 1)])) (jq qX10_longer 7 rfl) rfl) ?_
    refine Eq.trans (jb_nx (i := .goto 10) (n := 3) (q := (22, [some (.long j0), none, some (.int i2), none], [.int ((i2 - 97) + 1)])) (jq qX10_longer 8 rfl) rfl) ?_
    refine Eq.trans (jb_nx (i := .istore_n 3) (n := 1) (q := (23, [some (.long j0), none, some (.int i2), some (.int ((i2 - 97) + 1))], [])) (jq qX10_longer 14 rfl) rfl) ?_
    refine Eq.trans (jb_nx (i := .lload_n 0) (n := 1) (q := (24, [some (.long j0), none, some (.int i2), some (.int ((i2 - 97) + 1))], [.long j0])) (jq qX10_longer 15 rfl) rfl) ?_
    refine Eq.trans (jb_nx (i := .bipush 6) (n := 2) (q := (26, [some (.long j0), none, some (.int i2), some (.int ((i2 - 97) + 1))], [.int 6, .long j0])) (jq qX10_longer 16 rfl) rfl) ?_
    refine Eq.trans (jb_nx (i := .lshl) (n := 1) (q := (27, [some (.long j0), none, some (.int i2), some (.int ((i2 - 97) + 1))], [.long (j0 <<< (Int32.toInt64 6 &&& 63))])) (jq qX10_longer 17 rfl) rfl) ?_
    refine Eq.trans (jb_nx (i := .iload_n 3) (n := 1) (q := (28, [some (.long j0), none, some (.int i2), some (.int ((i2 - 97) + 1))], [.int ((i2 - 97) + 1), .long (j0 <<< (Int32.toInt64 6 &&& 63))])) (jq qX10_longer 18 rfl) rfl) ?_
    refine Eq.trans (jb_nx (i := .i2l) (n := 1) (q := (29, [some (.long j0), none, some (.int i2), some (.int ((i2 - 97) + 1))], [.long (Int32.toInt64 ((i2 - 97) + 1)), .long (j0 <<< (Int32.toInt64 6 &&& 63))])) (jq qX10_longer 19 rfl) rfl) ?_
    refine Eq.trans (jb_nx (i := .lor) (n := 1) (q := (30, [some (.long j0), none, some (.int i2), some (.int ((i2 - 97) + 1))], [.long ((j0 <<< (Int32.toInt64 6 &&& 63)) ||| (Int32.toInt64 ((i2 - 97) + 1)))])) (jq qX10_longer 20 rfl) rfl) ?_
    exact Eq.trans (jb_rt (i := .lreturn) (n := 1) (jq qX10_longer 21 rfl) rfl) H
/-! MaskPlays$Words zName (I)J -/
def tX10_zName : List (Nat × Instr × Nat) := [(0, .lconst 0, 1), (1, .bipush 122, 2), (3, .invokestatic 11, 3), (6, .lstore_n 1, 1), (7, .bipush 100, 2), (9, .istore_n 3, 1), (10, .iload_n 3, 1), (11, .iconst 1, 1), (12, .if_icmp .lt 35, 3), (15, .iload_n 0, 1), (16, .iload_n 3, 1), (17, .if_icmp .ge 8, 3), (20, .iload_n 3, 1), (21, .iconst 1, 1), (22, .if_icmp .ne 17, 3), (25, .lload_n 1, 1), (26, .bipush 48, 2), (28, .iload_n 0, 1), (29, .iload_n 3, 1), (30, .idiv, 1), (31, .bipush 10, 2), (33, .irem, 1), (34, .iadd, 1), (35, .invokestatic 11, 3), (38, .lstore_n 1, 1), (39, .iload_n 3, 1), (40, .bipush 10, 2), (42, .idiv, 1), (43, .istore_n 3, 1), (44, .goto (-34), 3), (47, .lload_n 1, 1), (48, .lreturn, 1)]
set_option maxRecDepth 100000 in
theorem qX10_zName : ∀ q ∈ tX10_zName, decode cX10_zName q.1 = .ok (q.2.1, q.2.2) := by decide +kernel
noncomputable def kX10_zName_10 (d : Nat) (i0 : Int32) (j1 : Int64) (i3 : Int32) (h : jm_H) : Option jm_R := jm_B d mX10_zName (10, [some (.int i0), some (.long j1), none, some (.int i3)], []) h
noncomputable def kX10_zName_25 (d : Nat) (i0 : Int32) (j1 : Int64) (i3 : Int32) (h : jm_H) : Option jm_R := jm_B d mX10_zName (25, [some (.int i0), some (.long j1), none, some (.int i3)], []) h
theorem gX10_zName_10 {d : Nat} {i0 : Int32} {j1 : Int64} {i3 : Int32} {h : jm_H} {r : jm_R} (H : ((if i3 < 1 then some (.inl (some (.long j1)), h) else (if i0 < i3 then (if i3 = 1 then kX10_zName_25 d i0 j1 i3 h else kX10_zName_10 d i0 j1 (i3 / 10) h) else kX10_zName_25 d i0 j1 i3 h))) = some r) : kX10_zName_10 d i0 j1 i3 h = some r := by
  show jm_B d mX10_zName (10, [some (.int i0), some (.long j1), none, some (.int i3)], []) h = some r
  refine Eq.trans (jb_nx (i := .iload_n 3) (n := 1) (q := (11, [some (.int i0), some (.long j1), none, some (.int i3)], [.int i3])) (jq qX10_zName 6 rfl) rfl) ?_
  refine Eq.trans (jb_nx (i := .iconst 1) (n := 1) (q := (12, [some (.int i0), some (.long j1), none, some (.int i3)], [.int 1, .int i3])) (jq qX10_zName 7 rfl) rfl) ?_
  by_cases c6 : i3 < 1
  · rw [if_pos c6] at H
    refine Eq.trans (jb_nx (i := .if_icmp .lt 35) (n := 3) (q := (47, [some (.int i0), some (.long j1), none, some (.int i3)], [])) (jq qX10_zName 8 rfl) (jo_icT (jz_ltT c6) rfl)) ?_
    refine Eq.trans (jb_nx (i := .lload_n 1) (n := 1) (q := (48, [some (.int i0), some (.long j1), none, some (.int i3)], [.long j1])) (jq qX10_zName 30 rfl) rfl) ?_
    exact Eq.trans (jb_rt (i := .lreturn) (n := 1) (jq qX10_zName 31 rfl) rfl) H
  · rw [if_neg c6] at H
    refine Eq.trans (jb_nx (i := .if_icmp .lt 35) (n := 3) (q := (15, [some (.int i0), some (.long j1), none, some (.int i3)], [])) (jq qX10_zName 8 rfl) (jo_icF (jz_ltF c6))) ?_
    refine Eq.trans (jb_nx (i := .iload_n 0) (n := 1) (q := (16, [some (.int i0), some (.long j1), none, some (.int i3)], [.int i0])) (jq qX10_zName 9 rfl) rfl) ?_
    refine Eq.trans (jb_nx (i := .iload_n 3) (n := 1) (q := (17, [some (.int i0), some (.long j1), none, some (.int i3)], [.int i3, .int i0])) (jq qX10_zName 10 rfl) rfl) ?_
    by_cases c7 : i0 < i3
    · rw [if_pos c7] at H
      refine Eq.trans (jb_nx (i := .if_icmp .ge 8) (n := 3) (q := (20, [some (.int i0), some (.long j1), none, some (.int i3)], [])) (jq qX10_zName 11 rfl) (jo_icF (jz_geF c7))) ?_
      refine Eq.trans (jb_nx (i := .iload_n 3) (n := 1) (q := (21, [some (.int i0), some (.long j1), none, some (.int i3)], [.int i3])) (jq qX10_zName 12 rfl) rfl) ?_
      refine Eq.trans (jb_nx (i := .iconst 1) (n := 1) (q := (22, [some (.int i0), some (.long j1), none, some (.int i3)], [.int 1, .int i3])) (jq qX10_zName 13 rfl) rfl) ?_
      by_cases c8 : i3 = 1
      · rw [if_pos c8] at H
        refine Eq.trans (jb_nx (i := .if_icmp .ne 17) (n := 3) (q := (25, [some (.int i0), some (.long j1), none, some (.int i3)], [])) (jq qX10_zName 14 rfl) (jo_icF (jz_neF c8))) ?_
        exact H
      · rw [if_neg c8] at H
        refine Eq.trans (jb_nx (i := .if_icmp .ne 17) (n := 3) (q := (39, [some (.int i0), some (.long j1), none, some (.int i3)], [])) (jq qX10_zName 14 rfl) (jo_icT (jz_neT c8) rfl)) ?_
        refine Eq.trans (jb_nx (i := .iload_n 3) (n := 1) (q := (40, [some (.int i0), some (.long j1), none, some (.int i3)], [.int i3])) (jq qX10_zName 25 rfl) rfl) ?_
        refine Eq.trans (jb_nx (i := .bipush 10) (n := 2) (q := (42, [some (.int i0), some (.long j1), none, some (.int i3)], [.int 10, .int i3])) (jq qX10_zName 26 rfl) rfl) ?_
        refine Eq.trans (jb_nx (i := .idiv) (n := 1) (q := (43, [some (.int i0), some (.long j1), none, some (.int i3)], [.int (i3 / 10)])) (jq qX10_zName 27 rfl) (jo_idiv (by decide))) ?_
        refine Eq.trans (jb_nx (i := .istore_n 3) (n := 1) (q := (44, [some (.int i0), some (.long j1), none, some (.int (i3 / 10))], [])) (jq qX10_zName 28 rfl) rfl) ?_
        refine Eq.trans (jb_nx (i := .goto (-34)) (n := 3) (q := (10, [some (.int i0), some (.long j1), none, some (.int (i3 / 10))], [])) (jq qX10_zName 29 rfl) rfl) ?_
        exact H
    · rw [if_neg c7] at H
      refine Eq.trans (jb_nx (i := .if_icmp .ge 8) (n := 3) (q := (25, [some (.int i0), some (.long j1), none, some (.int i3)], [])) (jq qX10_zName 11 rfl) (jo_icT (jz_geT c7) rfl)) ?_
      exact H
theorem gX10_zName_25 {d : Nat} {i0 : Int32} {j1 : Int64} {i3 : Int32} {h : jm_H} {r : jm_R} (H : ((if i3 = 0 then none else jc_L (jm_D d mX10_longer [.long j1, .int (48 + ((i0 / i3) - (i0 / i3) / 10 * 10))] h) (fun y12 h10 => kX10_zName_10 d i0 y12 (i3 / 10) h10) jx)) = some r) : kX10_zName_25 d i0 j1 i3 h = some r := by
  show jm_B d mX10_zName (25, [some (.int i0), some (.long j1), none, some (.int i3)], []) h = some r
  refine Eq.trans (jb_nx (i := .lload_n 1) (n := 1) (q := (26, [some (.int i0), some (.long j1), none, some (.int i3)], [.long j1])) (jq qX10_zName 15 rfl) rfl) ?_
  refine Eq.trans (jb_nx (i := .bipush 48) (n := 2) (q := (28, [some (.int i0), some (.long j1), none, some (.int i3)], [.int 48, .long j1])) (jq qX10_zName 16 rfl) rfl) ?_
  refine Eq.trans (jb_nx (i := .iload_n 0) (n := 1) (q := (29, [some (.int i0), some (.long j1), none, some (.int i3)], [.int i0, .int 48, .long j1])) (jq qX10_zName 17 rfl) rfl) ?_
  refine Eq.trans (jb_nx (i := .iload_n 3) (n := 1) (q := (30, [some (.int i0), some (.long j1), none, some (.int i3)], [.int i3, .int i0, .int 48, .long j1])) (jq qX10_zName 18 rfl) rfl) ?_
  by_cases c9 : i3 = 0
  · rw [if_pos c9] at H; cases H
  · rw [if_neg c9] at H
    refine Eq.trans (jb_nx (i := .idiv) (n := 1) (q := (31, [some (.int i0), some (.long j1), none, some (.int i3)], [.int (i0 / i3), .int 48, .long j1])) (jq qX10_zName 19 rfl) (jo_idiv c9)) ?_
    refine Eq.trans (jb_nx (i := .bipush 10) (n := 2) (q := (33, [some (.int i0), some (.long j1), none, some (.int i3)], [.int 10, .int (i0 / i3), .int 48, .long j1])) (jq qX10_zName 20 rfl) rfl) ?_
    refine Eq.trans (jb_nx (i := .irem) (n := 1) (q := (34, [some (.int i0), some (.long j1), none, some (.int i3)], [.int ((i0 / i3) - (i0 / i3) / 10 * 10), .int 48, .long j1])) (jq qX10_zName 21 rfl) (jo_irem (by decide))) ?_
    refine Eq.trans (jb_nx (i := .iadd) (n := 1) (q := (35, [some (.int i0), some (.long j1), none, some (.int i3)], [.int (48 + ((i0 / i3) - (i0 / i3) / 10 * 10)), .long j1])) (jq qX10_zName 22 rfl) rfl) ?_
    rcases jcL H with ⟨y12, h10, r11, H⟩ | ⟨w13, h14, r11, H⟩
    · refine Eq.trans (jb_nx (i := .invokestatic 11) (n := 3) (q := (38, [some (.int i0), some (.long j1), none, some (.int i3)], [.long y12])) (jq qX10_zName 23 rfl) (jo_cs (y := mX10_longer) (w := 1) (by decide) rfl (Nat.le_of_ble_eq_true rfl) rfl (Nat.le_of_ble_eq_true rfl) rfl r11 jo_ret)) ?_
      refine Eq.trans (jb_nx (i := .lstore_n 1) (n := 1) (q := (39, [some (.int i0), some (.long y12), none, some (.int i3)], [])) (jq qX10_zName 24 rfl) rfl) ?_
      refine Eq.trans (jb_nx (i := .iload_n 3) (n := 1) (q := (40, [some (.int i0), some (.long y12), none, some (.int i3)], [.int i3])) (jq qX10_zName 25 rfl) rfl) ?_
      refine Eq.trans (jb_nx (i := .bipush 10) (n := 2) (q := (42, [some (.int i0), some (.long y12), none, some (.int i3)], [.int 10, .int i3])) (jq qX10_zName 26 rfl) rfl) ?_
      refine Eq.trans (jb_nx (i := .idiv) (n := 1) (q := (43, [some (.int i0), some (.long y12), none, some (.int i3)], [.int (i3 / 10)])) (jq qX10_zName 27 rfl) (jo_idiv (by decide))) ?_
      refine Eq.trans (jb_nx (i := .istore_n 3) (n := 1) (q := (44, [some (.int i0), some (.long y12), none, some (.int (i3 / 10))], [])) (jq qX10_zName 28 rfl) rfl) ?_
      refine Eq.trans (jb_nx (i := .goto (-34)) (n := 3) (q := (10, [some (.int i0), some (.long y12), none, some (.int (i3 / 10))], [])) (jq qX10_zName 29 rfl) rfl) ?_
      exact H
    · exact Eq.trans (jb_rt (i := .invokestatic 11) (n := 3) (jq qX10_zName 23 rfl) (jo_cs (y := mX10_longer) (w := 1) (by decide) rfl (Nat.le_of_ble_eq_true rfl) rfl (Nat.le_of_ble_eq_true rfl) rfl r11 (jo_exn rfl))) H
theorem gX10_zName {d : Nat} {i0 : Int32} {h : jm_H} {r : jm_R} (H : (jc_L (jm_D d mX10_longer [.long 0, .int 122] h) (fun y3 h1 => kX10_zName_10 d i0 y3 100 h1) jx) = some r) : jm_D (d + 1) mX10_zName [.int i0] h = some r := by
  rw [jm_D_body (Nat.le_of_ble_eq_true rfl)]
  show jm_B d mX10_zName (0, [some (.int i0), none, none, none], []) h = some r
  refine Eq.trans (jb_nx (i := .lconst 0) (n := 1) (q := (1, [some (.int i0), none, none, none], [.long 0])) (jq qX10_zName 0 rfl) rfl) ?_
  refine Eq.trans (jb_nx (i := .bipush 122) (n := 2) (q := (3, [some (.int i0), none, none, none], [.int 122, .long 0])) (jq qX10_zName 1 rfl) rfl) ?_
  rcases jcL H with ⟨y3, h1, r2, H⟩ | ⟨w4, h5, r2, H⟩
  · refine Eq.trans (jb_nx (i := .invokestatic 11) (n := 3) (q := (6, [some (.int i0), none, none, none], [.long y3])) (jq qX10_zName 2 rfl) (jo_cs (y := mX10_longer) (w := 1) (by decide) rfl (Nat.le_of_ble_eq_true rfl) rfl (Nat.le_of_ble_eq_true rfl) rfl r2 jo_ret)) ?_
    refine Eq.trans (jb_nx (i := .lstore_n 1) (n := 1) (q := (7, [some (.int i0), some (.long y3), none, none], [])) (jq qX10_zName 3 rfl) rfl) ?_
    refine Eq.trans (jb_nx (i := .bipush 100) (n := 2) (q := (9, [some (.int i0), some (.long y3), none, none], [.int 100])) (jq qX10_zName 4 rfl) rfl) ?_
    refine Eq.trans (jb_nx (i := .istore_n 3) (n := 1) (q := (10, [some (.int i0), some (.long y3), none, some (.int 100)], [])) (jq qX10_zName 5 rfl) rfl) ?_
    exact H
  · exact Eq.trans (jb_rt (i := .invokestatic 11) (n := 3) (jq qX10_zName 2 rfl) (jo_cs (y := mX10_longer) (w := 1) (by decide) rfl (Nat.le_of_ble_eq_true rfl) rfl (Nat.le_of_ble_eq_true rfl) rfl r2 (jo_exn rfl))) H
/-! MaskPlays$Words signAt (JI)I -/
def tX10_signAt : List (Nat × Instr × Nat) := [(0, .lload_n 0, 1), (1, .iload_n 2, 1), (2, .lushr, 1), (3, .l2i, 1), (4, .bipush 63, 2), (6, .iand, 1), (7, .istore_n 3, 1), (8, .iload_n 3, 1), (9, .ifCond .ne 5, 3), (12, .iconst 0, 1), (13, .ireturn, 1), (14, .iload_n 3, 1), (15, .bipush 27, 2), (17, .if_icmp .ge 12, 3), (20, .bipush 97, 2), (22, .iload_n 3, 1), (23, .iadd, 1), (24, .iconst 1, 1), (25, .isub, 1), (26, .goto 10, 3), (29, .bipush 48, 2), (31, .iload_n 3, 1), (32, .iadd, 1), (33, .bipush 27, 2), (35, .isub, 1), (36, .ireturn, 1)]
set_option maxRecDepth 100000 in
theorem qX10_signAt : ∀ q ∈ tX10_signAt, decode cX10_signAt q.1 = .ok (q.2.1, q.2.2) := by decide +kernel
theorem gX10_signAt {d : Nat} {j0 : Int64} {i2 : Int32} {h : jm_H} {r : jm_R} (H : ((if ((Int64.toInt32 (UInt64.toInt64 (Int64.toUInt64 j0 >>> (Int64.toUInt64 (Int32.toInt64 i2) &&& Int64.toUInt64 63)))) &&& 63) = 0 then some (.inl (some (.int 0)), h) else (if ((Int64.toInt32 (UInt64.toInt64 (Int64.toUInt64 j0 >>> (Int64.toUInt64 (Int32.toInt64 i2) &&& Int64.toUInt64 63)))) &&& 63) < 27 then some (.inl (some (.int ((97 + ((Int64.toInt32 (UInt64.toInt64 (Int64.toUInt64 j0 >>> (Int64.toUInt64 (Int32.toInt64 i2) &&& Int64.toUInt64 63)))) &&& 63)) - 1))), h) else some (.inl (some (.int ((48 + ((Int64.toInt32 (UInt64.toInt64 (Int64.toUInt64 j0 >>> (Int64.toUInt64 (Int32.toInt64 i2) &&& Int64.toUInt64 63)))) &&& 63)) - 27))), h)))) = some r) : jm_D (d + 1) mX10_signAt [.long j0, .int i2] h = some r := by
  rw [jm_D_body (Nat.le_of_ble_eq_true rfl)]
  show jm_B d mX10_signAt (0, [some (.long j0), none, some (.int i2), none], []) h = some r
  refine Eq.trans (jb_nx (i := .lload_n 0) (n := 1) (q := (1, [some (.long j0), none, some (.int i2), none], [.long j0])) (jq qX10_signAt 0 rfl) rfl) ?_
  refine Eq.trans (jb_nx (i := .iload_n 2) (n := 1) (q := (2, [some (.long j0), none, some (.int i2), none], [.int i2, .long j0])) (jq qX10_signAt 1 rfl) rfl) ?_
  refine Eq.trans (jb_nx (i := .lushr) (n := 1) (q := (3, [some (.long j0), none, some (.int i2), none], [.long (UInt64.toInt64 (Int64.toUInt64 j0 >>> (Int64.toUInt64 (Int32.toInt64 i2) &&& Int64.toUInt64 63)))])) (jq qX10_signAt 2 rfl) rfl) ?_
  refine Eq.trans (jb_nx (i := .l2i) (n := 1) (q := (4, [some (.long j0), none, some (.int i2), none], [.int (Int64.toInt32 (UInt64.toInt64 (Int64.toUInt64 j0 >>> (Int64.toUInt64 (Int32.toInt64 i2) &&& Int64.toUInt64 63))))])) (jq qX10_signAt 3 rfl) rfl) ?_
  refine Eq.trans (jb_nx (i := .bipush 63) (n := 2) (q := (6, [some (.long j0), none, some (.int i2), none], [.int 63, .int (Int64.toInt32 (UInt64.toInt64 (Int64.toUInt64 j0 >>> (Int64.toUInt64 (Int32.toInt64 i2) &&& Int64.toUInt64 63))))])) (jq qX10_signAt 4 rfl) rfl) ?_
  refine Eq.trans (jb_nx (i := .iand) (n := 1) (q := (7, [some (.long j0), none, some (.int i2), none], [.int ((Int64.toInt32 (UInt64.toInt64 (Int64.toUInt64 j0 >>> (Int64.toUInt64 (Int32.toInt64 i2) &&& Int64.toUInt64 63)))) &&& 63)])) (jq qX10_signAt 5 rfl) rfl) ?_
  refine Eq.trans (jb_nx (i := .istore_n 3) (n := 1) (q := (8, [some (.long j0), none, some (.int i2), some (.int ((Int64.toInt32 (UInt64.toInt64 (Int64.toUInt64 j0 >>> (Int64.toUInt64 (Int32.toInt64 i2) &&& Int64.toUInt64 63)))) &&& 63))], [])) (jq qX10_signAt 6 rfl) rfl) ?_
  refine Eq.trans (jb_nx (i := .iload_n 3) (n := 1) (q := (9, [some (.long j0), none, some (.int i2), some (.int ((Int64.toInt32 (UInt64.toInt64 (Int64.toUInt64 j0 >>> (Int64.toUInt64 (Int32.toInt64 i2) &&& Int64.toUInt64 63)))) &&& 63))], [.int ((Int64.toInt32 (UInt64.toInt64 (Int64.toUInt64 j0 >>> (Int64.toUInt64 (Int32.toInt64 i2) &&& Int64.toUInt64 63)))) &&& 63)])) (jq qX10_signAt 7 rfl) rfl) ?_
  by_cases c1 : ((Int64.toInt32 (UInt64.toInt64 (Int64.toUInt64 j0 >>> (Int64.toUInt64 (Int32.toInt64 i2) &&& Int64.toUInt64 63)))) &&& 63) = 0
  · rw [if_pos c1] at H
    refine Eq.trans (jb_nx (i := .ifCond .ne 5) (n := 3) (q := (12, [some (.long j0), none, some (.int i2), some (.int ((Int64.toInt32 (UInt64.toInt64 (Int64.toUInt64 j0 >>> (Int64.toUInt64 (Int32.toInt64 i2) &&& Int64.toUInt64 63)))) &&& 63))], [])) (jq qX10_signAt 8 rfl) (jo_ifF (jz_neF c1))) ?_
    refine Eq.trans (jb_nx (i := .iconst 0) (n := 1) (q := (13, [some (.long j0), none, some (.int i2), some (.int ((Int64.toInt32 (UInt64.toInt64 (Int64.toUInt64 j0 >>> (Int64.toUInt64 (Int32.toInt64 i2) &&& Int64.toUInt64 63)))) &&& 63))], [.int 0])) (jq qX10_signAt 9 rfl) rfl) ?_
    exact Eq.trans (jb_rt (i := .ireturn) (n := 1) (jq qX10_signAt 10 rfl) (jo_iret rfl rfl)) H
  · rw [if_neg c1] at H
    refine Eq.trans (jb_nx (i := .ifCond .ne 5) (n := 3) (q := (14, [some (.long j0), none, some (.int i2), some (.int ((Int64.toInt32 (UInt64.toInt64 (Int64.toUInt64 j0 >>> (Int64.toUInt64 (Int32.toInt64 i2) &&& Int64.toUInt64 63)))) &&& 63))], [])) (jq qX10_signAt 8 rfl) (jo_ifT (jz_neT c1) rfl)) ?_
    refine Eq.trans (jb_nx (i := .iload_n 3) (n := 1) (q := (15, [some (.long j0), none, some (.int i2), some (.int ((Int64.toInt32 (UInt64.toInt64 (Int64.toUInt64 j0 >>> (Int64.toUInt64 (Int32.toInt64 i2) &&& Int64.toUInt64 63)))) &&& 63))], [.int ((Int64.toInt32 (UInt64.toInt64 (Int64.toUInt64 j0 >>> (Int64.toUInt64 (Int32.toInt64 i2) &&& Int64.toUInt64 63)))) &&& 63)])) (jq qX10_signAt 11 rfl) rfl) ?_
    refine Eq.trans (jb_nx (i := .bipush 27) (n := 2) (q := (17, [some (.long j0), none, some (.int i2), some (.int ((Int64.toInt32 (UInt64.toInt64 (Int64.toUInt64 j0 >>> (Int64.toUInt64 (Int32.toInt64 i2) &&& Int64.toUInt64 63)))) &&& 63))], [.int 27, .int ((Int64.toInt32 (UInt64.toInt64 (Int64.toUInt64 j0 >>> (Int64.toUInt64 (Int32.toInt64 i2) &&& Int64.toUInt64 63)))) &&& 63)])) (jq qX10_signAt 12 rfl) rfl) ?_
    by_cases c2 : ((Int64.toInt32 (UInt64.toInt64 (Int64.toUInt64 j0 >>> (Int64.toUInt64 (Int32.toInt64 i2) &&& Int64.toUInt64 63)))) &&& 63) < 27
    · rw [if_pos c2] at H
      refine Eq.trans (jb_nx (i := .if_icmp .ge 12) (n := 3) (q := (20, [some (.long j0), none, some (.int i2), some (.int ((Int64.toInt32 (UInt64.toInt64 (Int64.toUInt64 j0 >>> (Int64.toUInt64 (Int32.toInt64 i2) &&& Int64.toUInt64 63)))) &&& 63))], [])) (jq qX10_signAt 13 rfl) (jo_icF (jz_geF c2))) ?_
      refine Eq.trans (jb_nx (i := .bipush 97) (n := 2) (q := (22, [some (.long j0), none, some (.int i2), some (.int ((Int64.toInt32 (UInt64.toInt64 (Int64.toUInt64 j0 >>> (Int64.toUInt64 (Int32.toInt64 i2) &&& Int64.toUInt64 63)))) &&& 63))], [.int 97])) (jq qX10_signAt 14 rfl) rfl) ?_
      refine Eq.trans (jb_nx (i := .iload_n 3) (n := 1) (q := (23, [some (.long j0), none, some (.int i2), some (.int ((Int64.toInt32 (UInt64.toInt64 (Int64.toUInt64 j0 >>> (Int64.toUInt64 (Int32.toInt64 i2) &&& Int64.toUInt64 63)))) &&& 63))], [.int ((Int64.toInt32 (UInt64.toInt64 (Int64.toUInt64 j0 >>> (Int64.toUInt64 (Int32.toInt64 i2) &&& Int64.toUInt64 63)))) &&& 63), .int 97])) (jq qX10_signAt 15 rfl) rfl) ?_
      refine Eq.trans (jb_nx (i := .iadd) (n := 1) (q := (24, [some (.long j0), none, some (.int i2), some (.int ((Int64.toInt32 (UInt64.toInt64 (Int64.toUInt64 j0 >>> (Int64.toUInt64 (Int32.toInt64 i2) &&& Int64.toUInt64 63)))) &&& 63))], [.int (97 + ((Int64.toInt32 (UInt64.toInt64 (Int64.toUInt64 j0 >>> (Int64.toUInt64 (Int32.toInt64 i2) &&& Int64.toUInt64 63)))) &&& 63))])) (jq qX10_signAt 16 rfl) rfl) ?_
      refine Eq.trans (jb_nx (i := .iconst 1) (n := 1) (q := (25, [some (.long j0), none, some (.int i2), some (.int ((Int64.toInt32 (UInt64.toInt64 (Int64.toUInt64 j0 >>> (Int64.toUInt64 (Int32.toInt64 i2) &&& Int64.toUInt64 63)))) &&& 63))], [.int 1, .int (97 + ((Int64.toInt32 (UInt64.toInt64 (Int64.toUInt64 j0 >>> (Int64.toUInt64 (Int32.toInt64 i2) &&& Int64.toUInt64 63)))) &&& 63))])) (jq qX10_signAt 17 rfl) rfl) ?_
      refine Eq.trans (jb_nx (i := .isub) (n := 1) (q := (26, [some (.long j0), none, some (.int i2), some (.int ((Int64.toInt32 (UInt64.toInt64 (Int64.toUInt64 j0 >>> (Int64.toUInt64 (Int32.toInt64 i2) &&& Int64.toUInt64 63)))) &&& 63))], [.int ((97 + ((Int64.toInt32 (UInt64.toInt64 (Int64.toUInt64 j0 >>> (Int64.toUInt64 (Int32.toInt64 i2) &&& Int64.toUInt64 63)))) &&& 63)) - 1)])) (jq qX10_signAt 18 rfl) rfl) ?_
      refine Eq.trans (jb_nx (i := .goto 10) (n := 3) (q := (36, [some (.long j0), none, some (.int i2), some (.int ((Int64.toInt32 (UInt64.toInt64 (Int64.toUInt64 j0 >>> (Int64.toUInt64 (Int32.toInt64 i2) &&& Int64.toUInt64 63)))) &&& 63))], [.int ((97 + ((Int64.toInt32 (UInt64.toInt64 (Int64.toUInt64 j0 >>> (Int64.toUInt64 (Int32.toInt64 i2) &&& Int64.toUInt64 63)))) &&& 63)) - 1)])) (jq qX10_signAt 19 rfl) rfl) ?_
      exact Eq.trans (jb_rt (i := .ireturn) (n := 1) (jq qX10_signAt 25 rfl) (jo_iret rfl rfl)) H
    · rw [if_neg c2] at H
      refine Eq.trans (jb_nx (i := .if_icmp .ge 12) (n := 3) (q := (29, [some (.long j0), none, some (.int i2), some (.int ((Int64.toInt32 (UInt64.toInt64 (Int64.toUInt64 j0 >>> (Int64.toUInt64 (Int32.toInt64 i2) &&& Int64.toUInt64 63)))) &&& 63))], [])) (jq qX10_signAt 13 rfl) (jo_icT (jz_geT c2) rfl)) ?_
      refine Eq.trans (jb_nx (i := .bipush 48) (n := 2) (q := (31, [some (.long j0), none, some (.int i2), some (.int ((Int64.toInt32 (UInt64.toInt64 (Int64.toUInt64 j0 >>> (Int64.toUInt64 (Int32.toInt64 i2) &&& Int64.toUInt64 63)))) &&& 63))], [.int 48])) (jq qX10_signAt 20 rfl) rfl) ?_
      refine Eq.trans (jb_nx (i := .iload_n 3) (n := 1) (q := (32, [some (.long j0), none, some (.int i2), some (.int ((Int64.toInt32 (UInt64.toInt64 (Int64.toUInt64 j0 >>> (Int64.toUInt64 (Int32.toInt64 i2) &&& Int64.toUInt64 63)))) &&& 63))], [.int ((Int64.toInt32 (UInt64.toInt64 (Int64.toUInt64 j0 >>> (Int64.toUInt64 (Int32.toInt64 i2) &&& Int64.toUInt64 63)))) &&& 63), .int 48])) (jq qX10_signAt 21 rfl) rfl) ?_
      refine Eq.trans (jb_nx (i := .iadd) (n := 1) (q := (33, [some (.long j0), none, some (.int i2), some (.int ((Int64.toInt32 (UInt64.toInt64 (Int64.toUInt64 j0 >>> (Int64.toUInt64 (Int32.toInt64 i2) &&& Int64.toUInt64 63)))) &&& 63))], [.int (48 + ((Int64.toInt32 (UInt64.toInt64 (Int64.toUInt64 j0 >>> (Int64.toUInt64 (Int32.toInt64 i2) &&& Int64.toUInt64 63)))) &&& 63))])) (jq qX10_signAt 22 rfl) rfl) ?_
      refine Eq.trans (jb_nx (i := .bipush 27) (n := 2) (q := (35, [some (.long j0), none, some (.int i2), some (.int ((Int64.toInt32 (UInt64.toInt64 (Int64.toUInt64 j0 >>> (Int64.toUInt64 (Int32.toInt64 i2) &&& Int64.toUInt64 63)))) &&& 63))], [.int 27, .int (48 + ((Int64.toInt32 (UInt64.toInt64 (Int64.toUInt64 j0 >>> (Int64.toUInt64 (Int32.toInt64 i2) &&& Int64.toUInt64 63)))) &&& 63))])) (jq qX10_signAt 23 rfl) rfl) ?_
      refine Eq.trans (jb_nx (i := .isub) (n := 1) (q := (36, [some (.long j0), none, some (.int i2), some (.int ((Int64.toInt32 (UInt64.toInt64 (Int64.toUInt64 j0 >>> (Int64.toUInt64 (Int32.toInt64 i2) &&& Int64.toUInt64 63)))) &&& 63))], [.int ((48 + ((Int64.toInt32 (UInt64.toInt64 (Int64.toUInt64 j0 >>> (Int64.toUInt64 (Int32.toInt64 i2) &&& Int64.toUInt64 63)))) &&& 63)) - 27)])) (jq qX10_signAt 24 rfl) rfl) ?_
      exact Eq.trans (jb_rt (i := .ireturn) (n := 1) (jq qX10_signAt 25 rfl) (jo_iret rfl rfl)) H
