/-! ===== LEVEL 2: X13 ===== -/
/-! MaskPlaysModel setAside ()I -/
def tX13_setAside : List (Nat × Instr × Nat) := [(0, .aload_n 0, 1), (1, .getfield 43, 3), (4, .iconst 0, 1), (5, .aload_n 0, 1), (6, .getfield 49, 3), (9, .iconst 0, 1), (10, .aload_n 0, 1), (11, .getfield 82, 3), (14, .invokestatic 128, 3), (17, .aload_n 0, 1), (18, .getfield 82, 3), (21, .ireturn, 1)]
set_option maxRecDepth 100000 in
theorem qX13_setAside : ∀ q ∈ tX13_setAside, decode cX13_setAside q.1 = .ok (q.2.1, q.2.2) := by decide +kernel
theorem gX13_setAside {d : Nat} {p0 : Nat} {h : jm_H} {r : jm_R} (H : ((jr_R h p0 12 18 2).bind fun a1 => (jr_R h p0 12 21 2).bind fun a3 => (jr_I h p0 12 19 0).bind fun x5 => (jm_cpy h a1 0 a3 0 x5).bind fun h7 => (jr_I h7 p0 12 19 0).bind fun x9 => some (.inl (some (.int x9)), h7)) = some r) : jm_D (d + 1) mX13_setAside [.ref p0] h = some r := by
  rw [jm_D_body (Nat.le_of_ble_eq_true rfl)]
  show jm_B d mX13_setAside (0, [some (.ref p0)], []) h = some r
  refine Eq.trans (jb_nx (i := .aload_n 0) (n := 1) (q := (1, [some (.ref p0)], [.ref p0])) (jq qX13_setAside 0 rfl) rfl) ?_
  obtain ⟨a1, e2, H⟩ := jbd H
  refine Eq.trans (jb_nx (i := .getfield 43) (n := 3) (q := (4, [some (.ref p0)], [.ref a1])) (jq qX13_setAside 1 rfl) (jo_gf rfl (jr_R_inv e2))) ?_
  refine Eq.trans (jb_nx (i := .iconst 0) (n := 1) (q := (5, [some (.ref p0)], [.int 0, .ref a1])) (jq qX13_setAside 2 rfl) rfl) ?_
  refine Eq.trans (jb_nx (i := .aload_n 0) (n := 1) (q := (6, [some (.ref p0)], [.ref p0, .int 0, .ref a1])) (jq qX13_setAside 3 rfl) rfl) ?_
  obtain ⟨a3, e4, H⟩ := jbd H
  refine Eq.trans (jb_nx (i := .getfield 49) (n := 3) (q := (9, [some (.ref p0)], [.ref a3, .int 0, .ref a1])) (jq qX13_setAside 4 rfl) (jo_gf rfl (jr_R_inv e4))) ?_
  refine Eq.trans (jb_nx (i := .iconst 0) (n := 1) (q := (10, [some (.ref p0)], [.int 0, .ref a3, .int 0, .ref a1])) (jq qX13_setAside 5 rfl) rfl) ?_
  refine Eq.trans (jb_nx (i := .aload_n 0) (n := 1) (q := (11, [some (.ref p0)], [.ref p0, .int 0, .ref a3, .int 0, .ref a1])) (jq qX13_setAside 6 rfl) rfl) ?_
  obtain ⟨x5, e6, H⟩ := jbd H
  refine Eq.trans (jb_nx (i := .getfield 82) (n := 3) (q := (14, [some (.ref p0)], [.int x5, .int 0, .ref a3, .int 0, .ref a1])) (jq qX13_setAside 7 rfl) (jo_gf rfl (jr_I_inv e6))) ?_
  obtain ⟨h7, e8, H⟩ := jbd H
  refine Eq.trans (jb_nx (i := .invokestatic 128) (n := 3) (q := (17, [some (.ref p0)], [])) (jq qX13_setAside 8 rfl) (jo_cpy (z := mX3_clear) rfl (Nat.le_of_ble_eq_true rfl) e8)) ?_
  refine Eq.trans (jb_nx (i := .aload_n 0) (n := 1) (q := (18, [some (.ref p0)], [.ref p0])) (jq qX13_setAside 9 rfl) rfl) ?_
  obtain ⟨x9, e10, H⟩ := jbd H
  refine Eq.trans (jb_nx (i := .getfield 82) (n := 3) (q := (21, [some (.ref p0)], [.int x9])) (jq qX13_setAside 10 rfl) (jo_gf rfl (jr_I_inv e10))) ?_
  exact Eq.trans (jb_rt (i := .ireturn) (n := 1) (jq qX13_setAside 11 rfl) (jo_iret rfl rfl)) H
/-! MaskPlaysModel isAlike (I)Z -/
def tX13_isAlike : List (Nat × Instr × Nat) := [(0, .aload_n 0, 1), (1, .getfield 82, 3), (4, .iload_n 1, 1), (5, .if_icmp .eq 5, 3), (8, .iconst 0, 1), (9, .ireturn, 1), (10, .iconst 0, 1), (11, .istore_n 2, 1), (12, .iload_n 2, 1), (13, .aload_n 0, 1), (14, .getfield 82, 3), (17, .if_icmp .ge 90, 3), (20, .aload_n 0, 1), (21, .getfield 43, 3), (24, .iload_n 2, 1), (25, .laload, 1), (26, .invokestatic 140, 3), (29, .aload_n 0, 1), (30, .getfield 49, 3), (33, .iload_n 2, 1), (34, .laload, 1), (35, .invokestatic 140, 3), (38, .if_icmp .eq 5, 3), (41, .iconst 0, 1), (42, .ireturn, 1), (43, .aload_n 0, 1), (44, .getfield 43, 3), (47, .iload_n 2, 1), (48, .laload, 1), (49, .lconst 0, 1), (50, .lcmp, 1), (51, .ifCond .gt 6, 3), (54, .goto 47, 3), (57, .aload_n 0, 1), (58, .getfield 43, 3), (61, .iload_n 2, 1), (62, .invokestatic 85, 3), (65, .istore_n 3, 1), (66, .iload_n 3, 1), (67, .aload_n 0, 1), (68, .getfield 49, 3), (71, .iload_n 2, 1), (72, .invokestatic 85, 3), (75, .if_icmp .ne 24, 3), (78, .iload_n 3, 1), (79, .iconst (-1), 1), (80, .if_icmp .ne 21, 3), (83, .aload_n 0, 1), (84, .getfield 43, 3), (87, .iload_n 2, 1), (88, .laload, 1), (89, .aload_n 0, 1), (90, .getfield 49, 3), (93, .iload_n 2, 1), (94, .laload, 1), (95, .lcmp, 1), (96, .ifCond .eq 5, 3), (99, .iconst 0, 1), (100, .ireturn, 1), (101, .iinc 2 1, 3), (104, .goto (-92), 3), (107, .iconst 1, 1), (108, .ireturn, 1)]
set_option maxRecDepth 100000 in
theorem qX13_isAlike : ∀ q ∈ tX13_isAlike, decode cX13_isAlike q.1 = .ok (q.2.1, q.2.2) := by decide +kernel
noncomputable def kX13_isAlike_12 (d : Nat) (p0 : Nat) (o1 : Option Value) (i2 : Int32) (o3 : Option Value) (h : jm_H) : Option jm_R := jm_B d mX13_isAlike (12, [some (.ref p0), o1, some (.int i2), o3], []) h
theorem gX13_isAlike_12 {d : Nat} {p0 : Nat} {o1 : Option Value} {i2 : Int32} {o3 : Option Value} {h : jm_H} {r : jm_R} (H : ((jr_I h p0 12 19 0).bind fun x4 => (if i2 < x4 then (jr_R h p0 12 18 2).bind fun a7 => (jm_all h a7 i2).bind fun y9 => jc_I (jm_D d mJ13_signum_95d88 [.long y9] h) (fun x13 h11 => (jr_R h11 p0 12 21 2).bind fun a14 => (jm_all h11 a14 i2).bind fun y16 => jc_I (jm_D d mJ13_signum_95d88 [.long y16] h11) (fun x20 h18 => (if x13 = x20 then (jr_R h18 p0 12 18 2).bind fun a22 => (jm_all h18 a22 i2).bind fun y24 => (if 0 < (lg_cmp y24 0) then (jr_R h18 p0 12 18 2).bind fun a27 => jc_I (jm_D d mX13_owner [.ref a27, .int i2] h18) (fun x31 h29 => (jr_R h29 p0 12 21 2).bind fun a32 => jc_I (jm_D d mX13_owner [.ref a32, .int i2] h29) (fun x36 h34 => (if x31 = x36 then (if x31 = (-1) then (jr_R h34 p0 12 18 2).bind fun a39 => (jm_all h34 a39 i2).bind fun y41 => (jr_R h34 p0 12 21 2).bind fun a43 => (jm_all h34 a43 i2).bind fun y45 => (if (lg_cmp y41 y45) = 0 then kX13_isAlike_12 d p0 (jm_dm o1) (i2 + 1) (some (.int x31)) h34 else some (.inl (some (.int 0)), h34)) else kX13_isAlike_12 d p0 (jm_dm o1) (i2 + 1) (some (.int x31)) h34) else some (.inl (some (.int 0)), h34))) jx) jx else kX13_isAlike_12 d p0 (jm_dm o1) (i2 + 1) o3 h18) else some (.inl (some (.int 0)), h18))) jx) jx else some (.inl (some (.int 1)), h))) = some r) : kX13_isAlike_12 d p0 o1 i2 o3 h = some r := by
  show jm_B d mX13_isAlike (12, [some (.ref p0), o1, some (.int i2), o3], []) h = some r
  refine Eq.trans (jb_nx (i := .iload_n 2) (n := 1) (q := (13, [some (.ref p0), o1, some (.int i2), o3], [.int i2])) (jq qX13_isAlike 8 rfl) rfl) ?_
  refine Eq.trans (jb_nx (i := .aload_n 0) (n := 1) (q := (14, [some (.ref p0), o1, some (.int i2), o3], [.ref p0, .int i2])) (jq qX13_isAlike 9 rfl) rfl) ?_
  obtain ⟨x4, e5, H⟩ := jbd H
  refine Eq.trans (jb_nx (i := .getfield 82) (n := 3) (q := (17, [some (.ref p0), o1, some (.int i2), o3], [.int x4, .int i2])) (jq qX13_isAlike 10 rfl) (jo_gf rfl (jr_I_inv e5))) ?_
  by_cases c6 : i2 < x4
  · rw [if_pos c6] at H
    refine Eq.trans (jb_nx (i := .if_icmp .ge 90) (n := 3) (q := (20, [some (.ref p0), o1, some (.int i2), o3], [])) (jq qX13_isAlike 11 rfl) (jo_icF (jz_geF c6))) ?_
    refine Eq.trans (jb_nx (i := .aload_n 0) (n := 1) (q := (21, [some (.ref p0), o1, some (.int i2), o3], [.ref p0])) (jq qX13_isAlike 12 rfl) rfl) ?_
    obtain ⟨a7, e8, H⟩ := jbd H
    refine Eq.trans (jb_nx (i := .getfield 43) (n := 3) (q := (24, [some (.ref p0), o1, some (.int i2), o3], [.ref a7])) (jq qX13_isAlike 13 rfl) (jo_gf rfl (jr_R_inv e8))) ?_
    refine Eq.trans (jb_nx (i := .iload_n 2) (n := 1) (q := (25, [some (.ref p0), o1, some (.int i2), o3], [.int i2, .ref a7])) (jq qX13_isAlike 14 rfl) rfl) ?_
    obtain ⟨y9, e10, H⟩ := jbd H
    refine Eq.trans (jb_nx (i := .laload) (n := 1) (q := (26, [some (.ref p0), o1, some (.int i2), o3], [.long y9])) (jq qX13_isAlike 15 rfl) (jo_lal e10)) ?_
    rcases jcI H with ⟨x13, h11, r12, H⟩ | ⟨w54, h55, r12, H⟩
    · refine Eq.trans (jb_nx (i := .invokestatic 140) (n := 3) (q := (29, [some (.ref p0), o1, some (.int i2), o3], [.int x13])) (jq qX13_isAlike 16 rfl) (jo_cs (y := mJ13_signum_95d88) (w := 1) (by decide) rfl (Nat.le_of_ble_eq_true rfl) rfl (Nat.le_of_ble_eq_true rfl) rfl r12 jo_ret)) ?_
      refine Eq.trans (jb_nx (i := .aload_n 0) (n := 1) (q := (30, [some (.ref p0), o1, some (.int i2), o3], [.ref p0, .int x13])) (jq qX13_isAlike 17 rfl) rfl) ?_
      obtain ⟨a14, e15, H⟩ := jbd H
      refine Eq.trans (jb_nx (i := .getfield 49) (n := 3) (q := (33, [some (.ref p0), o1, some (.int i2), o3], [.ref a14, .int x13])) (jq qX13_isAlike 18 rfl) (jo_gf rfl (jr_R_inv e15))) ?_
      refine Eq.trans (jb_nx (i := .iload_n 2) (n := 1) (q := (34, [some (.ref p0), o1, some (.int i2), o3], [.int i2, .ref a14, .int x13])) (jq qX13_isAlike 19 rfl) rfl) ?_
      obtain ⟨y16, e17, H⟩ := jbd H
      refine Eq.trans (jb_nx (i := .laload) (n := 1) (q := (35, [some (.ref p0), o1, some (.int i2), o3], [.long y16, .int x13])) (jq qX13_isAlike 20 rfl) (jo_lal e17)) ?_
      rcases jcI H with ⟨x20, h18, r19, H⟩ | ⟨w52, h53, r19, H⟩
      · refine Eq.trans (jb_nx (i := .invokestatic 140) (n := 3) (q := (38, [some (.ref p0), o1, some (.int i2), o3], [.int x20, .int x13])) (jq qX13_isAlike 21 rfl) (jo_cs (y := mJ13_signum_95d88) (w := 1) (by decide) rfl (Nat.le_of_ble_eq_true rfl) rfl (Nat.le_of_ble_eq_true rfl) rfl r19 jo_ret)) ?_
        by_cases c21 : x13 = x20
        · rw [if_pos c21] at H
          refine Eq.trans (jb_nx (i := .if_icmp .eq 5) (n := 3) (q := (43, [some (.ref p0), o1, some (.int i2), o3], [])) (jq qX13_isAlike 22 rfl) (jo_icT (jz_eqT c21) rfl)) ?_
          refine Eq.trans (jb_nx (i := .aload_n 0) (n := 1) (q := (44, [some (.ref p0), o1, some (.int i2), o3], [.ref p0])) (jq qX13_isAlike 25 rfl) rfl) ?_
          obtain ⟨a22, e23, H⟩ := jbd H
          refine Eq.trans (jb_nx (i := .getfield 43) (n := 3) (q := (47, [some (.ref p0), o1, some (.int i2), o3], [.ref a22])) (jq qX13_isAlike 26 rfl) (jo_gf rfl (jr_R_inv e23))) ?_
          refine Eq.trans (jb_nx (i := .iload_n 2) (n := 1) (q := (48, [some (.ref p0), o1, some (.int i2), o3], [.int i2, .ref a22])) (jq qX13_isAlike 27 rfl) rfl) ?_
          obtain ⟨y24, e25, H⟩ := jbd H
          refine Eq.trans (jb_nx (i := .laload) (n := 1) (q := (49, [some (.ref p0), o1, some (.int i2), o3], [.long y24])) (jq qX13_isAlike 28 rfl) (jo_lal e25)) ?_
          refine Eq.trans (jb_nx (i := .lconst 0) (n := 1) (q := (50, [some (.ref p0), o1, some (.int i2), o3], [.long 0, .long y24])) (jq qX13_isAlike 29 rfl) rfl) ?_
          refine Eq.trans (jb_nx (i := .lcmp) (n := 1) (q := (51, [some (.ref p0), o1, some (.int i2), o3], [.int (lg_cmp y24 0)])) (jq qX13_isAlike 30 rfl) rfl) ?_
          by_cases c26 : 0 < (lg_cmp y24 0)
          · rw [if_pos c26] at H
            refine Eq.trans (jb_nx (i := .ifCond .gt 6) (n := 3) (q := (57, [some (.ref p0), o1, some (.int i2), o3], [])) (jq qX13_isAlike 31 rfl) (jo_ifT (jz_gtT c26) rfl)) ?_
            refine Eq.trans (jb_nx (i := .aload_n 0) (n := 1) (q := (58, [some (.ref p0), o1, some (.int i2), o3], [.ref p0])) (jq qX13_isAlike 33 rfl) rfl) ?_
            obtain ⟨a27, e28, H⟩ := jbd H
            refine Eq.trans (jb_nx (i := .getfield 43) (n := 3) (q := (61, [some (.ref p0), o1, some (.int i2), o3], [.ref a27])) (jq qX13_isAlike 34 rfl) (jo_gf rfl (jr_R_inv e28))) ?_
            refine Eq.trans (jb_nx (i := .iload_n 2) (n := 1) (q := (62, [some (.ref p0), o1, some (.int i2), o3], [.int i2, .ref a27])) (jq qX13_isAlike 35 rfl) rfl) ?_
            rcases jcI H with ⟨x31, h29, r30, H⟩ | ⟨w50, h51, r30, H⟩
            · refine Eq.trans (jb_nx (i := .invokestatic 85) (n := 3) (q := (65, [some (.ref p0), o1, some (.int i2), o3], [.int x31])) (jq qX13_isAlike 36 rfl) (jo_cs (y := mX13_owner) (w := 1) (by decide) rfl (Nat.le_of_ble_eq_true rfl) rfl (Nat.le_of_ble_eq_true rfl) rfl r30 jo_ret)) ?_
              refine Eq.trans (jb_nx (i := .istore_n 3) (n := 1) (q := (66, [some (.ref p0), o1, some (.int i2), some (.int x31)], [])) (jq qX13_isAlike 37 rfl) rfl) ?_
              refine Eq.trans (jb_nx (i := .iload_n 3) (n := 1) (q := (67, [some (.ref p0), o1, some (.int i2), some (.int x31)], [.int x31])) (jq qX13_isAlike 38 rfl) rfl) ?_
              refine Eq.trans (jb_nx (i := .aload_n 0) (n := 1) (q := (68, [some (.ref p0), o1, some (.int i2), some (.int x31)], [.ref p0, .int x31])) (jq qX13_isAlike 39 rfl) rfl) ?_
              obtain ⟨a32, e33, H⟩ := jbd H
              refine Eq.trans (jb_nx (i := .getfield 49) (n := 3) (q := (71, [some (.ref p0), o1, some (.int i2), some (.int x31)], [.ref a32, .int x31])) (jq qX13_isAlike 40 rfl) (jo_gf rfl (jr_R_inv e33))) ?_
              refine Eq.trans (jb_nx (i := .iload_n 2) (n := 1) (q := (72, [some (.ref p0), o1, some (.int i2), some (.int x31)], [.int i2, .ref a32, .int x31])) (jq qX13_isAlike 41 rfl) rfl) ?_
              rcases jcI H with ⟨x36, h34, r35, H⟩ | ⟨w48, h49, r35, H⟩
              · refine Eq.trans (jb_nx (i := .invokestatic 85) (n := 3) (q := (75, [some (.ref p0), o1, some (.int i2), some (.int x31)], [.int x36, .int x31])) (jq qX13_isAlike 42 rfl) (jo_cs (y := mX13_owner) (w := 1) (by decide) rfl (Nat.le_of_ble_eq_true rfl) rfl (Nat.le_of_ble_eq_true rfl) rfl r35 jo_ret)) ?_
                by_cases c37 : x31 = x36
                · rw [if_pos c37] at H
                  refine Eq.trans (jb_nx (i := .if_icmp .ne 24) (n := 3) (q := (78, [some (.ref p0), o1, some (.int i2), some (.int x31)], [])) (jq qX13_isAlike 43 rfl) (jo_icF (jz_neF c37))) ?_
                  refine Eq.trans (jb_nx (i := .iload_n 3) (n := 1) (q := (79, [some (.ref p0), o1, some (.int i2), some (.int x31)], [.int x31])) (jq qX13_isAlike 44 rfl) rfl) ?_
                  refine Eq.trans (jb_nx (i := .iconst (-1)) (n := 1) (q := (80, [some (.ref p0), o1, some (.int i2), some (.int x31)], [.int (-1), .int x31])) (jq qX13_isAlike 45 rfl) rfl) ?_
                  by_cases c38 : x31 = (-1)
                  · rw [if_pos c38] at H
                    refine Eq.trans (jb_nx (i := .if_icmp .ne 21) (n := 3) (q := (83, [some (.ref p0), o1, some (.int i2), some (.int x31)], [])) (jq qX13_isAlike 46 rfl) (jo_icF (jz_neF c38))) ?_
                    refine Eq.trans (jb_nx (i := .aload_n 0) (n := 1) (q := (84, [some (.ref p0), o1, some (.int i2), some (.int x31)], [.ref p0])) (jq qX13_isAlike 47 rfl) rfl) ?_
                    obtain ⟨a39, e40, H⟩ := jbd H
                    refine Eq.trans (jb_nx (i := .getfield 43) (n := 3) (q := (87, [some (.ref p0), o1, some (.int i2), some (.int x31)], [.ref a39])) (jq qX13_isAlike 48 rfl) (jo_gf rfl (jr_R_inv e40))) ?_
                    refine Eq.trans (jb_nx (i := .iload_n 2) (n := 1) (q := (88, [some (.ref p0), o1, some (.int i2), some (.int x31)], [.int i2, .ref a39])) (jq qX13_isAlike 49 rfl) rfl) ?_
                    obtain ⟨y41, e42, H⟩ := jbd H
                    refine Eq.trans (jb_nx (i := .laload) (n := 1) (q := (89, [some (.ref p0), o1, some (.int i2), some (.int x31)], [.long y41])) (jq qX13_isAlike 50 rfl) (jo_lal e42)) ?_
                    refine Eq.trans (jb_nx (i := .aload_n 0) (n := 1) (q := (90, [some (.ref p0), o1, some (.int i2), some (.int x31)], [.ref p0, .long y41])) (jq qX13_isAlike 51 rfl) rfl) ?_
                    obtain ⟨a43, e44, H⟩ := jbd H
                    refine Eq.trans (jb_nx (i := .getfield 49) (n := 3) (q := (93, [some (.ref p0), o1, some (.int i2), some (.int x31)], [.ref a43, .long y41])) (jq qX13_isAlike 52 rfl) (jo_gf rfl (jr_R_inv e44))) ?_
                    refine Eq.trans (jb_nx (i := .iload_n 2) (n := 1) (q := (94, [some (.ref p0), o1, some (.int i2), some (.int x31)], [.int i2, .ref a43, .long y41])) (jq qX13_isAlike 53 rfl) rfl) ?_
                    obtain ⟨y45, e46, H⟩ := jbd H
                    refine Eq.trans (jb_nx (i := .laload) (n := 1) (q := (95, [some (.ref p0), o1, some (.int i2), some (.int x31)], [.long y45, .long y41])) (jq qX13_isAlike 54 rfl) (jo_lal e46)) ?_
                    refine Eq.trans (jb_nx (i := .lcmp) (n := 1) (q := (96, [some (.ref p0), o1, some (.int i2), some (.int x31)], [.int (lg_cmp y41 y45)])) (jq qX13_isAlike 55 rfl) rfl) ?_
                    by_cases c47 : (lg_cmp y41 y45) = 0
                    · rw [if_pos c47] at H
                      refine Eq.trans (jb_nx (i := .ifCond .eq 5) (n := 3) (q := (101, [some (.ref p0), o1, some (.int i2), some (.int x31)], [])) (jq qX13_isAlike 56 rfl) (jo_ifT (jz_eqT c47) rfl)) ?_
                      refine Eq.trans (jb_nx (i := .iinc 2 1) (n := 3) (q := (104, [some (.ref p0), (jm_dm o1), some (.int (i2 + 1)), some (.int x31)], [])) (jq qX13_isAlike 59 rfl) rfl) ?_
                      refine Eq.trans (jb_nx (i := .goto (-92)) (n := 3) (q := (12, [some (.ref p0), (jm_dm o1), some (.int (i2 + 1)), some (.int x31)], [])) (jq qX13_isAlike 60 rfl) rfl) ?_
                      exact H
                    · rw [if_neg c47] at H
                      refine Eq.trans (jb_nx (i := .ifCond .eq 5) (n := 3) (q := (99, [some (.ref p0), o1, some (.int i2), some (.int x31)], [])) (jq qX13_isAlike 56 rfl) (jo_ifF (jz_eqF c47))) ?_
                      refine Eq.trans (jb_nx (i := .iconst 0) (n := 1) (q := (100, [some (.ref p0), o1, some (.int i2), some (.int x31)], [.int 0])) (jq qX13_isAlike 57 rfl) rfl) ?_
                      exact Eq.trans (jb_rt (i := .ireturn) (n := 1) (jq qX13_isAlike 58 rfl) (jo_iret rfl (by decide))) H
                  · rw [if_neg c38] at H
                    refine Eq.trans (jb_nx (i := .if_icmp .ne 21) (n := 3) (q := (101, [some (.ref p0), o1, some (.int i2), some (.int x31)], [])) (jq qX13_isAlike 46 rfl) (jo_icT (jz_neT c38) rfl)) ?_
                    refine Eq.trans (jb_nx (i := .iinc 2 1) (n := 3) (q := (104, [some (.ref p0), (jm_dm o1), some (.int (i2 + 1)), some (.int x31)], [])) (jq qX13_isAlike 59 rfl) rfl) ?_
                    refine Eq.trans (jb_nx (i := .goto (-92)) (n := 3) (q := (12, [some (.ref p0), (jm_dm o1), some (.int (i2 + 1)), some (.int x31)], [])) (jq qX13_isAlike 60 rfl) rfl) ?_
                    exact H
                · rw [if_neg c37] at H
                  refine Eq.trans (jb_nx (i := .if_icmp .ne 24) (n := 3) (q := (99, [some (.ref p0), o1, some (.int i2), some (.int x31)], [])) (jq qX13_isAlike 43 rfl) (jo_icT (jz_neT c37) rfl)) ?_
                  refine Eq.trans (jb_nx (i := .iconst 0) (n := 1) (q := (100, [some (.ref p0), o1, some (.int i2), some (.int x31)], [.int 0])) (jq qX13_isAlike 57 rfl) rfl) ?_
                  exact Eq.trans (jb_rt (i := .ireturn) (n := 1) (jq qX13_isAlike 58 rfl) (jo_iret rfl (by decide))) H
              · exact Eq.trans (jb_rt (i := .invokestatic 85) (n := 3) (jq qX13_isAlike 42 rfl) (jo_cs (y := mX13_owner) (w := 1) (by decide) rfl (Nat.le_of_ble_eq_true rfl) rfl (Nat.le_of_ble_eq_true rfl) rfl r35 (jo_exn rfl))) H
            · exact Eq.trans (jb_rt (i := .invokestatic 85) (n := 3) (jq qX13_isAlike 36 rfl) (jo_cs (y := mX13_owner) (w := 1) (by decide) rfl (Nat.le_of_ble_eq_true rfl) rfl (Nat.le_of_ble_eq_true rfl) rfl r30 (jo_exn rfl))) H
          · rw [if_neg c26] at H
            refine Eq.trans (jb_nx (i := .ifCond .gt 6) (n := 3) (q := (54, [some (.ref p0), o1, some (.int i2), o3], [])) (jq qX13_isAlike 31 rfl) (jo_ifF (jz_gtF c26))) ?_
            refine Eq.trans (jb_nx (i := .goto 47) (n := 3) (q := (101, [some (.ref p0), o1, some (.int i2), o3], [])) (jq qX13_isAlike 32 rfl) rfl) ?_
            refine Eq.trans (jb_nx (i := .iinc 2 1) (n := 3) (q := (104, [some (.ref p0), (jm_dm o1), some (.int (i2 + 1)), o3], [])) (jq qX13_isAlike 59 rfl) rfl) ?_
            refine Eq.trans (jb_nx (i := .goto (-92)) (n := 3) (q := (12, [some (.ref p0), (jm_dm o1), some (.int (i2 + 1)), o3], [])) (jq qX13_isAlike 60 rfl) rfl) ?_
            exact H
        · rw [if_neg c21] at H
          refine Eq.trans (jb_nx (i := .if_icmp .eq 5) (n := 3) (q := (41, [some (.ref p0), o1, some (.int i2), o3], [])) (jq qX13_isAlike 22 rfl) (jo_icF (jz_eqF c21))) ?_
          refine Eq.trans (jb_nx (i := .iconst 0) (n := 1) (q := (42, [some (.ref p0), o1, some (.int i2), o3], [.int 0])) (jq qX13_isAlike 23 rfl) rfl) ?_
          exact Eq.trans (jb_rt (i := .ireturn) (n := 1) (jq qX13_isAlike 24 rfl) (jo_iret rfl (by decide))) H
      · exact Eq.trans (jb_rt (i := .invokestatic 140) (n := 3) (jq qX13_isAlike 21 rfl) (jo_cs (y := mJ13_signum_95d88) (w := 1) (by decide) rfl (Nat.le_of_ble_eq_true rfl) rfl (Nat.le_of_ble_eq_true rfl) rfl r19 (jo_exn rfl))) H
    · exact Eq.trans (jb_rt (i := .invokestatic 140) (n := 3) (jq qX13_isAlike 16 rfl) (jo_cs (y := mJ13_signum_95d88) (w := 1) (by decide) rfl (Nat.le_of_ble_eq_true rfl) rfl (Nat.le_of_ble_eq_true rfl) rfl r12 (jo_exn rfl))) H
  · rw [if_neg c6] at H
    refine Eq.trans (jb_nx (i := .if_icmp .ge 90) (n := 3) (q := (107, [some (.ref p0), o1, some (.int i2), o3], [])) (jq qX13_isAlike 11 rfl) (jo_icT (jz_geT c6) rfl)) ?_
    refine Eq.trans (jb_nx (i := .iconst 1) (n := 1) (q := (108, [some (.ref p0), o1, some (.int i2), o3], [.int 1])) (jq qX13_isAlike 61 rfl) rfl) ?_
    exact Eq.trans (jb_rt (i := .ireturn) (n := 1) (jq qX13_isAlike 62 rfl) (jo_iret rfl (by decide))) H
theorem gX13_isAlike {d : Nat} {p0 : Nat} {i1 : Int32} {h : jm_H} {r : jm_R} (H : ((jr_I h p0 12 19 0).bind fun x1 => (if x1 = i1 then kX13_isAlike_12 d p0 (some (.int i1)) 0 none h else some (.inl (some (.int 0)), h))) = some r) : jm_D (d + 1) mX13_isAlike [.ref p0, .int i1] h = some r := by
  rw [jm_D_body (Nat.le_of_ble_eq_true rfl)]
  show jm_B d mX13_isAlike (0, [some (.ref p0), some (.int i1), none, none], []) h = some r
  refine Eq.trans (jb_nx (i := .aload_n 0) (n := 1) (q := (1, [some (.ref p0), some (.int i1), none, none], [.ref p0])) (jq qX13_isAlike 0 rfl) rfl) ?_
  obtain ⟨x1, e2, H⟩ := jbd H
  refine Eq.trans (jb_nx (i := .getfield 82) (n := 3) (q := (4, [some (.ref p0), some (.int i1), none, none], [.int x1])) (jq qX13_isAlike 1 rfl) (jo_gf rfl (jr_I_inv e2))) ?_
  refine Eq.trans (jb_nx (i := .iload_n 1) (n := 1) (q := (5, [some (.ref p0), some (.int i1), none, none], [.int i1, .int x1])) (jq qX13_isAlike 2 rfl) rfl) ?_
  by_cases c3 : x1 = i1
  · rw [if_pos c3] at H
    refine Eq.trans (jb_nx (i := .if_icmp .eq 5) (n := 3) (q := (10, [some (.ref p0), some (.int i1), none, none], [])) (jq qX13_isAlike 3 rfl) (jo_icT (jz_eqT c3) rfl)) ?_
    refine Eq.trans (jb_nx (i := .iconst 0) (n := 1) (q := (11, [some (.ref p0), some (.int i1), none, none], [.int 0])) (jq qX13_isAlike 6 rfl) rfl) ?_
    refine Eq.trans (jb_nx (i := .istore_n 2) (n := 1) (q := (12, [some (.ref p0), some (.int i1), some (.int 0), none], [])) (jq qX13_isAlike 7 rfl) rfl) ?_
    exact H
  · rw [if_neg c3] at H
    refine Eq.trans (jb_nx (i := .if_icmp .eq 5) (n := 3) (q := (8, [some (.ref p0), some (.int i1), none, none], [])) (jq qX13_isAlike 3 rfl) (jo_icF (jz_eqF c3))) ?_
    refine Eq.trans (jb_nx (i := .iconst 0) (n := 1) (q := (9, [some (.ref p0), some (.int i1), none, none], [.int 0])) (jq qX13_isAlike 4 rfl) rfl) ?_
    exact Eq.trans (jb_rt (i := .ireturn) (n := 1) (jq qX13_isAlike 5 rfl) (jo_iret rfl (by decide))) H
/-! MaskPlaysModel isAsTold (I)Z -/
def tX13_isAsTold : List (Nat × Instr × Nat) := [(0, .aload_n 0, 1), (1, .iconst 0, 1), (2, .putfield 68, 3), (5, .aload_n 0, 1), (6, .iload_n 1, 1), (7, .invokevirtual 473, 3), (10, .ifCond .eq 11, 3), (13, .aload_n 0, 1), (14, .iload_n 1, 1), (15, .invokevirtual 494, 3), (18, .goto 8, 3), (21, .aload_n 0, 1), (22, .iconst 1, 1), (23, .invokevirtual 485, 3), (26, .ireturn, 1)]
set_option maxRecDepth 100000 in
theorem qX13_isAsTold : ∀ q ∈ tX13_isAsTold, decode cX13_isAsTold q.1 = .ok (q.2.1, q.2.2) := by decide +kernel
theorem gX13_isAsTold {d : Nat} {p0 : Nat} {i1 : Int32} {h : jm_H} {r : jm_R} (H : ((jm_pf h p0 12 0 0 (.int 0)).bind fun h1 => jm_O h1 p0 13 (jc_I (jm_D d mX13_isPlay [.ref p0, .int i1] h1) (fun x5 h3 => (if x5 = 0 then jm_O h3 p0 13 (jc_I (jm_D d mX13_isNot [.ref p0, .int 1] h3) (fun x9 h7 => jm_Y .boolean x9 (some (.inl (some (.int x9)), h7))) jx) else jm_O h3 p0 13 (jc_I (jm_D d mX13_asTold [.ref p0, .int i1] h3) (fun x16 h14 => jm_Y .boolean x16 (some (.inl (some (.int x16)), h14))) jx))) jx)) = some r) : jm_D (d + 1) mX13_isAsTold [.ref p0, .int i1] h = some r := by
  rw [jm_D_body (Nat.le_of_ble_eq_true rfl)]
  show jm_B d mX13_isAsTold (0, [some (.ref p0), some (.int i1)], []) h = some r
  refine Eq.trans (jb_nx (i := .aload_n 0) (n := 1) (q := (1, [some (.ref p0), some (.int i1)], [.ref p0])) (jq qX13_isAsTold 0 rfl) rfl) ?_
  refine Eq.trans (jb_nx (i := .iconst 0) (n := 1) (q := (2, [some (.ref p0), some (.int i1)], [.int 0, .ref p0])) (jq qX13_isAsTold 1 rfl) rfl) ?_
  obtain ⟨h1, e2, H⟩ := jbd H
  refine Eq.trans (jb_nx (i := .putfield 68) (n := 3) (q := (5, [some (.ref p0), some (.int i1)], [])) (jq qX13_isAsTold 2 rfl) (jo_pf rfl (Or.inl rfl) e2)) ?_
  refine Eq.trans (jb_nx (i := .aload_n 0) (n := 1) (q := (6, [some (.ref p0), some (.int i1)], [.ref p0])) (jq qX13_isAsTold 3 rfl) rfl) ?_
  refine Eq.trans (jb_nx (i := .iload_n 1) (n := 1) (q := (7, [some (.ref p0), some (.int i1)], [.int i1, .ref p0])) (jq qX13_isAsTold 4 rfl) rfl) ?_
  obtain ⟨b21, H⟩ := jm_O_inv H
  rcases jcI H with ⟨x5, h3, r4, H⟩ | ⟨w22, h23, r4, H⟩
  · refine Eq.trans (jb_nx (i := .invokevirtual 473) (n := 3) (q := (10, [some (.ref p0), some (.int i1)], [.int x5])) (jq qX13_isAsTold 5 rfl) (jo_cv (y := mX13_isPlay) rfl (Nat.le_of_ble_eq_true rfl) rfl (Nat.le_of_ble_eq_true rfl) b21 rfl r4 jo_ret)) ?_
    by_cases c6 : x5 = 0
    · rw [if_pos c6] at H
      refine Eq.trans (jb_nx (i := .ifCond .eq 11) (n := 3) (q := (21, [some (.ref p0), some (.int i1)], [])) (jq qX13_isAsTold 6 rfl) (jo_ifT (jz_eqT c6) rfl)) ?_
      refine Eq.trans (jb_nx (i := .aload_n 0) (n := 1) (q := (22, [some (.ref p0), some (.int i1)], [.ref p0])) (jq qX13_isAsTold 11 rfl) rfl) ?_
      refine Eq.trans (jb_nx (i := .iconst 1) (n := 1) (q := (23, [some (.ref p0), some (.int i1)], [.int 1, .ref p0])) (jq qX13_isAsTold 12 rfl) rfl) ?_
      obtain ⟨b11, H⟩ := jm_O_inv H
      rcases jcI H with ⟨x9, h7, r8, H⟩ | ⟨w12, h13, r8, H⟩
      · refine Eq.trans (jb_nx (i := .invokevirtual 485) (n := 3) (q := (26, [some (.ref p0), some (.int i1)], [.int x9])) (jq qX13_isAsTold 13 rfl) (jo_cv (y := mX13_isNot) rfl (Nat.le_of_ble_eq_true rfl) rfl (Nat.le_of_ble_eq_true rfl) b11 rfl r8 jo_ret)) ?_
        obtain ⟨u10, H⟩ := jm_Y_inv H
        exact Eq.trans (jb_rt (i := .ireturn) (n := 1) (jq qX13_isAsTold 14 rfl) (jo_iret rfl u10)) H
      · exact Eq.trans (jb_rt (i := .invokevirtual 485) (n := 3) (jq qX13_isAsTold 13 rfl) (jo_cv (y := mX13_isNot) rfl (Nat.le_of_ble_eq_true rfl) rfl (Nat.le_of_ble_eq_true rfl) b11 rfl r8 (jo_exn rfl))) H
    · rw [if_neg c6] at H
      refine Eq.trans (jb_nx (i := .ifCond .eq 11) (n := 3) (q := (13, [some (.ref p0), some (.int i1)], [])) (jq qX13_isAsTold 6 rfl) (jo_ifF (jz_eqF c6))) ?_
      refine Eq.trans (jb_nx (i := .aload_n 0) (n := 1) (q := (14, [some (.ref p0), some (.int i1)], [.ref p0])) (jq qX13_isAsTold 7 rfl) rfl) ?_
      refine Eq.trans (jb_nx (i := .iload_n 1) (n := 1) (q := (15, [some (.ref p0), some (.int i1)], [.int i1, .ref p0])) (jq qX13_isAsTold 8 rfl) rfl) ?_
      obtain ⟨b18, H⟩ := jm_O_inv H
      rcases jcI H with ⟨x16, h14, r15, H⟩ | ⟨w19, h20, r15, H⟩
      · refine Eq.trans (jb_nx (i := .invokevirtual 494) (n := 3) (q := (18, [some (.ref p0), some (.int i1)], [.int x16])) (jq qX13_isAsTold 9 rfl) (jo_cv (y := mX13_asTold) rfl (Nat.le_of_ble_eq_true rfl) rfl (Nat.le_of_ble_eq_true rfl) b18 rfl r15 jo_ret)) ?_
        refine Eq.trans (jb_nx (i := .goto 8) (n := 3) (q := (26, [some (.ref p0), some (.int i1)], [.int x16])) (jq qX13_isAsTold 10 rfl) rfl) ?_
        obtain ⟨u17, H⟩ := jm_Y_inv H
        exact Eq.trans (jb_rt (i := .ireturn) (n := 1) (jq qX13_isAsTold 14 rfl) (jo_iret rfl u17)) H
      · exact Eq.trans (jb_rt (i := .invokevirtual 494) (n := 3) (jq qX13_isAsTold 9 rfl) (jo_cv (y := mX13_asTold) rfl (Nat.le_of_ble_eq_true rfl) rfl (Nat.le_of_ble_eq_true rfl) b18 rfl r15 (jo_exn rfl))) H
  · exact Eq.trans (jb_rt (i := .invokevirtual 473) (n := 3) (jq qX13_isAsTold 5 rfl) (jo_cv (y := mX13_isPlay) rfl (Nat.le_of_ble_eq_true rfl) rfl (Nat.le_of_ble_eq_true rfl) b21 rfl r4 (jo_exn rfl))) H
/-! MaskPlaysModel asTold (I)Z -/
def tX13_asTold : List (Nat × Instr × Nat) := [(0, .aload_n 0, 1), (1, .iload_n 1, 1), (2, .invokevirtual 146, 3), (5, .aload_n 0, 1), (6, .invokevirtual 150, 3), (9, .istore_n 2, 1), (10, .aload_n 0, 1), (11, .iload_n 1, 1), (12, .invokevirtual 157, 3), (15, .aload_n 0, 1), (16, .iload_n 2, 1), (17, .invokevirtual 153, 3), (20, .ireturn, 1)]
set_option maxRecDepth 100000 in
theorem qX13_asTold : ∀ q ∈ tX13_asTold, decode cX13_asTold q.1 = .ok (q.2.1, q.2.2) := by decide +kernel
theorem gX13_asTold {d : Nat} {p0 : Nat} {i1 : Int32} {h : jm_H} {r : jm_R} (H : (jm_O h p0 13 (jc_V (jm_D d mX13_takeUp [.ref p0, .int i1] h) (fun h1 => jm_O h1 p0 13 (jc_I (jm_D d mX13_setAside [.ref p0] h1) (fun x5 h3 => jm_O h3 p0 13 (jc_V (jm_D d mX13_takeUpTold [.ref p0, .int i1] h3) (fun h6 => jm_O h6 p0 13 (jc_I (jm_D d mX13_isAlike [.ref p0, .int x5] h6) (fun x10 h8 => jm_Y .boolean x10 (some (.inl (some (.int x10)), h8))) jx)) jx)) jx)) jx)) = some r) : jm_D (d + 1) mX13_asTold [.ref p0, .int i1] h = some r := by
  rw [jm_D_body (Nat.le_of_ble_eq_true rfl)]
  show jm_B d mX13_asTold (0, [some (.ref p0), some (.int i1), none], []) h = some r
  refine Eq.trans (jb_nx (i := .aload_n 0) (n := 1) (q := (1, [some (.ref p0), some (.int i1), none], [.ref p0])) (jq qX13_asTold 0 rfl) rfl) ?_
  refine Eq.trans (jb_nx (i := .iload_n 1) (n := 1) (q := (2, [some (.ref p0), some (.int i1), none], [.int i1, .ref p0])) (jq qX13_asTold 1 rfl) rfl) ?_
  obtain ⟨b21, H⟩ := jm_O_inv H
  rcases jcV H with ⟨h1, r2, H⟩ | ⟨w22, h23, r2, H⟩
  · refine Eq.trans (jb_nx (i := .invokevirtual 146) (n := 3) (q := (5, [some (.ref p0), some (.int i1), none], [])) (jq qX13_asTold 2 rfl) (jo_cv (y := mX13_takeUp) rfl (Nat.le_of_ble_eq_true rfl) rfl (Nat.le_of_ble_eq_true rfl) b21 rfl r2 jo_ret)) ?_
    refine Eq.trans (jb_nx (i := .aload_n 0) (n := 1) (q := (6, [some (.ref p0), some (.int i1), none], [.ref p0])) (jq qX13_asTold 3 rfl) rfl) ?_
    obtain ⟨b18, H⟩ := jm_O_inv H
    rcases jcI H with ⟨x5, h3, r4, H⟩ | ⟨w19, h20, r4, H⟩
    · refine Eq.trans (jb_nx (i := .invokevirtual 150) (n := 3) (q := (9, [some (.ref p0), some (.int i1), none], [.int x5])) (jq qX13_asTold 4 rfl) (jo_cv (y := mX13_setAside) rfl (Nat.le_of_ble_eq_true rfl) rfl (Nat.le_of_ble_eq_true rfl) b18 rfl r4 jo_ret)) ?_
      refine Eq.trans (jb_nx (i := .istore_n 2) (n := 1) (q := (10, [some (.ref p0), some (.int i1), some (.int x5)], [])) (jq qX13_asTold 5 rfl) rfl) ?_
      refine Eq.trans (jb_nx (i := .aload_n 0) (n := 1) (q := (11, [some (.ref p0), some (.int i1), some (.int x5)], [.ref p0])) (jq qX13_asTold 6 rfl) rfl) ?_
      refine Eq.trans (jb_nx (i := .iload_n 1) (n := 1) (q := (12, [some (.ref p0), some (.int i1), some (.int x5)], [.int i1, .ref p0])) (jq qX13_asTold 7 rfl) rfl) ?_
      obtain ⟨b15, H⟩ := jm_O_inv H
      rcases jcV H with ⟨h6, r7, H⟩ | ⟨w16, h17, r7, H⟩
      · refine Eq.trans (jb_nx (i := .invokevirtual 157) (n := 3) (q := (15, [some (.ref p0), some (.int i1), some (.int x5)], [])) (jq qX13_asTold 8 rfl) (jo_cv (y := mX13_takeUpTold) rfl (Nat.le_of_ble_eq_true rfl) rfl (Nat.le_of_ble_eq_true rfl) b15 rfl r7 jo_ret)) ?_
        refine Eq.trans (jb_nx (i := .aload_n 0) (n := 1) (q := (16, [some (.ref p0), some (.int i1), some (.int x5)], [.ref p0])) (jq qX13_asTold 9 rfl) rfl) ?_
        refine Eq.trans (jb_nx (i := .iload_n 2) (n := 1) (q := (17, [some (.ref p0), some (.int i1), some (.int x5)], [.int x5, .ref p0])) (jq qX13_asTold 10 rfl) rfl) ?_
        obtain ⟨b12, H⟩ := jm_O_inv H
        rcases jcI H with ⟨x10, h8, r9, H⟩ | ⟨w13, h14, r9, H⟩
        · refine Eq.trans (jb_nx (i := .invokevirtual 153) (n := 3) (q := (20, [some (.ref p0), some (.int i1), some (.int x5)], [.int x10])) (jq qX13_asTold 11 rfl) (jo_cv (y := mX13_isAlike) rfl (Nat.le_of_ble_eq_true rfl) rfl (Nat.le_of_ble_eq_true rfl) b12 rfl r9 jo_ret)) ?_
          obtain ⟨u11, H⟩ := jm_Y_inv H
          exact Eq.trans (jb_rt (i := .ireturn) (n := 1) (jq qX13_asTold 12 rfl) (jo_iret rfl u11)) H
        · exact Eq.trans (jb_rt (i := .invokevirtual 153) (n := 3) (jq qX13_asTold 11 rfl) (jo_cv (y := mX13_isAlike) rfl (Nat.le_of_ble_eq_true rfl) rfl (Nat.le_of_ble_eq_true rfl) b12 rfl r9 (jo_exn rfl))) H
      · exact Eq.trans (jb_rt (i := .invokevirtual 157) (n := 3) (jq qX13_asTold 8 rfl) (jo_cv (y := mX13_takeUpTold) rfl (Nat.le_of_ble_eq_true rfl) rfl (Nat.le_of_ble_eq_true rfl) b15 rfl r7 (jo_exn rfl))) H
    · exact Eq.trans (jb_rt (i := .invokevirtual 150) (n := 3) (jq qX13_asTold 4 rfl) (jo_cv (y := mX13_setAside) rfl (Nat.le_of_ble_eq_true rfl) rfl (Nat.le_of_ble_eq_true rfl) b18 rfl r4 (jo_exn rfl))) H
  · exact Eq.trans (jb_rt (i := .invokevirtual 146) (n := 3) (jq qX13_asTold 2 rfl) (jo_cv (y := mX13_takeUp) rfl (Nat.le_of_ble_eq_true rfl) rfl (Nat.le_of_ble_eq_true rfl) b21 rfl r2 (jo_exn rfl))) H
/-! MaskPlaysModel doStep (I)I -/
def tX13_doStep : List (Nat × Instr × Nat) := [(0, .aload_n 0, 1), (1, .iconst 0, 1), (2, .putfield 68, 3), (5, .aload_n 0, 1), (6, .iload_n 1, 1), (7, .invokevirtual 473, 3), (10, .ifCond .ne 9, 3), (13, .aload_n 0, 1), (14, .iconst 1, 1), (15, .invokevirtual 463, 3), (18, .ireturn, 1), (19, .aload_n 0, 1), (20, .iload_n 1, 1), (21, .invokevirtual 146, 3), (24, .aload_n 0, 1), (25, .invokevirtual 260, 3), (28, .ifCond .ne 9, 3), (31, .aload_n 0, 1), (32, .iconst 2, 1), (33, .invokevirtual 463, 3), (36, .ireturn, 1), (37, .aload_n 0, 1), (38, .iload_n 1, 1), (39, .invokevirtual 264, 3), (42, .aload_n 0, 1), (43, .iload_n 1, 1), (44, .invokevirtual 257, 3), (47, .aload_n 0, 1), (48, .getfield 82, 3), (51, .ireturn, 1)]
set_option maxRecDepth 100000 in
theorem qX13_doStep : ∀ q ∈ tX13_doStep, decode cX13_doStep q.1 = .ok (q.2.1, q.2.2) := by decide +kernel
theorem gX13_doStep {d : Nat} {p0 : Nat} {i1 : Int32} {h : jm_H} {r : jm_R} (H : ((jm_pf h p0 12 0 0 (.int 0)).bind fun h1 => jm_O h1 p0 13 (jc_I (jm_D d mX13_isPlay [.ref p0, .int i1] h1) (fun x5 h3 => (if x5 = 0 then jm_O h3 p0 13 (jc_I (jm_D d mX13_no [.ref p0, .int 1] h3) (fun x39 h37 => some (.inl (some (.int x39)), h37)) jx) else jm_O h3 p0 13 (jc_V (jm_D d mX13_takeUp [.ref p0, .int i1] h3) (fun h7 => jm_O h7 p0 13 (jc_I (jm_D d mX13_canStepNow [.ref p0] h7) (fun x11 h9 => (if x11 = 0 then jm_O h9 p0 13 (jc_I (jm_D d mX13_no [.ref p0, .int 2] h9) (fun x27 h25 => some (.inl (some (.int x27)), h25)) jx) else jm_O h9 p0 13 (jc_V (jm_D d mX13_stepWork [.ref p0, .int i1] h9) (fun h13 => jm_O h13 p0 13 (jc_V (jm_D d mX13_putDown [.ref p0, .int i1] h13) (fun h15 => (jr_I h15 p0 12 19 0).bind fun x17 => some (.inl (some (.int x17)), h15)) jx)) jx))) jx)) jx))) jx)) = some r) : jm_D (d + 1) mX13_doStep [.ref p0, .int i1] h = some r := by
  rw [jm_D_body (Nat.le_of_ble_eq_true rfl)]
  show jm_B d mX13_doStep (0, [some (.ref p0), some (.int i1)], []) h = some r
  refine Eq.trans (jb_nx (i := .aload_n 0) (n := 1) (q := (1, [some (.ref p0), some (.int i1)], [.ref p0])) (jq qX13_doStep 0 rfl) rfl) ?_
  refine Eq.trans (jb_nx (i := .iconst 0) (n := 1) (q := (2, [some (.ref p0), some (.int i1)], [.int 0, .ref p0])) (jq qX13_doStep 1 rfl) rfl) ?_
  obtain ⟨h1, e2, H⟩ := jbd H
  refine Eq.trans (jb_nx (i := .putfield 68) (n := 3) (q := (5, [some (.ref p0), some (.int i1)], [])) (jq qX13_doStep 2 rfl) (jo_pf rfl (Or.inl rfl) e2)) ?_
  refine Eq.trans (jb_nx (i := .aload_n 0) (n := 1) (q := (6, [some (.ref p0), some (.int i1)], [.ref p0])) (jq qX13_doStep 3 rfl) rfl) ?_
  refine Eq.trans (jb_nx (i := .iload_n 1) (n := 1) (q := (7, [some (.ref p0), some (.int i1)], [.int i1, .ref p0])) (jq qX13_doStep 4 rfl) rfl) ?_
  obtain ⟨b43, H⟩ := jm_O_inv H
  rcases jcI H with ⟨x5, h3, r4, H⟩ | ⟨w44, h45, r4, H⟩
  · refine Eq.trans (jb_nx (i := .invokevirtual 473) (n := 3) (q := (10, [some (.ref p0), some (.int i1)], [.int x5])) (jq qX13_doStep 5 rfl) (jo_cv (y := mX13_isPlay) rfl (Nat.le_of_ble_eq_true rfl) rfl (Nat.le_of_ble_eq_true rfl) b43 rfl r4 jo_ret)) ?_
    by_cases c6 : x5 = 0
    · rw [if_pos c6] at H
      refine Eq.trans (jb_nx (i := .ifCond .ne 9) (n := 3) (q := (13, [some (.ref p0), some (.int i1)], [])) (jq qX13_doStep 6 rfl) (jo_ifF (jz_neF c6))) ?_
      refine Eq.trans (jb_nx (i := .aload_n 0) (n := 1) (q := (14, [some (.ref p0), some (.int i1)], [.ref p0])) (jq qX13_doStep 7 rfl) rfl) ?_
      refine Eq.trans (jb_nx (i := .iconst 1) (n := 1) (q := (15, [some (.ref p0), some (.int i1)], [.int 1, .ref p0])) (jq qX13_doStep 8 rfl) rfl) ?_
      obtain ⟨b40, H⟩ := jm_O_inv H
      rcases jcI H with ⟨x39, h37, r38, H⟩ | ⟨w41, h42, r38, H⟩
      · refine Eq.trans (jb_nx (i := .invokevirtual 463) (n := 3) (q := (18, [some (.ref p0), some (.int i1)], [.int x39])) (jq qX13_doStep 9 rfl) (jo_cv (y := mX13_no) rfl (Nat.le_of_ble_eq_true rfl) rfl (Nat.le_of_ble_eq_true rfl) b40 rfl r38 jo_ret)) ?_
        exact Eq.trans (jb_rt (i := .ireturn) (n := 1) (jq qX13_doStep 10 rfl) (jo_iret rfl rfl)) H
      · exact Eq.trans (jb_rt (i := .invokevirtual 463) (n := 3) (jq qX13_doStep 9 rfl) (jo_cv (y := mX13_no) rfl (Nat.le_of_ble_eq_true rfl) rfl (Nat.le_of_ble_eq_true rfl) b40 rfl r38 (jo_exn rfl))) H
    · rw [if_neg c6] at H
      refine Eq.trans (jb_nx (i := .ifCond .ne 9) (n := 3) (q := (19, [some (.ref p0), some (.int i1)], [])) (jq qX13_doStep 6 rfl) (jo_ifT (jz_neT c6) rfl)) ?_
      refine Eq.trans (jb_nx (i := .aload_n 0) (n := 1) (q := (20, [some (.ref p0), some (.int i1)], [.ref p0])) (jq qX13_doStep 11 rfl) rfl) ?_
      refine Eq.trans (jb_nx (i := .iload_n 1) (n := 1) (q := (21, [some (.ref p0), some (.int i1)], [.int i1, .ref p0])) (jq qX13_doStep 12 rfl) rfl) ?_
      obtain ⟨b34, H⟩ := jm_O_inv H
      rcases jcV H with ⟨h7, r8, H⟩ | ⟨w35, h36, r8, H⟩
      · refine Eq.trans (jb_nx (i := .invokevirtual 146) (n := 3) (q := (24, [some (.ref p0), some (.int i1)], [])) (jq qX13_doStep 13 rfl) (jo_cv (y := mX13_takeUp) rfl (Nat.le_of_ble_eq_true rfl) rfl (Nat.le_of_ble_eq_true rfl) b34 rfl r8 jo_ret)) ?_
        refine Eq.trans (jb_nx (i := .aload_n 0) (n := 1) (q := (25, [some (.ref p0), some (.int i1)], [.ref p0])) (jq qX13_doStep 14 rfl) rfl) ?_
        obtain ⟨b31, H⟩ := jm_O_inv H
        rcases jcI H with ⟨x11, h9, r10, H⟩ | ⟨w32, h33, r10, H⟩
        · refine Eq.trans (jb_nx (i := .invokevirtual 260) (n := 3) (q := (28, [some (.ref p0), some (.int i1)], [.int x11])) (jq qX13_doStep 15 rfl) (jo_cv (y := mX13_canStepNow) rfl (Nat.le_of_ble_eq_true rfl) rfl (Nat.le_of_ble_eq_true rfl) b31 rfl r10 jo_ret)) ?_
          by_cases c12 : x11 = 0
          · rw [if_pos c12] at H
            refine Eq.trans (jb_nx (i := .ifCond .ne 9) (n := 3) (q := (31, [some (.ref p0), some (.int i1)], [])) (jq qX13_doStep 16 rfl) (jo_ifF (jz_neF c12))) ?_
            refine Eq.trans (jb_nx (i := .aload_n 0) (n := 1) (q := (32, [some (.ref p0), some (.int i1)], [.ref p0])) (jq qX13_doStep 17 rfl) rfl) ?_
            refine Eq.trans (jb_nx (i := .iconst 2) (n := 1) (q := (33, [some (.ref p0), some (.int i1)], [.int 2, .ref p0])) (jq qX13_doStep 18 rfl) rfl) ?_
            obtain ⟨b28, H⟩ := jm_O_inv H
            rcases jcI H with ⟨x27, h25, r26, H⟩ | ⟨w29, h30, r26, H⟩
            · refine Eq.trans (jb_nx (i := .invokevirtual 463) (n := 3) (q := (36, [some (.ref p0), some (.int i1)], [.int x27])) (jq qX13_doStep 19 rfl) (jo_cv (y := mX13_no) rfl (Nat.le_of_ble_eq_true rfl) rfl (Nat.le_of_ble_eq_true rfl) b28 rfl r26 jo_ret)) ?_
              exact Eq.trans (jb_rt (i := .ireturn) (n := 1) (jq qX13_doStep 20 rfl) (jo_iret rfl rfl)) H
            · exact Eq.trans (jb_rt (i := .invokevirtual 463) (n := 3) (jq qX13_doStep 19 rfl) (jo_cv (y := mX13_no) rfl (Nat.le_of_ble_eq_true rfl) rfl (Nat.le_of_ble_eq_true rfl) b28 rfl r26 (jo_exn rfl))) H
          · rw [if_neg c12] at H
            refine Eq.trans (jb_nx (i := .ifCond .ne 9) (n := 3) (q := (37, [some (.ref p0), some (.int i1)], [])) (jq qX13_doStep 16 rfl) (jo_ifT (jz_neT c12) rfl)) ?_
            refine Eq.trans (jb_nx (i := .aload_n 0) (n := 1) (q := (38, [some (.ref p0), some (.int i1)], [.ref p0])) (jq qX13_doStep 21 rfl) rfl) ?_
            refine Eq.trans (jb_nx (i := .iload_n 1) (n := 1) (q := (39, [some (.ref p0), some (.int i1)], [.int i1, .ref p0])) (jq qX13_doStep 22 rfl) rfl) ?_
            obtain ⟨b22, H⟩ := jm_O_inv H
            rcases jcV H with ⟨h13, r14, H⟩ | ⟨w23, h24, r14, H⟩
            · refine Eq.trans (jb_nx (i := .invokevirtual 264) (n := 3) (q := (42, [some (.ref p0), some (.int i1)], [])) (jq qX13_doStep 23 rfl) (jo_cv (y := mX13_stepWork) rfl (Nat.le_of_ble_eq_true rfl) rfl (Nat.le_of_ble_eq_true rfl) b22 rfl r14 jo_ret)) ?_
              refine Eq.trans (jb_nx (i := .aload_n 0) (n := 1) (q := (43, [some (.ref p0), some (.int i1)], [.ref p0])) (jq qX13_doStep 24 rfl) rfl) ?_
              refine Eq.trans (jb_nx (i := .iload_n 1) (n := 1) (q := (44, [some (.ref p0), some (.int i1)], [.int i1, .ref p0])) (jq qX13_doStep 25 rfl) rfl) ?_
              obtain ⟨b19, H⟩ := jm_O_inv H
              rcases jcV H with ⟨h15, r16, H⟩ | ⟨w20, h21, r16, H⟩
              · refine Eq.trans (jb_nx (i := .invokevirtual 257) (n := 3) (q := (47, [some (.ref p0), some (.int i1)], [])) (jq qX13_doStep 26 rfl) (jo_cv (y := mX13_putDown) rfl (Nat.le_of_ble_eq_true rfl) rfl (Nat.le_of_ble_eq_true rfl) b19 rfl r16 jo_ret)) ?_
                refine Eq.trans (jb_nx (i := .aload_n 0) (n := 1) (q := (48, [some (.ref p0), some (.int i1)], [.ref p0])) (jq qX13_doStep 27 rfl) rfl) ?_
                obtain ⟨x17, e18, H⟩ := jbd H
                refine Eq.trans (jb_nx (i := .getfield 82) (n := 3) (q := (51, [some (.ref p0), some (.int i1)], [.int x17])) (jq qX13_doStep 28 rfl) (jo_gf rfl (jr_I_inv e18))) ?_
                exact Eq.trans (jb_rt (i := .ireturn) (n := 1) (jq qX13_doStep 29 rfl) (jo_iret rfl rfl)) H
              · exact Eq.trans (jb_rt (i := .invokevirtual 257) (n := 3) (jq qX13_doStep 26 rfl) (jo_cv (y := mX13_putDown) rfl (Nat.le_of_ble_eq_true rfl) rfl (Nat.le_of_ble_eq_true rfl) b19 rfl r16 (jo_exn rfl))) H
            · exact Eq.trans (jb_rt (i := .invokevirtual 264) (n := 3) (jq qX13_doStep 23 rfl) (jo_cv (y := mX13_stepWork) rfl (Nat.le_of_ble_eq_true rfl) rfl (Nat.le_of_ble_eq_true rfl) b22 rfl r14 (jo_exn rfl))) H
        · exact Eq.trans (jb_rt (i := .invokevirtual 260) (n := 3) (jq qX13_doStep 15 rfl) (jo_cv (y := mX13_canStepNow) rfl (Nat.le_of_ble_eq_true rfl) rfl (Nat.le_of_ble_eq_true rfl) b31 rfl r10 (jo_exn rfl))) H
      · exact Eq.trans (jb_rt (i := .invokevirtual 146) (n := 3) (jq qX13_doStep 13 rfl) (jo_cv (y := mX13_takeUp) rfl (Nat.le_of_ble_eq_true rfl) rfl (Nat.le_of_ble_eq_true rfl) b34 rfl r8 (jo_exn rfl))) H
  · exact Eq.trans (jb_rt (i := .invokevirtual 473) (n := 3) (jq qX13_doStep 5 rfl) (jo_cv (y := mX13_isPlay) rfl (Nat.le_of_ble_eq_true rfl) rfl (Nat.le_of_ble_eq_true rfl) b43 rfl r4 (jo_exn rfl))) H
/-! MaskPlaysModel stepWork (I)V -/
def tX13_stepWork : List (Nat × Instr × Nat) := [(0, .aload_n 0, 1), (1, .invokevirtual 270, 3), (4, .pop, 1), (5, .aload_n 0, 1), (6, .getfield 31, 3), (9, .iload_n 1, 1), (10, .dup2, 1), (11, .iaload, 1), (12, .iconst 1, 1), (13, .iadd, 1), (14, .iastore, 1), (15, .return_, 1)]
set_option maxRecDepth 100000 in
theorem qX13_stepWork : ∀ q ∈ tX13_stepWork, decode cX13_stepWork q.1 = .ok (q.2.1, q.2.2) := by decide +kernel
theorem gX13_stepWork {d : Nat} {p0 : Nat} {i1 : Int32} {h : jm_H} {r : jm_R} (H : (jm_O h p0 13 (jc_I (jm_D d mX13_takeOff [.ref p0] h) (fun x3 h1 => (jr_R h1 p0 12 10 2).bind fun a4 => (jm_ali h1 a4 0 i1).bind fun x6 => (jm_asi h1 a4 0 i1 (x6 + 1)).bind fun h8 => some (.inl none, h8)) jx)) = some r) : jm_D (d + 1) mX13_stepWork [.ref p0, .int i1] h = some r := by
  rw [jm_D_body (Nat.le_of_ble_eq_true rfl)]
  show jm_B d mX13_stepWork (0, [some (.ref p0), some (.int i1)], []) h = some r
  refine Eq.trans (jb_nx (i := .aload_n 0) (n := 1) (q := (1, [some (.ref p0), some (.int i1)], [.ref p0])) (jq qX13_stepWork 0 rfl) rfl) ?_
  obtain ⟨b10, H⟩ := jm_O_inv H
  rcases jcI H with ⟨x3, h1, r2, H⟩ | ⟨w11, h12, r2, H⟩
  · refine Eq.trans (jb_nx (i := .invokevirtual 270) (n := 3) (q := (4, [some (.ref p0), some (.int i1)], [.int x3])) (jq qX13_stepWork 1 rfl) (jo_cv (y := mX13_takeOff) rfl (Nat.le_of_ble_eq_true rfl) rfl (Nat.le_of_ble_eq_true rfl) b10 rfl r2 jo_ret)) ?_
    refine Eq.trans (jb_nx (i := .pop) (n := 1) (q := (5, [some (.ref p0), some (.int i1)], [])) (jq qX13_stepWork 2 rfl) rfl) ?_
    refine Eq.trans (jb_nx (i := .aload_n 0) (n := 1) (q := (6, [some (.ref p0), some (.int i1)], [.ref p0])) (jq qX13_stepWork 3 rfl) rfl) ?_
    obtain ⟨a4, e5, H⟩ := jbd H
    refine Eq.trans (jb_nx (i := .getfield 31) (n := 3) (q := (9, [some (.ref p0), some (.int i1)], [.ref a4])) (jq qX13_stepWork 4 rfl) (jo_gf rfl (jr_R_inv e5))) ?_
    refine Eq.trans (jb_nx (i := .iload_n 1) (n := 1) (q := (10, [some (.ref p0), some (.int i1)], [.int i1, .ref a4])) (jq qX13_stepWork 5 rfl) rfl) ?_
    refine Eq.trans (jb_nx (i := .dup2) (n := 1) (q := (11, [some (.ref p0), some (.int i1)], [.int i1, .ref a4, .int i1, .ref a4])) (jq qX13_stepWork 6 rfl) rfl) ?_
    obtain ⟨x6, e7, H⟩ := jbd H
    refine Eq.trans (jb_nx (i := .iaload) (n := 1) (q := (12, [some (.ref p0), some (.int i1)], [.int x6, .int i1, .ref a4])) (jq qX13_stepWork 7 rfl) (jo_ial e7)) ?_
    refine Eq.trans (jb_nx (i := .iconst 1) (n := 1) (q := (13, [some (.ref p0), some (.int i1)], [.int 1, .int x6, .int i1, .ref a4])) (jq qX13_stepWork 8 rfl) rfl) ?_
    refine Eq.trans (jb_nx (i := .iadd) (n := 1) (q := (14, [some (.ref p0), some (.int i1)], [.int (x6 + 1), .int i1, .ref a4])) (jq qX13_stepWork 9 rfl) rfl) ?_
    obtain ⟨h8, e9, H⟩ := jbd H
    refine Eq.trans (jb_nx (i := .iastore) (n := 1) (q := (15, [some (.ref p0), some (.int i1)], [])) (jq qX13_stepWork 10 rfl) (jo_ias e9)) ?_
    exact Eq.trans (jb_rt (i := .return_) (n := 1) (jq qX13_stepWork 11 rfl) rfl) H
  · exact Eq.trans (jb_rt (i := .invokevirtual 270) (n := 3) (jq qX13_stepWork 1 rfl) (jo_cv (y := mX13_takeOff) rfl (Nat.le_of_ble_eq_true rfl) rfl (Nat.le_of_ble_eq_true rfl) b10 rfl r2 (jo_exn rfl))) H
/-! MaskPlaysModel give (II)I -/
def tX13_give : List (Nat × Instr × Nat) := [(0, .aload_n 0, 1), (1, .iconst 0, 1), (2, .putfield 68, 3), (5, .aload_n 0, 1), (6, .iload_n 1, 1), (7, .invokevirtual 473, 3), (10, .ifCond .eq 11, 3), (13, .aload_n 0, 1), (14, .iload_n 2, 1), (15, .invokevirtual 473, 3), (18, .ifCond .ne 9, 3), (21, .aload_n 0, 1), (22, .iconst 1, 1), (23, .invokevirtual 463, 3), (26, .ireturn, 1), (27, .aload_n 0, 1), (28, .iload_n 1, 1), (29, .iload_n 2, 1), (30, .invokevirtual 250, 3), (33, .ifCond .ne 9, 3), (36, .aload_n 0, 1), (37, .iconst 2, 1), (38, .invokevirtual 463, 3), (41, .ireturn, 1), (42, .aload_n 0, 1), (43, .iload_n 1, 1), (44, .iload_n 2, 1), (45, .invokevirtual 253, 3), (48, .aload_n 0, 1), (49, .iload_n 2, 1), (50, .invokevirtual 257, 3), (53, .aload_n 0, 1), (54, .getfield 82, 3), (57, .ireturn, 1)]
set_option maxRecDepth 100000 in
theorem qX13_give : ∀ q ∈ tX13_give, decode cX13_give q.1 = .ok (q.2.1, q.2.2) := by decide +kernel
theorem gX13_give {d : Nat} {p0 : Nat} {i1 : Int32} {i2 : Int32} {h : jm_H} {r : jm_R} (H : ((jm_pf h p0 12 0 0 (.int 0)).bind fun h1 => jm_O h1 p0 13 (jc_I (jm_D d mX13_isPlay [.ref p0, .int i1] h1) (fun x5 h3 => (if x5 = 0 then jm_O h3 p0 13 (jc_I (jm_D d mX13_no [.ref p0, .int 1] h3) (fun x9 h7 => some (.inl (some (.int x9)), h7)) jx) else jm_O h3 p0 13 (jc_I (jm_D d mX13_isPlay [.ref p0, .int i2] h3) (fun x15 h13 => (if x15 = 0 then jm_O h13 p0 13 (jc_I (jm_D d mX13_no [.ref p0, .int 1] h13) (fun x44 h42 => some (.inl (some (.int x44)), h42)) jx) else jm_O h13 p0 13 (jc_I (jm_D d mX13_canGive [.ref p0, .int i1, .int i2] h13) (fun x19 h17 => (if x19 = 0 then jm_O h17 p0 13 (jc_I (jm_D d mX13_no [.ref p0, .int 2] h17) (fun x35 h33 => some (.inl (some (.int x35)), h33)) jx) else jm_O h17 p0 13 (jc_V (jm_D d mX13_takeUpGift [.ref p0, .int i1, .int i2] h17) (fun h21 => jm_O h21 p0 13 (jc_V (jm_D d mX13_putDown [.ref p0, .int i2] h21) (fun h23 => (jr_I h23 p0 12 19 0).bind fun x25 => some (.inl (some (.int x25)), h23)) jx)) jx))) jx))) jx))) jx)) = some r) : jm_D (d + 1) mX13_give [.ref p0, .int i1, .int i2] h = some r := by
  rw [jm_D_body (Nat.le_of_ble_eq_true rfl)]
  show jm_B d mX13_give (0, [some (.ref p0), some (.int i1), some (.int i2)], []) h = some r
  refine Eq.trans (jb_nx (i := .aload_n 0) (n := 1) (q := (1, [some (.ref p0), some (.int i1), some (.int i2)], [.ref p0])) (jq qX13_give 0 rfl) rfl) ?_
  refine Eq.trans (jb_nx (i := .iconst 0) (n := 1) (q := (2, [some (.ref p0), some (.int i1), some (.int i2)], [.int 0, .ref p0])) (jq qX13_give 1 rfl) rfl) ?_
  obtain ⟨h1, e2, H⟩ := jbd H
  refine Eq.trans (jb_nx (i := .putfield 68) (n := 3) (q := (5, [some (.ref p0), some (.int i1), some (.int i2)], [])) (jq qX13_give 2 rfl) (jo_pf rfl (Or.inl rfl) e2)) ?_
  refine Eq.trans (jb_nx (i := .aload_n 0) (n := 1) (q := (6, [some (.ref p0), some (.int i1), some (.int i2)], [.ref p0])) (jq qX13_give 3 rfl) rfl) ?_
  refine Eq.trans (jb_nx (i := .iload_n 1) (n := 1) (q := (7, [some (.ref p0), some (.int i1), some (.int i2)], [.int i1, .ref p0])) (jq qX13_give 4 rfl) rfl) ?_
  obtain ⟨b51, H⟩ := jm_O_inv H
  rcases jcI H with ⟨x5, h3, r4, H⟩ | ⟨w52, h53, r4, H⟩
  · refine Eq.trans (jb_nx (i := .invokevirtual 473) (n := 3) (q := (10, [some (.ref p0), some (.int i1), some (.int i2)], [.int x5])) (jq qX13_give 5 rfl) (jo_cv (y := mX13_isPlay) rfl (Nat.le_of_ble_eq_true rfl) rfl (Nat.le_of_ble_eq_true rfl) b51 rfl r4 jo_ret)) ?_
    by_cases c6 : x5 = 0
    · rw [if_pos c6] at H
      refine Eq.trans (jb_nx (i := .ifCond .eq 11) (n := 3) (q := (21, [some (.ref p0), some (.int i1), some (.int i2)], [])) (jq qX13_give 6 rfl) (jo_ifT (jz_eqT c6) rfl)) ?_
      refine Eq.trans (jb_nx (i := .aload_n 0) (n := 1) (q := (22, [some (.ref p0), some (.int i1), some (.int i2)], [.ref p0])) (jq qX13_give 11 rfl) rfl) ?_
      refine Eq.trans (jb_nx (i := .iconst 1) (n := 1) (q := (23, [some (.ref p0), some (.int i1), some (.int i2)], [.int 1, .ref p0])) (jq qX13_give 12 rfl) rfl) ?_
      obtain ⟨b10, H⟩ := jm_O_inv H
      rcases jcI H with ⟨x9, h7, r8, H⟩ | ⟨w11, h12, r8, H⟩
      · refine Eq.trans (jb_nx (i := .invokevirtual 463) (n := 3) (q := (26, [some (.ref p0), some (.int i1), some (.int i2)], [.int x9])) (jq qX13_give 13 rfl) (jo_cv (y := mX13_no) rfl (Nat.le_of_ble_eq_true rfl) rfl (Nat.le_of_ble_eq_true rfl) b10 rfl r8 jo_ret)) ?_
        exact Eq.trans (jb_rt (i := .ireturn) (n := 1) (jq qX13_give 14 rfl) (jo_iret rfl rfl)) H
      · exact Eq.trans (jb_rt (i := .invokevirtual 463) (n := 3) (jq qX13_give 13 rfl) (jo_cv (y := mX13_no) rfl (Nat.le_of_ble_eq_true rfl) rfl (Nat.le_of_ble_eq_true rfl) b10 rfl r8 (jo_exn rfl))) H
    · rw [if_neg c6] at H
      refine Eq.trans (jb_nx (i := .ifCond .eq 11) (n := 3) (q := (13, [some (.ref p0), some (.int i1), some (.int i2)], [])) (jq qX13_give 6 rfl) (jo_ifF (jz_eqF c6))) ?_
      refine Eq.trans (jb_nx (i := .aload_n 0) (n := 1) (q := (14, [some (.ref p0), some (.int i1), some (.int i2)], [.ref p0])) (jq qX13_give 7 rfl) rfl) ?_
      refine Eq.trans (jb_nx (i := .iload_n 2) (n := 1) (q := (15, [some (.ref p0), some (.int i1), some (.int i2)], [.int i2, .ref p0])) (jq qX13_give 8 rfl) rfl) ?_
      obtain ⟨b48, H⟩ := jm_O_inv H
      rcases jcI H with ⟨x15, h13, r14, H⟩ | ⟨w49, h50, r14, H⟩
      · refine Eq.trans (jb_nx (i := .invokevirtual 473) (n := 3) (q := (18, [some (.ref p0), some (.int i1), some (.int i2)], [.int x15])) (jq qX13_give 9 rfl) (jo_cv (y := mX13_isPlay) rfl (Nat.le_of_ble_eq_true rfl) rfl (Nat.le_of_ble_eq_true rfl) b48 rfl r14 jo_ret)) ?_
        by_cases c16 : x15 = 0
        · rw [if_pos c16] at H
          refine Eq.trans (jb_nx (i := .ifCond .ne 9) (n := 3) (q := (21, [some (.ref p0), some (.int i1), some (.int i2)], [])) (jq qX13_give 10 rfl) (jo_ifF (jz_neF c16))) ?_
          refine Eq.trans (jb_nx (i := .aload_n 0) (n := 1) (q := (22, [some (.ref p0), some (.int i1), some (.int i2)], [.ref p0])) (jq qX13_give 11 rfl) rfl) ?_
          refine Eq.trans (jb_nx (i := .iconst 1) (n := 1) (q := (23, [some (.ref p0), some (.int i1), some (.int i2)], [.int 1, .ref p0])) (jq qX13_give 12 rfl) rfl) ?_
          obtain ⟨b45, H⟩ := jm_O_inv H
          rcases jcI H with ⟨x44, h42, r43, H⟩ | ⟨w46, h47, r43, H⟩
          · refine Eq.trans (jb_nx (i := .invokevirtual 463) (n := 3) (q := (26, [some (.ref p0), some (.int i1), some (.int i2)], [.int x44])) (jq qX13_give 13 rfl) (jo_cv (y := mX13_no) rfl (Nat.le_of_ble_eq_true rfl) rfl (Nat.le_of_ble_eq_true rfl) b45 rfl r43 jo_ret)) ?_
            exact Eq.trans (jb_rt (i := .ireturn) (n := 1) (jq qX13_give 14 rfl) (jo_iret rfl rfl)) H
          · exact Eq.trans (jb_rt (i := .invokevirtual 463) (n := 3) (jq qX13_give 13 rfl) (jo_cv (y := mX13_no) rfl (Nat.le_of_ble_eq_true rfl) rfl (Nat.le_of_ble_eq_true rfl) b45 rfl r43 (jo_exn rfl))) H
        · rw [if_neg c16] at H
          refine Eq.trans (jb_nx (i := .ifCond .ne 9) (n := 3) (q := (27, [some (.ref p0), some (.int i1), some (.int i2)], [])) (jq qX13_give 10 rfl) (jo_ifT (jz_neT c16) rfl)) ?_
          refine Eq.trans (jb_nx (i := .aload_n 0) (n := 1) (q := (28, [some (.ref p0), some (.int i1), some (.int i2)], [.ref p0])) (jq qX13_give 15 rfl) rfl) ?_
          refine Eq.trans (jb_nx (i := .iload_n 1) (n := 1) (q := (29, [some (.ref p0), some (.int i1), some (.int i2)], [.int i1, .ref p0])) (jq qX13_give 16 rfl) rfl) ?_
          refine Eq.trans (jb_nx (i := .iload_n 2) (n := 1) (q := (30, [some (.ref p0), some (.int i1), some (.int i2)], [.int i2, .int i1, .ref p0])) (jq qX13_give 17 rfl) rfl) ?_
          obtain ⟨b39, H⟩ := jm_O_inv H
          rcases jcI H with ⟨x19, h17, r18, H⟩ | ⟨w40, h41, r18, H⟩
          · refine Eq.trans (jb_nx (i := .invokevirtual 250) (n := 3) (q := (33, [some (.ref p0), some (.int i1), some (.int i2)], [.int x19])) (jq qX13_give 18 rfl) (jo_cv (y := mX13_canGive) rfl (Nat.le_of_ble_eq_true rfl) rfl (Nat.le_of_ble_eq_true rfl) b39 rfl r18 jo_ret)) ?_
            by_cases c20 : x19 = 0
            · rw [if_pos c20] at H
              refine Eq.trans (jb_nx (i := .ifCond .ne 9) (n := 3) (q := (36, [some (.ref p0), some (.int i1), some (.int i2)], [])) (jq qX13_give 19 rfl) (jo_ifF (jz_neF c20))) ?_
              refine Eq.trans (jb_nx (i := .aload_n 0) (n := 1) (q := (37, [some (.ref p0), some (.int i1), some (.int i2)], [.ref p0])) (jq qX13_give 20 rfl) rfl) ?_
              refine Eq.trans (jb_nx (i := .iconst 2) (n := 1) (q := (38, [some (.ref p0), some (.int i1), some (.int i2)], [.int 2, .ref p0])) (jq qX13_give 21 rfl) rfl) ?_
              obtain ⟨b36, H⟩ := jm_O_inv H
              rcases jcI H with ⟨x35, h33, r34, H⟩ | ⟨w37, h38, r34, H⟩
              · refine Eq.trans (jb_nx (i := .invokevirtual 463) (n := 3) (q := (41, [some (.ref p0), some (.int i1), some (.int i2)], [.int x35])) (jq qX13_give 22 rfl) (jo_cv (y := mX13_no) rfl (Nat.le_of_ble_eq_true rfl) rfl (Nat.le_of_ble_eq_true rfl) b36 rfl r34 jo_ret)) ?_
                exact Eq.trans (jb_rt (i := .ireturn) (n := 1) (jq qX13_give 23 rfl) (jo_iret rfl rfl)) H
              · exact Eq.trans (jb_rt (i := .invokevirtual 463) (n := 3) (jq qX13_give 22 rfl) (jo_cv (y := mX13_no) rfl (Nat.le_of_ble_eq_true rfl) rfl (Nat.le_of_ble_eq_true rfl) b36 rfl r34 (jo_exn rfl))) H
            · rw [if_neg c20] at H
              refine Eq.trans (jb_nx (i := .ifCond .ne 9) (n := 3) (q := (42, [some (.ref p0), some (.int i1), some (.int i2)], [])) (jq qX13_give 19 rfl) (jo_ifT (jz_neT c20) rfl)) ?_
              refine Eq.trans (jb_nx (i := .aload_n 0) (n := 1) (q := (43, [some (.ref p0), some (.int i1), some (.int i2)], [.ref p0])) (jq qX13_give 24 rfl) rfl) ?_
              refine Eq.trans (jb_nx (i := .iload_n 1) (n := 1) (q := (44, [some (.ref p0), some (.int i1), some (.int i2)], [.int i1, .ref p0])) (jq qX13_give 25 rfl) rfl) ?_
              refine Eq.trans (jb_nx (i := .iload_n 2) (n := 1) (q := (45, [some (.ref p0), some (.int i1), some (.int i2)], [.int i2, .int i1, .ref p0])) (jq qX13_give 26 rfl) rfl) ?_
              obtain ⟨b30, H⟩ := jm_O_inv H
              rcases jcV H with ⟨h21, r22, H⟩ | ⟨w31, h32, r22, H⟩
              · refine Eq.trans (jb_nx (i := .invokevirtual 253) (n := 3) (q := (48, [some (.ref p0), some (.int i1), some (.int i2)], [])) (jq qX13_give 27 rfl) (jo_cv (y := mX13_takeUpGift) rfl (Nat.le_of_ble_eq_true rfl) rfl (Nat.le_of_ble_eq_true rfl) b30 rfl r22 jo_ret)) ?_
                refine Eq.trans (jb_nx (i := .aload_n 0) (n := 1) (q := (49, [some (.ref p0), some (.int i1), some (.int i2)], [.ref p0])) (jq qX13_give 28 rfl) rfl) ?_
                refine Eq.trans (jb_nx (i := .iload_n 2) (n := 1) (q := (50, [some (.ref p0), some (.int i1), some (.int i2)], [.int i2, .ref p0])) (jq qX13_give 29 rfl) rfl) ?_
                obtain ⟨b27, H⟩ := jm_O_inv H
                rcases jcV H with ⟨h23, r24, H⟩ | ⟨w28, h29, r24, H⟩
                · refine Eq.trans (jb_nx (i := .invokevirtual 257) (n := 3) (q := (53, [some (.ref p0), some (.int i1), some (.int i2)], [])) (jq qX13_give 30 rfl) (jo_cv (y := mX13_putDown) rfl (Nat.le_of_ble_eq_true rfl) rfl (Nat.le_of_ble_eq_true rfl) b27 rfl r24 jo_ret)) ?_
                  refine Eq.trans (jb_nx (i := .aload_n 0) (n := 1) (q := (54, [some (.ref p0), some (.int i1), some (.int i2)], [.ref p0])) (jq qX13_give 31 rfl) rfl) ?_
                  obtain ⟨x25, e26, H⟩ := jbd H
                  refine Eq.trans (jb_nx (i := .getfield 82) (n := 3) (q := (57, [some (.ref p0), some (.int i1), some (.int i2)], [.int x25])) (jq qX13_give 32 rfl) (jo_gf rfl (jr_I_inv e26))) ?_
                  exact Eq.trans (jb_rt (i := .ireturn) (n := 1) (jq qX13_give 33 rfl) (jo_iret rfl rfl)) H
                · exact Eq.trans (jb_rt (i := .invokevirtual 257) (n := 3) (jq qX13_give 30 rfl) (jo_cv (y := mX13_putDown) rfl (Nat.le_of_ble_eq_true rfl) rfl (Nat.le_of_ble_eq_true rfl) b27 rfl r24 (jo_exn rfl))) H
              · exact Eq.trans (jb_rt (i := .invokevirtual 253) (n := 3) (jq qX13_give 27 rfl) (jo_cv (y := mX13_takeUpGift) rfl (Nat.le_of_ble_eq_true rfl) rfl (Nat.le_of_ble_eq_true rfl) b30 rfl r22 (jo_exn rfl))) H
          · exact Eq.trans (jb_rt (i := .invokevirtual 250) (n := 3) (jq qX13_give 18 rfl) (jo_cv (y := mX13_canGive) rfl (Nat.le_of_ble_eq_true rfl) rfl (Nat.le_of_ble_eq_true rfl) b39 rfl r18 (jo_exn rfl))) H
      · exact Eq.trans (jb_rt (i := .invokevirtual 473) (n := 3) (jq qX13_give 9 rfl) (jo_cv (y := mX13_isPlay) rfl (Nat.le_of_ble_eq_true rfl) rfl (Nat.le_of_ble_eq_true rfl) b48 rfl r14 (jo_exn rfl))) H
  · exact Eq.trans (jb_rt (i := .invokevirtual 473) (n := 3) (jq qX13_give 5 rfl) (jo_cv (y := mX13_isPlay) rfl (Nat.le_of_ble_eq_true rfl) rfl (Nat.le_of_ble_eq_true rfl) b51 rfl r4 (jo_exn rfl))) H
/-! MaskPlaysModel canGive (II)Z -/
def tX13_canGive : List (Nat × Instr × Nat) := [(0, .aload_n 0, 1), (1, .getfield 28, 3), (4, .iload_n 1, 1), (5, .iaload, 1), (6, .aload_n 0, 1), (7, .getfield 28, 3), (10, .iload_n 2, 1), (11, .iaload, 1), (12, .iadd, 1), (13, .iconst 1, 1), (14, .iadd, 1), (15, .sipush 150, 3), (18, .if_icmp .gt 7, 3), (21, .iconst 1, 1), (22, .goto 4, 3), (25, .iconst 0, 1), (26, .ireturn, 1)]
set_option maxRecDepth 100000 in
theorem qX13_canGive : ∀ q ∈ tX13_canGive, decode cX13_canGive q.1 = .ok (q.2.1, q.2.2) := by decide +kernel
theorem gX13_canGive {d : Nat} {p0 : Nat} {i1 : Int32} {i2 : Int32} {h : jm_H} {r : jm_R} (H : ((jr_R h p0 12 9 2).bind fun a1 => (jm_ali h a1 0 i1).bind fun x3 => (jr_R h p0 12 9 2).bind fun a5 => (jm_ali h a5 0 i2).bind fun x7 => (if 150 < ((x3 + x7) + 1) then some (.inl (some (.int 0)), h) else some (.inl (some (.int 1)), h))) = some r) : jm_D (d + 1) mX13_canGive [.ref p0, .int i1, .int i2] h = some r := by
  rw [jm_D_body (Nat.le_of_ble_eq_true rfl)]
  show jm_B d mX13_canGive (0, [some (.ref p0), some (.int i1), some (.int i2)], []) h = some r
  refine Eq.trans (jb_nx (i := .aload_n 0) (n := 1) (q := (1, [some (.ref p0), some (.int i1), some (.int i2)], [.ref p0])) (jq qX13_canGive 0 rfl) rfl) ?_
  obtain ⟨a1, e2, H⟩ := jbd H
  refine Eq.trans (jb_nx (i := .getfield 28) (n := 3) (q := (4, [some (.ref p0), some (.int i1), some (.int i2)], [.ref a1])) (jq qX13_canGive 1 rfl) (jo_gf rfl (jr_R_inv e2))) ?_
  refine Eq.trans (jb_nx (i := .iload_n 1) (n := 1) (q := (5, [some (.ref p0), some (.int i1), some (.int i2)], [.int i1, .ref a1])) (jq qX13_canGive 2 rfl) rfl) ?_
  obtain ⟨x3, e4, H⟩ := jbd H
  refine Eq.trans (jb_nx (i := .iaload) (n := 1) (q := (6, [some (.ref p0), some (.int i1), some (.int i2)], [.int x3])) (jq qX13_canGive 3 rfl) (jo_ial e4)) ?_
  refine Eq.trans (jb_nx (i := .aload_n 0) (n := 1) (q := (7, [some (.ref p0), some (.int i1), some (.int i2)], [.ref p0, .int x3])) (jq qX13_canGive 4 rfl) rfl) ?_
  obtain ⟨a5, e6, H⟩ := jbd H
  refine Eq.trans (jb_nx (i := .getfield 28) (n := 3) (q := (10, [some (.ref p0), some (.int i1), some (.int i2)], [.ref a5, .int x3])) (jq qX13_canGive 5 rfl) (jo_gf rfl (jr_R_inv e6))) ?_
  refine Eq.trans (jb_nx (i := .iload_n 2) (n := 1) (q := (11, [some (.ref p0), some (.int i1), some (.int i2)], [.int i2, .ref a5, .int x3])) (jq qX13_canGive 6 rfl) rfl) ?_
  obtain ⟨x7, e8, H⟩ := jbd H
  refine Eq.trans (jb_nx (i := .iaload) (n := 1) (q := (12, [some (.ref p0), some (.int i1), some (.int i2)], [.int x7, .int x3])) (jq qX13_canGive 7 rfl) (jo_ial e8)) ?_
  refine Eq.trans (jb_nx (i := .iadd) (n := 1) (q := (13, [some (.ref p0), some (.int i1), some (.int i2)], [.int (x3 + x7)])) (jq qX13_canGive 8 rfl) rfl) ?_
  refine Eq.trans (jb_nx (i := .iconst 1) (n := 1) (q := (14, [some (.ref p0), some (.int i1), some (.int i2)], [.int 1, .int (x3 + x7)])) (jq qX13_canGive 9 rfl) rfl) ?_
  refine Eq.trans (jb_nx (i := .iadd) (n := 1) (q := (15, [some (.ref p0), some (.int i1), some (.int i2)], [.int ((x3 + x7) + 1)])) (jq qX13_canGive 10 rfl) rfl) ?_
  refine Eq.trans (jb_nx (i := .sipush 150) (n := 3) (q := (18, [some (.ref p0), some (.int i1), some (.int i2)], [.int 150, .int ((x3 + x7) + 1)])) (jq qX13_canGive 11 rfl) rfl) ?_
  by_cases c9 : 150 < ((x3 + x7) + 1)
  · rw [if_pos c9] at H
    refine Eq.trans (jb_nx (i := .if_icmp .gt 7) (n := 3) (q := (25, [some (.ref p0), some (.int i1), some (.int i2)], [])) (jq qX13_canGive 12 rfl) (jo_icT (jz_gtT c9) rfl)) ?_
    refine Eq.trans (jb_nx (i := .iconst 0) (n := 1) (q := (26, [some (.ref p0), some (.int i1), some (.int i2)], [.int 0])) (jq qX13_canGive 15 rfl) rfl) ?_
    exact Eq.trans (jb_rt (i := .ireturn) (n := 1) (jq qX13_canGive 16 rfl) (jo_iret rfl (by decide))) H
  · rw [if_neg c9] at H
    refine Eq.trans (jb_nx (i := .if_icmp .gt 7) (n := 3) (q := (21, [some (.ref p0), some (.int i1), some (.int i2)], [])) (jq qX13_canGive 12 rfl) (jo_icF (jz_gtF c9))) ?_
    refine Eq.trans (jb_nx (i := .iconst 1) (n := 1) (q := (22, [some (.ref p0), some (.int i1), some (.int i2)], [.int 1])) (jq qX13_canGive 13 rfl) rfl) ?_
    refine Eq.trans (jb_nx (i := .goto 4) (n := 3) (q := (26, [some (.ref p0), some (.int i1), some (.int i2)], [.int 1])) (jq qX13_canGive 14 rfl) rfl) ?_
    exact Eq.trans (jb_rt (i := .ireturn) (n := 1) (jq qX13_canGive 16 rfl) (jo_iret rfl (by decide))) H
/-! MaskPlaysModel takeUpGift (II)V -/
def tX13_takeUpGift : List (Nat × Instr × Nat) := [(0, .aload_n 0, 1), (1, .getfield 43, 3), (4, .iconst 0, 1), (5, .lconst 0, 1), (6, .lastore, 1), (7, .aload_n 0, 1), (8, .getfield 24, 3), (11, .sipush 150, 3), (14, .iload_n 2, 1), (15, .imul, 1), (16, .aload_n 0, 1), (17, .getfield 43, 3), (20, .iconst 1, 1), (21, .aload_n 0, 1), (22, .getfield 28, 3), (25, .iload_n 2, 1), (26, .iaload, 1), (27, .invokestatic 128, 3), (30, .aload_n 0, 1), (31, .getfield 24, 3), (34, .sipush 150, 3), (37, .iload_n 1, 1), (38, .imul, 1), (39, .aload_n 0, 1), (40, .getfield 43, 3), (43, .iconst 1, 1), (44, .aload_n 0, 1), (45, .getfield 28, 3), (48, .iload_n 2, 1), (49, .iaload, 1), (50, .iadd, 1), (51, .aload_n 0, 1), (52, .getfield 28, 3), (55, .iload_n 1, 1), (56, .iaload, 1), (57, .invokestatic 128, 3), (60, .aload_n 0, 1), (61, .iconst 1, 1), (62, .aload_n 0, 1), (63, .getfield 28, 3), (66, .iload_n 2, 1), (67, .iaload, 1), (68, .iadd, 1), (69, .aload_n 0, 1), (70, .getfield 28, 3), (73, .iload_n 1, 1), (74, .iaload, 1), (75, .iadd, 1), (76, .putfield 82, 3), (79, .return_, 1)]
set_option maxRecDepth 100000 in
theorem qX13_takeUpGift : ∀ q ∈ tX13_takeUpGift, decode cX13_takeUpGift q.1 = .ok (q.2.1, q.2.2) := by decide +kernel
theorem gX13_takeUpGift {d : Nat} {p0 : Nat} {i1 : Int32} {i2 : Int32} {h : jm_H} {r : jm_R} (H : ((jr_R h p0 12 18 2).bind fun a1 => (jm_asl h a1 0 0).bind fun h3 => (jr_R h3 p0 12 8 2).bind fun a5 => (jr_R h3 p0 12 18 2).bind fun a7 => (jr_R h3 p0 12 9 2).bind fun a9 => (jm_ali h3 a9 0 i2).bind fun x11 => (jm_cpy h3 a5 (150 * i2) a7 1 x11).bind fun h13 => (jr_R h13 p0 12 8 2).bind fun a15 => (jr_R h13 p0 12 18 2).bind fun a17 => (jr_R h13 p0 12 9 2).bind fun a19 => (jm_ali h13 a19 0 i2).bind fun x21 => (jr_R h13 p0 12 9 2).bind fun a23 => (jm_ali h13 a23 0 i1).bind fun x25 => (jm_cpy h13 a15 (150 * i1) a17 (1 + x21) x25).bind fun h27 => (jr_R h27 p0 12 9 2).bind fun a29 => (jm_ali h27 a29 0 i2).bind fun x31 => (jr_R h27 p0 12 9 2).bind fun a33 => (jm_ali h27 a33 0 i1).bind fun x35 => (jm_pf h27 p0 12 19 0 (.int ((1 + x31) + x35))).bind fun h37 => some (.inl none, h37)) = some r) : jm_D (d + 1) mX13_takeUpGift [.ref p0, .int i1, .int i2] h = some r := by
  rw [jm_D_body (Nat.le_of_ble_eq_true rfl)]
  show jm_B d mX13_takeUpGift (0, [some (.ref p0), some (.int i1), some (.int i2)], []) h = some r
  refine Eq.trans (jb_nx (i := .aload_n 0) (n := 1) (q := (1, [some (.ref p0), some (.int i1), some (.int i2)], [.ref p0])) (jq qX13_takeUpGift 0 rfl) rfl) ?_
  obtain ⟨a1, e2, H⟩ := jbd H
  refine Eq.trans (jb_nx (i := .getfield 43) (n := 3) (q := (4, [some (.ref p0), some (.int i1), some (.int i2)], [.ref a1])) (jq qX13_takeUpGift 1 rfl) (jo_gf rfl (jr_R_inv e2))) ?_
  refine Eq.trans (jb_nx (i := .iconst 0) (n := 1) (q := (5, [some (.ref p0), some (.int i1), some (.int i2)], [.int 0, .ref a1])) (jq qX13_takeUpGift 2 rfl) rfl) ?_
  refine Eq.trans (jb_nx (i := .lconst 0) (n := 1) (q := (6, [some (.ref p0), some (.int i1), some (.int i2)], [.long 0, .int 0, .ref a1])) (jq qX13_takeUpGift 3 rfl) rfl) ?_
  obtain ⟨h3, e4, H⟩ := jbd H
  refine Eq.trans (jb_nx (i := .lastore) (n := 1) (q := (7, [some (.ref p0), some (.int i1), some (.int i2)], [])) (jq qX13_takeUpGift 4 rfl) (jo_las e4)) ?_
  refine Eq.trans (jb_nx (i := .aload_n 0) (n := 1) (q := (8, [some (.ref p0), some (.int i1), some (.int i2)], [.ref p0])) (jq qX13_takeUpGift 5 rfl) rfl) ?_
  obtain ⟨a5, e6, H⟩ := jbd H
  refine Eq.trans (jb_nx (i := .getfield 24) (n := 3) (q := (11, [some (.ref p0), some (.int i1), some (.int i2)], [.ref a5])) (jq qX13_takeUpGift 6 rfl) (jo_gf rfl (jr_R_inv e6))) ?_
  refine Eq.trans (jb_nx (i := .sipush 150) (n := 3) (q := (14, [some (.ref p0), some (.int i1), some (.int i2)], [.int 150, .ref a5])) (jq qX13_takeUpGift 7 rfl) rfl) ?_
  refine Eq.trans (jb_nx (i := .iload_n 2) (n := 1) (q := (15, [some (.ref p0), some (.int i1), some (.int i2)], [.int i2, .int 150, .ref a5])) (jq qX13_takeUpGift 8 rfl) rfl) ?_
  refine Eq.trans (jb_nx (i := .imul) (n := 1) (q := (16, [some (.ref p0), some (.int i1), some (.int i2)], [.int (150 * i2), .ref a5])) (jq qX13_takeUpGift 9 rfl) rfl) ?_
  refine Eq.trans (jb_nx (i := .aload_n 0) (n := 1) (q := (17, [some (.ref p0), some (.int i1), some (.int i2)], [.ref p0, .int (150 * i2), .ref a5])) (jq qX13_takeUpGift 10 rfl) rfl) ?_
  obtain ⟨a7, e8, H⟩ := jbd H
  refine Eq.trans (jb_nx (i := .getfield 43) (n := 3) (q := (20, [some (.ref p0), some (.int i1), some (.int i2)], [.ref a7, .int (150 * i2), .ref a5])) (jq qX13_takeUpGift 11 rfl) (jo_gf rfl (jr_R_inv e8))) ?_
  refine Eq.trans (jb_nx (i := .iconst 1) (n := 1) (q := (21, [some (.ref p0), some (.int i1), some (.int i2)], [.int 1, .ref a7, .int (150 * i2), .ref a5])) (jq qX13_takeUpGift 12 rfl) rfl) ?_
  refine Eq.trans (jb_nx (i := .aload_n 0) (n := 1) (q := (22, [some (.ref p0), some (.int i1), some (.int i2)], [.ref p0, .int 1, .ref a7, .int (150 * i2), .ref a5])) (jq qX13_takeUpGift 13 rfl) rfl) ?_
  obtain ⟨a9, e10, H⟩ := jbd H
  refine Eq.trans (jb_nx (i := .getfield 28) (n := 3) (q := (25, [some (.ref p0), some (.int i1), some (.int i2)], [.ref a9, .int 1, .ref a7, .int (150 * i2), .ref a5])) (jq qX13_takeUpGift 14 rfl) (jo_gf rfl (jr_R_inv e10))) ?_
  refine Eq.trans (jb_nx (i := .iload_n 2) (n := 1) (q := (26, [some (.ref p0), some (.int i1), some (.int i2)], [.int i2, .ref a9, .int 1, .ref a7, .int (150 * i2), .ref a5])) (jq qX13_takeUpGift 15 rfl) rfl) ?_
  obtain ⟨x11, e12, H⟩ := jbd H
  refine Eq.trans (jb_nx (i := .iaload) (n := 1) (q := (27, [some (.ref p0), some (.int i1), some (.int i2)], [.int x11, .int 1, .ref a7, .int (150 * i2), .ref a5])) (jq qX13_takeUpGift 16 rfl) (jo_ial e12)) ?_
  obtain ⟨h13, e14, H⟩ := jbd H
  refine Eq.trans (jb_nx (i := .invokestatic 128) (n := 3) (q := (30, [some (.ref p0), some (.int i1), some (.int i2)], [])) (jq qX13_takeUpGift 17 rfl) (jo_cpy (z := mX3_clear) rfl (Nat.le_of_ble_eq_true rfl) e14)) ?_
  refine Eq.trans (jb_nx (i := .aload_n 0) (n := 1) (q := (31, [some (.ref p0), some (.int i1), some (.int i2)], [.ref p0])) (jq qX13_takeUpGift 18 rfl) rfl) ?_
  obtain ⟨a15, e16, H⟩ := jbd H
  refine Eq.trans (jb_nx (i := .getfield 24) (n := 3) (q := (34, [some (.ref p0), some (.int i1), some (.int i2)], [.ref a15])) (jq qX13_takeUpGift 19 rfl) (jo_gf rfl (jr_R_inv e16))) ?_
  refine Eq.trans (jb_nx (i := .sipush 150) (n := 3) (q := (37, [some (.ref p0), some (.int i1), some (.int i2)], [.int 150, .ref a15])) (jq qX13_takeUpGift 20 rfl) rfl) ?_
  refine Eq.trans (jb_nx (i := .iload_n 1) (n := 1) (q := (38, [some (.ref p0), some (.int i1), some (.int i2)], [.int i1, .int 150, .ref a15])) (jq qX13_takeUpGift 21 rfl) rfl) ?_
  refine Eq.trans (jb_nx (i := .imul) (n := 1) (q := (39, [some (.ref p0), some (.int i1), some (.int i2)], [.int (150 * i1), .ref a15])) (jq qX13_takeUpGift 22 rfl) rfl) ?_
  refine Eq.trans (jb_nx (i := .aload_n 0) (n := 1) (q := (40, [some (.ref p0), some (.int i1), some (.int i2)], [.ref p0, .int (150 * i1), .ref a15])) (jq qX13_takeUpGift 23 rfl) rfl) ?_
  obtain ⟨a17, e18, H⟩ := jbd H
  refine Eq.trans (jb_nx (i := .getfield 43) (n := 3) (q := (43, [some (.ref p0), some (.int i1), some (.int i2)], [.ref a17, .int (150 * i1), .ref a15])) (jq qX13_takeUpGift 24 rfl) (jo_gf rfl (jr_R_inv e18))) ?_
  refine Eq.trans (jb_nx (i := .iconst 1) (n := 1) (q := (44, [some (.ref p0), some (.int i1), some (.int i2)], [.int 1, .ref a17, .int (150 * i1), .ref a15])) (jq qX13_takeUpGift 25 rfl) rfl) ?_
  refine Eq.trans (jb_nx (i := .aload_n 0) (n := 1) (q := (45, [some (.ref p0), some (.int i1), some (.int i2)], [.ref p0, .int 1, .ref a17, .int (150 * i1), .ref a15])) (jq qX13_takeUpGift 26 rfl) rfl) ?_
  obtain ⟨a19, e20, H⟩ := jbd H
  refine Eq.trans (jb_nx (i := .getfield 28) (n := 3) (q := (48, [some (.ref p0), some (.int i1), some (.int i2)], [.ref a19, .int 1, .ref a17, .int (150 * i1), .ref a15])) (jq qX13_takeUpGift 27 rfl) (jo_gf rfl (jr_R_inv e20))) ?_
  refine Eq.trans (jb_nx (i := .iload_n 2) (n := 1) (q := (49, [some (.ref p0), some (.int i1), some (.int i2)], [.int i2, .ref a19, .int 1, .ref a17, .int (150 * i1), .ref a15])) (jq qX13_takeUpGift 28 rfl) rfl) ?_
  obtain ⟨x21, e22, H⟩ := jbd H
  refine Eq.trans (jb_nx (i := .iaload) (n := 1) (q := (50, [some (.ref p0), some (.int i1), some (.int i2)], [.int x21, .int 1, .ref a17, .int (150 * i1), .ref a15])) (jq qX13_takeUpGift 29 rfl) (jo_ial e22)) ?_
  refine Eq.trans (jb_nx (i := .iadd) (n := 1) (q := (51, [some (.ref p0), some (.int i1), some (.int i2)], [.int (1 + x21), .ref a17, .int (150 * i1), .ref a15])) (jq qX13_takeUpGift 30 rfl) rfl) ?_
  refine Eq.trans (jb_nx (i := .aload_n 0) (n := 1) (q := (52, [some (.ref p0), some (.int i1), some (.int i2)], [.ref p0, .int (1 + x21), .ref a17, .int (150 * i1), .ref a15])) (jq qX13_takeUpGift 31 rfl) rfl) ?_
  obtain ⟨a23, e24, H⟩ := jbd H
  refine Eq.trans (jb_nx (i := .getfield 28) (n := 3) (q := (55, [some (.ref p0), some (.int i1), some (.int i2)], [.ref a23, .int (1 + x21), .ref a17, .int (150 * i1), .ref a15])) (jq qX13_takeUpGift 32 rfl) (jo_gf rfl (jr_R_inv e24))) ?_
  refine Eq.trans (jb_nx (i := .iload_n 1) (n := 1) (q := (56, [some (.ref p0), some (.int i1), some (.int i2)], [.int i1, .ref a23, .int (1 + x21), .ref a17, .int (150 * i1), .ref a15])) (jq qX13_takeUpGift 33 rfl) rfl) ?_
  obtain ⟨x25, e26, H⟩ := jbd H
  refine Eq.trans (jb_nx (i := .iaload) (n := 1) (q := (57, [some (.ref p0), some (.int i1), some (.int i2)], [.int x25, .int (1 + x21), .ref a17, .int (150 * i1), .ref a15])) (jq qX13_takeUpGift 34 rfl) (jo_ial e26)) ?_
  obtain ⟨h27, e28, H⟩ := jbd H
  refine Eq.trans (jb_nx (i := .invokestatic 128) (n := 3) (q := (60, [some (.ref p0), some (.int i1), some (.int i2)], [])) (jq qX13_takeUpGift 35 rfl) (jo_cpy (z := mX3_clear) rfl (Nat.le_of_ble_eq_true rfl) e28)) ?_
  refine Eq.trans (jb_nx (i := .aload_n 0) (n := 1) (q := (61, [some (.ref p0), some (.int i1), some (.int i2)], [.ref p0])) (jq qX13_takeUpGift 36 rfl) rfl) ?_
  refine Eq.trans (jb_nx (i := .iconst 1) (n := 1) (q := (62, [some (.ref p0), some (.int i1), some (.int i2)], [.int 1, .ref p0])) (jq qX13_takeUpGift 37 rfl) rfl) ?_
  refine Eq.trans (jb_nx (i := .aload_n 0) (n := 1) (q := (63, [some (.ref p0), some (.int i1), some (.int i2)], [.ref p0, .int 1, .ref p0])) (jq qX13_takeUpGift 38 rfl) rfl) ?_
  obtain ⟨a29, e30, H⟩ := jbd H
  refine Eq.trans (jb_nx (i := .getfield 28) (n := 3) (q := (66, [some (.ref p0), some (.int i1), some (.int i2)], [.ref a29, .int 1, .ref p0])) (jq qX13_takeUpGift 39 rfl) (jo_gf rfl (jr_R_inv e30))) ?_
  refine Eq.trans (jb_nx (i := .iload_n 2) (n := 1) (q := (67, [some (.ref p0), some (.int i1), some (.int i2)], [.int i2, .ref a29, .int 1, .ref p0])) (jq qX13_takeUpGift 40 rfl) rfl) ?_
  obtain ⟨x31, e32, H⟩ := jbd H
  refine Eq.trans (jb_nx (i := .iaload) (n := 1) (q := (68, [some (.ref p0), some (.int i1), some (.int i2)], [.int x31, .int 1, .ref p0])) (jq qX13_takeUpGift 41 rfl) (jo_ial e32)) ?_
  refine Eq.trans (jb_nx (i := .iadd) (n := 1) (q := (69, [some (.ref p0), some (.int i1), some (.int i2)], [.int (1 + x31), .ref p0])) (jq qX13_takeUpGift 42 rfl) rfl) ?_
  refine Eq.trans (jb_nx (i := .aload_n 0) (n := 1) (q := (70, [some (.ref p0), some (.int i1), some (.int i2)], [.ref p0, .int (1 + x31), .ref p0])) (jq qX13_takeUpGift 43 rfl) rfl) ?_
  obtain ⟨a33, e34, H⟩ := jbd H
  refine Eq.trans (jb_nx (i := .getfield 28) (n := 3) (q := (73, [some (.ref p0), some (.int i1), some (.int i2)], [.ref a33, .int (1 + x31), .ref p0])) (jq qX13_takeUpGift 44 rfl) (jo_gf rfl (jr_R_inv e34))) ?_
  refine Eq.trans (jb_nx (i := .iload_n 1) (n := 1) (q := (74, [some (.ref p0), some (.int i1), some (.int i2)], [.int i1, .ref a33, .int (1 + x31), .ref p0])) (jq qX13_takeUpGift 45 rfl) rfl) ?_
  obtain ⟨x35, e36, H⟩ := jbd H
  refine Eq.trans (jb_nx (i := .iaload) (n := 1) (q := (75, [some (.ref p0), some (.int i1), some (.int i2)], [.int x35, .int (1 + x31), .ref p0])) (jq qX13_takeUpGift 46 rfl) (jo_ial e36)) ?_
  refine Eq.trans (jb_nx (i := .iadd) (n := 1) (q := (76, [some (.ref p0), some (.int i1), some (.int i2)], [.int ((1 + x31) + x35), .ref p0])) (jq qX13_takeUpGift 47 rfl) rfl) ?_
  obtain ⟨h37, e38, H⟩ := jbd H
  refine Eq.trans (jb_nx (i := .putfield 82) (n := 3) (q := (79, [some (.ref p0), some (.int i1), some (.int i2)], [])) (jq qX13_takeUpGift 48 rfl) (jo_pf rfl (Or.inl rfl) e38)) ?_
  exact Eq.trans (jb_rt (i := .return_) (n := 1) (jq qX13_takeUpGift 49 rfl) rfl) H
/-! MaskPlaysModel renew (I)I -/
def tX13_renew : List (Nat × Instr × Nat) := [(0, .aload_n 0, 1), (1, .iconst 0, 1), (2, .putfield 68, 3), (5, .aload_n 0, 1), (6, .iload_n 1, 1), (7, .invokevirtual 473, 3), (10, .ifCond .ne 9, 3), (13, .aload_n 0, 1), (14, .iconst 1, 1), (15, .invokevirtual 463, 3), (18, .ireturn, 1), (19, .aload_n 0, 1), (20, .iload_n 1, 1), (21, .invokevirtual 157, 3), (24, .aload_n 0, 1), (25, .iload_n 1, 1), (26, .invokevirtual 257, 3), (29, .aload_n 0, 1), (30, .getfield 82, 3), (33, .ireturn, 1)]
set_option maxRecDepth 100000 in
theorem qX13_renew : ∀ q ∈ tX13_renew, decode cX13_renew q.1 = .ok (q.2.1, q.2.2) := by decide +kernel
theorem gX13_renew {d : Nat} {p0 : Nat} {i1 : Int32} {h : jm_H} {r : jm_R} (H : ((jm_pf h p0 12 0 0 (.int 0)).bind fun h1 => jm_O h1 p0 13 (jc_I (jm_D d mX13_isPlay [.ref p0, .int i1] h1) (fun x5 h3 => (if x5 = 0 then jm_O h3 p0 13 (jc_I (jm_D d mX13_no [.ref p0, .int 1] h3) (fun x21 h19 => some (.inl (some (.int x21)), h19)) jx) else jm_O h3 p0 13 (jc_V (jm_D d mX13_takeUpTold [.ref p0, .int i1] h3) (fun h7 => jm_O h7 p0 13 (jc_V (jm_D d mX13_putDown [.ref p0, .int i1] h7) (fun h9 => (jr_I h9 p0 12 19 0).bind fun x11 => some (.inl (some (.int x11)), h9)) jx)) jx))) jx)) = some r) : jm_D (d + 1) mX13_renew [.ref p0, .int i1] h = some r := by
  rw [jm_D_body (Nat.le_of_ble_eq_true rfl)]
  show jm_B d mX13_renew (0, [some (.ref p0), some (.int i1)], []) h = some r
  refine Eq.trans (jb_nx (i := .aload_n 0) (n := 1) (q := (1, [some (.ref p0), some (.int i1)], [.ref p0])) (jq qX13_renew 0 rfl) rfl) ?_
  refine Eq.trans (jb_nx (i := .iconst 0) (n := 1) (q := (2, [some (.ref p0), some (.int i1)], [.int 0, .ref p0])) (jq qX13_renew 1 rfl) rfl) ?_
  obtain ⟨h1, e2, H⟩ := jbd H
  refine Eq.trans (jb_nx (i := .putfield 68) (n := 3) (q := (5, [some (.ref p0), some (.int i1)], [])) (jq qX13_renew 2 rfl) (jo_pf rfl (Or.inl rfl) e2)) ?_
  refine Eq.trans (jb_nx (i := .aload_n 0) (n := 1) (q := (6, [some (.ref p0), some (.int i1)], [.ref p0])) (jq qX13_renew 3 rfl) rfl) ?_
  refine Eq.trans (jb_nx (i := .iload_n 1) (n := 1) (q := (7, [some (.ref p0), some (.int i1)], [.int i1, .ref p0])) (jq qX13_renew 4 rfl) rfl) ?_
  obtain ⟨b25, H⟩ := jm_O_inv H
  rcases jcI H with ⟨x5, h3, r4, H⟩ | ⟨w26, h27, r4, H⟩
  · refine Eq.trans (jb_nx (i := .invokevirtual 473) (n := 3) (q := (10, [some (.ref p0), some (.int i1)], [.int x5])) (jq qX13_renew 5 rfl) (jo_cv (y := mX13_isPlay) rfl (Nat.le_of_ble_eq_true rfl) rfl (Nat.le_of_ble_eq_true rfl) b25 rfl r4 jo_ret)) ?_
    by_cases c6 : x5 = 0
    · rw [if_pos c6] at H
      refine Eq.trans (jb_nx (i := .ifCond .ne 9) (n := 3) (q := (13, [some (.ref p0), some (.int i1)], [])) (jq qX13_renew 6 rfl) (jo_ifF (jz_neF c6))) ?_
      refine Eq.trans (jb_nx (i := .aload_n 0) (n := 1) (q := (14, [some (.ref p0), some (.int i1)], [.ref p0])) (jq qX13_renew 7 rfl) rfl) ?_
      refine Eq.trans (jb_nx (i := .iconst 1) (n := 1) (q := (15, [some (.ref p0), some (.int i1)], [.int 1, .ref p0])) (jq qX13_renew 8 rfl) rfl) ?_
      obtain ⟨b22, H⟩ := jm_O_inv H
      rcases jcI H with ⟨x21, h19, r20, H⟩ | ⟨w23, h24, r20, H⟩
      · refine Eq.trans (jb_nx (i := .invokevirtual 463) (n := 3) (q := (18, [some (.ref p0), some (.int i1)], [.int x21])) (jq qX13_renew 9 rfl) (jo_cv (y := mX13_no) rfl (Nat.le_of_ble_eq_true rfl) rfl (Nat.le_of_ble_eq_true rfl) b22 rfl r20 jo_ret)) ?_
        exact Eq.trans (jb_rt (i := .ireturn) (n := 1) (jq qX13_renew 10 rfl) (jo_iret rfl rfl)) H
      · exact Eq.trans (jb_rt (i := .invokevirtual 463) (n := 3) (jq qX13_renew 9 rfl) (jo_cv (y := mX13_no) rfl (Nat.le_of_ble_eq_true rfl) rfl (Nat.le_of_ble_eq_true rfl) b22 rfl r20 (jo_exn rfl))) H
    · rw [if_neg c6] at H
      refine Eq.trans (jb_nx (i := .ifCond .ne 9) (n := 3) (q := (19, [some (.ref p0), some (.int i1)], [])) (jq qX13_renew 6 rfl) (jo_ifT (jz_neT c6) rfl)) ?_
      refine Eq.trans (jb_nx (i := .aload_n 0) (n := 1) (q := (20, [some (.ref p0), some (.int i1)], [.ref p0])) (jq qX13_renew 11 rfl) rfl) ?_
      refine Eq.trans (jb_nx (i := .iload_n 1) (n := 1) (q := (21, [some (.ref p0), some (.int i1)], [.int i1, .ref p0])) (jq qX13_renew 12 rfl) rfl) ?_
      obtain ⟨b16, H⟩ := jm_O_inv H
      rcases jcV H with ⟨h7, r8, H⟩ | ⟨w17, h18, r8, H⟩
      · refine Eq.trans (jb_nx (i := .invokevirtual 157) (n := 3) (q := (24, [some (.ref p0), some (.int i1)], [])) (jq qX13_renew 13 rfl) (jo_cv (y := mX13_takeUpTold) rfl (Nat.le_of_ble_eq_true rfl) rfl (Nat.le_of_ble_eq_true rfl) b16 rfl r8 jo_ret)) ?_
        refine Eq.trans (jb_nx (i := .aload_n 0) (n := 1) (q := (25, [some (.ref p0), some (.int i1)], [.ref p0])) (jq qX13_renew 14 rfl) rfl) ?_
        refine Eq.trans (jb_nx (i := .iload_n 1) (n := 1) (q := (26, [some (.ref p0), some (.int i1)], [.int i1, .ref p0])) (jq qX13_renew 15 rfl) rfl) ?_
        obtain ⟨b13, H⟩ := jm_O_inv H
        rcases jcV H with ⟨h9, r10, H⟩ | ⟨w14, h15, r10, H⟩
        · refine Eq.trans (jb_nx (i := .invokevirtual 257) (n := 3) (q := (29, [some (.ref p0), some (.int i1)], [])) (jq qX13_renew 16 rfl) (jo_cv (y := mX13_putDown) rfl (Nat.le_of_ble_eq_true rfl) rfl (Nat.le_of_ble_eq_true rfl) b13 rfl r10 jo_ret)) ?_
          refine Eq.trans (jb_nx (i := .aload_n 0) (n := 1) (q := (30, [some (.ref p0), some (.int i1)], [.ref p0])) (jq qX13_renew 17 rfl) rfl) ?_
          obtain ⟨x11, e12, H⟩ := jbd H
          refine Eq.trans (jb_nx (i := .getfield 82) (n := 3) (q := (33, [some (.ref p0), some (.int i1)], [.int x11])) (jq qX13_renew 18 rfl) (jo_gf rfl (jr_I_inv e12))) ?_
          exact Eq.trans (jb_rt (i := .ireturn) (n := 1) (jq qX13_renew 19 rfl) (jo_iret rfl rfl)) H
        · exact Eq.trans (jb_rt (i := .invokevirtual 257) (n := 3) (jq qX13_renew 16 rfl) (jo_cv (y := mX13_putDown) rfl (Nat.le_of_ble_eq_true rfl) rfl (Nat.le_of_ble_eq_true rfl) b13 rfl r10 (jo_exn rfl))) H
      · exact Eq.trans (jb_rt (i := .invokevirtual 157) (n := 3) (jq qX13_renew 13 rfl) (jo_cv (y := mX13_takeUpTold) rfl (Nat.le_of_ble_eq_true rfl) rfl (Nat.le_of_ble_eq_true rfl) b16 rfl r8 (jo_exn rfl))) H
  · exact Eq.trans (jb_rt (i := .invokevirtual 473) (n := 3) (jq qX13_renew 5 rfl) (jo_cv (y := mX13_isPlay) rfl (Nat.le_of_ble_eq_true rfl) rfl (Nat.le_of_ble_eq_true rfl) b25 rfl r4 (jo_exn rfl))) H
/-! MaskPlaysModel passEvenings (I)I -/
def tX13_passEvenings : List (Nat × Instr × Nat) := [(0, .aload_n 0, 1), (1, .iconst 0, 1), (2, .putfield 68, 3), (5, .iload_n 1, 1), (6, .iconst 1, 1), (7, .bipush 20, 2), (9, .invokestatic 74, 3), (12, .ifCond .ne 9, 3), (15, .aload_n 0, 1), (16, .iconst 1, 1), (17, .invokevirtual 463, 3), (20, .ireturn, 1), (21, .iconst 0, 1), (22, .istore_n 2, 1), (23, .iconst 0, 1), (24, .istore_n 3, 1), (25, .iload_n 3, 1), (26, .iload_n 1, 1), (27, .if_icmp .ge 16, 3), (30, .iload_n 2, 1), (31, .aload_n 0, 1), (32, .invokevirtual 497, 3), (35, .iadd, 1), (36, .istore_n 2, 1), (37, .iinc 3 1, 3), (40, .goto (-15), 3), (43, .iload_n 2, 1), (44, .ireturn, 1)]
set_option maxRecDepth 100000 in
theorem qX13_passEvenings : ∀ q ∈ tX13_passEvenings, decode cX13_passEvenings q.1 = .ok (q.2.1, q.2.2) := by decide +kernel
noncomputable def kX13_passEvenings_25 (d : Nat) (p0 : Nat) (i1 : Int32) (i2 : Int32) (i3 : Int32) (h : jm_H) : Option jm_R := jm_B d mX13_passEvenings (25, [some (.ref p0), some (.int i1), some (.int i2), some (.int i3)], []) h
theorem gX13_passEvenings_25 {d : Nat} {p0 : Nat} {i1 : Int32} {i2 : Int32} {i3 : Int32} {h : jm_H} {r : jm_R} (H : ((if i3 < i1 then jm_O h p0 13 (jc_I (jm_D d mX13_evening [.ref p0] h) (fun x18 h16 => kX13_passEvenings_25 d p0 i1 (i2 + x18) (i3 + 1) h16) jx) else some (.inl (some (.int i2)), h))) = some r) : kX13_passEvenings_25 d p0 i1 i2 i3 h = some r := by
  show jm_B d mX13_passEvenings (25, [some (.ref p0), some (.int i1), some (.int i2), some (.int i3)], []) h = some r
  refine Eq.trans (jb_nx (i := .iload_n 3) (n := 1) (q := (26, [some (.ref p0), some (.int i1), some (.int i2), some (.int i3)], [.int i3])) (jq qX13_passEvenings 16 rfl) rfl) ?_
  refine Eq.trans (jb_nx (i := .iload_n 1) (n := 1) (q := (27, [some (.ref p0), some (.int i1), some (.int i2), some (.int i3)], [.int i1, .int i3])) (jq qX13_passEvenings 17 rfl) rfl) ?_
  by_cases c15 : i3 < i1
  · rw [if_pos c15] at H
    refine Eq.trans (jb_nx (i := .if_icmp .ge 16) (n := 3) (q := (30, [some (.ref p0), some (.int i1), some (.int i2), some (.int i3)], [])) (jq qX13_passEvenings 18 rfl) (jo_icF (jz_geF c15))) ?_
    refine Eq.trans (jb_nx (i := .iload_n 2) (n := 1) (q := (31, [some (.ref p0), some (.int i1), some (.int i2), some (.int i3)], [.int i2])) (jq qX13_passEvenings 19 rfl) rfl) ?_
    refine Eq.trans (jb_nx (i := .aload_n 0) (n := 1) (q := (32, [some (.ref p0), some (.int i1), some (.int i2), some (.int i3)], [.ref p0, .int i2])) (jq qX13_passEvenings 20 rfl) rfl) ?_
    obtain ⟨b19, H⟩ := jm_O_inv H
    rcases jcI H with ⟨x18, h16, r17, H⟩ | ⟨w20, h21, r17, H⟩
    · refine Eq.trans (jb_nx (i := .invokevirtual 497) (n := 3) (q := (35, [some (.ref p0), some (.int i1), some (.int i2), some (.int i3)], [.int x18, .int i2])) (jq qX13_passEvenings 21 rfl) (jo_cv (y := mX13_evening) rfl (Nat.le_of_ble_eq_true rfl) rfl (Nat.le_of_ble_eq_true rfl) b19 rfl r17 jo_ret)) ?_
      refine Eq.trans (jb_nx (i := .iadd) (n := 1) (q := (36, [some (.ref p0), some (.int i1), some (.int i2), some (.int i3)], [.int (i2 + x18)])) (jq qX13_passEvenings 22 rfl) rfl) ?_
      refine Eq.trans (jb_nx (i := .istore_n 2) (n := 1) (q := (37, [some (.ref p0), some (.int i1), some (.int (i2 + x18)), some (.int i3)], [])) (jq qX13_passEvenings 23 rfl) rfl) ?_
      refine Eq.trans (jb_nx (i := .iinc 3 1) (n := 3) (q := (40, [some (.ref p0), some (.int i1), some (.int (i2 + x18)), some (.int (i3 + 1))], [])) (jq qX13_passEvenings 24 rfl) rfl) ?_
      refine Eq.trans (jb_nx (i := .goto (-15)) (n := 3) (q := (25, [some (.ref p0), some (.int i1), some (.int (i2 + x18)), some (.int (i3 + 1))], [])) (jq qX13_passEvenings 25 rfl) rfl) ?_
      exact H
    · exact Eq.trans (jb_rt (i := .invokevirtual 497) (n := 3) (jq qX13_passEvenings 21 rfl) (jo_cv (y := mX13_evening) rfl (Nat.le_of_ble_eq_true rfl) rfl (Nat.le_of_ble_eq_true rfl) b19 rfl r17 (jo_exn rfl))) H
  · rw [if_neg c15] at H
    refine Eq.trans (jb_nx (i := .if_icmp .ge 16) (n := 3) (q := (43, [some (.ref p0), some (.int i1), some (.int i2), some (.int i3)], [])) (jq qX13_passEvenings 18 rfl) (jo_icT (jz_geT c15) rfl)) ?_
    refine Eq.trans (jb_nx (i := .iload_n 2) (n := 1) (q := (44, [some (.ref p0), some (.int i1), some (.int i2), some (.int i3)], [.int i2])) (jq qX13_passEvenings 26 rfl) rfl) ?_
    exact Eq.trans (jb_rt (i := .ireturn) (n := 1) (jq qX13_passEvenings 27 rfl) (jo_iret rfl rfl)) H
theorem gX13_passEvenings {d : Nat} {p0 : Nat} {i1 : Int32} {h : jm_H} {r : jm_R} (H : ((jm_pf h p0 12 0 0 (.int 0)).bind fun h1 => jc_I (jm_D d mX13_isIn [.int i1, .int 1, .int 20] h1) (fun x5 h3 => (if x5 = 0 then jm_O h3 p0 13 (jc_I (jm_D d mX13_no [.ref p0, .int 1] h3) (fun x9 h7 => some (.inl (some (.int x9)), h7)) jx) else kX13_passEvenings_25 d p0 i1 0 0 h3)) jx) = some r) : jm_D (d + 1) mX13_passEvenings [.ref p0, .int i1] h = some r := by
  rw [jm_D_body (Nat.le_of_ble_eq_true rfl)]
  show jm_B d mX13_passEvenings (0, [some (.ref p0), some (.int i1), none, none], []) h = some r
  refine Eq.trans (jb_nx (i := .aload_n 0) (n := 1) (q := (1, [some (.ref p0), some (.int i1), none, none], [.ref p0])) (jq qX13_passEvenings 0 rfl) rfl) ?_
  refine Eq.trans (jb_nx (i := .iconst 0) (n := 1) (q := (2, [some (.ref p0), some (.int i1), none, none], [.int 0, .ref p0])) (jq qX13_passEvenings 1 rfl) rfl) ?_
  obtain ⟨h1, e2, H⟩ := jbd H
  refine Eq.trans (jb_nx (i := .putfield 68) (n := 3) (q := (5, [some (.ref p0), some (.int i1), none, none], [])) (jq qX13_passEvenings 2 rfl) (jo_pf rfl (Or.inl rfl) e2)) ?_
  refine Eq.trans (jb_nx (i := .iload_n 1) (n := 1) (q := (6, [some (.ref p0), some (.int i1), none, none], [.int i1])) (jq qX13_passEvenings 3 rfl) rfl) ?_
  refine Eq.trans (jb_nx (i := .iconst 1) (n := 1) (q := (7, [some (.ref p0), some (.int i1), none, none], [.int 1, .int i1])) (jq qX13_passEvenings 4 rfl) rfl) ?_
  refine Eq.trans (jb_nx (i := .bipush 20) (n := 2) (q := (9, [some (.ref p0), some (.int i1), none, none], [.int 20, .int 1, .int i1])) (jq qX13_passEvenings 5 rfl) rfl) ?_
  rcases jcI H with ⟨x5, h3, r4, H⟩ | ⟨w13, h14, r4, H⟩
  · refine Eq.trans (jb_nx (i := .invokestatic 74) (n := 3) (q := (12, [some (.ref p0), some (.int i1), none, none], [.int x5])) (jq qX13_passEvenings 6 rfl) (jo_cs (y := mX13_isIn) (w := 1) (by decide) rfl (Nat.le_of_ble_eq_true rfl) rfl (Nat.le_of_ble_eq_true rfl) rfl r4 jo_ret)) ?_
    by_cases c6 : x5 = 0
    · rw [if_pos c6] at H
      refine Eq.trans (jb_nx (i := .ifCond .ne 9) (n := 3) (q := (15, [some (.ref p0), some (.int i1), none, none], [])) (jq qX13_passEvenings 7 rfl) (jo_ifF (jz_neF c6))) ?_
      refine Eq.trans (jb_nx (i := .aload_n 0) (n := 1) (q := (16, [some (.ref p0), some (.int i1), none, none], [.ref p0])) (jq qX13_passEvenings 8 rfl) rfl) ?_
      refine Eq.trans (jb_nx (i := .iconst 1) (n := 1) (q := (17, [some (.ref p0), some (.int i1), none, none], [.int 1, .ref p0])) (jq qX13_passEvenings 9 rfl) rfl) ?_
      obtain ⟨b10, H⟩ := jm_O_inv H
      rcases jcI H with ⟨x9, h7, r8, H⟩ | ⟨w11, h12, r8, H⟩
      · refine Eq.trans (jb_nx (i := .invokevirtual 463) (n := 3) (q := (20, [some (.ref p0), some (.int i1), none, none], [.int x9])) (jq qX13_passEvenings 10 rfl) (jo_cv (y := mX13_no) rfl (Nat.le_of_ble_eq_true rfl) rfl (Nat.le_of_ble_eq_true rfl) b10 rfl r8 jo_ret)) ?_
        exact Eq.trans (jb_rt (i := .ireturn) (n := 1) (jq qX13_passEvenings 11 rfl) (jo_iret rfl rfl)) H
      · exact Eq.trans (jb_rt (i := .invokevirtual 463) (n := 3) (jq qX13_passEvenings 10 rfl) (jo_cv (y := mX13_no) rfl (Nat.le_of_ble_eq_true rfl) rfl (Nat.le_of_ble_eq_true rfl) b10 rfl r8 (jo_exn rfl))) H
    · rw [if_neg c6] at H
      refine Eq.trans (jb_nx (i := .ifCond .ne 9) (n := 3) (q := (21, [some (.ref p0), some (.int i1), none, none], [])) (jq qX13_passEvenings 7 rfl) (jo_ifT (jz_neT c6) rfl)) ?_
      refine Eq.trans (jb_nx (i := .iconst 0) (n := 1) (q := (22, [some (.ref p0), some (.int i1), none, none], [.int 0])) (jq qX13_passEvenings 12 rfl) rfl) ?_
      refine Eq.trans (jb_nx (i := .istore_n 2) (n := 1) (q := (23, [some (.ref p0), some (.int i1), some (.int 0), none], [])) (jq qX13_passEvenings 13 rfl) rfl) ?_
      refine Eq.trans (jb_nx (i := .iconst 0) (n := 1) (q := (24, [some (.ref p0), some (.int i1), some (.int 0), none], [.int 0])) (jq qX13_passEvenings 14 rfl) rfl) ?_
      refine Eq.trans (jb_nx (i := .istore_n 3) (n := 1) (q := (25, [some (.ref p0), some (.int i1), some (.int 0), some (.int 0)], [])) (jq qX13_passEvenings 15 rfl) rfl) ?_
      exact H
  · exact Eq.trans (jb_rt (i := .invokestatic 74) (n := 3) (jq qX13_passEvenings 6 rfl) (jo_cs (y := mX13_isIn) (w := 1) (by decide) rfl (Nat.le_of_ble_eq_true rfl) rfl (Nat.le_of_ble_eq_true rfl) rfl r4 (jo_exn rfl))) H
/-! MaskPlaysModel evening ()I -/
def tX13_evening : List (Nat × Instr × Nat) := [(0, .iconst 0, 1), (1, .istore_n 1, 1), (2, .iconst 0, 1), (3, .istore_n 2, 1), (4, .iload_n 2, 1), (5, .aload_n 0, 1), (6, .getfield 20, 3), (9, .getfield 273, 3), (12, .if_icmp .ge 25, 3), (15, .iload_n 1, 1), (16, .aload_n 0, 1), (17, .iload_n 2, 1), (18, .invokevirtual 276, 3), (21, .ifCond .eq 7, 3), (24, .iconst 1, 1), (25, .goto 4, 3), (28, .iconst 0, 1), (29, .iadd, 1), (30, .istore_n 1, 1), (31, .iinc 2 1, 3), (34, .goto (-30), 3), (37, .aload_n 0, 1), (38, .dup, 1), (39, .getfield 192, 3), (42, .iconst 1, 1), (43, .iadd, 1), (44, .putfield 192, 3), (47, .aload_n 0, 1), (48, .dup, 1), (49, .getfield 279, 3), (52, .iload_n 1, 1), (53, .iadd, 1), (54, .putfield 279, 3), (57, .iload_n 1, 1), (58, .ireturn, 1)]
set_option maxRecDepth 100000 in
theorem qX13_evening : ∀ q ∈ tX13_evening, decode cX13_evening q.1 = .ok (q.2.1, q.2.2) := by decide +kernel
noncomputable def kX13_evening_4 (d : Nat) (p0 : Nat) (i1 : Int32) (i2 : Int32) (h : jm_H) : Option jm_R := jm_B d mX13_evening (4, [some (.ref p0), some (.int i1), some (.int i2)], []) h
theorem gX13_evening_4 {d : Nat} {p0 : Nat} {i1 : Int32} {i2 : Int32} {h : jm_H} {r : jm_R} (H : ((jr_R h p0 12 4 2).bind fun a1 => (jr_I h a1 11 12 0).bind fun x3 => (if i2 < x3 then jm_O h p0 13 (jc_I (jm_D d mX13_carryOut [.ref p0, .int i2] h) (fun x16 h14 => (if x16 = 0 then kX13_evening_4 d p0 (i1 + 0) (i2 + 1) h14 else kX13_evening_4 d p0 (i1 + 1) (i2 + 1) h14)) jx) else (jr_I h p0 12 14 0).bind fun x6 => (jm_pf h p0 12 14 0 (.int (x6 + 1))).bind fun h8 => (jr_I h8 p0 12 15 0).bind fun x10 => (jm_pf h8 p0 12 15 0 (.int (x10 + i1))).bind fun h12 => some (.inl (some (.int i1)), h12))) = some r) : kX13_evening_4 d p0 i1 i2 h = some r := by
  show jm_B d mX13_evening (4, [some (.ref p0), some (.int i1), some (.int i2)], []) h = some r
  refine Eq.trans (jb_nx (i := .iload_n 2) (n := 1) (q := (5, [some (.ref p0), some (.int i1), some (.int i2)], [.int i2])) (jq qX13_evening 4 rfl) rfl) ?_
  refine Eq.trans (jb_nx (i := .aload_n 0) (n := 1) (q := (6, [some (.ref p0), some (.int i1), some (.int i2)], [.ref p0, .int i2])) (jq qX13_evening 5 rfl) rfl) ?_
  obtain ⟨a1, e2, H⟩ := jbd H
  refine Eq.trans (jb_nx (i := .getfield 20) (n := 3) (q := (9, [some (.ref p0), some (.int i1), some (.int i2)], [.ref a1, .int i2])) (jq qX13_evening 6 rfl) (jo_gf rfl (jr_R_inv e2))) ?_
  obtain ⟨x3, e4, H⟩ := jbd H
  refine Eq.trans (jb_nx (i := .getfield 273) (n := 3) (q := (12, [some (.ref p0), some (.int i1), some (.int i2)], [.int x3, .int i2])) (jq qX13_evening 7 rfl) (jo_gf rfl (jr_I_inv e4))) ?_
  by_cases c5 : i2 < x3
  · rw [if_pos c5] at H
    refine Eq.trans (jb_nx (i := .if_icmp .ge 25) (n := 3) (q := (15, [some (.ref p0), some (.int i1), some (.int i2)], [])) (jq qX13_evening 8 rfl) (jo_icF (jz_geF c5))) ?_
    refine Eq.trans (jb_nx (i := .iload_n 1) (n := 1) (q := (16, [some (.ref p0), some (.int i1), some (.int i2)], [.int i1])) (jq qX13_evening 9 rfl) rfl) ?_
    refine Eq.trans (jb_nx (i := .aload_n 0) (n := 1) (q := (17, [some (.ref p0), some (.int i1), some (.int i2)], [.ref p0, .int i1])) (jq qX13_evening 10 rfl) rfl) ?_
    refine Eq.trans (jb_nx (i := .iload_n 2) (n := 1) (q := (18, [some (.ref p0), some (.int i1), some (.int i2)], [.int i2, .ref p0, .int i1])) (jq qX13_evening 11 rfl) rfl) ?_
    obtain ⟨b18, H⟩ := jm_O_inv H
    rcases jcI H with ⟨x16, h14, r15, H⟩ | ⟨w19, h20, r15, H⟩
    · refine Eq.trans (jb_nx (i := .invokevirtual 276) (n := 3) (q := (21, [some (.ref p0), some (.int i1), some (.int i2)], [.int x16, .int i1])) (jq qX13_evening 12 rfl) (jo_cv (y := mX13_carryOut) rfl (Nat.le_of_ble_eq_true rfl) rfl (Nat.le_of_ble_eq_true rfl) b18 rfl r15 jo_ret)) ?_
      by_cases c17 : x16 = 0
      · rw [if_pos c17] at H
        refine Eq.trans (jb_nx (i := .ifCond .eq 7) (n := 3) (q := (28, [some (.ref p0), some (.int i1), some (.int i2)], [.int i1])) (jq qX13_evening 13 rfl) (jo_ifT (jz_eqT c17) rfl)) ?_
        refine Eq.trans (jb_nx (i := .iconst 0) (n := 1) (q := (29, [some (.ref p0), some (.int i1), some (.int i2)], [.int 0, .int i1])) (jq qX13_evening 16 rfl) rfl) ?_
        refine Eq.trans (jb_nx (i := .iadd) (n := 1) (q := (30, [some (.ref p0), some (.int i1), some (.int i2)], [.int (i1 + 0)])) (jq qX13_evening 17 rfl) rfl) ?_
        refine Eq.trans (jb_nx (i := .istore_n 1) (n := 1) (q := (31, [some (.ref p0), some (.int (i1 + 0)), some (.int i2)], [])) (jq qX13_evening 18 rfl) rfl) ?_
        refine Eq.trans (jb_nx (i := .iinc 2 1) (n := 3) (q := (34, [some (.ref p0), some (.int (i1 + 0)), some (.int (i2 + 1))], [])) (jq qX13_evening 19 rfl) rfl) ?_
        refine Eq.trans (jb_nx (i := .goto (-30)) (n := 3) (q := (4, [some (.ref p0), some (.int (i1 + 0)), some (.int (i2 + 1))], [])) (jq qX13_evening 20 rfl) rfl) ?_
        exact H
      · rw [if_neg c17] at H
        refine Eq.trans (jb_nx (i := .ifCond .eq 7) (n := 3) (q := (24, [some (.ref p0), some (.int i1), some (.int i2)], [.int i1])) (jq qX13_evening 13 rfl) (jo_ifF (jz_eqF c17))) ?_
        refine Eq.trans (jb_nx (i := .iconst 1) (n := 1) (q := (25, [some (.ref p0), some (.int i1), some (.int i2)], [.int 1, .int i1])) (jq qX13_evening 14 rfl) rfl) ?_
        refine Eq.trans (jb_nx (i := .goto 4) (n := 3) (q := (29, [some (.ref p0), some (.int i1), some (.int i2)], [.int 1, .int i1])) (jq qX13_evening 15 rfl) rfl) ?_
        refine Eq.trans (jb_nx (i := .iadd) (n := 1) (q := (30, [some (.ref p0), some (.int i1), some (.int i2)], [.int (i1 + 1)])) (jq qX13_evening 17 rfl) rfl) ?_
        refine Eq.trans (jb_nx (i := .istore_n 1) (n := 1) (q := (31, [some (.ref p0), some (.int (i1 + 1)), some (.int i2)], [])) (jq qX13_evening 18 rfl) rfl) ?_
        refine Eq.trans (jb_nx (i := .iinc 2 1) (n := 3) (q := (34, [some (.ref p0), some (.int (i1 + 1)), some (.int (i2 + 1))], [])) (jq qX13_evening 19 rfl) rfl) ?_
        refine Eq.trans (jb_nx (i := .goto (-30)) (n := 3) (q := (4, [some (.ref p0), some (.int (i1 + 1)), some (.int (i2 + 1))], [])) (jq qX13_evening 20 rfl) rfl) ?_
        exact H
    · exact Eq.trans (jb_rt (i := .invokevirtual 276) (n := 3) (jq qX13_evening 12 rfl) (jo_cv (y := mX13_carryOut) rfl (Nat.le_of_ble_eq_true rfl) rfl (Nat.le_of_ble_eq_true rfl) b18 rfl r15 (jo_exn rfl))) H
  · rw [if_neg c5] at H
    refine Eq.trans (jb_nx (i := .if_icmp .ge 25) (n := 3) (q := (37, [some (.ref p0), some (.int i1), some (.int i2)], [])) (jq qX13_evening 8 rfl) (jo_icT (jz_geT c5) rfl)) ?_
    refine Eq.trans (jb_nx (i := .aload_n 0) (n := 1) (q := (38, [some (.ref p0), some (.int i1), some (.int i2)], [.ref p0])) (jq qX13_evening 21 rfl) rfl) ?_
    refine Eq.trans (jb_nx (i := .dup) (n := 1) (q := (39, [some (.ref p0), some (.int i1), some (.int i2)], [.ref p0, .ref p0])) (jq qX13_evening 22 rfl) rfl) ?_
    obtain ⟨x6, e7, H⟩ := jbd H
    refine Eq.trans (jb_nx (i := .getfield 192) (n := 3) (q := (42, [some (.ref p0), some (.int i1), some (.int i2)], [.int x6, .ref p0])) (jq qX13_evening 23 rfl) (jo_gf rfl (jr_I_inv e7))) ?_
    refine Eq.trans (jb_nx (i := .iconst 1) (n := 1) (q := (43, [some (.ref p0), some (.int i1), some (.int i2)], [.int 1, .int x6, .ref p0])) (jq qX13_evening 24 rfl) rfl) ?_
    refine Eq.trans (jb_nx (i := .iadd) (n := 1) (q := (44, [some (.ref p0), some (.int i1), some (.int i2)], [.int (x6 + 1), .ref p0])) (jq qX13_evening 25 rfl) rfl) ?_
    obtain ⟨h8, e9, H⟩ := jbd H
    refine Eq.trans (jb_nx (i := .putfield 192) (n := 3) (q := (47, [some (.ref p0), some (.int i1), some (.int i2)], [])) (jq qX13_evening 26 rfl) (jo_pf rfl (Or.inl rfl) e9)) ?_
    refine Eq.trans (jb_nx (i := .aload_n 0) (n := 1) (q := (48, [some (.ref p0), some (.int i1), some (.int i2)], [.ref p0])) (jq qX13_evening 27 rfl) rfl) ?_
    refine Eq.trans (jb_nx (i := .dup) (n := 1) (q := (49, [some (.ref p0), some (.int i1), some (.int i2)], [.ref p0, .ref p0])) (jq qX13_evening 28 rfl) rfl) ?_
    obtain ⟨x10, e11, H⟩ := jbd H
    refine Eq.trans (jb_nx (i := .getfield 279) (n := 3) (q := (52, [some (.ref p0), some (.int i1), some (.int i2)], [.int x10, .ref p0])) (jq qX13_evening 29 rfl) (jo_gf rfl (jr_I_inv e11))) ?_
    refine Eq.trans (jb_nx (i := .iload_n 1) (n := 1) (q := (53, [some (.ref p0), some (.int i1), some (.int i2)], [.int i1, .int x10, .ref p0])) (jq qX13_evening 30 rfl) rfl) ?_
    refine Eq.trans (jb_nx (i := .iadd) (n := 1) (q := (54, [some (.ref p0), some (.int i1), some (.int i2)], [.int (x10 + i1), .ref p0])) (jq qX13_evening 31 rfl) rfl) ?_
    obtain ⟨h12, e13, H⟩ := jbd H
    refine Eq.trans (jb_nx (i := .putfield 279) (n := 3) (q := (57, [some (.ref p0), some (.int i1), some (.int i2)], [])) (jq qX13_evening 32 rfl) (jo_pf rfl (Or.inl rfl) e13)) ?_
    refine Eq.trans (jb_nx (i := .iload_n 1) (n := 1) (q := (58, [some (.ref p0), some (.int i1), some (.int i2)], [.int i1])) (jq qX13_evening 33 rfl) rfl) ?_
    exact Eq.trans (jb_rt (i := .ireturn) (n := 1) (jq qX13_evening 34 rfl) (jo_iret rfl rfl)) H
theorem gX13_evening {d : Nat} {p0 : Nat} {h : jm_H} {r : jm_R} (H : (kX13_evening_4 d p0 0 0 h) = some r) : jm_D (d + 1) mX13_evening [.ref p0] h = some r := by
  rw [jm_D_body (Nat.le_of_ble_eq_true rfl)]
  show jm_B d mX13_evening (0, [some (.ref p0), none, none], []) h = some r
  refine Eq.trans (jb_nx (i := .iconst 0) (n := 1) (q := (1, [some (.ref p0), none, none], [.int 0])) (jq qX13_evening 0 rfl) rfl) ?_
  refine Eq.trans (jb_nx (i := .istore_n 1) (n := 1) (q := (2, [some (.ref p0), some (.int 0), none], [])) (jq qX13_evening 1 rfl) rfl) ?_
  refine Eq.trans (jb_nx (i := .iconst 0) (n := 1) (q := (3, [some (.ref p0), some (.int 0), none], [.int 0])) (jq qX13_evening 2 rfl) rfl) ?_
  refine Eq.trans (jb_nx (i := .istore_n 2) (n := 1) (q := (4, [some (.ref p0), some (.int 0), some (.int 0)], [])) (jq qX13_evening 3 rfl) rfl) ?_
  exact H
/-! MaskPlaysModel carryOut (I)Z -/
def tX13_carryOut : List (Nat × Instr × Nat) := [(0, .aload_n 0, 1), (1, .getfield 20, 3), (4, .getfield 238, 3), (7, .iload_n 1, 1), (8, .iaload, 1), (9, .istore_n 2, 1), (10, .aload_n 0, 1), (11, .iload_n 1, 1), (12, .invokevirtual 241, 3), (15, .ifCond .ne 5, 3), (18, .iconst 0, 1), (19, .ireturn, 1), (20, .aload_n 0, 1), (21, .getfield 20, 3), (24, .getfield 244, 3), (27, .iload_n 1, 1), (28, .iaload, 1), (29, .iconst 5, 1), (30, .if_icmp .ne 37, 3), (33, .aload_n 0, 1), (34, .getfield 20, 3), (37, .getfield 247, 3), (40, .iload_n 1, 1), (41, .iaload, 1), (42, .istore_n 3, 1), (43, .aload_n 0, 1), (44, .iload_n 2, 1), (45, .iload_n 3, 1), (46, .invokevirtual 250, 3), (49, .ifCond .ne 5, 3), (52, .iconst 0, 1), (53, .ireturn, 1), (54, .aload_n 0, 1), (55, .iload_n 2, 1), (56, .iload_n 3, 1), (57, .invokevirtual 253, 3), (60, .aload_n 0, 1), (61, .iload_n 3, 1), (62, .invokevirtual 257, 3), (65, .iconst 1, 1), (66, .ireturn, 1), (67, .aload_n 0, 1), (68, .iload_n 2, 1), (69, .invokevirtual 146, 3), (72, .aload_n 0, 1), (73, .getfield 20, 3), (76, .getfield 244, 3), (79, .iload_n 1, 1), (80, .iaload, 1), (81, .bipush 7, 2), (83, .if_icmp .ne 11, 3), (86, .aload_n 0, 1), (87, .iload_n 2, 1), (88, .invokevirtual 157, 3), (91, .goto 17, 3), (94, .aload_n 0, 1), (95, .invokevirtual 260, 3), (98, .ifCond .ne 5, 3), (101, .iconst 0, 1), (102, .ireturn, 1), (103, .aload_n 0, 1), (104, .iload_n 2, 1), (105, .invokevirtual 264, 3), (108, .aload_n 0, 1), (109, .iload_n 2, 1), (110, .invokevirtual 267, 3), (113, .istore_n 3, 1), (114, .aload_n 0, 1), (115, .iload_n 2, 1), (116, .invokevirtual 257, 3), (119, .iload_n 3, 1), (120, .ireturn, 1)]
set_option maxRecDepth 100000 in
theorem qX13_carryOut : ∀ q ∈ tX13_carryOut, decode cX13_carryOut q.1 = .ok (q.2.1, q.2.2) := by decide +kernel
theorem gX13_carryOut {d : Nat} {p0 : Nat} {i1 : Int32} {h : jm_H} {r : jm_R} (H : ((jr_R h p0 12 4 2).bind fun a1 => (jr_R h a1 11 14 2).bind fun a3 => (jm_ali h a3 0 i1).bind fun x5 => jm_O h p0 13 (jc_I (jm_D d mX13_holds [.ref p0, .int i1] h) (fun x9 h7 => (if x9 = 0 then some (.inl (some (.int 0)), h7) else (jr_R h7 p0 12 4 2).bind fun a11 => (jr_R h7 a11 11 13 2).bind fun a13 => (jm_ali h7 a13 0 i1).bind fun x15 => (if x15 = 5 then (jr_R h7 p0 12 4 2).bind fun a71 => (jr_R h7 a71 11 15 2).bind fun a73 => (jm_ali h7 a73 0 i1).bind fun x75 => jm_O h7 p0 13 (jc_I (jm_D d mX13_canGive [.ref p0, .int x5, .int x75] h7) (fun x79 h77 => (if x79 = 0 then some (.inl (some (.int 0)), h77) else jm_O h77 p0 13 (jc_V (jm_D d mX13_takeUpGift [.ref p0, .int x5, .int x75] h77) (fun h81 => jm_O h81 p0 13 (jc_V (jm_D d mX13_putDown [.ref p0, .int x75] h81) (fun h83 => some (.inl (some (.int 1)), h83)) jx)) jx))) jx) else jm_O h7 p0 13 (jc_V (jm_D d mX13_takeUp [.ref p0, .int x5] h7) (fun h18 => (jr_R h18 p0 12 4 2).bind fun a20 => (jr_R h18 a20 11 13 2).bind fun a22 => (jm_ali h18 a22 0 i1).bind fun x24 => (if x24 = 7 then jm_O h18 p0 13 (jc_V (jm_D d mX13_takeUpTold [.ref p0, .int x5] h18) (fun h51 => jm_O h51 p0 13 (jc_I (jm_D d mX13_isOther [.ref p0, .int x5] h51) (fun x55 h53 => jm_O h53 p0 13 (jc_V (jm_D d mX13_putDown [.ref p0, .int x5] h53) (fun h56 => jm_Y .boolean x55 (some (.inl (some (.int x55)), h56))) jx)) jx)) jx) else jm_O h18 p0 13 (jc_I (jm_D d mX13_canStepNow [.ref p0] h18) (fun x29 h27 => (if x29 = 0 then some (.inl (some (.int 0)), h27) else jm_O h27 p0 13 (jc_V (jm_D d mX13_stepWork [.ref p0, .int x5] h27) (fun h31 => jm_O h31 p0 13 (jc_I (jm_D d mX13_isOther [.ref p0, .int x5] h31) (fun x35 h33 => jm_O h33 p0 13 (jc_V (jm_D d mX13_putDown [.ref p0, .int x5] h33) (fun h36 => jm_Y .boolean x35 (some (.inl (some (.int x35)), h36))) jx)) jx)) jx))) jx))) jx)))) jx)) = some r) : jm_D (d + 1) mX13_carryOut [.ref p0, .int i1] h = some r := by
  rw [jm_D_body (Nat.le_of_ble_eq_true rfl)]
  show jm_B d mX13_carryOut (0, [some (.ref p0), some (.int i1), none, none], []) h = some r
  refine Eq.trans (jb_nx (i := .aload_n 0) (n := 1) (q := (1, [some (.ref p0), some (.int i1), none, none], [.ref p0])) (jq qX13_carryOut 0 rfl) rfl) ?_
  obtain ⟨a1, e2, H⟩ := jbd H
  refine Eq.trans (jb_nx (i := .getfield 20) (n := 3) (q := (4, [some (.ref p0), some (.int i1), none, none], [.ref a1])) (jq qX13_carryOut 1 rfl) (jo_gf rfl (jr_R_inv e2))) ?_
  obtain ⟨a3, e4, H⟩ := jbd H
  refine Eq.trans (jb_nx (i := .getfield 238) (n := 3) (q := (7, [some (.ref p0), some (.int i1), none, none], [.ref a3])) (jq qX13_carryOut 2 rfl) (jo_gf rfl (jr_R_inv e4))) ?_
  refine Eq.trans (jb_nx (i := .iload_n 1) (n := 1) (q := (8, [some (.ref p0), some (.int i1), none, none], [.int i1, .ref a3])) (jq qX13_carryOut 3 rfl) rfl) ?_
  obtain ⟨x5, e6, H⟩ := jbd H
  refine Eq.trans (jb_nx (i := .iaload) (n := 1) (q := (9, [some (.ref p0), some (.int i1), none, none], [.int x5])) (jq qX13_carryOut 4 rfl) (jo_ial e6)) ?_
  refine Eq.trans (jb_nx (i := .istore_n 2) (n := 1) (q := (10, [some (.ref p0), some (.int i1), some (.int x5), none], [])) (jq qX13_carryOut 5 rfl) rfl) ?_
  refine Eq.trans (jb_nx (i := .aload_n 0) (n := 1) (q := (11, [some (.ref p0), some (.int i1), some (.int x5), none], [.ref p0])) (jq qX13_carryOut 6 rfl) rfl) ?_
  refine Eq.trans (jb_nx (i := .iload_n 1) (n := 1) (q := (12, [some (.ref p0), some (.int i1), some (.int x5), none], [.int i1, .ref p0])) (jq qX13_carryOut 7 rfl) rfl) ?_
  obtain ⟨b94, H⟩ := jm_O_inv H
  rcases jcI H with ⟨x9, h7, r8, H⟩ | ⟨w95, h96, r8, H⟩
  · refine Eq.trans (jb_nx (i := .invokevirtual 241) (n := 3) (q := (15, [some (.ref p0), some (.int i1), some (.int x5), none], [.int x9])) (jq qX13_carryOut 8 rfl) (jo_cv (y := mX13_holds) rfl (Nat.le_of_ble_eq_true rfl) rfl (Nat.le_of_ble_eq_true rfl) b94 rfl r8 jo_ret)) ?_
    by_cases c10 : x9 = 0
    · rw [if_pos c10] at H
      refine Eq.trans (jb_nx (i := .ifCond .ne 5) (n := 3) (q := (18, [some (.ref p0), some (.int i1), some (.int x5), none], [])) (jq qX13_carryOut 9 rfl) (jo_ifF (jz_neF c10))) ?_
      refine Eq.trans (jb_nx (i := .iconst 0) (n := 1) (q := (19, [some (.ref p0), some (.int i1), some (.int x5), none], [.int 0])) (jq qX13_carryOut 10 rfl) rfl) ?_
      exact Eq.trans (jb_rt (i := .ireturn) (n := 1) (jq qX13_carryOut 11 rfl) (jo_iret rfl (by decide))) H
    · rw [if_neg c10] at H
      refine Eq.trans (jb_nx (i := .ifCond .ne 5) (n := 3) (q := (20, [some (.ref p0), some (.int i1), some (.int x5), none], [])) (jq qX13_carryOut 9 rfl) (jo_ifT (jz_neT c10) rfl)) ?_
      refine Eq.trans (jb_nx (i := .aload_n 0) (n := 1) (q := (21, [some (.ref p0), some (.int i1), some (.int x5), none], [.ref p0])) (jq qX13_carryOut 12 rfl) rfl) ?_
      obtain ⟨a11, e12, H⟩ := jbd H
      refine Eq.trans (jb_nx (i := .getfield 20) (n := 3) (q := (24, [some (.ref p0), some (.int i1), some (.int x5), none], [.ref a11])) (jq qX13_carryOut 13 rfl) (jo_gf rfl (jr_R_inv e12))) ?_
      obtain ⟨a13, e14, H⟩ := jbd H
      refine Eq.trans (jb_nx (i := .getfield 244) (n := 3) (q := (27, [some (.ref p0), some (.int i1), some (.int x5), none], [.ref a13])) (jq qX13_carryOut 14 rfl) (jo_gf rfl (jr_R_inv e14))) ?_
      refine Eq.trans (jb_nx (i := .iload_n 1) (n := 1) (q := (28, [some (.ref p0), some (.int i1), some (.int x5), none], [.int i1, .ref a13])) (jq qX13_carryOut 15 rfl) rfl) ?_
      obtain ⟨x15, e16, H⟩ := jbd H
      refine Eq.trans (jb_nx (i := .iaload) (n := 1) (q := (29, [some (.ref p0), some (.int i1), some (.int x5), none], [.int x15])) (jq qX13_carryOut 16 rfl) (jo_ial e16)) ?_
      refine Eq.trans (jb_nx (i := .iconst 5) (n := 1) (q := (30, [some (.ref p0), some (.int i1), some (.int x5), none], [.int 5, .int x15])) (jq qX13_carryOut 17 rfl) rfl) ?_
      by_cases c17 : x15 = 5
      · rw [if_pos c17] at H
        refine Eq.trans (jb_nx (i := .if_icmp .ne 37) (n := 3) (q := (33, [some (.ref p0), some (.int i1), some (.int x5), none], [])) (jq qX13_carryOut 18 rfl) (jo_icF (jz_neF c17))) ?_
        refine Eq.trans (jb_nx (i := .aload_n 0) (n := 1) (q := (34, [some (.ref p0), some (.int i1), some (.int x5), none], [.ref p0])) (jq qX13_carryOut 19 rfl) rfl) ?_
        obtain ⟨a71, e72, H⟩ := jbd H
        refine Eq.trans (jb_nx (i := .getfield 20) (n := 3) (q := (37, [some (.ref p0), some (.int i1), some (.int x5), none], [.ref a71])) (jq qX13_carryOut 20 rfl) (jo_gf rfl (jr_R_inv e72))) ?_
        obtain ⟨a73, e74, H⟩ := jbd H
        refine Eq.trans (jb_nx (i := .getfield 247) (n := 3) (q := (40, [some (.ref p0), some (.int i1), some (.int x5), none], [.ref a73])) (jq qX13_carryOut 21 rfl) (jo_gf rfl (jr_R_inv e74))) ?_
        refine Eq.trans (jb_nx (i := .iload_n 1) (n := 1) (q := (41, [some (.ref p0), some (.int i1), some (.int x5), none], [.int i1, .ref a73])) (jq qX13_carryOut 22 rfl) rfl) ?_
        obtain ⟨x75, e76, H⟩ := jbd H
        refine Eq.trans (jb_nx (i := .iaload) (n := 1) (q := (42, [some (.ref p0), some (.int i1), some (.int x5), none], [.int x75])) (jq qX13_carryOut 23 rfl) (jo_ial e76)) ?_
        refine Eq.trans (jb_nx (i := .istore_n 3) (n := 1) (q := (43, [some (.ref p0), some (.int i1), some (.int x5), some (.int x75)], [])) (jq qX13_carryOut 24 rfl) rfl) ?_
        refine Eq.trans (jb_nx (i := .aload_n 0) (n := 1) (q := (44, [some (.ref p0), some (.int i1), some (.int x5), some (.int x75)], [.ref p0])) (jq qX13_carryOut 25 rfl) rfl) ?_
        refine Eq.trans (jb_nx (i := .iload_n 2) (n := 1) (q := (45, [some (.ref p0), some (.int i1), some (.int x5), some (.int x75)], [.int x5, .ref p0])) (jq qX13_carryOut 26 rfl) rfl) ?_
        refine Eq.trans (jb_nx (i := .iload_n 3) (n := 1) (q := (46, [some (.ref p0), some (.int i1), some (.int x5), some (.int x75)], [.int x75, .int x5, .ref p0])) (jq qX13_carryOut 27 rfl) rfl) ?_
        obtain ⟨b91, H⟩ := jm_O_inv H
        rcases jcI H with ⟨x79, h77, r78, H⟩ | ⟨w92, h93, r78, H⟩
        · refine Eq.trans (jb_nx (i := .invokevirtual 250) (n := 3) (q := (49, [some (.ref p0), some (.int i1), some (.int x5), some (.int x75)], [.int x79])) (jq qX13_carryOut 28 rfl) (jo_cv (y := mX13_canGive) rfl (Nat.le_of_ble_eq_true rfl) rfl (Nat.le_of_ble_eq_true rfl) b91 rfl r78 jo_ret)) ?_
          by_cases c80 : x79 = 0
          · rw [if_pos c80] at H
            refine Eq.trans (jb_nx (i := .ifCond .ne 5) (n := 3) (q := (52, [some (.ref p0), some (.int i1), some (.int x5), some (.int x75)], [])) (jq qX13_carryOut 29 rfl) (jo_ifF (jz_neF c80))) ?_
            refine Eq.trans (jb_nx (i := .iconst 0) (n := 1) (q := (53, [some (.ref p0), some (.int i1), some (.int x5), some (.int x75)], [.int 0])) (jq qX13_carryOut 30 rfl) rfl) ?_
            exact Eq.trans (jb_rt (i := .ireturn) (n := 1) (jq qX13_carryOut 31 rfl) (jo_iret rfl (by decide))) H
          · rw [if_neg c80] at H
            refine Eq.trans (jb_nx (i := .ifCond .ne 5) (n := 3) (q := (54, [some (.ref p0), some (.int i1), some (.int x5), some (.int x75)], [])) (jq qX13_carryOut 29 rfl) (jo_ifT (jz_neT c80) rfl)) ?_
            refine Eq.trans (jb_nx (i := .aload_n 0) (n := 1) (q := (55, [some (.ref p0), some (.int i1), some (.int x5), some (.int x75)], [.ref p0])) (jq qX13_carryOut 32 rfl) rfl) ?_
            refine Eq.trans (jb_nx (i := .iload_n 2) (n := 1) (q := (56, [some (.ref p0), some (.int i1), some (.int x5), some (.int x75)], [.int x5, .ref p0])) (jq qX13_carryOut 33 rfl) rfl) ?_
            refine Eq.trans (jb_nx (i := .iload_n 3) (n := 1) (q := (57, [some (.ref p0), some (.int i1), some (.int x5), some (.int x75)], [.int x75, .int x5, .ref p0])) (jq qX13_carryOut 34 rfl) rfl) ?_
            obtain ⟨b88, H⟩ := jm_O_inv H
            rcases jcV H with ⟨h81, r82, H⟩ | ⟨w89, h90, r82, H⟩
            · refine Eq.trans (jb_nx (i := .invokevirtual 253) (n := 3) (q := (60, [some (.ref p0), some (.int i1), some (.int x5), some (.int x75)], [])) (jq qX13_carryOut 35 rfl) (jo_cv (y := mX13_takeUpGift) rfl (Nat.le_of_ble_eq_true rfl) rfl (Nat.le_of_ble_eq_true rfl) b88 rfl r82 jo_ret)) ?_
              refine Eq.trans (jb_nx (i := .aload_n 0) (n := 1) (q := (61, [some (.ref p0), some (.int i1), some (.int x5), some (.int x75)], [.ref p0])) (jq qX13_carryOut 36 rfl) rfl) ?_
              refine Eq.trans (jb_nx (i := .iload_n 3) (n := 1) (q := (62, [some (.ref p0), some (.int i1), some (.int x5), some (.int x75)], [.int x75, .ref p0])) (jq qX13_carryOut 37 rfl) rfl) ?_
              obtain ⟨b85, H⟩ := jm_O_inv H
              rcases jcV H with ⟨h83, r84, H⟩ | ⟨w86, h87, r84, H⟩
              · refine Eq.trans (jb_nx (i := .invokevirtual 257) (n := 3) (q := (65, [some (.ref p0), some (.int i1), some (.int x5), some (.int x75)], [])) (jq qX13_carryOut 38 rfl) (jo_cv (y := mX13_putDown) rfl (Nat.le_of_ble_eq_true rfl) rfl (Nat.le_of_ble_eq_true rfl) b85 rfl r84 jo_ret)) ?_
                refine Eq.trans (jb_nx (i := .iconst 1) (n := 1) (q := (66, [some (.ref p0), some (.int i1), some (.int x5), some (.int x75)], [.int 1])) (jq qX13_carryOut 39 rfl) rfl) ?_
                exact Eq.trans (jb_rt (i := .ireturn) (n := 1) (jq qX13_carryOut 40 rfl) (jo_iret rfl (by decide))) H
              · exact Eq.trans (jb_rt (i := .invokevirtual 257) (n := 3) (jq qX13_carryOut 38 rfl) (jo_cv (y := mX13_putDown) rfl (Nat.le_of_ble_eq_true rfl) rfl (Nat.le_of_ble_eq_true rfl) b85 rfl r84 (jo_exn rfl))) H
            · exact Eq.trans (jb_rt (i := .invokevirtual 253) (n := 3) (jq qX13_carryOut 35 rfl) (jo_cv (y := mX13_takeUpGift) rfl (Nat.le_of_ble_eq_true rfl) rfl (Nat.le_of_ble_eq_true rfl) b88 rfl r82 (jo_exn rfl))) H
        · exact Eq.trans (jb_rt (i := .invokevirtual 250) (n := 3) (jq qX13_carryOut 28 rfl) (jo_cv (y := mX13_canGive) rfl (Nat.le_of_ble_eq_true rfl) rfl (Nat.le_of_ble_eq_true rfl) b91 rfl r78 (jo_exn rfl))) H
      · rw [if_neg c17] at H
        refine Eq.trans (jb_nx (i := .if_icmp .ne 37) (n := 3) (q := (67, [some (.ref p0), some (.int i1), some (.int x5), none], [])) (jq qX13_carryOut 18 rfl) (jo_icT (jz_neT c17) rfl)) ?_
        refine Eq.trans (jb_nx (i := .aload_n 0) (n := 1) (q := (68, [some (.ref p0), some (.int i1), some (.int x5), none], [.ref p0])) (jq qX13_carryOut 41 rfl) rfl) ?_
        refine Eq.trans (jb_nx (i := .iload_n 2) (n := 1) (q := (69, [some (.ref p0), some (.int i1), some (.int x5), none], [.int x5, .ref p0])) (jq qX13_carryOut 42 rfl) rfl) ?_
        obtain ⟨b68, H⟩ := jm_O_inv H
        rcases jcV H with ⟨h18, r19, H⟩ | ⟨w69, h70, r19, H⟩
        · refine Eq.trans (jb_nx (i := .invokevirtual 146) (n := 3) (q := (72, [some (.ref p0), some (.int i1), some (.int x5), none], [])) (jq qX13_carryOut 43 rfl) (jo_cv (y := mX13_takeUp) rfl (Nat.le_of_ble_eq_true rfl) rfl (Nat.le_of_ble_eq_true rfl) b68 rfl r19 jo_ret)) ?_
          refine Eq.trans (jb_nx (i := .aload_n 0) (n := 1) (q := (73, [some (.ref p0), some (.int i1), some (.int x5), none], [.ref p0])) (jq qX13_carryOut 44 rfl) rfl) ?_
          obtain ⟨a20, e21, H⟩ := jbd H
          refine Eq.trans (jb_nx (i := .getfield 20) (n := 3) (q := (76, [some (.ref p0), some (.int i1), some (.int x5), none], [.ref a20])) (jq qX13_carryOut 45 rfl) (jo_gf rfl (jr_R_inv e21))) ?_
          obtain ⟨a22, e23, H⟩ := jbd H
          refine Eq.trans (jb_nx (i := .getfield 244) (n := 3) (q := (79, [some (.ref p0), some (.int i1), some (.int x5), none], [.ref a22])) (jq qX13_carryOut 46 rfl) (jo_gf rfl (jr_R_inv e23))) ?_
          refine Eq.trans (jb_nx (i := .iload_n 1) (n := 1) (q := (80, [some (.ref p0), some (.int i1), some (.int x5), none], [.int i1, .ref a22])) (jq qX13_carryOut 47 rfl) rfl) ?_
          obtain ⟨x24, e25, H⟩ := jbd H
          refine Eq.trans (jb_nx (i := .iaload) (n := 1) (q := (81, [some (.ref p0), some (.int i1), some (.int x5), none], [.int x24])) (jq qX13_carryOut 48 rfl) (jo_ial e25)) ?_
          refine Eq.trans (jb_nx (i := .bipush 7) (n := 2) (q := (83, [some (.ref p0), some (.int i1), some (.int x5), none], [.int 7, .int x24])) (jq qX13_carryOut 49 rfl) rfl) ?_
          by_cases c26 : x24 = 7
          · rw [if_pos c26] at H
            refine Eq.trans (jb_nx (i := .if_icmp .ne 11) (n := 3) (q := (86, [some (.ref p0), some (.int i1), some (.int x5), none], [])) (jq qX13_carryOut 50 rfl) (jo_icF (jz_neF c26))) ?_
            refine Eq.trans (jb_nx (i := .aload_n 0) (n := 1) (q := (87, [some (.ref p0), some (.int i1), some (.int x5), none], [.ref p0])) (jq qX13_carryOut 51 rfl) rfl) ?_
            refine Eq.trans (jb_nx (i := .iload_n 2) (n := 1) (q := (88, [some (.ref p0), some (.int i1), some (.int x5), none], [.int x5, .ref p0])) (jq qX13_carryOut 52 rfl) rfl) ?_
            obtain ⟨b65, H⟩ := jm_O_inv H
            rcases jcV H with ⟨h51, r52, H⟩ | ⟨w66, h67, r52, H⟩
            · refine Eq.trans (jb_nx (i := .invokevirtual 157) (n := 3) (q := (91, [some (.ref p0), some (.int i1), some (.int x5), none], [])) (jq qX13_carryOut 53 rfl) (jo_cv (y := mX13_takeUpTold) rfl (Nat.le_of_ble_eq_true rfl) rfl (Nat.le_of_ble_eq_true rfl) b65 rfl r52 jo_ret)) ?_
              refine Eq.trans (jb_nx (i := .goto 17) (n := 3) (q := (108, [some (.ref p0), some (.int i1), some (.int x5), none], [])) (jq qX13_carryOut 54 rfl) rfl) ?_
              refine Eq.trans (jb_nx (i := .aload_n 0) (n := 1) (q := (109, [some (.ref p0), some (.int i1), some (.int x5), none], [.ref p0])) (jq qX13_carryOut 63 rfl) rfl) ?_
              refine Eq.trans (jb_nx (i := .iload_n 2) (n := 1) (q := (110, [some (.ref p0), some (.int i1), some (.int x5), none], [.int x5, .ref p0])) (jq qX13_carryOut 64 rfl) rfl) ?_
              obtain ⟨b62, H⟩ := jm_O_inv H
              rcases jcI H with ⟨x55, h53, r54, H⟩ | ⟨w63, h64, r54, H⟩
              · refine Eq.trans (jb_nx (i := .invokevirtual 267) (n := 3) (q := (113, [some (.ref p0), some (.int i1), some (.int x5), none], [.int x55])) (jq qX13_carryOut 65 rfl) (jo_cv (y := mX13_isOther) rfl (Nat.le_of_ble_eq_true rfl) rfl (Nat.le_of_ble_eq_true rfl) b62 rfl r54 jo_ret)) ?_
                refine Eq.trans (jb_nx (i := .istore_n 3) (n := 1) (q := (114, [some (.ref p0), some (.int i1), some (.int x5), some (.int x55)], [])) (jq qX13_carryOut 66 rfl) rfl) ?_
                refine Eq.trans (jb_nx (i := .aload_n 0) (n := 1) (q := (115, [some (.ref p0), some (.int i1), some (.int x5), some (.int x55)], [.ref p0])) (jq qX13_carryOut 67 rfl) rfl) ?_
                refine Eq.trans (jb_nx (i := .iload_n 2) (n := 1) (q := (116, [some (.ref p0), some (.int i1), some (.int x5), some (.int x55)], [.int x5, .ref p0])) (jq qX13_carryOut 68 rfl) rfl) ?_
                obtain ⟨b59, H⟩ := jm_O_inv H
                rcases jcV H with ⟨h56, r57, H⟩ | ⟨w60, h61, r57, H⟩
                · refine Eq.trans (jb_nx (i := .invokevirtual 257) (n := 3) (q := (119, [some (.ref p0), some (.int i1), some (.int x5), some (.int x55)], [])) (jq qX13_carryOut 69 rfl) (jo_cv (y := mX13_putDown) rfl (Nat.le_of_ble_eq_true rfl) rfl (Nat.le_of_ble_eq_true rfl) b59 rfl r57 jo_ret)) ?_
                  refine Eq.trans (jb_nx (i := .iload_n 3) (n := 1) (q := (120, [some (.ref p0), some (.int i1), some (.int x5), some (.int x55)], [.int x55])) (jq qX13_carryOut 70 rfl) rfl) ?_
                  obtain ⟨u58, H⟩ := jm_Y_inv H
                  exact Eq.trans (jb_rt (i := .ireturn) (n := 1) (jq qX13_carryOut 71 rfl) (jo_iret rfl u58)) H
                · exact Eq.trans (jb_rt (i := .invokevirtual 257) (n := 3) (jq qX13_carryOut 69 rfl) (jo_cv (y := mX13_putDown) rfl (Nat.le_of_ble_eq_true rfl) rfl (Nat.le_of_ble_eq_true rfl) b59 rfl r57 (jo_exn rfl))) H
              · exact Eq.trans (jb_rt (i := .invokevirtual 267) (n := 3) (jq qX13_carryOut 65 rfl) (jo_cv (y := mX13_isOther) rfl (Nat.le_of_ble_eq_true rfl) rfl (Nat.le_of_ble_eq_true rfl) b62 rfl r54 (jo_exn rfl))) H
            · exact Eq.trans (jb_rt (i := .invokevirtual 157) (n := 3) (jq qX13_carryOut 53 rfl) (jo_cv (y := mX13_takeUpTold) rfl (Nat.le_of_ble_eq_true rfl) rfl (Nat.le_of_ble_eq_true rfl) b65 rfl r52 (jo_exn rfl))) H
          · rw [if_neg c26] at H
            refine Eq.trans (jb_nx (i := .if_icmp .ne 11) (n := 3) (q := (94, [some (.ref p0), some (.int i1), some (.int x5), none], [])) (jq qX13_carryOut 50 rfl) (jo_icT (jz_neT c26) rfl)) ?_
            refine Eq.trans (jb_nx (i := .aload_n 0) (n := 1) (q := (95, [some (.ref p0), some (.int i1), some (.int x5), none], [.ref p0])) (jq qX13_carryOut 55 rfl) rfl) ?_
            obtain ⟨b48, H⟩ := jm_O_inv H
            rcases jcI H with ⟨x29, h27, r28, H⟩ | ⟨w49, h50, r28, H⟩
            · refine Eq.trans (jb_nx (i := .invokevirtual 260) (n := 3) (q := (98, [some (.ref p0), some (.int i1), some (.int x5), none], [.int x29])) (jq qX13_carryOut 56 rfl) (jo_cv (y := mX13_canStepNow) rfl (Nat.le_of_ble_eq_true rfl) rfl (Nat.le_of_ble_eq_true rfl) b48 rfl r28 jo_ret)) ?_
              by_cases c30 : x29 = 0
              · rw [if_pos c30] at H
                refine Eq.trans (jb_nx (i := .ifCond .ne 5) (n := 3) (q := (101, [some (.ref p0), some (.int i1), some (.int x5), none], [])) (jq qX13_carryOut 57 rfl) (jo_ifF (jz_neF c30))) ?_
                refine Eq.trans (jb_nx (i := .iconst 0) (n := 1) (q := (102, [some (.ref p0), some (.int i1), some (.int x5), none], [.int 0])) (jq qX13_carryOut 58 rfl) rfl) ?_
                exact Eq.trans (jb_rt (i := .ireturn) (n := 1) (jq qX13_carryOut 59 rfl) (jo_iret rfl (by decide))) H
              · rw [if_neg c30] at H
                refine Eq.trans (jb_nx (i := .ifCond .ne 5) (n := 3) (q := (103, [some (.ref p0), some (.int i1), some (.int x5), none], [])) (jq qX13_carryOut 57 rfl) (jo_ifT (jz_neT c30) rfl)) ?_
                refine Eq.trans (jb_nx (i := .aload_n 0) (n := 1) (q := (104, [some (.ref p0), some (.int i1), some (.int x5), none], [.ref p0])) (jq qX13_carryOut 60 rfl) rfl) ?_
                refine Eq.trans (jb_nx (i := .iload_n 2) (n := 1) (q := (105, [some (.ref p0), some (.int i1), some (.int x5), none], [.int x5, .ref p0])) (jq qX13_carryOut 61 rfl) rfl) ?_
                obtain ⟨b45, H⟩ := jm_O_inv H
                rcases jcV H with ⟨h31, r32, H⟩ | ⟨w46, h47, r32, H⟩
                · refine Eq.trans (jb_nx (i := .invokevirtual 264) (n := 3) (q := (108, [some (.ref p0), some (.int i1), some (.int x5), none], [])) (jq qX13_carryOut 62 rfl) (jo_cv (y := mX13_stepWork) rfl (Nat.le_of_ble_eq_true rfl) rfl (Nat.le_of_ble_eq_true rfl) b45 rfl r32 jo_ret)) ?_
                  refine Eq.trans (jb_nx (i := .aload_n 0) (n := 1) (q := (109, [some (.ref p0), some (.int i1), some (.int x5), none], [.ref p0])) (jq qX13_carryOut 63 rfl) rfl) ?_
                  refine Eq.trans (jb_nx (i := .iload_n 2) (n := 1) (q := (110, [some (.ref p0), some (.int i1), some (.int x5), none], [.int x5, .ref p0])) (jq qX13_carryOut 64 rfl) rfl) ?_
                  obtain ⟨b42, H⟩ := jm_O_inv H
                  rcases jcI H with ⟨x35, h33, r34, H⟩ | ⟨w43, h44, r34, H⟩
                  · refine Eq.trans (jb_nx (i := .invokevirtual 267) (n := 3) (q := (113, [some (.ref p0), some (.int i1), some (.int x5), none], [.int x35])) (jq qX13_carryOut 65 rfl) (jo_cv (y := mX13_isOther) rfl (Nat.le_of_ble_eq_true rfl) rfl (Nat.le_of_ble_eq_true rfl) b42 rfl r34 jo_ret)) ?_
                    refine Eq.trans (jb_nx (i := .istore_n 3) (n := 1) (q := (114, [some (.ref p0), some (.int i1), some (.int x5), some (.int x35)], [])) (jq qX13_carryOut 66 rfl) rfl) ?_
                    refine Eq.trans (jb_nx (i := .aload_n 0) (n := 1) (q := (115, [some (.ref p0), some (.int i1), some (.int x5), some (.int x35)], [.ref p0])) (jq qX13_carryOut 67 rfl) rfl) ?_
                    refine Eq.trans (jb_nx (i := .iload_n 2) (n := 1) (q := (116, [some (.ref p0), some (.int i1), some (.int x5), some (.int x35)], [.int x5, .ref p0])) (jq qX13_carryOut 68 rfl) rfl) ?_
                    obtain ⟨b39, H⟩ := jm_O_inv H
                    rcases jcV H with ⟨h36, r37, H⟩ | ⟨w40, h41, r37, H⟩
                    · refine Eq.trans (jb_nx (i := .invokevirtual 257) (n := 3) (q := (119, [some (.ref p0), some (.int i1), some (.int x5), some (.int x35)], [])) (jq qX13_carryOut 69 rfl) (jo_cv (y := mX13_putDown) rfl (Nat.le_of_ble_eq_true rfl) rfl (Nat.le_of_ble_eq_true rfl) b39 rfl r37 jo_ret)) ?_
                      refine Eq.trans (jb_nx (i := .iload_n 3) (n := 1) (q := (120, [some (.ref p0), some (.int i1), some (.int x5), some (.int x35)], [.int x35])) (jq qX13_carryOut 70 rfl) rfl) ?_
                      obtain ⟨u38, H⟩ := jm_Y_inv H
                      exact Eq.trans (jb_rt (i := .ireturn) (n := 1) (jq qX13_carryOut 71 rfl) (jo_iret rfl u38)) H
                    · exact Eq.trans (jb_rt (i := .invokevirtual 257) (n := 3) (jq qX13_carryOut 69 rfl) (jo_cv (y := mX13_putDown) rfl (Nat.le_of_ble_eq_true rfl) rfl (Nat.le_of_ble_eq_true rfl) b39 rfl r37 (jo_exn rfl))) H
                  · exact Eq.trans (jb_rt (i := .invokevirtual 267) (n := 3) (jq qX13_carryOut 65 rfl) (jo_cv (y := mX13_isOther) rfl (Nat.le_of_ble_eq_true rfl) rfl (Nat.le_of_ble_eq_true rfl) b42 rfl r34 (jo_exn rfl))) H
                · exact Eq.trans (jb_rt (i := .invokevirtual 264) (n := 3) (jq qX13_carryOut 62 rfl) (jo_cv (y := mX13_stepWork) rfl (Nat.le_of_ble_eq_true rfl) rfl (Nat.le_of_ble_eq_true rfl) b45 rfl r32 (jo_exn rfl))) H
            · exact Eq.trans (jb_rt (i := .invokevirtual 260) (n := 3) (jq qX13_carryOut 56 rfl) (jo_cv (y := mX13_canStepNow) rfl (Nat.le_of_ble_eq_true rfl) rfl (Nat.le_of_ble_eq_true rfl) b48 rfl r28 (jo_exn rfl))) H
        · exact Eq.trans (jb_rt (i := .invokevirtual 146) (n := 3) (jq qX13_carryOut 43 rfl) (jo_cv (y := mX13_takeUp) rfl (Nat.le_of_ble_eq_true rfl) rfl (Nat.le_of_ble_eq_true rfl) b68 rfl r19 (jo_exn rfl))) H
  · exact Eq.trans (jb_rt (i := .invokevirtual 241) (n := 3) (jq qX13_carryOut 8 rfl) (jo_cv (y := mX13_holds) rfl (Nat.le_of_ble_eq_true rfl) rfl (Nat.le_of_ble_eq_true rfl) b94 rfl r8 (jo_exn rfl))) H
/-! MaskPlaysModel holds (I)Z -/
def tX13_holds : List (Nat × Instr × Nat) := [(0, .iconst 0, 1), (1, .istore_n 2, 1), (2, .aload_n 0, 1), (3, .getfield 20, 3), (6, .getfield 216, 3), (9, .iload_n 1, 1), (10, .iaload, 1), (11, .istore_n 3, 1), (12, .iload_n 3, 1), (13, .aload_n 0, 1), (14, .getfield 20, 3), (17, .getfield 219, 3), (20, .iload_n 1, 1), (21, .iaload, 1), (22, .if_icmp .ge 140, 3), (25, .aload_n 0, 1), (26, .getfield 20, 3), (29, .getfield 222, 3), (32, .iload_n 3, 1), (33, .iaload, 1), (34, .istore 4, 2), (36, .iload 4, 2), (38, .invokestatic 225, 3), (41, .ifCond .eq 30, 3), (44, .aload_n 0, 1), (45, .getfield 65, 3), (48, .iload_n 2, 1), (49, .aload_n 0, 1), (50, .iload 4, 2), (52, .aload_n 0, 1), (53, .getfield 20, 3), (56, .getfield 228, 3), (59, .iload_n 3, 1), (60, .iaload, 1), (61, .invokevirtual 231, 3), (64, .iastore, 1), (65, .iinc 2 1, 3), (68, .goto 88, 3), (71, .iload 4, 2), (73, .bipush 105, 2), (75, .if_icmp .ne 23, 3), (78, .aload_n 0, 1), (79, .getfield 65, 3), (82, .iload_n 2, 1), (83, .iconst 1, 1), (84, .isub, 1), (85, .aload_n 0, 1), (86, .getfield 65, 3), (89, .iload_n 2, 1), (90, .iconst 1, 1), (91, .isub, 1), (92, .iaload, 1), (93, .ineg, 1), (94, .iastore, 1), (95, .goto 61, 3), (98, .iload 4, 2), (100, .bipush 15, 2), (102, .if_icmp .ne 24, 3), (105, .aload_n 0, 1), (106, .getfield 65, 3), (109, .iload_n 2, 1), (110, .iconst 1, 1), (111, .isub, 1), (112, .iconst 1, 1), (113, .aload_n 0, 1), (114, .getfield 65, 3), (117, .iload_n 2, 1), (118, .iconst 1, 1), (119, .isub, 1), (120, .iaload, 1), (121, .isub, 1), (122, .iastore, 1), (123, .goto 33, 3), (126, .iinc 2 (-1), 3), (129, .aload_n 0, 1), (130, .getfield 65, 3), (133, .iload_n 2, 1), (134, .iconst 1, 1), (135, .isub, 1), (136, .iload 4, 2), (138, .aload_n 0, 1), (139, .getfield 65, 3), (142, .iload_n 2, 1), (143, .iconst 1, 1), (144, .isub, 1), (145, .iaload, 1), (146, .aload_n 0, 1), (147, .getfield 65, 3), (150, .iload_n 2, 1), (151, .iaload, 1), (152, .invokestatic 234, 3), (155, .iastore, 1), (156, .iinc 3 1, 3), (159, .goto (-147), 3), (162, .iload_n 2, 1), (163, .ifCond .eq 13, 3), (166, .aload_n 0, 1), (167, .getfield 65, 3), (170, .iconst 0, 1), (171, .iaload, 1), (172, .iconst 1, 1), (173, .if_icmp .ne 7, 3), (176, .iconst 1, 1), (177, .goto 4, 3), (180, .iconst 0, 1), (181, .ireturn, 1)]
set_option maxRecDepth 100000 in
theorem qX13_holds : ∀ q ∈ tX13_holds, decode cX13_holds q.1 = .ok (q.2.1, q.2.2) := by decide +kernel
noncomputable def kX13_holds_12 (d : Nat) (p0 : Nat) (i1 : Int32) (i2 : Int32) (i3 : Int32) (o4 : Option Value) (h : jm_H) : Option jm_R := jm_B d mX13_holds (12, [some (.ref p0), some (.int i1), some (.int i2), some (.int i3), o4], []) h
theorem gX13_holds_12 {d : Nat} {p0 : Nat} {i1 : Int32} {i2 : Int32} {i3 : Int32} {o4 : Option Value} {h : jm_H} {r : jm_R} (H : ((jr_R h p0 12 4 2).bind fun a7 => (jr_R h a7 11 17 2).bind fun a9 => (jm_ali h a9 0 i1).bind fun x11 => (if i3 < x11 then (jr_R h p0 12 4 2).bind fun a20 => (jr_R h a20 11 18 2).bind fun a22 => (jm_ali h a22 0 i3).bind fun x24 => jc_I (jm_D d mX13_isAsked [.int x24] h) (fun x28 h26 => (if x28 = 0 then (if x24 = 105 then (jr_R h26 p0 12 27 2).bind fun a57 => (jr_R h26 p0 12 27 2).bind fun a59 => (jm_ali h26 a59 0 (i2 - 1)).bind fun x61 => (jm_asi h26 a57 0 (i2 - 1) (-x61)).bind fun h63 => kX13_holds_12 d p0 i1 i2 (i3 + 1) (some (.int x24)) h63 else (if x24 = 15 then (jr_R h26 p0 12 27 2).bind fun a49 => (jr_R h26 p0 12 27 2).bind fun a51 => (jm_ali h26 a51 0 (i2 - 1)).bind fun x53 => (jm_asi h26 a49 0 (i2 - 1) (1 - x53)).bind fun h55 => kX13_holds_12 d p0 i1 i2 (i3 + 1) (some (.int x24)) h55 else (jr_R h26 p0 12 27 2).bind fun a32 => (jr_R h26 p0 12 27 2).bind fun a34 => (jm_ali h26 a34 0 ((i2 + (-1)) - 1)).bind fun x36 => (jr_R h26 p0 12 27 2).bind fun a38 => (jm_ali h26 a38 0 (i2 + (-1))).bind fun x40 => jc_I (jm_D d mX13_reckon [.int x24, .int x36, .int x40] h26) (fun x44 h42 => (jm_asi h42 a32 0 ((i2 + (-1)) - 1) x44).bind fun h45 => kX13_holds_12 d p0 i1 (i2 + (-1)) (i3 + 1) (some (.int x24)) h45) jx)) else (jr_R h26 p0 12 27 2).bind fun a65 => (jr_R h26 p0 12 4 2).bind fun a67 => (jr_R h26 a67 11 19 2).bind fun a69 => (jm_ali h26 a69 0 i3).bind fun x71 => jm_O h26 p0 13 (jc_I (jm_D d mX13_ask [.ref p0, .int x24, .int x71] h26) (fun x75 h73 => (jm_asi h73 a65 0 i2 x75).bind fun h76 => kX13_holds_12 d p0 i1 (i2 + 1) (i3 + 1) (some (.int x24)) h76) jx))) jx else (if i2 = 0 then some (.inl (some (.int 1)), h) else (jr_R h p0 12 27 2).bind fun a15 => (jm_ali h a15 0 0).bind fun x17 => (if x17 = 1 then some (.inl (some (.int 1)), h) else some (.inl (some (.int 0)), h))))) = some r) : kX13_holds_12 d p0 i1 i2 i3 o4 h = some r := by
  show jm_B d mX13_holds (12, [some (.ref p0), some (.int i1), some (.int i2), some (.int i3), o4], []) h = some r
  refine Eq.trans (jb_nx (i := .iload_n 3) (n := 1) (q := (13, [some (.ref p0), some (.int i1), some (.int i2), some (.int i3), o4], [.int i3])) (jq qX13_holds 8 rfl) rfl) ?_
  refine Eq.trans (jb_nx (i := .aload_n 0) (n := 1) (q := (14, [some (.ref p0), some (.int i1), some (.int i2), some (.int i3), o4], [.ref p0, .int i3])) (jq qX13_holds 9 rfl) rfl) ?_
  obtain ⟨a7, e8, H⟩ := jbd H
  refine Eq.trans (jb_nx (i := .getfield 20) (n := 3) (q := (17, [some (.ref p0), some (.int i1), some (.int i2), some (.int i3), o4], [.ref a7, .int i3])) (jq qX13_holds 10 rfl) (jo_gf rfl (jr_R_inv e8))) ?_
  obtain ⟨a9, e10, H⟩ := jbd H
  refine Eq.trans (jb_nx (i := .getfield 219) (n := 3) (q := (20, [some (.ref p0), some (.int i1), some (.int i2), some (.int i3), o4], [.ref a9, .int i3])) (jq qX13_holds 11 rfl) (jo_gf rfl (jr_R_inv e10))) ?_
  refine Eq.trans (jb_nx (i := .iload_n 1) (n := 1) (q := (21, [some (.ref p0), some (.int i1), some (.int i2), some (.int i3), o4], [.int i1, .ref a9, .int i3])) (jq qX13_holds 12 rfl) rfl) ?_
  obtain ⟨x11, e12, H⟩ := jbd H
  refine Eq.trans (jb_nx (i := .iaload) (n := 1) (q := (22, [some (.ref p0), some (.int i1), some (.int i2), some (.int i3), o4], [.int x11, .int i3])) (jq qX13_holds 13 rfl) (jo_ial e12)) ?_
  by_cases c13 : i3 < x11
  · rw [if_pos c13] at H
    refine Eq.trans (jb_nx (i := .if_icmp .ge 140) (n := 3) (q := (25, [some (.ref p0), some (.int i1), some (.int i2), some (.int i3), o4], [])) (jq qX13_holds 14 rfl) (jo_icF (jz_geF c13))) ?_
    refine Eq.trans (jb_nx (i := .aload_n 0) (n := 1) (q := (26, [some (.ref p0), some (.int i1), some (.int i2), some (.int i3), o4], [.ref p0])) (jq qX13_holds 15 rfl) rfl) ?_
    obtain ⟨a20, e21, H⟩ := jbd H
    refine Eq.trans (jb_nx (i := .getfield 20) (n := 3) (q := (29, [some (.ref p0), some (.int i1), some (.int i2), some (.int i3), o4], [.ref a20])) (jq qX13_holds 16 rfl) (jo_gf rfl (jr_R_inv e21))) ?_
    obtain ⟨a22, e23, H⟩ := jbd H
    refine Eq.trans (jb_nx (i := .getfield 222) (n := 3) (q := (32, [some (.ref p0), some (.int i1), some (.int i2), some (.int i3), o4], [.ref a22])) (jq qX13_holds 17 rfl) (jo_gf rfl (jr_R_inv e23))) ?_
    refine Eq.trans (jb_nx (i := .iload_n 3) (n := 1) (q := (33, [some (.ref p0), some (.int i1), some (.int i2), some (.int i3), o4], [.int i3, .ref a22])) (jq qX13_holds 18 rfl) rfl) ?_
    obtain ⟨x24, e25, H⟩ := jbd H
    refine Eq.trans (jb_nx (i := .iaload) (n := 1) (q := (34, [some (.ref p0), some (.int i1), some (.int i2), some (.int i3), o4], [.int x24])) (jq qX13_holds 19 rfl) (jo_ial e25)) ?_
    refine Eq.trans (jb_nx (i := .istore 4) (n := 2) (q := (36, [some (.ref p0), some (.int i1), some (.int i2), some (.int i3), some (.int x24)], [])) (jq qX13_holds 20 rfl) rfl) ?_
    refine Eq.trans (jb_nx (i := .iload 4) (n := 2) (q := (38, [some (.ref p0), some (.int i1), some (.int i2), some (.int i3), some (.int x24)], [.int x24])) (jq qX13_holds 21 rfl) rfl) ?_
    rcases jcI H with ⟨x28, h26, r27, H⟩ | ⟨w81, h82, r27, H⟩
    · refine Eq.trans (jb_nx (i := .invokestatic 225) (n := 3) (q := (41, [some (.ref p0), some (.int i1), some (.int i2), some (.int i3), some (.int x24)], [.int x28])) (jq qX13_holds 22 rfl) (jo_cs (y := mX13_isAsked) (w := 1) (by decide) rfl (Nat.le_of_ble_eq_true rfl) rfl (Nat.le_of_ble_eq_true rfl) rfl r27 jo_ret)) ?_
      by_cases c29 : x28 = 0
      · rw [if_pos c29] at H
        refine Eq.trans (jb_nx (i := .ifCond .eq 30) (n := 3) (q := (71, [some (.ref p0), some (.int i1), some (.int i2), some (.int i3), some (.int x24)], [])) (jq qX13_holds 23 rfl) (jo_ifT (jz_eqT c29) rfl)) ?_
        refine Eq.trans (jb_nx (i := .iload 4) (n := 2) (q := (73, [some (.ref p0), some (.int i1), some (.int i2), some (.int i3), some (.int x24)], [.int x24])) (jq qX13_holds 38 rfl) rfl) ?_
        refine Eq.trans (jb_nx (i := .bipush 105) (n := 2) (q := (75, [some (.ref p0), some (.int i1), some (.int i2), some (.int i3), some (.int x24)], [.int 105, .int x24])) (jq qX13_holds 39 rfl) rfl) ?_
        by_cases c30 : x24 = 105
        · rw [if_pos c30] at H
          refine Eq.trans (jb_nx (i := .if_icmp .ne 23) (n := 3) (q := (78, [some (.ref p0), some (.int i1), some (.int i2), some (.int i3), some (.int x24)], [])) (jq qX13_holds 40 rfl) (jo_icF (jz_neF c30))) ?_
          refine Eq.trans (jb_nx (i := .aload_n 0) (n := 1) (q := (79, [some (.ref p0), some (.int i1), some (.int i2), some (.int i3), some (.int x24)], [.ref p0])) (jq qX13_holds 41 rfl) rfl) ?_
          obtain ⟨a57, e58, H⟩ := jbd H
          refine Eq.trans (jb_nx (i := .getfield 65) (n := 3) (q := (82, [some (.ref p0), some (.int i1), some (.int i2), some (.int i3), some (.int x24)], [.ref a57])) (jq qX13_holds 42 rfl) (jo_gf rfl (jr_R_inv e58))) ?_
          refine Eq.trans (jb_nx (i := .iload_n 2) (n := 1) (q := (83, [some (.ref p0), some (.int i1), some (.int i2), some (.int i3), some (.int x24)], [.int i2, .ref a57])) (jq qX13_holds 43 rfl) rfl) ?_
          refine Eq.trans (jb_nx (i := .iconst 1) (n := 1) (q := (84, [some (.ref p0), some (.int i1), some (.int i2), some (.int i3), some (.int x24)], [.int 1, .int i2, .ref a57])) (jq qX13_holds 44 rfl) rfl) ?_
          refine Eq.trans (jb_nx (i := .isub) (n := 1) (q := (85, [some (.ref p0), some (.int i1), some (.int i2), some (.int i3), some (.int x24)], [.int (i2 - 1), .ref a57])) (jq qX13_holds 45 rfl) rfl) ?_
          refine Eq.trans (jb_nx (i := .aload_n 0) (n := 1) (q := (86, [some (.ref p0), some (.int i1), some (.int i2), some (.int i3), some (.int x24)], [.ref p0, .int (i2 - 1), .ref a57])) (jq qX13_holds 46 rfl) rfl) ?_
          obtain ⟨a59, e60, H⟩ := jbd H
          refine Eq.trans (jb_nx (i := .getfield 65) (n := 3) (q := (89, [some (.ref p0), some (.int i1), some (.int i2), some (.int i3), some (.int x24)], [.ref a59, .int (i2 - 1), .ref a57])) (jq qX13_holds 47 rfl) (jo_gf rfl (jr_R_inv e60))) ?_
          refine Eq.trans (jb_nx (i := .iload_n 2) (n := 1) (q := (90, [some (.ref p0), some (.int i1), some (.int i2), some (.int i3), some (.int x24)], [.int i2, .ref a59, .int (i2 - 1), .ref a57])) (jq qX13_holds 48 rfl) rfl) ?_
          refine Eq.trans (jb_nx (i := .iconst 1) (n := 1) (q := (91, [some (.ref p0), some (.int i1), some (.int i2), some (.int i3), some (.int x24)], [.int 1, .int i2, .ref a59, .int (i2 - 1), .ref a57])) (jq qX13_holds 49 rfl) rfl) ?_
          refine Eq.trans (jb_nx (i := .isub) (n := 1) (q := (92, [some (.ref p0), some (.int i1), some (.int i2), some (.int i3), some (.int x24)], [.int (i2 - 1), .ref a59, .int (i2 - 1), .ref a57])) (jq qX13_holds 50 rfl) rfl) ?_
          obtain ⟨x61, e62, H⟩ := jbd H
          refine Eq.trans (jb_nx (i := .iaload) (n := 1) (q := (93, [some (.ref p0), some (.int i1), some (.int i2), some (.int i3), some (.int x24)], [.int x61, .int (i2 - 1), .ref a57])) (jq qX13_holds 51 rfl) (jo_ial e62)) ?_
          refine Eq.trans (jb_nx (i := .ineg) (n := 1) (q := (94, [some (.ref p0), some (.int i1), some (.int i2), some (.int i3), some (.int x24)], [.int (-x61), .int (i2 - 1), .ref a57])) (jq qX13_holds 52 rfl) rfl) ?_
          obtain ⟨h63, e64, H⟩ := jbd H
          refine Eq.trans (jb_nx (i := .iastore) (n := 1) (q := (95, [some (.ref p0), some (.int i1), some (.int i2), some (.int i3), some (.int x24)], [])) (jq qX13_holds 53 rfl) (jo_ias e64)) ?_
          refine Eq.trans (jb_nx (i := .goto 61) (n := 3) (q := (156, [some (.ref p0), some (.int i1), some (.int i2), some (.int i3), some (.int x24)], [])) (jq qX13_holds 54 rfl) rfl) ?_
          refine Eq.trans (jb_nx (i := .iinc 3 1) (n := 3) (q := (159, [some (.ref p0), some (.int i1), some (.int i2), some (.int (i3 + 1)), some (.int x24)], [])) (jq qX13_holds 92 rfl) rfl) ?_
          refine Eq.trans (jb_nx (i := .goto (-147)) (n := 3) (q := (12, [some (.ref p0), some (.int i1), some (.int i2), some (.int (i3 + 1)), some (.int x24)], [])) (jq qX13_holds 93 rfl) rfl) ?_
          exact H
        · rw [if_neg c30] at H
          refine Eq.trans (jb_nx (i := .if_icmp .ne 23) (n := 3) (q := (98, [some (.ref p0), some (.int i1), some (.int i2), some (.int i3), some (.int x24)], [])) (jq qX13_holds 40 rfl) (jo_icT (jz_neT c30) rfl)) ?_
          refine Eq.trans (jb_nx (i := .iload 4) (n := 2) (q := (100, [some (.ref p0), some (.int i1), some (.int i2), some (.int i3), some (.int x24)], [.int x24])) (jq qX13_holds 55 rfl) rfl) ?_
          refine Eq.trans (jb_nx (i := .bipush 15) (n := 2) (q := (102, [some (.ref p0), some (.int i1), some (.int i2), some (.int i3), some (.int x24)], [.int 15, .int x24])) (jq qX13_holds 56 rfl) rfl) ?_
          by_cases c31 : x24 = 15
          · rw [if_pos c31] at H
            refine Eq.trans (jb_nx (i := .if_icmp .ne 24) (n := 3) (q := (105, [some (.ref p0), some (.int i1), some (.int i2), some (.int i3), some (.int x24)], [])) (jq qX13_holds 57 rfl) (jo_icF (jz_neF c31))) ?_
            refine Eq.trans (jb_nx (i := .aload_n 0) (n := 1) (q := (106, [some (.ref p0), some (.int i1), some (.int i2), some (.int i3), some (.int x24)], [.ref p0])) (jq qX13_holds 58 rfl) rfl) ?_
            obtain ⟨a49, e50, H⟩ := jbd H
            refine Eq.trans (jb_nx (i := .getfield 65) (n := 3) (q := (109, [some (.ref p0), some (.int i1), some (.int i2), some (.int i3), some (.int x24)], [.ref a49])) (jq qX13_holds 59 rfl) (jo_gf rfl (jr_R_inv e50))) ?_
            refine Eq.trans (jb_nx (i := .iload_n 2) (n := 1) (q := (110, [some (.ref p0), some (.int i1), some (.int i2), some (.int i3), some (.int x24)], [.int i2, .ref a49])) (jq qX13_holds 60 rfl) rfl) ?_
            refine Eq.trans (jb_nx (i := .iconst 1) (n := 1) (q := (111, [some (.ref p0), some (.int i1), some (.int i2), some (.int i3), some (.int x24)], [.int 1, .int i2, .ref a49])) (jq qX13_holds 61 rfl) rfl) ?_
            refine Eq.trans (jb_nx (i := .isub) (n := 1) (q := (112, [some (.ref p0), some (.int i1), some (.int i2), some (.int i3), some (.int x24)], [.int (i2 - 1), .ref a49])) (jq qX13_holds 62 rfl) rfl) ?_
            refine Eq.trans (jb_nx (i := .iconst 1) (n := 1) (q := (113, [some (.ref p0), some (.int i1), some (.int i2), some (.int i3), some (.int x24)], [.int 1, .int (i2 - 1), .ref a49])) (jq qX13_holds 63 rfl) rfl) ?_
            refine Eq.trans (jb_nx (i := .aload_n 0) (n := 1) (q := (114, [some (.ref p0), some (.int i1), some (.int i2), some (.int i3), some (.int x24)], [.ref p0, .int 1, .int (i2 - 1), .ref a49])) (jq qX13_holds 64 rfl) rfl) ?_
            obtain ⟨a51, e52, H⟩ := jbd H
            refine Eq.trans (jb_nx (i := .getfield 65) (n := 3) (q := (117, [some (.ref p0), some (.int i1), some (.int i2), some (.int i3), some (.int x24)], [.ref a51, .int 1, .int (i2 - 1), .ref a49])) (jq qX13_holds 65 rfl) (jo_gf rfl (jr_R_inv e52))) ?_
            refine Eq.trans (jb_nx (i := .iload_n 2) (n := 1) (q := (118, [some (.ref p0), some (.int i1), some (.int i2), some (.int i3), some (.int x24)], [.int i2, .ref a51, .int 1, .int (i2 - 1), .ref a49])) (jq qX13_holds 66 rfl) rfl) ?_
            refine Eq.trans (jb_nx (i := .iconst 1) (n := 1) (q := (119, [some (.ref p0), some (.int i1), some (.int i2), some (.int i3), some (.int x24)], [.int 1, .int i2, .ref a51, .int 1, .int (i2 - 1), .ref a49])) (jq qX13_holds 67 rfl) rfl) ?_
            refine Eq.trans (jb_nx (i := .isub) (n := 1) (q := (120, [some (.ref p0), some (.int i1), some (.int i2), some (.int i3), some (.int x24)], [.int (i2 - 1), .ref a51, .int 1, .int (i2 - 1), .ref a49])) (jq qX13_holds 68 rfl) rfl) ?_
            obtain ⟨x53, e54, H⟩ := jbd H
            refine Eq.trans (jb_nx (i := .iaload) (n := 1) (q := (121, [some (.ref p0), some (.int i1), some (.int i2), some (.int i3), some (.int x24)], [.int x53, .int 1, .int (i2 - 1), .ref a49])) (jq qX13_holds 69 rfl) (jo_ial e54)) ?_
            refine Eq.trans (jb_nx (i := .isub) (n := 1) (q := (122, [some (.ref p0), some (.int i1), some (.int i2), some (.int i3), some (.int x24)], [.int (1 - x53), .int (i2 - 1), .ref a49])) (jq qX13_holds 70 rfl) rfl) ?_
            obtain ⟨h55, e56, H⟩ := jbd H
            refine Eq.trans (jb_nx (i := .iastore) (n := 1) (q := (123, [some (.ref p0), some (.int i1), some (.int i2), some (.int i3), some (.int x24)], [])) (jq qX13_holds 71 rfl) (jo_ias e56)) ?_
            refine Eq.trans (jb_nx (i := .goto 33) (n := 3) (q := (156, [some (.ref p0), some (.int i1), some (.int i2), some (.int i3), some (.int x24)], [])) (jq qX13_holds 72 rfl) rfl) ?_
            refine Eq.trans (jb_nx (i := .iinc 3 1) (n := 3) (q := (159, [some (.ref p0), some (.int i1), some (.int i2), some (.int (i3 + 1)), some (.int x24)], [])) (jq qX13_holds 92 rfl) rfl) ?_
            refine Eq.trans (jb_nx (i := .goto (-147)) (n := 3) (q := (12, [some (.ref p0), some (.int i1), some (.int i2), some (.int (i3 + 1)), some (.int x24)], [])) (jq qX13_holds 93 rfl) rfl) ?_
            exact H
          · rw [if_neg c31] at H
            refine Eq.trans (jb_nx (i := .if_icmp .ne 24) (n := 3) (q := (126, [some (.ref p0), some (.int i1), some (.int i2), some (.int i3), some (.int x24)], [])) (jq qX13_holds 57 rfl) (jo_icT (jz_neT c31) rfl)) ?_
            refine Eq.trans (jb_nx (i := .iinc 2 (-1)) (n := 3) (q := (129, [some (.ref p0), some (.int i1), some (.int (i2 + (-1))), some (.int i3), some (.int x24)], [])) (jq qX13_holds 73 rfl) rfl) ?_
            refine Eq.trans (jb_nx (i := .aload_n 0) (n := 1) (q := (130, [some (.ref p0), some (.int i1), some (.int (i2 + (-1))), some (.int i3), some (.int x24)], [.ref p0])) (jq qX13_holds 74 rfl) rfl) ?_
            obtain ⟨a32, e33, H⟩ := jbd H
            refine Eq.trans (jb_nx (i := .getfield 65) (n := 3) (q := (133, [some (.ref p0), some (.int i1), some (.int (i2 + (-1))), some (.int i3), some (.int x24)], [.ref a32])) (jq qX13_holds 75 rfl) (jo_gf rfl (jr_R_inv e33))) ?_
            refine Eq.trans (jb_nx (i := .iload_n 2) (n := 1) (q := (134, [some (.ref p0), some (.int i1), some (.int (i2 + (-1))), some (.int i3), some (.int x24)], [.int (i2 + (-1)), .ref a32])) (jq qX13_holds 76 rfl) rfl) ?_
            refine Eq.trans (jb_nx (i := .iconst 1) (n := 1) (q := (135, [some (.ref p0), some (.int i1), some (.int (i2 + (-1))), some (.int i3), some (.int x24)], [.int 1, .int (i2 + (-1)), .ref a32])) (jq qX13_holds 77 rfl) rfl) ?_
            refine Eq.trans (jb_nx (i := .isub) (n := 1) (q := (136, [some (.ref p0), some (.int i1), some (.int (i2 + (-1))), some (.int i3), some (.int x24)], [.int ((i2 + (-1)) - 1), .ref a32])) (jq qX13_holds 78 rfl) rfl) ?_
            refine Eq.trans (jb_nx (i := .iload 4) (n := 2) (q := (138, [some (.ref p0), some (.int i1), some (.int (i2 + (-1))), some (.int i3), some (.int x24)], [.int x24, .int ((i2 + (-1)) - 1), .ref a32])) (jq qX13_holds 79 rfl) rfl) ?_
            refine Eq.trans (jb_nx (i := .aload_n 0) (n := 1) (q := (139, [some (.ref p0), some (.int i1), some (.int (i2 + (-1))), some (.int i3), some (.int x24)], [.ref p0, .int x24, .int ((i2 + (-1)) - 1), .ref a32])) (jq qX13_holds 80 rfl) rfl) ?_
            obtain ⟨a34, e35, H⟩ := jbd H
            refine Eq.trans (jb_nx (i := .getfield 65) (n := 3) (q := (142, [some (.ref p0), some (.int i1), some (.int (i2 + (-1))), some (.int i3), some (.int x24)], [.ref a34, .int x24, .int ((i2 + (-1)) - 1), .ref a32])) (jq qX13_holds 81 rfl) (jo_gf rfl (jr_R_inv e35))) ?_
            refine Eq.trans (jb_nx (i := .iload_n 2) (n := 1) (q := (143, [some (.ref p0), some (.int i1), some (.int (i2 + (-1))), some (.int i3), some (.int x24)], [.int (i2 + (-1)), .ref a34, .int x24, .int ((i2 + (-1)) - 1), .ref a32])) (jq qX13_holds 82 rfl) rfl) ?_
            refine Eq.trans (jb_nx (i := .iconst 1) (n := 1) (q := (144, [some (.ref p0), some (.int i1), some (.int (i2 + (-1))), some (.int i3), some (.int x24)], [.int 1, .int (i2 + (-1)), .ref a34, .int x24, .int ((i2 + (-1)) - 1), .ref a32])) (jq qX13_holds 83 rfl) rfl) ?_
            refine Eq.trans (jb_nx (i := .isub) (n := 1) (q := (145, [some (.ref p0), some (.int i1), some (.int (i2 + (-1))), some (.int i3), some (.int x24)], [.int ((i2 + (-1)) - 1), .ref a34, .int x24, .int ((i2 + (-1)) - 1), .ref a32])) (jq qX13_holds 84 rfl) rfl) ?_
            obtain ⟨x36, e37, H⟩ := jbd H
            refine Eq.trans (jb_nx (i := .iaload) (n := 1) (q := (146, [some (.ref p0), some (.int i1), some (.int (i2 + (-1))), some (.int i3), some (.int x24)], [.int x36, .int x24, .int ((i2 + (-1)) - 1), .ref a32])) (jq qX13_holds 85 rfl) (jo_ial e37)) ?_
            refine Eq.trans (jb_nx (i := .aload_n 0) (n := 1) (q := (147, [some (.ref p0), some (.int i1), some (.int (i2 + (-1))), some (.int i3), some (.int x24)], [.ref p0, .int x36, .int x24, .int ((i2 + (-1)) - 1), .ref a32])) (jq qX13_holds 86 rfl) rfl) ?_
            obtain ⟨a38, e39, H⟩ := jbd H
            refine Eq.trans (jb_nx (i := .getfield 65) (n := 3) (q := (150, [some (.ref p0), some (.int i1), some (.int (i2 + (-1))), some (.int i3), some (.int x24)], [.ref a38, .int x36, .int x24, .int ((i2 + (-1)) - 1), .ref a32])) (jq qX13_holds 87 rfl) (jo_gf rfl (jr_R_inv e39))) ?_
            refine Eq.trans (jb_nx (i := .iload_n 2) (n := 1) (q := (151, [some (.ref p0), some (.int i1), some (.int (i2 + (-1))), some (.int i3), some (.int x24)], [.int (i2 + (-1)), .ref a38, .int x36, .int x24, .int ((i2 + (-1)) - 1), .ref a32])) (jq qX13_holds 88 rfl) rfl) ?_
            obtain ⟨x40, e41, H⟩ := jbd H
            refine Eq.trans (jb_nx (i := .iaload) (n := 1) (q := (152, [some (.ref p0), some (.int i1), some (.int (i2 + (-1))), some (.int i3), some (.int x24)], [.int x40, .int x36, .int x24, .int ((i2 + (-1)) - 1), .ref a32])) (jq qX13_holds 89 rfl) (jo_ial e41)) ?_
            rcases jcI H with ⟨x44, h42, r43, H⟩ | ⟨w47, h48, r43, H⟩
            · refine Eq.trans (jb_nx (i := .invokestatic 234) (n := 3) (q := (155, [some (.ref p0), some (.int i1), some (.int (i2 + (-1))), some (.int i3), some (.int x24)], [.int x44, .int ((i2 + (-1)) - 1), .ref a32])) (jq qX13_holds 90 rfl) (jo_cs (y := mX13_reckon) (w := 1) (by decide) rfl (Nat.le_of_ble_eq_true rfl) rfl (Nat.le_of_ble_eq_true rfl) rfl r43 jo_ret)) ?_
              obtain ⟨h45, e46, H⟩ := jbd H
              refine Eq.trans (jb_nx (i := .iastore) (n := 1) (q := (156, [some (.ref p0), some (.int i1), some (.int (i2 + (-1))), some (.int i3), some (.int x24)], [])) (jq qX13_holds 91 rfl) (jo_ias e46)) ?_
              refine Eq.trans (jb_nx (i := .iinc 3 1) (n := 3) (q := (159, [some (.ref p0), some (.int i1), some (.int (i2 + (-1))), some (.int (i3 + 1)), some (.int x24)], [])) (jq qX13_holds 92 rfl) rfl) ?_
              refine Eq.trans (jb_nx (i := .goto (-147)) (n := 3) (q := (12, [some (.ref p0), some (.int i1), some (.int (i2 + (-1))), some (.int (i3 + 1)), some (.int x24)], [])) (jq qX13_holds 93 rfl) rfl) ?_
              exact H
            · exact Eq.trans (jb_rt (i := .invokestatic 234) (n := 3) (jq qX13_holds 90 rfl) (jo_cs (y := mX13_reckon) (w := 1) (by decide) rfl (Nat.le_of_ble_eq_true rfl) rfl (Nat.le_of_ble_eq_true rfl) rfl r43 (jo_exn rfl))) H
      · rw [if_neg c29] at H
        refine Eq.trans (jb_nx (i := .ifCond .eq 30) (n := 3) (q := (44, [some (.ref p0), some (.int i1), some (.int i2), some (.int i3), some (.int x24)], [])) (jq qX13_holds 23 rfl) (jo_ifF (jz_eqF c29))) ?_
        refine Eq.trans (jb_nx (i := .aload_n 0) (n := 1) (q := (45, [some (.ref p0), some (.int i1), some (.int i2), some (.int i3), some (.int x24)], [.ref p0])) (jq qX13_holds 24 rfl) rfl) ?_
        obtain ⟨a65, e66, H⟩ := jbd H
        refine Eq.trans (jb_nx (i := .getfield 65) (n := 3) (q := (48, [some (.ref p0), some (.int i1), some (.int i2), some (.int i3), some (.int x24)], [.ref a65])) (jq qX13_holds 25 rfl) (jo_gf rfl (jr_R_inv e66))) ?_
        refine Eq.trans (jb_nx (i := .iload_n 2) (n := 1) (q := (49, [some (.ref p0), some (.int i1), some (.int i2), some (.int i3), some (.int x24)], [.int i2, .ref a65])) (jq qX13_holds 26 rfl) rfl) ?_
        refine Eq.trans (jb_nx (i := .aload_n 0) (n := 1) (q := (50, [some (.ref p0), some (.int i1), some (.int i2), some (.int i3), some (.int x24)], [.ref p0, .int i2, .ref a65])) (jq qX13_holds 27 rfl) rfl) ?_
        refine Eq.trans (jb_nx (i := .iload 4) (n := 2) (q := (52, [some (.ref p0), some (.int i1), some (.int i2), some (.int i3), some (.int x24)], [.int x24, .ref p0, .int i2, .ref a65])) (jq qX13_holds 28 rfl) rfl) ?_
        refine Eq.trans (jb_nx (i := .aload_n 0) (n := 1) (q := (53, [some (.ref p0), some (.int i1), some (.int i2), some (.int i3), some (.int x24)], [.ref p0, .int x24, .ref p0, .int i2, .ref a65])) (jq qX13_holds 29 rfl) rfl) ?_
        obtain ⟨a67, e68, H⟩ := jbd H
        refine Eq.trans (jb_nx (i := .getfield 20) (n := 3) (q := (56, [some (.ref p0), some (.int i1), some (.int i2), some (.int i3), some (.int x24)], [.ref a67, .int x24, .ref p0, .int i2, .ref a65])) (jq qX13_holds 30 rfl) (jo_gf rfl (jr_R_inv e68))) ?_
        obtain ⟨a69, e70, H⟩ := jbd H
        refine Eq.trans (jb_nx (i := .getfield 228) (n := 3) (q := (59, [some (.ref p0), some (.int i1), some (.int i2), some (.int i3), some (.int x24)], [.ref a69, .int x24, .ref p0, .int i2, .ref a65])) (jq qX13_holds 31 rfl) (jo_gf rfl (jr_R_inv e70))) ?_
        refine Eq.trans (jb_nx (i := .iload_n 3) (n := 1) (q := (60, [some (.ref p0), some (.int i1), some (.int i2), some (.int i3), some (.int x24)], [.int i3, .ref a69, .int x24, .ref p0, .int i2, .ref a65])) (jq qX13_holds 32 rfl) rfl) ?_
        obtain ⟨x71, e72, H⟩ := jbd H
        refine Eq.trans (jb_nx (i := .iaload) (n := 1) (q := (61, [some (.ref p0), some (.int i1), some (.int i2), some (.int i3), some (.int x24)], [.int x71, .int x24, .ref p0, .int i2, .ref a65])) (jq qX13_holds 33 rfl) (jo_ial e72)) ?_
        obtain ⟨b78, H⟩ := jm_O_inv H
        rcases jcI H with ⟨x75, h73, r74, H⟩ | ⟨w79, h80, r74, H⟩
        · refine Eq.trans (jb_nx (i := .invokevirtual 231) (n := 3) (q := (64, [some (.ref p0), some (.int i1), some (.int i2), some (.int i3), some (.int x24)], [.int x75, .int i2, .ref a65])) (jq qX13_holds 34 rfl) (jo_cv (y := mX13_ask) rfl (Nat.le_of_ble_eq_true rfl) rfl (Nat.le_of_ble_eq_true rfl) b78 rfl r74 jo_ret)) ?_
          obtain ⟨h76, e77, H⟩ := jbd H
          refine Eq.trans (jb_nx (i := .iastore) (n := 1) (q := (65, [some (.ref p0), some (.int i1), some (.int i2), some (.int i3), some (.int x24)], [])) (jq qX13_holds 35 rfl) (jo_ias e77)) ?_
          refine Eq.trans (jb_nx (i := .iinc 2 1) (n := 3) (q := (68, [some (.ref p0), some (.int i1), some (.int (i2 + 1)), some (.int i3), some (.int x24)], [])) (jq qX13_holds 36 rfl) rfl) ?_
          refine Eq.trans (jb_nx (i := .goto 88) (n := 3) (q := (156, [some (.ref p0), some (.int i1), some (.int (i2 + 1)), some (.int i3), some (.int x24)], [])) (jq qX13_holds 37 rfl) rfl) ?_
          refine Eq.trans (jb_nx (i := .iinc 3 1) (n := 3) (q := (159, [some (.ref p0), some (.int i1), some (.int (i2 + 1)), some (.int (i3 + 1)), some (.int x24)], [])) (jq qX13_holds 92 rfl) rfl) ?_
          refine Eq.trans (jb_nx (i := .goto (-147)) (n := 3) (q := (12, [some (.ref p0), some (.int i1), some (.int (i2 + 1)), some (.int (i3 + 1)), some (.int x24)], [])) (jq qX13_holds 93 rfl) rfl) ?_
          exact H
        · exact Eq.trans (jb_rt (i := .invokevirtual 231) (n := 3) (jq qX13_holds 34 rfl) (jo_cv (y := mX13_ask) rfl (Nat.le_of_ble_eq_true rfl) rfl (Nat.le_of_ble_eq_true rfl) b78 rfl r74 (jo_exn rfl))) H
    · exact Eq.trans (jb_rt (i := .invokestatic 225) (n := 3) (jq qX13_holds 22 rfl) (jo_cs (y := mX13_isAsked) (w := 1) (by decide) rfl (Nat.le_of_ble_eq_true rfl) rfl (Nat.le_of_ble_eq_true rfl) rfl r27 (jo_exn rfl))) H
  · rw [if_neg c13] at H
    refine Eq.trans (jb_nx (i := .if_icmp .ge 140) (n := 3) (q := (162, [some (.ref p0), some (.int i1), some (.int i2), some (.int i3), o4], [])) (jq qX13_holds 14 rfl) (jo_icT (jz_geT c13) rfl)) ?_
    refine Eq.trans (jb_nx (i := .iload_n 2) (n := 1) (q := (163, [some (.ref p0), some (.int i1), some (.int i2), some (.int i3), o4], [.int i2])) (jq qX13_holds 94 rfl) rfl) ?_
    by_cases c14 : i2 = 0
    · rw [if_pos c14] at H
      refine Eq.trans (jb_nx (i := .ifCond .eq 13) (n := 3) (q := (176, [some (.ref p0), some (.int i1), some (.int i2), some (.int i3), o4], [])) (jq qX13_holds 95 rfl) (jo_ifT (jz_eqT c14) rfl)) ?_
      refine Eq.trans (jb_nx (i := .iconst 1) (n := 1) (q := (177, [some (.ref p0), some (.int i1), some (.int i2), some (.int i3), o4], [.int 1])) (jq qX13_holds 102 rfl) rfl) ?_
      refine Eq.trans (jb_nx (i := .goto 4) (n := 3) (q := (181, [some (.ref p0), some (.int i1), some (.int i2), some (.int i3), o4], [.int 1])) (jq qX13_holds 103 rfl) rfl) ?_
      exact Eq.trans (jb_rt (i := .ireturn) (n := 1) (jq qX13_holds 105 rfl) (jo_iret rfl (by decide))) H
    · rw [if_neg c14] at H
      refine Eq.trans (jb_nx (i := .ifCond .eq 13) (n := 3) (q := (166, [some (.ref p0), some (.int i1), some (.int i2), some (.int i3), o4], [])) (jq qX13_holds 95 rfl) (jo_ifF (jz_eqF c14))) ?_
      refine Eq.trans (jb_nx (i := .aload_n 0) (n := 1) (q := (167, [some (.ref p0), some (.int i1), some (.int i2), some (.int i3), o4], [.ref p0])) (jq qX13_holds 96 rfl) rfl) ?_
      obtain ⟨a15, e16, H⟩ := jbd H
      refine Eq.trans (jb_nx (i := .getfield 65) (n := 3) (q := (170, [some (.ref p0), some (.int i1), some (.int i2), some (.int i3), o4], [.ref a15])) (jq qX13_holds 97 rfl) (jo_gf rfl (jr_R_inv e16))) ?_
      refine Eq.trans (jb_nx (i := .iconst 0) (n := 1) (q := (171, [some (.ref p0), some (.int i1), some (.int i2), some (.int i3), o4], [.int 0, .ref a15])) (jq qX13_holds 98 rfl) rfl) ?_
      obtain ⟨x17, e18, H⟩ := jbd H
      refine Eq.trans (jb_nx (i := .iaload) (n := 1) (q := (172, [some (.ref p0), some (.int i1), some (.int i2), some (.int i3), o4], [.int x17])) (jq qX13_holds 99 rfl) (jo_ial e18)) ?_
      refine Eq.trans (jb_nx (i := .iconst 1) (n := 1) (q := (173, [some (.ref p0), some (.int i1), some (.int i2), some (.int i3), o4], [.int 1, .int x17])) (jq qX13_holds 100 rfl) rfl) ?_
      by_cases c19 : x17 = 1
      · rw [if_pos c19] at H
        refine Eq.trans (jb_nx (i := .if_icmp .ne 7) (n := 3) (q := (176, [some (.ref p0), some (.int i1), some (.int i2), some (.int i3), o4], [])) (jq qX13_holds 101 rfl) (jo_icF (jz_neF c19))) ?_
        refine Eq.trans (jb_nx (i := .iconst 1) (n := 1) (q := (177, [some (.ref p0), some (.int i1), some (.int i2), some (.int i3), o4], [.int 1])) (jq qX13_holds 102 rfl) rfl) ?_
        refine Eq.trans (jb_nx (i := .goto 4) (n := 3) (q := (181, [some (.ref p0), some (.int i1), some (.int i2), some (.int i3), o4], [.int 1])) (jq qX13_holds 103 rfl) rfl) ?_
        exact Eq.trans (jb_rt (i := .ireturn) (n := 1) (jq qX13_holds 105 rfl) (jo_iret rfl (by decide))) H
      · rw [if_neg c19] at H
        refine Eq.trans (jb_nx (i := .if_icmp .ne 7) (n := 3) (q := (180, [some (.ref p0), some (.int i1), some (.int i2), some (.int i3), o4], [])) (jq qX13_holds 101 rfl) (jo_icT (jz_neT c19) rfl)) ?_
        refine Eq.trans (jb_nx (i := .iconst 0) (n := 1) (q := (181, [some (.ref p0), some (.int i1), some (.int i2), some (.int i3), o4], [.int 0])) (jq qX13_holds 104 rfl) rfl) ?_
        exact Eq.trans (jb_rt (i := .ireturn) (n := 1) (jq qX13_holds 105 rfl) (jo_iret rfl (by decide))) H
theorem gX13_holds {d : Nat} {p0 : Nat} {i1 : Int32} {h : jm_H} {r : jm_R} (H : ((jr_R h p0 12 4 2).bind fun a1 => (jr_R h a1 11 16 2).bind fun a3 => (jm_ali h a3 0 i1).bind fun x5 => kX13_holds_12 d p0 i1 0 x5 none h) = some r) : jm_D (d + 1) mX13_holds [.ref p0, .int i1] h = some r := by
  rw [jm_D_body (Nat.le_of_ble_eq_true rfl)]
  show jm_B d mX13_holds (0, [some (.ref p0), some (.int i1), none, none, none], []) h = some r
  refine Eq.trans (jb_nx (i := .iconst 0) (n := 1) (q := (1, [some (.ref p0), some (.int i1), none, none, none], [.int 0])) (jq qX13_holds 0 rfl) rfl) ?_
  refine Eq.trans (jb_nx (i := .istore_n 2) (n := 1) (q := (2, [some (.ref p0), some (.int i1), some (.int 0), none, none], [])) (jq qX13_holds 1 rfl) rfl) ?_
  refine Eq.trans (jb_nx (i := .aload_n 0) (n := 1) (q := (3, [some (.ref p0), some (.int i1), some (.int 0), none, none], [.ref p0])) (jq qX13_holds 2 rfl) rfl) ?_
  obtain ⟨a1, e2, H⟩ := jbd H
  refine Eq.trans (jb_nx (i := .getfield 20) (n := 3) (q := (6, [some (.ref p0), some (.int i1), some (.int 0), none, none], [.ref a1])) (jq qX13_holds 3 rfl) (jo_gf rfl (jr_R_inv e2))) ?_
  obtain ⟨a3, e4, H⟩ := jbd H
  refine Eq.trans (jb_nx (i := .getfield 216) (n := 3) (q := (9, [some (.ref p0), some (.int i1), some (.int 0), none, none], [.ref a3])) (jq qX13_holds 4 rfl) (jo_gf rfl (jr_R_inv e4))) ?_
  refine Eq.trans (jb_nx (i := .iload_n 1) (n := 1) (q := (10, [some (.ref p0), some (.int i1), some (.int 0), none, none], [.int i1, .ref a3])) (jq qX13_holds 5 rfl) rfl) ?_
  obtain ⟨x5, e6, H⟩ := jbd H
  refine Eq.trans (jb_nx (i := .iaload) (n := 1) (q := (11, [some (.ref p0), some (.int i1), some (.int 0), none, none], [.int x5])) (jq qX13_holds 6 rfl) (jo_ial e6)) ?_
  refine Eq.trans (jb_nx (i := .istore_n 3) (n := 1) (q := (12, [some (.ref p0), some (.int i1), some (.int 0), some (.int x5), none], [])) (jq qX13_holds 7 rfl) rfl) ?_
  exact H
/-! MaskPlaysModel isAsked (I)Z -/
def tX13_isAsked : List (Nat × Instr × Nat) := [(0, .iload_n 0, 1), (1, .bipush 100, 2), (3, .if_icmp .eq 14, 3), (6, .iload_n 0, 1), (7, .bipush 9, 2), (9, .bipush 14, 2), (11, .invokestatic 74, 3), (14, .ifCond .eq 7, 3), (17, .iconst 1, 1), (18, .goto 4, 3), (21, .iconst 0, 1), (22, .ireturn, 1)]
set_option maxRecDepth 100000 in
theorem qX13_isAsked : ∀ q ∈ tX13_isAsked, decode cX13_isAsked q.1 = .ok (q.2.1, q.2.2) := by decide +kernel
theorem gX13_isAsked {d : Nat} {i0 : Int32} {h : jm_H} {r : jm_R} (H : ((if i0 = 100 then some (.inl (some (.int 1)), h) else jc_I (jm_D d mX13_isIn [.int i0, .int 9, .int 14] h) (fun x4 h2 => (if x4 = 0 then some (.inl (some (.int 0)), h2) else some (.inl (some (.int 1)), h2))) jx)) = some r) : jm_D (d + 1) mX13_isAsked [.int i0] h = some r := by
  rw [jm_D_body (Nat.le_of_ble_eq_true rfl)]
  show jm_B d mX13_isAsked (0, [some (.int i0)], []) h = some r
  refine Eq.trans (jb_nx (i := .iload_n 0) (n := 1) (q := (1, [some (.int i0)], [.int i0])) (jq qX13_isAsked 0 rfl) rfl) ?_
  refine Eq.trans (jb_nx (i := .bipush 100) (n := 2) (q := (3, [some (.int i0)], [.int 100, .int i0])) (jq qX13_isAsked 1 rfl) rfl) ?_
  by_cases c1 : i0 = 100
  · rw [if_pos c1] at H
    refine Eq.trans (jb_nx (i := .if_icmp .eq 14) (n := 3) (q := (17, [some (.int i0)], [])) (jq qX13_isAsked 2 rfl) (jo_icT (jz_eqT c1) rfl)) ?_
    refine Eq.trans (jb_nx (i := .iconst 1) (n := 1) (q := (18, [some (.int i0)], [.int 1])) (jq qX13_isAsked 8 rfl) rfl) ?_
    refine Eq.trans (jb_nx (i := .goto 4) (n := 3) (q := (22, [some (.int i0)], [.int 1])) (jq qX13_isAsked 9 rfl) rfl) ?_
    exact Eq.trans (jb_rt (i := .ireturn) (n := 1) (jq qX13_isAsked 11 rfl) (jo_iret rfl (by decide))) H
  · rw [if_neg c1] at H
    refine Eq.trans (jb_nx (i := .if_icmp .eq 14) (n := 3) (q := (6, [some (.int i0)], [])) (jq qX13_isAsked 2 rfl) (jo_icF (jz_eqF c1))) ?_
    refine Eq.trans (jb_nx (i := .iload_n 0) (n := 1) (q := (7, [some (.int i0)], [.int i0])) (jq qX13_isAsked 3 rfl) rfl) ?_
    refine Eq.trans (jb_nx (i := .bipush 9) (n := 2) (q := (9, [some (.int i0)], [.int 9, .int i0])) (jq qX13_isAsked 4 rfl) rfl) ?_
    refine Eq.trans (jb_nx (i := .bipush 14) (n := 2) (q := (11, [some (.int i0)], [.int 14, .int 9, .int i0])) (jq qX13_isAsked 5 rfl) rfl) ?_
    rcases jcI H with ⟨x4, h2, r3, H⟩ | ⟨w6, h7, r3, H⟩
    · refine Eq.trans (jb_nx (i := .invokestatic 74) (n := 3) (q := (14, [some (.int i0)], [.int x4])) (jq qX13_isAsked 6 rfl) (jo_cs (y := mX13_isIn) (w := 1) (by decide) rfl (Nat.le_of_ble_eq_true rfl) rfl (Nat.le_of_ble_eq_true rfl) rfl r3 jo_ret)) ?_
      by_cases c5 : x4 = 0
      · rw [if_pos c5] at H
        refine Eq.trans (jb_nx (i := .ifCond .eq 7) (n := 3) (q := (21, [some (.int i0)], [])) (jq qX13_isAsked 7 rfl) (jo_ifT (jz_eqT c5) rfl)) ?_
        refine Eq.trans (jb_nx (i := .iconst 0) (n := 1) (q := (22, [some (.int i0)], [.int 0])) (jq qX13_isAsked 10 rfl) rfl) ?_
        exact Eq.trans (jb_rt (i := .ireturn) (n := 1) (jq qX13_isAsked 11 rfl) (jo_iret rfl (by decide))) H
      · rw [if_neg c5] at H
        refine Eq.trans (jb_nx (i := .ifCond .eq 7) (n := 3) (q := (17, [some (.int i0)], [])) (jq qX13_isAsked 7 rfl) (jo_ifF (jz_eqF c5))) ?_
        refine Eq.trans (jb_nx (i := .iconst 1) (n := 1) (q := (18, [some (.int i0)], [.int 1])) (jq qX13_isAsked 8 rfl) rfl) ?_
        refine Eq.trans (jb_nx (i := .goto 4) (n := 3) (q := (22, [some (.int i0)], [.int 1])) (jq qX13_isAsked 9 rfl) rfl) ?_
        exact Eq.trans (jb_rt (i := .ireturn) (n := 1) (jq qX13_isAsked 11 rfl) (jo_iret rfl (by decide))) H
    · exact Eq.trans (jb_rt (i := .invokestatic 74) (n := 3) (jq qX13_isAsked 6 rfl) (jo_cs (y := mX13_isIn) (w := 1) (by decide) rfl (Nat.le_of_ble_eq_true rfl) rfl (Nat.le_of_ble_eq_true rfl) rfl r3 (jo_exn rfl))) H
/-! MaskPlaysModel ask (II)I -/
def tX13_ask : List (Nat × Instr × Nat) := [(0, .iload_n 1, 1), (1, .lookupswitch 100 #[(9, 61), (10, 66), (11, 73), (12, 79), (13, 86), (100, 59)], 59), (60, .iload_n 2, 1), (61, .ireturn, 1), (62, .aload_n 0, 1), (63, .getfield 192, 3), (66, .ireturn, 1), (67, .aload_n 0, 1), (68, .getfield 28, 3), (71, .iload_n 2, 1), (72, .iaload, 1), (73, .ireturn, 1), (74, .aload_n 0, 1), (75, .iload_n 2, 1), (76, .invokevirtual 195, 3), (79, .ireturn, 1), (80, .aload_n 0, 1), (81, .getfield 31, 3), (84, .iload_n 2, 1), (85, .iaload, 1), (86, .ireturn, 1), (87, .aload_n 0, 1), (88, .iload_n 2, 1), (89, .invokevirtual 198, 3), (92, .ifCond .eq 7, 3), (95, .iconst 1, 1), (96, .goto 4, 3), (99, .iconst 0, 1), (100, .ireturn, 1), (101, .aload_n 0, 1), (102, .iload_n 2, 1), (103, .bipush 12, 2), (105, .idiv, 1), (106, .iload_n 2, 1), (107, .bipush 12, 2), (109, .irem, 1), (110, .invokevirtual 201, 3), (113, .ifCond .eq 7, 3), (116, .iconst 1, 1), (117, .goto 4, 3), (120, .iconst 0, 1), (121, .ireturn, 1)]
set_option maxRecDepth 100000 in
theorem qX13_ask : ∀ q ∈ tX13_ask, decode cX13_ask q.1 = .ok (q.2.1, q.2.2) := by decide +kernel
theorem gX13_ask {d : Nat} {p0 : Nat} {i1 : Int32} {i2 : Int32} {h : jm_H} {r : jm_R} (H : ((if i1 = 9 then (jr_I h p0 12 14 0).bind fun x2 => some (.inl (some (.int x2)), h) else (if i1 = 10 then (jr_R h p0 12 9 2).bind fun a5 => (jm_ali h a5 0 i2).bind fun x7 => some (.inl (some (.int x7)), h) else (if i1 = 11 then jm_O h p0 13 (jc_I (jm_D d mX13_masksOf [.ref p0, .int i2] h) (fun x12 h10 => some (.inl (some (.int x12)), h10)) jx) else (if i1 = 12 then (jr_R h p0 12 10 2).bind fun a17 => (jm_ali h a17 0 i2).bind fun x19 => some (.inl (some (.int x19)), h) else (if i1 = 13 then jm_O h p0 13 (jc_I (jm_D d mX13_finished [.ref p0, .int i2] h) (fun x24 h22 => (if x24 = 0 then some (.inl (some (.int 0)), h22) else some (.inl (some (.int 1)), h22))) jx) else (if i1 = 100 then some (.inl (some (.int i2)), h) else jm_O h p0 13 (jc_I (jm_D d mX13_same [.ref p0, .int (i2 / 12), .int (i2 - i2 / 12 * 12)] h) (fun x32 h30 => (if x32 = 0 then some (.inl (some (.int 0)), h30) else some (.inl (some (.int 1)), h30))) jx)))))))) = some r) : jm_D (d + 1) mX13_ask [.ref p0, .int i1, .int i2] h = some r := by
  rw [jm_D_body (Nat.le_of_ble_eq_true rfl)]
  show jm_B d mX13_ask (0, [some (.ref p0), some (.int i1), some (.int i2)], []) h = some r
  refine Eq.trans (jb_nx (i := .iload_n 1) (n := 1) (q := (1, [some (.ref p0), some (.int i1), some (.int i2)], [.int i1])) (jq qX13_ask 0 rfl) rfl) ?_
  by_cases c1 : i1 = 9
  · rw [if_pos c1] at H
    refine Eq.trans (jb_nx (i := .lookupswitch 100 #[(9, 61), (10, 66), (11, 73), (12, 79), (13, 86), (100, 59)]) (n := 59) (q := (62, [some (.ref p0), some (.int i1), some (.int i2)], [])) (jq qX13_ask 1 rfl) (by rw [c1]; rfl)) ?_
    refine Eq.trans (jb_nx (i := .aload_n 0) (n := 1) (q := (63, [some (.ref p0), some (.int i1), some (.int i2)], [.ref p0])) (jq qX13_ask 4 rfl) rfl) ?_
    obtain ⟨x2, e3, H⟩ := jbd H
    refine Eq.trans (jb_nx (i := .getfield 192) (n := 3) (q := (66, [some (.ref p0), some (.int i1), some (.int i2)], [.int x2])) (jq qX13_ask 5 rfl) (jo_gf rfl (jr_I_inv e3))) ?_
    exact Eq.trans (jb_rt (i := .ireturn) (n := 1) (jq qX13_ask 6 rfl) (jo_iret rfl rfl)) H
  · rw [if_neg c1] at H
    by_cases c4 : i1 = 10
    · rw [if_pos c4] at H
      refine Eq.trans (jb_nx (i := .lookupswitch 100 #[(9, 61), (10, 66), (11, 73), (12, 79), (13, 86), (100, 59)]) (n := 59) (q := (67, [some (.ref p0), some (.int i1), some (.int i2)], [])) (jq qX13_ask 1 rfl) (by rw [c4]; rfl)) ?_
      refine Eq.trans (jb_nx (i := .aload_n 0) (n := 1) (q := (68, [some (.ref p0), some (.int i1), some (.int i2)], [.ref p0])) (jq qX13_ask 7 rfl) rfl) ?_
      obtain ⟨a5, e6, H⟩ := jbd H
      refine Eq.trans (jb_nx (i := .getfield 28) (n := 3) (q := (71, [some (.ref p0), some (.int i1), some (.int i2)], [.ref a5])) (jq qX13_ask 8 rfl) (jo_gf rfl (jr_R_inv e6))) ?_
      refine Eq.trans (jb_nx (i := .iload_n 2) (n := 1) (q := (72, [some (.ref p0), some (.int i1), some (.int i2)], [.int i2, .ref a5])) (jq qX13_ask 9 rfl) rfl) ?_
      obtain ⟨x7, e8, H⟩ := jbd H
      refine Eq.trans (jb_nx (i := .iaload) (n := 1) (q := (73, [some (.ref p0), some (.int i1), some (.int i2)], [.int x7])) (jq qX13_ask 10 rfl) (jo_ial e8)) ?_
      exact Eq.trans (jb_rt (i := .ireturn) (n := 1) (jq qX13_ask 11 rfl) (jo_iret rfl rfl)) H
    · rw [if_neg c4] at H
      by_cases c9 : i1 = 11
      · rw [if_pos c9] at H
        refine Eq.trans (jb_nx (i := .lookupswitch 100 #[(9, 61), (10, 66), (11, 73), (12, 79), (13, 86), (100, 59)]) (n := 59) (q := (74, [some (.ref p0), some (.int i1), some (.int i2)], [])) (jq qX13_ask 1 rfl) (by rw [c9]; rfl)) ?_
        refine Eq.trans (jb_nx (i := .aload_n 0) (n := 1) (q := (75, [some (.ref p0), some (.int i1), some (.int i2)], [.ref p0])) (jq qX13_ask 12 rfl) rfl) ?_
        refine Eq.trans (jb_nx (i := .iload_n 2) (n := 1) (q := (76, [some (.ref p0), some (.int i1), some (.int i2)], [.int i2, .ref p0])) (jq qX13_ask 13 rfl) rfl) ?_
        obtain ⟨b13, H⟩ := jm_O_inv H
        rcases jcI H with ⟨x12, h10, r11, H⟩ | ⟨w14, h15, r11, H⟩
        · refine Eq.trans (jb_nx (i := .invokevirtual 195) (n := 3) (q := (79, [some (.ref p0), some (.int i1), some (.int i2)], [.int x12])) (jq qX13_ask 14 rfl) (jo_cv (y := mX13_masksOf) rfl (Nat.le_of_ble_eq_true rfl) rfl (Nat.le_of_ble_eq_true rfl) b13 rfl r11 jo_ret)) ?_
          exact Eq.trans (jb_rt (i := .ireturn) (n := 1) (jq qX13_ask 15 rfl) (jo_iret rfl rfl)) H
        · exact Eq.trans (jb_rt (i := .invokevirtual 195) (n := 3) (jq qX13_ask 14 rfl) (jo_cv (y := mX13_masksOf) rfl (Nat.le_of_ble_eq_true rfl) rfl (Nat.le_of_ble_eq_true rfl) b13 rfl r11 (jo_exn rfl))) H
      · rw [if_neg c9] at H
        by_cases c16 : i1 = 12
        · rw [if_pos c16] at H
          refine Eq.trans (jb_nx (i := .lookupswitch 100 #[(9, 61), (10, 66), (11, 73), (12, 79), (13, 86), (100, 59)]) (n := 59) (q := (80, [some (.ref p0), some (.int i1), some (.int i2)], [])) (jq qX13_ask 1 rfl) (by rw [c16]; rfl)) ?_
          refine Eq.trans (jb_nx (i := .aload_n 0) (n := 1) (q := (81, [some (.ref p0), some (.int i1), some (.int i2)], [.ref p0])) (jq qX13_ask 16 rfl) rfl) ?_
          obtain ⟨a17, e18, H⟩ := jbd H
          refine Eq.trans (jb_nx (i := .getfield 31) (n := 3) (q := (84, [some (.ref p0), some (.int i1), some (.int i2)], [.ref a17])) (jq qX13_ask 17 rfl) (jo_gf rfl (jr_R_inv e18))) ?_
          refine Eq.trans (jb_nx (i := .iload_n 2) (n := 1) (q := (85, [some (.ref p0), some (.int i1), some (.int i2)], [.int i2, .ref a17])) (jq qX13_ask 18 rfl) rfl) ?_
          obtain ⟨x19, e20, H⟩ := jbd H
          refine Eq.trans (jb_nx (i := .iaload) (n := 1) (q := (86, [some (.ref p0), some (.int i1), some (.int i2)], [.int x19])) (jq qX13_ask 19 rfl) (jo_ial e20)) ?_
          exact Eq.trans (jb_rt (i := .ireturn) (n := 1) (jq qX13_ask 20 rfl) (jo_iret rfl rfl)) H
        · rw [if_neg c16] at H
          by_cases c21 : i1 = 13
          · rw [if_pos c21] at H
            refine Eq.trans (jb_nx (i := .lookupswitch 100 #[(9, 61), (10, 66), (11, 73), (12, 79), (13, 86), (100, 59)]) (n := 59) (q := (87, [some (.ref p0), some (.int i1), some (.int i2)], [])) (jq qX13_ask 1 rfl) (by rw [c21]; rfl)) ?_
            refine Eq.trans (jb_nx (i := .aload_n 0) (n := 1) (q := (88, [some (.ref p0), some (.int i1), some (.int i2)], [.ref p0])) (jq qX13_ask 21 rfl) rfl) ?_
            refine Eq.trans (jb_nx (i := .iload_n 2) (n := 1) (q := (89, [some (.ref p0), some (.int i1), some (.int i2)], [.int i2, .ref p0])) (jq qX13_ask 22 rfl) rfl) ?_
            obtain ⟨b26, H⟩ := jm_O_inv H
            rcases jcI H with ⟨x24, h22, r23, H⟩ | ⟨w27, h28, r23, H⟩
            · refine Eq.trans (jb_nx (i := .invokevirtual 198) (n := 3) (q := (92, [some (.ref p0), some (.int i1), some (.int i2)], [.int x24])) (jq qX13_ask 23 rfl) (jo_cv (y := mX13_finished) rfl (Nat.le_of_ble_eq_true rfl) rfl (Nat.le_of_ble_eq_true rfl) b26 rfl r23 jo_ret)) ?_
              by_cases c25 : x24 = 0
              · rw [if_pos c25] at H
                refine Eq.trans (jb_nx (i := .ifCond .eq 7) (n := 3) (q := (99, [some (.ref p0), some (.int i1), some (.int i2)], [])) (jq qX13_ask 24 rfl) (jo_ifT (jz_eqT c25) rfl)) ?_
                refine Eq.trans (jb_nx (i := .iconst 0) (n := 1) (q := (100, [some (.ref p0), some (.int i1), some (.int i2)], [.int 0])) (jq qX13_ask 27 rfl) rfl) ?_
                exact Eq.trans (jb_rt (i := .ireturn) (n := 1) (jq qX13_ask 28 rfl) (jo_iret rfl rfl)) H
              · rw [if_neg c25] at H
                refine Eq.trans (jb_nx (i := .ifCond .eq 7) (n := 3) (q := (95, [some (.ref p0), some (.int i1), some (.int i2)], [])) (jq qX13_ask 24 rfl) (jo_ifF (jz_eqF c25))) ?_
                refine Eq.trans (jb_nx (i := .iconst 1) (n := 1) (q := (96, [some (.ref p0), some (.int i1), some (.int i2)], [.int 1])) (jq qX13_ask 25 rfl) rfl) ?_
                refine Eq.trans (jb_nx (i := .goto 4) (n := 3) (q := (100, [some (.ref p0), some (.int i1), some (.int i2)], [.int 1])) (jq qX13_ask 26 rfl) rfl) ?_
                exact Eq.trans (jb_rt (i := .ireturn) (n := 1) (jq qX13_ask 28 rfl) (jo_iret rfl rfl)) H
            · exact Eq.trans (jb_rt (i := .invokevirtual 198) (n := 3) (jq qX13_ask 23 rfl) (jo_cv (y := mX13_finished) rfl (Nat.le_of_ble_eq_true rfl) rfl (Nat.le_of_ble_eq_true rfl) b26 rfl r23 (jo_exn rfl))) H
          · rw [if_neg c21] at H
            by_cases c29 : i1 = 100
            · rw [if_pos c29] at H
              refine Eq.trans (jb_nx (i := .lookupswitch 100 #[(9, 61), (10, 66), (11, 73), (12, 79), (13, 86), (100, 59)]) (n := 59) (q := (60, [some (.ref p0), some (.int i1), some (.int i2)], [])) (jq qX13_ask 1 rfl) (by rw [c29]; rfl)) ?_
              refine Eq.trans (jb_nx (i := .iload_n 2) (n := 1) (q := (61, [some (.ref p0), some (.int i1), some (.int i2)], [.int i2])) (jq qX13_ask 2 rfl) rfl) ?_
              exact Eq.trans (jb_rt (i := .ireturn) (n := 1) (jq qX13_ask 3 rfl) (jo_iret rfl rfl)) H
            · rw [if_neg c29] at H
              refine Eq.trans (jb_nx (i := .lookupswitch 100 #[(9, 61), (10, 66), (11, 73), (12, 79), (13, 86), (100, 59)]) (n := 59) (q := (101, [some (.ref p0), some (.int i1), some (.int i2)], [])) (jq qX13_ask 1 rfl) (jo_lookD (by decide +kernel) (by intro p hp; simp only [List.mem_cons, List.not_mem_nil, or_false] at hp; rcases hp with rfl | rfl | rfl | rfl | rfl | rfl; { exact jz_ti rfl c1 }; { exact jz_ti rfl c4 }; { exact jz_ti rfl c9 }; { exact jz_ti rfl c16 }; { exact jz_ti rfl c21 }; { exact jz_ti rfl c29 }) rfl)) ?_
              refine Eq.trans (jb_nx (i := .aload_n 0) (n := 1) (q := (102, [some (.ref p0), some (.int i1), some (.int i2)], [.ref p0])) (jq qX13_ask 29 rfl) rfl) ?_
              refine Eq.trans (jb_nx (i := .iload_n 2) (n := 1) (q := (103, [some (.ref p0), some (.int i1), some (.int i2)], [.int i2, .ref p0])) (jq qX13_ask 30 rfl) rfl) ?_
              refine Eq.trans (jb_nx (i := .bipush 12) (n := 2) (q := (105, [some (.ref p0), some (.int i1), some (.int i2)], [.int 12, .int i2, .ref p0])) (jq qX13_ask 31 rfl) rfl) ?_
              refine Eq.trans (jb_nx (i := .idiv) (n := 1) (q := (106, [some (.ref p0), some (.int i1), some (.int i2)], [.int (i2 / 12), .ref p0])) (jq qX13_ask 32 rfl) (jo_idiv (by decide))) ?_
              refine Eq.trans (jb_nx (i := .iload_n 2) (n := 1) (q := (107, [some (.ref p0), some (.int i1), some (.int i2)], [.int i2, .int (i2 / 12), .ref p0])) (jq qX13_ask 33 rfl) rfl) ?_
              refine Eq.trans (jb_nx (i := .bipush 12) (n := 2) (q := (109, [some (.ref p0), some (.int i1), some (.int i2)], [.int 12, .int i2, .int (i2 / 12), .ref p0])) (jq qX13_ask 34 rfl) rfl) ?_
              refine Eq.trans (jb_nx (i := .irem) (n := 1) (q := (110, [some (.ref p0), some (.int i1), some (.int i2)], [.int (i2 - i2 / 12 * 12), .int (i2 / 12), .ref p0])) (jq qX13_ask 35 rfl) (jo_irem (by decide))) ?_
              obtain ⟨b34, H⟩ := jm_O_inv H
              rcases jcI H with ⟨x32, h30, r31, H⟩ | ⟨w35, h36, r31, H⟩
              · refine Eq.trans (jb_nx (i := .invokevirtual 201) (n := 3) (q := (113, [some (.ref p0), some (.int i1), some (.int i2)], [.int x32])) (jq qX13_ask 36 rfl) (jo_cv (y := mX13_same) rfl (Nat.le_of_ble_eq_true rfl) rfl (Nat.le_of_ble_eq_true rfl) b34 rfl r31 jo_ret)) ?_
                by_cases c33 : x32 = 0
                · rw [if_pos c33] at H
                  refine Eq.trans (jb_nx (i := .ifCond .eq 7) (n := 3) (q := (120, [some (.ref p0), some (.int i1), some (.int i2)], [])) (jq qX13_ask 37 rfl) (jo_ifT (jz_eqT c33) rfl)) ?_
                  refine Eq.trans (jb_nx (i := .iconst 0) (n := 1) (q := (121, [some (.ref p0), some (.int i1), some (.int i2)], [.int 0])) (jq qX13_ask 40 rfl) rfl) ?_
                  exact Eq.trans (jb_rt (i := .ireturn) (n := 1) (jq qX13_ask 41 rfl) (jo_iret rfl rfl)) H
                · rw [if_neg c33] at H
                  refine Eq.trans (jb_nx (i := .ifCond .eq 7) (n := 3) (q := (116, [some (.ref p0), some (.int i1), some (.int i2)], [])) (jq qX13_ask 37 rfl) (jo_ifF (jz_eqF c33))) ?_
                  refine Eq.trans (jb_nx (i := .iconst 1) (n := 1) (q := (117, [some (.ref p0), some (.int i1), some (.int i2)], [.int 1])) (jq qX13_ask 38 rfl) rfl) ?_
                  refine Eq.trans (jb_nx (i := .goto 4) (n := 3) (q := (121, [some (.ref p0), some (.int i1), some (.int i2)], [.int 1])) (jq qX13_ask 39 rfl) rfl) ?_
                  exact Eq.trans (jb_rt (i := .ireturn) (n := 1) (jq qX13_ask 41 rfl) (jo_iret rfl rfl)) H
              · exact Eq.trans (jb_rt (i := .invokevirtual 201) (n := 3) (jq qX13_ask 36 rfl) (jo_cv (y := mX13_same) rfl (Nat.le_of_ble_eq_true rfl) rfl (Nat.le_of_ble_eq_true rfl) b34 rfl r31 (jo_exn rfl))) H
/-! MaskPlaysModel reckon (III)I -/
def tX13_reckon : List (Nat × Instr × Nat) := [(0, .iload_n 0, 1), (1, .lookupswitch 217 #[(16, 213), (18, 131), (19, 137), (101, 107), (102, 111), (103, 115), (104, 119), (106, 143), (107, 157), (108, 171), (109, 185), (110, 199)], 107), (108, .iload_n 1, 1), (109, .iload_n 2, 1), (110, .iadd, 1), (111, .ireturn, 1), (112, .iload_n 1, 1), (113, .iload_n 2, 1), (114, .isub, 1), (115, .ireturn, 1), (116, .iload_n 1, 1), (117, .iload_n 2, 1), (118, .imul, 1), (119, .ireturn, 1), (120, .iload_n 2, 1), (121, .ifCond .ne 7, 3), (124, .iconst 0, 1), (125, .goto 6, 3), (128, .iload_n 1, 1), (129, .iload_n 2, 1), (130, .idiv, 1), (131, .ireturn, 1), (132, .iload_n 1, 1), (133, .iload_n 2, 1), (134, .invokestatic 204, 3), (137, .ireturn, 1), (138, .iload_n 1, 1), (139, .iload_n 2, 1), (140, .invokestatic 209, 3), (143, .ireturn, 1), (144, .iload_n 1, 1), (145, .iload_n 2, 1), (146, .if_icmp .ge 7, 3), (149, .iconst 1, 1), (150, .goto 4, 3), (153, .iconst 0, 1), (154, .invokestatic 212, 3), (157, .ireturn, 1), (158, .iload_n 1, 1), (159, .iload_n 2, 1), (160, .if_icmp .le 7, 3), (163, .iconst 1, 1), (164, .goto 4, 3), (167, .iconst 0, 1), (168, .invokestatic 212, 3), (171, .ireturn, 1), (172, .iload_n 1, 1), (173, .iload_n 2, 1), (174, .if_icmp .ne 7, 3), (177, .iconst 1, 1), (178, .goto 4, 3), (181, .iconst 0, 1), (182, .invokestatic 212, 3), (185, .ireturn, 1), (186, .iload_n 1, 1), (187, .iload_n 2, 1), (188, .if_icmp .gt 7, 3), (191, .iconst 1, 1), (192, .goto 4, 3), (195, .iconst 0, 1), (196, .invokestatic 212, 3), (199, .ireturn, 1), (200, .iload_n 1, 1), (201, .iload_n 2, 1), (202, .if_icmp .lt 7, 3), (205, .iconst 1, 1), (206, .goto 4, 3), (209, .iconst 0, 1), (210, .invokestatic 212, 3), (213, .ireturn, 1), (214, .iload_n 1, 1), (215, .iload_n 2, 1), (216, .iand, 1), (217, .ireturn, 1), (218, .iload_n 1, 1), (219, .iload_n 2, 1), (220, .ior, 1), (221, .ireturn, 1)]
set_option maxRecDepth 100000 in
theorem qX13_reckon : ∀ q ∈ tX13_reckon, decode cX13_reckon q.1 = .ok (q.2.1, q.2.2) := by decide +kernel
theorem gX13_reckon {d : Nat} {i0 : Int32} {i1 : Int32} {i2 : Int32} {h : jm_H} {r : jm_R} (H : ((if i0 = 16 then some (.inl (some (.int (i1 &&& i2))), h) else (if i0 = 18 then some (.inl (some (.int (if i2 < i1 then i2 else i1))), h) else (if i0 = 19 then some (.inl (some (.int (if i1 < i2 then i2 else i1))), h) else (if i0 = 101 then some (.inl (some (.int (i1 + i2))), h) else (if i0 = 102 then some (.inl (some (.int (i1 - i2))), h) else (if i0 = 103 then some (.inl (some (.int (i1 * i2))), h) else (if i0 = 104 then (if i2 = 0 then some (.inl (some (.int 0)), h) else (if i2 = 0 then none else some (.inl (some (.int (i1 / i2))), h))) else (if i0 = 106 then (if i1 < i2 then jc_I (jm_D d mX13_one [.int 1] h) (fun x19 h17 => some (.inl (some (.int x19)), h17)) jx else jc_I (jm_D d mX13_one [.int 0] h) (fun x14 h12 => some (.inl (some (.int x14)), h12)) jx) else (if i0 = 107 then (if i2 < i1 then jc_I (jm_D d mX13_one [.int 1] h) (fun x31 h29 => some (.inl (some (.int x31)), h29)) jx else jc_I (jm_D d mX13_one [.int 0] h) (fun x26 h24 => some (.inl (some (.int x26)), h24)) jx) else (if i0 = 108 then (if i1 = i2 then jc_I (jm_D d mX13_one [.int 1] h) (fun x43 h41 => some (.inl (some (.int x43)), h41)) jx else jc_I (jm_D d mX13_one [.int 0] h) (fun x38 h36 => some (.inl (some (.int x38)), h36)) jx) else (if i0 = 109 then (if i2 < i1 then jc_I (jm_D d mX13_one [.int 0] h) (fun x50 h48 => some (.inl (some (.int x50)), h48)) jx else jc_I (jm_D d mX13_one [.int 1] h) (fun x55 h53 => some (.inl (some (.int x55)), h53)) jx) else (if i0 = 110 then (if i1 < i2 then jc_I (jm_D d mX13_one [.int 0] h) (fun x62 h60 => some (.inl (some (.int x62)), h60)) jx else jc_I (jm_D d mX13_one [.int 1] h) (fun x67 h65 => some (.inl (some (.int x67)), h65)) jx) else some (.inl (some (.int (i1 ||| i2))), h)))))))))))))) = some r) : jm_D (d + 1) mX13_reckon [.int i0, .int i1, .int i2] h = some r := by
  rw [jm_D_body (Nat.le_of_ble_eq_true rfl)]
  show jm_B d mX13_reckon (0, [some (.int i0), some (.int i1), some (.int i2)], []) h = some r
  refine Eq.trans (jb_nx (i := .iload_n 0) (n := 1) (q := (1, [some (.int i0), some (.int i1), some (.int i2)], [.int i0])) (jq qX13_reckon 0 rfl) rfl) ?_
  by_cases c1 : i0 = 16
  · rw [if_pos c1] at H
    refine Eq.trans (jb_nx (i := .lookupswitch 217 #[(16, 213), (18, 131), (19, 137), (101, 107), (102, 111), (103, 115), (104, 119), (106, 143), (107, 157), (108, 171), (109, 185), (110, 199)]) (n := 107) (q := (214, [some (.int i0), some (.int i1), some (.int i2)], [])) (jq qX13_reckon 1 rfl) (by rw [c1]; rfl)) ?_
    refine Eq.trans (jb_nx (i := .iload_n 1) (n := 1) (q := (215, [some (.int i0), some (.int i1), some (.int i2)], [.int i1])) (jq qX13_reckon 70 rfl) rfl) ?_
    refine Eq.trans (jb_nx (i := .iload_n 2) (n := 1) (q := (216, [some (.int i0), some (.int i1), some (.int i2)], [.int i2, .int i1])) (jq qX13_reckon 71 rfl) rfl) ?_
    refine Eq.trans (jb_nx (i := .iand) (n := 1) (q := (217, [some (.int i0), some (.int i1), some (.int i2)], [.int (i1 &&& i2)])) (jq qX13_reckon 72 rfl) rfl) ?_
    exact Eq.trans (jb_rt (i := .ireturn) (n := 1) (jq qX13_reckon 73 rfl) (jo_iret rfl rfl)) H
  · rw [if_neg c1] at H
    by_cases c2 : i0 = 18
    · rw [if_pos c2] at H
      refine Eq.trans (jb_nx (i := .lookupswitch 217 #[(16, 213), (18, 131), (19, 137), (101, 107), (102, 111), (103, 115), (104, 119), (106, 143), (107, 157), (108, 171), (109, 185), (110, 199)]) (n := 107) (q := (132, [some (.int i0), some (.int i1), some (.int i2)], [])) (jq qX13_reckon 1 rfl) (by rw [c2]; rfl)) ?_
      refine Eq.trans (jb_nx (i := .iload_n 1) (n := 1) (q := (133, [some (.int i0), some (.int i1), some (.int i2)], [.int i1])) (jq qX13_reckon 22 rfl) rfl) ?_
      refine Eq.trans (jb_nx (i := .iload_n 2) (n := 1) (q := (134, [some (.int i0), some (.int i1), some (.int i2)], [.int i2, .int i1])) (jq qX13_reckon 23 rfl) rfl) ?_
      refine Eq.trans (jb_nx (i := .invokestatic 204) (n := 3) (q := (137, [some (.int i0), some (.int i1), some (.int i2)], [.int (if i2 < i1 then i2 else i1)])) (jq qX13_reckon 24 rfl) (jo_mn (z := mX3_clear) rfl (Nat.le_of_ble_eq_true rfl))) ?_
      exact Eq.trans (jb_rt (i := .ireturn) (n := 1) (jq qX13_reckon 25 rfl) (jo_iret rfl rfl)) H
    · rw [if_neg c2] at H
      by_cases c3 : i0 = 19
      · rw [if_pos c3] at H
        refine Eq.trans (jb_nx (i := .lookupswitch 217 #[(16, 213), (18, 131), (19, 137), (101, 107), (102, 111), (103, 115), (104, 119), (106, 143), (107, 157), (108, 171), (109, 185), (110, 199)]) (n := 107) (q := (138, [some (.int i0), some (.int i1), some (.int i2)], [])) (jq qX13_reckon 1 rfl) (by rw [c3]; rfl)) ?_
        refine Eq.trans (jb_nx (i := .iload_n 1) (n := 1) (q := (139, [some (.int i0), some (.int i1), some (.int i2)], [.int i1])) (jq qX13_reckon 26 rfl) rfl) ?_
        refine Eq.trans (jb_nx (i := .iload_n 2) (n := 1) (q := (140, [some (.int i0), some (.int i1), some (.int i2)], [.int i2, .int i1])) (jq qX13_reckon 27 rfl) rfl) ?_
        refine Eq.trans (jb_nx (i := .invokestatic 209) (n := 3) (q := (143, [some (.int i0), some (.int i1), some (.int i2)], [.int (if i1 < i2 then i2 else i1)])) (jq qX13_reckon 28 rfl) (jo_mx (z := mX3_clear) rfl (Nat.le_of_ble_eq_true rfl))) ?_
        exact Eq.trans (jb_rt (i := .ireturn) (n := 1) (jq qX13_reckon 29 rfl) (jo_iret rfl rfl)) H
      · rw [if_neg c3] at H
        by_cases c4 : i0 = 101
        · rw [if_pos c4] at H
          refine Eq.trans (jb_nx (i := .lookupswitch 217 #[(16, 213), (18, 131), (19, 137), (101, 107), (102, 111), (103, 115), (104, 119), (106, 143), (107, 157), (108, 171), (109, 185), (110, 199)]) (n := 107) (q := (108, [some (.int i0), some (.int i1), some (.int i2)], [])) (jq qX13_reckon 1 rfl) (by rw [c4]; rfl)) ?_
          refine Eq.trans (jb_nx (i := .iload_n 1) (n := 1) (q := (109, [some (.int i0), some (.int i1), some (.int i2)], [.int i1])) (jq qX13_reckon 2 rfl) rfl) ?_
          refine Eq.trans (jb_nx (i := .iload_n 2) (n := 1) (q := (110, [some (.int i0), some (.int i1), some (.int i2)], [.int i2, .int i1])) (jq qX13_reckon 3 rfl) rfl) ?_
          refine Eq.trans (jb_nx (i := .iadd) (n := 1) (q := (111, [some (.int i0), some (.int i1), some (.int i2)], [.int (i1 + i2)])) (jq qX13_reckon 4 rfl) rfl) ?_
          exact Eq.trans (jb_rt (i := .ireturn) (n := 1) (jq qX13_reckon 5 rfl) (jo_iret rfl rfl)) H
        · rw [if_neg c4] at H
          by_cases c5 : i0 = 102
          · rw [if_pos c5] at H
            refine Eq.trans (jb_nx (i := .lookupswitch 217 #[(16, 213), (18, 131), (19, 137), (101, 107), (102, 111), (103, 115), (104, 119), (106, 143), (107, 157), (108, 171), (109, 185), (110, 199)]) (n := 107) (q := (112, [some (.int i0), some (.int i1), some (.int i2)], [])) (jq qX13_reckon 1 rfl) (by rw [c5]; rfl)) ?_
            refine Eq.trans (jb_nx (i := .iload_n 1) (n := 1) (q := (113, [some (.int i0), some (.int i1), some (.int i2)], [.int i1])) (jq qX13_reckon 6 rfl) rfl) ?_
            refine Eq.trans (jb_nx (i := .iload_n 2) (n := 1) (q := (114, [some (.int i0), some (.int i1), some (.int i2)], [.int i2, .int i1])) (jq qX13_reckon 7 rfl) rfl) ?_
            refine Eq.trans (jb_nx (i := .isub) (n := 1) (q := (115, [some (.int i0), some (.int i1), some (.int i2)], [.int (i1 - i2)])) (jq qX13_reckon 8 rfl) rfl) ?_
            exact Eq.trans (jb_rt (i := .ireturn) (n := 1) (jq qX13_reckon 9 rfl) (jo_iret rfl rfl)) H
          · rw [if_neg c5] at H
            by_cases c6 : i0 = 103
            · rw [if_pos c6] at H
              refine Eq.trans (jb_nx (i := .lookupswitch 217 #[(16, 213), (18, 131), (19, 137), (101, 107), (102, 111), (103, 115), (104, 119), (106, 143), (107, 157), (108, 171), (109, 185), (110, 199)]) (n := 107) (q := (116, [some (.int i0), some (.int i1), some (.int i2)], [])) (jq qX13_reckon 1 rfl) (by rw [c6]; rfl)) ?_
              refine Eq.trans (jb_nx (i := .iload_n 1) (n := 1) (q := (117, [some (.int i0), some (.int i1), some (.int i2)], [.int i1])) (jq qX13_reckon 10 rfl) rfl) ?_
              refine Eq.trans (jb_nx (i := .iload_n 2) (n := 1) (q := (118, [some (.int i0), some (.int i1), some (.int i2)], [.int i2, .int i1])) (jq qX13_reckon 11 rfl) rfl) ?_
              refine Eq.trans (jb_nx (i := .imul) (n := 1) (q := (119, [some (.int i0), some (.int i1), some (.int i2)], [.int (i1 * i2)])) (jq qX13_reckon 12 rfl) rfl) ?_
              exact Eq.trans (jb_rt (i := .ireturn) (n := 1) (jq qX13_reckon 13 rfl) (jo_iret rfl rfl)) H
            · rw [if_neg c6] at H
              by_cases c7 : i0 = 104
              · rw [if_pos c7] at H
                refine Eq.trans (jb_nx (i := .lookupswitch 217 #[(16, 213), (18, 131), (19, 137), (101, 107), (102, 111), (103, 115), (104, 119), (106, 143), (107, 157), (108, 171), (109, 185), (110, 199)]) (n := 107) (q := (120, [some (.int i0), some (.int i1), some (.int i2)], [])) (jq qX13_reckon 1 rfl) (by rw [c7]; rfl)) ?_
                refine Eq.trans (jb_nx (i := .iload_n 2) (n := 1) (q := (121, [some (.int i0), some (.int i1), some (.int i2)], [.int i2])) (jq qX13_reckon 14 rfl) rfl) ?_
                by_cases c8 : i2 = 0
                · rw [if_pos c8] at H
                  refine Eq.trans (jb_nx (i := .ifCond .ne 7) (n := 3) (q := (124, [some (.int i0), some (.int i1), some (.int i2)], [])) (jq qX13_reckon 15 rfl) (jo_ifF (jz_neF c8))) ?_
                  refine Eq.trans (jb_nx (i := .iconst 0) (n := 1) (q := (125, [some (.int i0), some (.int i1), some (.int i2)], [.int 0])) (jq qX13_reckon 16 rfl) rfl) ?_
                  refine Eq.trans (jb_nx (i := .goto 6) (n := 3) (q := (131, [some (.int i0), some (.int i1), some (.int i2)], [.int 0])) (jq qX13_reckon 17 rfl) rfl) ?_
                  exact Eq.trans (jb_rt (i := .ireturn) (n := 1) (jq qX13_reckon 21 rfl) (jo_iret rfl rfl)) H
                · rw [if_neg c8] at H
                  refine Eq.trans (jb_nx (i := .ifCond .ne 7) (n := 3) (q := (128, [some (.int i0), some (.int i1), some (.int i2)], [])) (jq qX13_reckon 15 rfl) (jo_ifT (jz_neT c8) rfl)) ?_
                  refine Eq.trans (jb_nx (i := .iload_n 1) (n := 1) (q := (129, [some (.int i0), some (.int i1), some (.int i2)], [.int i1])) (jq qX13_reckon 18 rfl) rfl) ?_
                  refine Eq.trans (jb_nx (i := .iload_n 2) (n := 1) (q := (130, [some (.int i0), some (.int i1), some (.int i2)], [.int i2, .int i1])) (jq qX13_reckon 19 rfl) rfl) ?_
                  by_cases c9 : i2 = 0
                  · rw [if_pos c9] at H; cases H
                  · rw [if_neg c9] at H
                    refine Eq.trans (jb_nx (i := .idiv) (n := 1) (q := (131, [some (.int i0), some (.int i1), some (.int i2)], [.int (i1 / i2)])) (jq qX13_reckon 20 rfl) (jo_idiv c9)) ?_
                    exact Eq.trans (jb_rt (i := .ireturn) (n := 1) (jq qX13_reckon 21 rfl) (jo_iret rfl rfl)) H
              · rw [if_neg c7] at H
                by_cases c10 : i0 = 106
                · rw [if_pos c10] at H
                  refine Eq.trans (jb_nx (i := .lookupswitch 217 #[(16, 213), (18, 131), (19, 137), (101, 107), (102, 111), (103, 115), (104, 119), (106, 143), (107, 157), (108, 171), (109, 185), (110, 199)]) (n := 107) (q := (144, [some (.int i0), some (.int i1), some (.int i2)], [])) (jq qX13_reckon 1 rfl) (by rw [c10]; rfl)) ?_
                  refine Eq.trans (jb_nx (i := .iload_n 1) (n := 1) (q := (145, [some (.int i0), some (.int i1), some (.int i2)], [.int i1])) (jq qX13_reckon 30 rfl) rfl) ?_
                  refine Eq.trans (jb_nx (i := .iload_n 2) (n := 1) (q := (146, [some (.int i0), some (.int i1), some (.int i2)], [.int i2, .int i1])) (jq qX13_reckon 31 rfl) rfl) ?_
                  by_cases c11 : i1 < i2
                  · rw [if_pos c11] at H
                    refine Eq.trans (jb_nx (i := .if_icmp .ge 7) (n := 3) (q := (149, [some (.int i0), some (.int i1), some (.int i2)], [])) (jq qX13_reckon 32 rfl) (jo_icF (jz_geF c11))) ?_
                    refine Eq.trans (jb_nx (i := .iconst 1) (n := 1) (q := (150, [some (.int i0), some (.int i1), some (.int i2)], [.int 1])) (jq qX13_reckon 33 rfl) rfl) ?_
                    refine Eq.trans (jb_nx (i := .goto 4) (n := 3) (q := (154, [some (.int i0), some (.int i1), some (.int i2)], [.int 1])) (jq qX13_reckon 34 rfl) rfl) ?_
                    rcases jcI H with ⟨x19, h17, r18, H⟩ | ⟨w20, h21, r18, H⟩
                    · refine Eq.trans (jb_nx (i := .invokestatic 212) (n := 3) (q := (157, [some (.int i0), some (.int i1), some (.int i2)], [.int x19])) (jq qX13_reckon 36 rfl) (jo_cs (y := mX13_one) (w := 1) (by decide) rfl (Nat.le_of_ble_eq_true rfl) rfl (Nat.le_of_ble_eq_true rfl) rfl r18 jo_ret)) ?_
                      exact Eq.trans (jb_rt (i := .ireturn) (n := 1) (jq qX13_reckon 37 rfl) (jo_iret rfl rfl)) H
                    · exact Eq.trans (jb_rt (i := .invokestatic 212) (n := 3) (jq qX13_reckon 36 rfl) (jo_cs (y := mX13_one) (w := 1) (by decide) rfl (Nat.le_of_ble_eq_true rfl) rfl (Nat.le_of_ble_eq_true rfl) rfl r18 (jo_exn rfl))) H
                  · rw [if_neg c11] at H
                    refine Eq.trans (jb_nx (i := .if_icmp .ge 7) (n := 3) (q := (153, [some (.int i0), some (.int i1), some (.int i2)], [])) (jq qX13_reckon 32 rfl) (jo_icT (jz_geT c11) rfl)) ?_
                    refine Eq.trans (jb_nx (i := .iconst 0) (n := 1) (q := (154, [some (.int i0), some (.int i1), some (.int i2)], [.int 0])) (jq qX13_reckon 35 rfl) rfl) ?_
                    rcases jcI H with ⟨x14, h12, r13, H⟩ | ⟨w15, h16, r13, H⟩
                    · refine Eq.trans (jb_nx (i := .invokestatic 212) (n := 3) (q := (157, [some (.int i0), some (.int i1), some (.int i2)], [.int x14])) (jq qX13_reckon 36 rfl) (jo_cs (y := mX13_one) (w := 1) (by decide) rfl (Nat.le_of_ble_eq_true rfl) rfl (Nat.le_of_ble_eq_true rfl) rfl r13 jo_ret)) ?_
                      exact Eq.trans (jb_rt (i := .ireturn) (n := 1) (jq qX13_reckon 37 rfl) (jo_iret rfl rfl)) H
                    · exact Eq.trans (jb_rt (i := .invokestatic 212) (n := 3) (jq qX13_reckon 36 rfl) (jo_cs (y := mX13_one) (w := 1) (by decide) rfl (Nat.le_of_ble_eq_true rfl) rfl (Nat.le_of_ble_eq_true rfl) rfl r13 (jo_exn rfl))) H
                · rw [if_neg c10] at H
                  by_cases c22 : i0 = 107
                  · rw [if_pos c22] at H
                    refine Eq.trans (jb_nx (i := .lookupswitch 217 #[(16, 213), (18, 131), (19, 137), (101, 107), (102, 111), (103, 115), (104, 119), (106, 143), (107, 157), (108, 171), (109, 185), (110, 199)]) (n := 107) (q := (158, [some (.int i0), some (.int i1), some (.int i2)], [])) (jq qX13_reckon 1 rfl) (by rw [c22]; rfl)) ?_
                    refine Eq.trans (jb_nx (i := .iload_n 1) (n := 1) (q := (159, [some (.int i0), some (.int i1), some (.int i2)], [.int i1])) (jq qX13_reckon 38 rfl) rfl) ?_
                    refine Eq.trans (jb_nx (i := .iload_n 2) (n := 1) (q := (160, [some (.int i0), some (.int i1), some (.int i2)], [.int i2, .int i1])) (jq qX13_reckon 39 rfl) rfl) ?_
                    by_cases c23 : i2 < i1
                    · rw [if_pos c23] at H
                      refine Eq.trans (jb_nx (i := .if_icmp .le 7) (n := 3) (q := (163, [some (.int i0), some (.int i1), some (.int i2)], [])) (jq qX13_reckon 40 rfl) (jo_icF (jz_leF c23))) ?_
                      refine Eq.trans (jb_nx (i := .iconst 1) (n := 1) (q := (164, [some (.int i0), some (.int i1), some (.int i2)], [.int 1])) (jq qX13_reckon 41 rfl) rfl) ?_
                      refine Eq.trans (jb_nx (i := .goto 4) (n := 3) (q := (168, [some (.int i0), some (.int i1), some (.int i2)], [.int 1])) (jq qX13_reckon 42 rfl) rfl) ?_
                      rcases jcI H with ⟨x31, h29, r30, H⟩ | ⟨w32, h33, r30, H⟩
                      · refine Eq.trans (jb_nx (i := .invokestatic 212) (n := 3) (q := (171, [some (.int i0), some (.int i1), some (.int i2)], [.int x31])) (jq qX13_reckon 44 rfl) (jo_cs (y := mX13_one) (w := 1) (by decide) rfl (Nat.le_of_ble_eq_true rfl) rfl (Nat.le_of_ble_eq_true rfl) rfl r30 jo_ret)) ?_
                        exact Eq.trans (jb_rt (i := .ireturn) (n := 1) (jq qX13_reckon 45 rfl) (jo_iret rfl rfl)) H
                      · exact Eq.trans (jb_rt (i := .invokestatic 212) (n := 3) (jq qX13_reckon 44 rfl) (jo_cs (y := mX13_one) (w := 1) (by decide) rfl (Nat.le_of_ble_eq_true rfl) rfl (Nat.le_of_ble_eq_true rfl) rfl r30 (jo_exn rfl))) H
                    · rw [if_neg c23] at H
                      refine Eq.trans (jb_nx (i := .if_icmp .le 7) (n := 3) (q := (167, [some (.int i0), some (.int i1), some (.int i2)], [])) (jq qX13_reckon 40 rfl) (jo_icT (jz_leT c23) rfl)) ?_
                      refine Eq.trans (jb_nx (i := .iconst 0) (n := 1) (q := (168, [some (.int i0), some (.int i1), some (.int i2)], [.int 0])) (jq qX13_reckon 43 rfl) rfl) ?_
                      rcases jcI H with ⟨x26, h24, r25, H⟩ | ⟨w27, h28, r25, H⟩
                      · refine Eq.trans (jb_nx (i := .invokestatic 212) (n := 3) (q := (171, [some (.int i0), some (.int i1), some (.int i2)], [.int x26])) (jq qX13_reckon 44 rfl) (jo_cs (y := mX13_one) (w := 1) (by decide) rfl (Nat.le_of_ble_eq_true rfl) rfl (Nat.le_of_ble_eq_true rfl) rfl r25 jo_ret)) ?_
                        exact Eq.trans (jb_rt (i := .ireturn) (n := 1) (jq qX13_reckon 45 rfl) (jo_iret rfl rfl)) H
                      · exact Eq.trans (jb_rt (i := .invokestatic 212) (n := 3) (jq qX13_reckon 44 rfl) (jo_cs (y := mX13_one) (w := 1) (by decide) rfl (Nat.le_of_ble_eq_true rfl) rfl (Nat.le_of_ble_eq_true rfl) rfl r25 (jo_exn rfl))) H
                  · rw [if_neg c22] at H
                    by_cases c34 : i0 = 108
                    · rw [if_pos c34] at H
                      refine Eq.trans (jb_nx (i := .lookupswitch 217 #[(16, 213), (18, 131), (19, 137), (101, 107), (102, 111), (103, 115), (104, 119), (106, 143), (107, 157), (108, 171), (109, 185), (110, 199)]) (n := 107) (q := (172, [some (.int i0), some (.int i1), some (.int i2)], [])) (jq qX13_reckon 1 rfl) (by rw [c34]; rfl)) ?_
                      refine Eq.trans (jb_nx (i := .iload_n 1) (n := 1) (q := (173, [some (.int i0), some (.int i1), some (.int i2)], [.int i1])) (jq qX13_reckon 46 rfl) rfl) ?_
                      refine Eq.trans (jb_nx (i := .iload_n 2) (n := 1) (q := (174, [some (.int i0), some (.int i1), some (.int i2)], [.int i2, .int i1])) (jq qX13_reckon 47 rfl) rfl) ?_
                      by_cases c35 : i1 = i2
                      · rw [if_pos c35] at H
                        refine Eq.trans (jb_nx (i := .if_icmp .ne 7) (n := 3) (q := (177, [some (.int i0), some (.int i1), some (.int i2)], [])) (jq qX13_reckon 48 rfl) (jo_icF (jz_neF c35))) ?_
                        refine Eq.trans (jb_nx (i := .iconst 1) (n := 1) (q := (178, [some (.int i0), some (.int i1), some (.int i2)], [.int 1])) (jq qX13_reckon 49 rfl) rfl) ?_
                        refine Eq.trans (jb_nx (i := .goto 4) (n := 3) (q := (182, [some (.int i0), some (.int i1), some (.int i2)], [.int 1])) (jq qX13_reckon 50 rfl) rfl) ?_
                        rcases jcI H with ⟨x43, h41, r42, H⟩ | ⟨w44, h45, r42, H⟩
                        · refine Eq.trans (jb_nx (i := .invokestatic 212) (n := 3) (q := (185, [some (.int i0), some (.int i1), some (.int i2)], [.int x43])) (jq qX13_reckon 52 rfl) (jo_cs (y := mX13_one) (w := 1) (by decide) rfl (Nat.le_of_ble_eq_true rfl) rfl (Nat.le_of_ble_eq_true rfl) rfl r42 jo_ret)) ?_
                          exact Eq.trans (jb_rt (i := .ireturn) (n := 1) (jq qX13_reckon 53 rfl) (jo_iret rfl rfl)) H
                        · exact Eq.trans (jb_rt (i := .invokestatic 212) (n := 3) (jq qX13_reckon 52 rfl) (jo_cs (y := mX13_one) (w := 1) (by decide) rfl (Nat.le_of_ble_eq_true rfl) rfl (Nat.le_of_ble_eq_true rfl) rfl r42 (jo_exn rfl))) H
                      · rw [if_neg c35] at H
                        refine Eq.trans (jb_nx (i := .if_icmp .ne 7) (n := 3) (q := (181, [some (.int i0), some (.int i1), some (.int i2)], [])) (jq qX13_reckon 48 rfl) (jo_icT (jz_neT c35) rfl)) ?_
                        refine Eq.trans (jb_nx (i := .iconst 0) (n := 1) (q := (182, [some (.int i0), some (.int i1), some (.int i2)], [.int 0])) (jq qX13_reckon 51 rfl) rfl) ?_
                        rcases jcI H with ⟨x38, h36, r37, H⟩ | ⟨w39, h40, r37, H⟩
                        · refine Eq.trans (jb_nx (i := .invokestatic 212) (n := 3) (q := (185, [some (.int i0), some (.int i1), some (.int i2)], [.int x38])) (jq qX13_reckon 52 rfl) (jo_cs (y := mX13_one) (w := 1) (by decide) rfl (Nat.le_of_ble_eq_true rfl) rfl (Nat.le_of_ble_eq_true rfl) rfl r37 jo_ret)) ?_
                          exact Eq.trans (jb_rt (i := .ireturn) (n := 1) (jq qX13_reckon 53 rfl) (jo_iret rfl rfl)) H
                        · exact Eq.trans (jb_rt (i := .invokestatic 212) (n := 3) (jq qX13_reckon 52 rfl) (jo_cs (y := mX13_one) (w := 1) (by decide) rfl (Nat.le_of_ble_eq_true rfl) rfl (Nat.le_of_ble_eq_true rfl) rfl r37 (jo_exn rfl))) H
                    · rw [if_neg c34] at H
                      by_cases c46 : i0 = 109
                      · rw [if_pos c46] at H
                        refine Eq.trans (jb_nx (i := .lookupswitch 217 #[(16, 213), (18, 131), (19, 137), (101, 107), (102, 111), (103, 115), (104, 119), (106, 143), (107, 157), (108, 171), (109, 185), (110, 199)]) (n := 107) (q := (186, [some (.int i0), some (.int i1), some (.int i2)], [])) (jq qX13_reckon 1 rfl) (by rw [c46]; rfl)) ?_
                        refine Eq.trans (jb_nx (i := .iload_n 1) (n := 1) (q := (187, [some (.int i0), some (.int i1), some (.int i2)], [.int i1])) (jq qX13_reckon 54 rfl) rfl) ?_
                        refine Eq.trans (jb_nx (i := .iload_n 2) (n := 1) (q := (188, [some (.int i0), some (.int i1), some (.int i2)], [.int i2, .int i1])) (jq qX13_reckon 55 rfl) rfl) ?_
                        by_cases c47 : i2 < i1
                        · rw [if_pos c47] at H
                          refine Eq.trans (jb_nx (i := .if_icmp .gt 7) (n := 3) (q := (195, [some (.int i0), some (.int i1), some (.int i2)], [])) (jq qX13_reckon 56 rfl) (jo_icT (jz_gtT c47) rfl)) ?_
                          refine Eq.trans (jb_nx (i := .iconst 0) (n := 1) (q := (196, [some (.int i0), some (.int i1), some (.int i2)], [.int 0])) (jq qX13_reckon 59 rfl) rfl) ?_
                          rcases jcI H with ⟨x50, h48, r49, H⟩ | ⟨w51, h52, r49, H⟩
                          · refine Eq.trans (jb_nx (i := .invokestatic 212) (n := 3) (q := (199, [some (.int i0), some (.int i1), some (.int i2)], [.int x50])) (jq qX13_reckon 60 rfl) (jo_cs (y := mX13_one) (w := 1) (by decide) rfl (Nat.le_of_ble_eq_true rfl) rfl (Nat.le_of_ble_eq_true rfl) rfl r49 jo_ret)) ?_
                            exact Eq.trans (jb_rt (i := .ireturn) (n := 1) (jq qX13_reckon 61 rfl) (jo_iret rfl rfl)) H
                          · exact Eq.trans (jb_rt (i := .invokestatic 212) (n := 3) (jq qX13_reckon 60 rfl) (jo_cs (y := mX13_one) (w := 1) (by decide) rfl (Nat.le_of_ble_eq_true rfl) rfl (Nat.le_of_ble_eq_true rfl) rfl r49 (jo_exn rfl))) H
                        · rw [if_neg c47] at H
                          refine Eq.trans (jb_nx (i := .if_icmp .gt 7) (n := 3) (q := (191, [some (.int i0), some (.int i1), some (.int i2)], [])) (jq qX13_reckon 56 rfl) (jo_icF (jz_gtF c47))) ?_
                          refine Eq.trans (jb_nx (i := .iconst 1) (n := 1) (q := (192, [some (.int i0), some (.int i1), some (.int i2)], [.int 1])) (jq qX13_reckon 57 rfl) rfl) ?_
                          refine Eq.trans (jb_nx (i := .goto 4) (n := 3) (q := (196, [some (.int i0), some (.int i1), some (.int i2)], [.int 1])) (jq qX13_reckon 58 rfl) rfl) ?_
                          rcases jcI H with ⟨x55, h53, r54, H⟩ | ⟨w56, h57, r54, H⟩
                          · refine Eq.trans (jb_nx (i := .invokestatic 212) (n := 3) (q := (199, [some (.int i0), some (.int i1), some (.int i2)], [.int x55])) (jq qX13_reckon 60 rfl) (jo_cs (y := mX13_one) (w := 1) (by decide) rfl (Nat.le_of_ble_eq_true rfl) rfl (Nat.le_of_ble_eq_true rfl) rfl r54 jo_ret)) ?_
                            exact Eq.trans (jb_rt (i := .ireturn) (n := 1) (jq qX13_reckon 61 rfl) (jo_iret rfl rfl)) H
                          · exact Eq.trans (jb_rt (i := .invokestatic 212) (n := 3) (jq qX13_reckon 60 rfl) (jo_cs (y := mX13_one) (w := 1) (by decide) rfl (Nat.le_of_ble_eq_true rfl) rfl (Nat.le_of_ble_eq_true rfl) rfl r54 (jo_exn rfl))) H
                      · rw [if_neg c46] at H
                        by_cases c58 : i0 = 110
                        · rw [if_pos c58] at H
                          refine Eq.trans (jb_nx (i := .lookupswitch 217 #[(16, 213), (18, 131), (19, 137), (101, 107), (102, 111), (103, 115), (104, 119), (106, 143), (107, 157), (108, 171), (109, 185), (110, 199)]) (n := 107) (q := (200, [some (.int i0), some (.int i1), some (.int i2)], [])) (jq qX13_reckon 1 rfl) (by rw [c58]; rfl)) ?_
                          refine Eq.trans (jb_nx (i := .iload_n 1) (n := 1) (q := (201, [some (.int i0), some (.int i1), some (.int i2)], [.int i1])) (jq qX13_reckon 62 rfl) rfl) ?_
                          refine Eq.trans (jb_nx (i := .iload_n 2) (n := 1) (q := (202, [some (.int i0), some (.int i1), some (.int i2)], [.int i2, .int i1])) (jq qX13_reckon 63 rfl) rfl) ?_
                          by_cases c59 : i1 < i2
                          · rw [if_pos c59] at H
                            refine Eq.trans (jb_nx (i := .if_icmp .lt 7) (n := 3) (q := (209, [some (.int i0), some (.int i1), some (.int i2)], [])) (jq qX13_reckon 64 rfl) (jo_icT (jz_ltT c59) rfl)) ?_
                            refine Eq.trans (jb_nx (i := .iconst 0) (n := 1) (q := (210, [some (.int i0), some (.int i1), some (.int i2)], [.int 0])) (jq qX13_reckon 67 rfl) rfl) ?_
                            rcases jcI H with ⟨x62, h60, r61, H⟩ | ⟨w63, h64, r61, H⟩
                            · refine Eq.trans (jb_nx (i := .invokestatic 212) (n := 3) (q := (213, [some (.int i0), some (.int i1), some (.int i2)], [.int x62])) (jq qX13_reckon 68 rfl) (jo_cs (y := mX13_one) (w := 1) (by decide) rfl (Nat.le_of_ble_eq_true rfl) rfl (Nat.le_of_ble_eq_true rfl) rfl r61 jo_ret)) ?_
                              exact Eq.trans (jb_rt (i := .ireturn) (n := 1) (jq qX13_reckon 69 rfl) (jo_iret rfl rfl)) H
                            · exact Eq.trans (jb_rt (i := .invokestatic 212) (n := 3) (jq qX13_reckon 68 rfl) (jo_cs (y := mX13_one) (w := 1) (by decide) rfl (Nat.le_of_ble_eq_true rfl) rfl (Nat.le_of_ble_eq_true rfl) rfl r61 (jo_exn rfl))) H
                          · rw [if_neg c59] at H
                            refine Eq.trans (jb_nx (i := .if_icmp .lt 7) (n := 3) (q := (205, [some (.int i0), some (.int i1), some (.int i2)], [])) (jq qX13_reckon 64 rfl) (jo_icF (jz_ltF c59))) ?_
                            refine Eq.trans (jb_nx (i := .iconst 1) (n := 1) (q := (206, [some (.int i0), some (.int i1), some (.int i2)], [.int 1])) (jq qX13_reckon 65 rfl) rfl) ?_
                            refine Eq.trans (jb_nx (i := .goto 4) (n := 3) (q := (210, [some (.int i0), some (.int i1), some (.int i2)], [.int 1])) (jq qX13_reckon 66 rfl) rfl) ?_
                            rcases jcI H with ⟨x67, h65, r66, H⟩ | ⟨w68, h69, r66, H⟩
                            · refine Eq.trans (jb_nx (i := .invokestatic 212) (n := 3) (q := (213, [some (.int i0), some (.int i1), some (.int i2)], [.int x67])) (jq qX13_reckon 68 rfl) (jo_cs (y := mX13_one) (w := 1) (by decide) rfl (Nat.le_of_ble_eq_true rfl) rfl (Nat.le_of_ble_eq_true rfl) rfl r66 jo_ret)) ?_
                              exact Eq.trans (jb_rt (i := .ireturn) (n := 1) (jq qX13_reckon 69 rfl) (jo_iret rfl rfl)) H
                            · exact Eq.trans (jb_rt (i := .invokestatic 212) (n := 3) (jq qX13_reckon 68 rfl) (jo_cs (y := mX13_one) (w := 1) (by decide) rfl (Nat.le_of_ble_eq_true rfl) rfl (Nat.le_of_ble_eq_true rfl) rfl r66 (jo_exn rfl))) H
                        · rw [if_neg c58] at H
                          refine Eq.trans (jb_nx (i := .lookupswitch 217 #[(16, 213), (18, 131), (19, 137), (101, 107), (102, 111), (103, 115), (104, 119), (106, 143), (107, 157), (108, 171), (109, 185), (110, 199)]) (n := 107) (q := (218, [some (.int i0), some (.int i1), some (.int i2)], [])) (jq qX13_reckon 1 rfl) (jo_lookD (by decide +kernel) (by intro p hp; simp only [List.mem_cons, List.not_mem_nil, or_false] at hp; rcases hp with rfl | rfl | rfl | rfl | rfl | rfl | rfl | rfl | rfl | rfl | rfl | rfl; { exact jz_ti rfl c1 }; { exact jz_ti rfl c2 }; { exact jz_ti rfl c3 }; { exact jz_ti rfl c4 }; { exact jz_ti rfl c5 }; { exact jz_ti rfl c6 }; { exact jz_ti rfl c7 }; { exact jz_ti rfl c10 }; { exact jz_ti rfl c22 }; { exact jz_ti rfl c34 }; { exact jz_ti rfl c46 }; { exact jz_ti rfl c58 }) rfl)) ?_
                          refine Eq.trans (jb_nx (i := .iload_n 1) (n := 1) (q := (219, [some (.int i0), some (.int i1), some (.int i2)], [.int i1])) (jq qX13_reckon 74 rfl) rfl) ?_
                          refine Eq.trans (jb_nx (i := .iload_n 2) (n := 1) (q := (220, [some (.int i0), some (.int i1), some (.int i2)], [.int i2, .int i1])) (jq qX13_reckon 75 rfl) rfl) ?_
                          refine Eq.trans (jb_nx (i := .ior) (n := 1) (q := (221, [some (.int i0), some (.int i1), some (.int i2)], [.int (i1 ||| i2)])) (jq qX13_reckon 76 rfl) rfl) ?_
                          exact Eq.trans (jb_rt (i := .ireturn) (n := 1) (jq qX13_reckon 77 rfl) (jo_iret rfl rfl)) H
/-! MaskPlaysModel one (Z)I -/
def tX13_one : List (Nat × Instr × Nat) := [(0, .iload_n 0, 1), (1, .ifCond .eq 7, 3), (4, .iconst 1, 1), (5, .goto 4, 3), (8, .iconst 0, 1), (9, .ireturn, 1)]
set_option maxRecDepth 100000 in
theorem qX13_one : ∀ q ∈ tX13_one, decode cX13_one q.1 = .ok (q.2.1, q.2.2) := by decide +kernel
theorem gX13_one {d : Nat} {i0 : Int32} {h : jm_H} {r : jm_R} (H : ((if i0 = 0 then some (.inl (some (.int 0)), h) else some (.inl (some (.int 1)), h))) = some r) : jm_D (d + 1) mX13_one [.int i0] h = some r := by
  rw [jm_D_body (Nat.le_of_ble_eq_true rfl)]
  show jm_B d mX13_one (0, [some (.int i0)], []) h = some r
  refine Eq.trans (jb_nx (i := .iload_n 0) (n := 1) (q := (1, [some (.int i0)], [.int i0])) (jq qX13_one 0 rfl) rfl) ?_
  by_cases c1 : i0 = 0
  · rw [if_pos c1] at H
    refine Eq.trans (jb_nx (i := .ifCond .eq 7) (n := 3) (q := (8, [some (.int i0)], [])) (jq qX13_one 1 rfl) (jo_ifT (jz_eqT c1) rfl)) ?_
    refine Eq.trans (jb_nx (i := .iconst 0) (n := 1) (q := (9, [some (.int i0)], [.int 0])) (jq qX13_one 4 rfl) rfl) ?_
    exact Eq.trans (jb_rt (i := .ireturn) (n := 1) (jq qX13_one 5 rfl) (jo_iret rfl rfl)) H
  · rw [if_neg c1] at H
    refine Eq.trans (jb_nx (i := .ifCond .eq 7) (n := 3) (q := (4, [some (.int i0)], [])) (jq qX13_one 1 rfl) (jo_ifF (jz_eqF c1))) ?_
    refine Eq.trans (jb_nx (i := .iconst 1) (n := 1) (q := (5, [some (.int i0)], [.int 1])) (jq qX13_one 2 rfl) rfl) ?_
    refine Eq.trans (jb_nx (i := .goto 4) (n := 3) (q := (9, [some (.int i0)], [.int 1])) (jq qX13_one 3 rfl) rfl) ?_
    exact Eq.trans (jb_rt (i := .ireturn) (n := 1) (jq qX13_one 5 rfl) (jo_iret rfl rfl)) H
/-! MaskPlaysModel isOther (I)Z -/
def tX13_isOther : List (Nat × Instr × Nat) := [(0, .aload_n 0, 1), (1, .getfield 82, 3), (4, .aload_n 0, 1), (5, .getfield 28, 3), (8, .iload_n 1, 1), (9, .iaload, 1), (10, .if_icmp .eq 5, 3), (13, .iconst 1, 1), (14, .ireturn, 1), (15, .iconst 0, 1), (16, .istore_n 2, 1), (17, .iload_n 2, 1), (18, .aload_n 0, 1), (19, .getfield 82, 3), (22, .if_icmp .ge 33, 3), (25, .aload_n 0, 1), (26, .getfield 43, 3), (29, .iload_n 2, 1), (30, .laload, 1), (31, .aload_n 0, 1), (32, .getfield 24, 3), (35, .sipush 150, 3), (38, .iload_n 1, 1), (39, .imul, 1), (40, .iload_n 2, 1), (41, .iadd, 1), (42, .laload, 1), (43, .lcmp, 1), (44, .ifCond .eq 5, 3), (47, .iconst 1, 1), (48, .ireturn, 1), (49, .iinc 2 1, 3), (52, .goto (-35), 3), (55, .iconst 0, 1), (56, .ireturn, 1)]
set_option maxRecDepth 100000 in
theorem qX13_isOther : ∀ q ∈ tX13_isOther, decode cX13_isOther q.1 = .ok (q.2.1, q.2.2) := by decide +kernel
noncomputable def kX13_isOther_17 (d : Nat) (p0 : Nat) (i1 : Int32) (i2 : Int32) (h : jm_H) : Option jm_R := jm_B d mX13_isOther (17, [some (.ref p0), some (.int i1), some (.int i2)], []) h
theorem gX13_isOther_17 {d : Nat} {p0 : Nat} {i1 : Int32} {i2 : Int32} {h : jm_H} {r : jm_R} (H : ((jr_I h p0 12 19 0).bind fun x8 => (if i2 < x8 then (jr_R h p0 12 18 2).bind fun a11 => (jm_all h a11 i2).bind fun y13 => (jr_R h p0 12 8 2).bind fun a15 => (jm_all h a15 ((150 * i1) + i2)).bind fun y17 => (if (lg_cmp y13 y17) = 0 then kX13_isOther_17 d p0 i1 (i2 + 1) h else some (.inl (some (.int 1)), h)) else some (.inl (some (.int 0)), h))) = some r) : kX13_isOther_17 d p0 i1 i2 h = some r := by
  show jm_B d mX13_isOther (17, [some (.ref p0), some (.int i1), some (.int i2)], []) h = some r
  refine Eq.trans (jb_nx (i := .iload_n 2) (n := 1) (q := (18, [some (.ref p0), some (.int i1), some (.int i2)], [.int i2])) (jq qX13_isOther 11 rfl) rfl) ?_
  refine Eq.trans (jb_nx (i := .aload_n 0) (n := 1) (q := (19, [some (.ref p0), some (.int i1), some (.int i2)], [.ref p0, .int i2])) (jq qX13_isOther 12 rfl) rfl) ?_
  obtain ⟨x8, e9, H⟩ := jbd H
  refine Eq.trans (jb_nx (i := .getfield 82) (n := 3) (q := (22, [some (.ref p0), some (.int i1), some (.int i2)], [.int x8, .int i2])) (jq qX13_isOther 13 rfl) (jo_gf rfl (jr_I_inv e9))) ?_
  by_cases c10 : i2 < x8
  · rw [if_pos c10] at H
    refine Eq.trans (jb_nx (i := .if_icmp .ge 33) (n := 3) (q := (25, [some (.ref p0), some (.int i1), some (.int i2)], [])) (jq qX13_isOther 14 rfl) (jo_icF (jz_geF c10))) ?_
    refine Eq.trans (jb_nx (i := .aload_n 0) (n := 1) (q := (26, [some (.ref p0), some (.int i1), some (.int i2)], [.ref p0])) (jq qX13_isOther 15 rfl) rfl) ?_
    obtain ⟨a11, e12, H⟩ := jbd H
    refine Eq.trans (jb_nx (i := .getfield 43) (n := 3) (q := (29, [some (.ref p0), some (.int i1), some (.int i2)], [.ref a11])) (jq qX13_isOther 16 rfl) (jo_gf rfl (jr_R_inv e12))) ?_
    refine Eq.trans (jb_nx (i := .iload_n 2) (n := 1) (q := (30, [some (.ref p0), some (.int i1), some (.int i2)], [.int i2, .ref a11])) (jq qX13_isOther 17 rfl) rfl) ?_
    obtain ⟨y13, e14, H⟩ := jbd H
    refine Eq.trans (jb_nx (i := .laload) (n := 1) (q := (31, [some (.ref p0), some (.int i1), some (.int i2)], [.long y13])) (jq qX13_isOther 18 rfl) (jo_lal e14)) ?_
    refine Eq.trans (jb_nx (i := .aload_n 0) (n := 1) (q := (32, [some (.ref p0), some (.int i1), some (.int i2)], [.ref p0, .long y13])) (jq qX13_isOther 19 rfl) rfl) ?_
    obtain ⟨a15, e16, H⟩ := jbd H
    refine Eq.trans (jb_nx (i := .getfield 24) (n := 3) (q := (35, [some (.ref p0), some (.int i1), some (.int i2)], [.ref a15, .long y13])) (jq qX13_isOther 20 rfl) (jo_gf rfl (jr_R_inv e16))) ?_
    refine Eq.trans (jb_nx (i := .sipush 150) (n := 3) (q := (38, [some (.ref p0), some (.int i1), some (.int i2)], [.int 150, .ref a15, .long y13])) (jq qX13_isOther 21 rfl) rfl) ?_
    refine Eq.trans (jb_nx (i := .iload_n 1) (n := 1) (q := (39, [some (.ref p0), some (.int i1), some (.int i2)], [.int i1, .int 150, .ref a15, .long y13])) (jq qX13_isOther 22 rfl) rfl) ?_
    refine Eq.trans (jb_nx (i := .imul) (n := 1) (q := (40, [some (.ref p0), some (.int i1), some (.int i2)], [.int (150 * i1), .ref a15, .long y13])) (jq qX13_isOther 23 rfl) rfl) ?_
    refine Eq.trans (jb_nx (i := .iload_n 2) (n := 1) (q := (41, [some (.ref p0), some (.int i1), some (.int i2)], [.int i2, .int (150 * i1), .ref a15, .long y13])) (jq qX13_isOther 24 rfl) rfl) ?_
    refine Eq.trans (jb_nx (i := .iadd) (n := 1) (q := (42, [some (.ref p0), some (.int i1), some (.int i2)], [.int ((150 * i1) + i2), .ref a15, .long y13])) (jq qX13_isOther 25 rfl) rfl) ?_
    obtain ⟨y17, e18, H⟩ := jbd H
    refine Eq.trans (jb_nx (i := .laload) (n := 1) (q := (43, [some (.ref p0), some (.int i1), some (.int i2)], [.long y17, .long y13])) (jq qX13_isOther 26 rfl) (jo_lal e18)) ?_
    refine Eq.trans (jb_nx (i := .lcmp) (n := 1) (q := (44, [some (.ref p0), some (.int i1), some (.int i2)], [.int (lg_cmp y13 y17)])) (jq qX13_isOther 27 rfl) rfl) ?_
    by_cases c19 : (lg_cmp y13 y17) = 0
    · rw [if_pos c19] at H
      refine Eq.trans (jb_nx (i := .ifCond .eq 5) (n := 3) (q := (49, [some (.ref p0), some (.int i1), some (.int i2)], [])) (jq qX13_isOther 28 rfl) (jo_ifT (jz_eqT c19) rfl)) ?_
      refine Eq.trans (jb_nx (i := .iinc 2 1) (n := 3) (q := (52, [some (.ref p0), some (.int i1), some (.int (i2 + 1))], [])) (jq qX13_isOther 31 rfl) rfl) ?_
      refine Eq.trans (jb_nx (i := .goto (-35)) (n := 3) (q := (17, [some (.ref p0), some (.int i1), some (.int (i2 + 1))], [])) (jq qX13_isOther 32 rfl) rfl) ?_
      exact H
    · rw [if_neg c19] at H
      refine Eq.trans (jb_nx (i := .ifCond .eq 5) (n := 3) (q := (47, [some (.ref p0), some (.int i1), some (.int i2)], [])) (jq qX13_isOther 28 rfl) (jo_ifF (jz_eqF c19))) ?_
      refine Eq.trans (jb_nx (i := .iconst 1) (n := 1) (q := (48, [some (.ref p0), some (.int i1), some (.int i2)], [.int 1])) (jq qX13_isOther 29 rfl) rfl) ?_
      exact Eq.trans (jb_rt (i := .ireturn) (n := 1) (jq qX13_isOther 30 rfl) (jo_iret rfl (by decide))) H
  · rw [if_neg c10] at H
    refine Eq.trans (jb_nx (i := .if_icmp .ge 33) (n := 3) (q := (55, [some (.ref p0), some (.int i1), some (.int i2)], [])) (jq qX13_isOther 14 rfl) (jo_icT (jz_geT c10) rfl)) ?_
    refine Eq.trans (jb_nx (i := .iconst 0) (n := 1) (q := (56, [some (.ref p0), some (.int i1), some (.int i2)], [.int 0])) (jq qX13_isOther 33 rfl) rfl) ?_
    exact Eq.trans (jb_rt (i := .ireturn) (n := 1) (jq qX13_isOther 34 rfl) (jo_iret rfl (by decide))) H
theorem gX13_isOther {d : Nat} {p0 : Nat} {i1 : Int32} {h : jm_H} {r : jm_R} (H : ((jr_I h p0 12 19 0).bind fun x1 => (jr_R h p0 12 9 2).bind fun a3 => (jm_ali h a3 0 i1).bind fun x5 => (if x1 = x5 then kX13_isOther_17 d p0 i1 0 h else some (.inl (some (.int 1)), h))) = some r) : jm_D (d + 1) mX13_isOther [.ref p0, .int i1] h = some r := by
  rw [jm_D_body (Nat.le_of_ble_eq_true rfl)]
  show jm_B d mX13_isOther (0, [some (.ref p0), some (.int i1), none], []) h = some r
  refine Eq.trans (jb_nx (i := .aload_n 0) (n := 1) (q := (1, [some (.ref p0), some (.int i1), none], [.ref p0])) (jq qX13_isOther 0 rfl) rfl) ?_
  obtain ⟨x1, e2, H⟩ := jbd H
  refine Eq.trans (jb_nx (i := .getfield 82) (n := 3) (q := (4, [some (.ref p0), some (.int i1), none], [.int x1])) (jq qX13_isOther 1 rfl) (jo_gf rfl (jr_I_inv e2))) ?_
  refine Eq.trans (jb_nx (i := .aload_n 0) (n := 1) (q := (5, [some (.ref p0), some (.int i1), none], [.ref p0, .int x1])) (jq qX13_isOther 2 rfl) rfl) ?_
  obtain ⟨a3, e4, H⟩ := jbd H
  refine Eq.trans (jb_nx (i := .getfield 28) (n := 3) (q := (8, [some (.ref p0), some (.int i1), none], [.ref a3, .int x1])) (jq qX13_isOther 3 rfl) (jo_gf rfl (jr_R_inv e4))) ?_
  refine Eq.trans (jb_nx (i := .iload_n 1) (n := 1) (q := (9, [some (.ref p0), some (.int i1), none], [.int i1, .ref a3, .int x1])) (jq qX13_isOther 4 rfl) rfl) ?_
  obtain ⟨x5, e6, H⟩ := jbd H
  refine Eq.trans (jb_nx (i := .iaload) (n := 1) (q := (10, [some (.ref p0), some (.int i1), none], [.int x5, .int x1])) (jq qX13_isOther 5 rfl) (jo_ial e6)) ?_
  by_cases c7 : x1 = x5
  · rw [if_pos c7] at H
    refine Eq.trans (jb_nx (i := .if_icmp .eq 5) (n := 3) (q := (15, [some (.ref p0), some (.int i1), none], [])) (jq qX13_isOther 6 rfl) (jo_icT (jz_eqT c7) rfl)) ?_
    refine Eq.trans (jb_nx (i := .iconst 0) (n := 1) (q := (16, [some (.ref p0), some (.int i1), none], [.int 0])) (jq qX13_isOther 9 rfl) rfl) ?_
    refine Eq.trans (jb_nx (i := .istore_n 2) (n := 1) (q := (17, [some (.ref p0), some (.int i1), some (.int 0)], [])) (jq qX13_isOther 10 rfl) rfl) ?_
    exact H
  · rw [if_neg c7] at H
    refine Eq.trans (jb_nx (i := .if_icmp .eq 5) (n := 3) (q := (13, [some (.ref p0), some (.int i1), none], [])) (jq qX13_isOther 6 rfl) (jo_icF (jz_eqF c7))) ?_
    refine Eq.trans (jb_nx (i := .iconst 1) (n := 1) (q := (14, [some (.ref p0), some (.int i1), none], [.int 1])) (jq qX13_isOther 7 rfl) rfl) ?_
    exact Eq.trans (jb_rt (i := .ireturn) (n := 1) (jq qX13_isOther 8 rfl) (jo_iret rfl (by decide))) H
/-! MaskPlaysModel stepsToFinish (I)I -/
def tX13_stepsToFinish : List (Nat × Instr × Nat) := [(0, .aload_n 0, 1), (1, .iconst 0, 1), (2, .putfield 68, 3), (5, .aload_n 0, 1), (6, .iload_n 1, 1), (7, .invokevirtual 473, 3), (10, .ifCond .ne 9, 3), (13, .aload_n 0, 1), (14, .iconst 1, 1), (15, .invokevirtual 463, 3), (18, .ireturn, 1), (19, .aload_n 0, 1), (20, .iload_n 1, 1), (21, .invokevirtual 146, 3), (24, .aload_n 0, 1), (25, .invokevirtual 500, 3), (28, .istore_n 2, 1), (29, .iload_n 2, 1), (30, .iconst (-1), 1), (31, .if_icmp .ne 11, 3), (34, .aload_n 0, 1), (35, .iconst 2, 1), (36, .invokevirtual 463, 3), (39, .goto 4, 3), (42, .iload_n 2, 1), (43, .ireturn, 1)]
set_option maxRecDepth 100000 in
theorem qX13_stepsToFinish : ∀ q ∈ tX13_stepsToFinish, decode cX13_stepsToFinish q.1 = .ok (q.2.1, q.2.2) := by decide +kernel
theorem gX13_stepsToFinish {d : Nat} {p0 : Nat} {i1 : Int32} {h : jm_H} {r : jm_R} (H : ((jm_pf h p0 12 0 0 (.int 0)).bind fun h1 => jm_O h1 p0 13 (jc_I (jm_D d mX13_isPlay [.ref p0, .int i1] h1) (fun x5 h3 => (if x5 = 0 then jm_O h3 p0 13 (jc_I (jm_D d mX13_no [.ref p0, .int 1] h3) (fun x27 h25 => some (.inl (some (.int x27)), h25)) jx) else jm_O h3 p0 13 (jc_V (jm_D d mX13_takeUp [.ref p0, .int i1] h3) (fun h7 => jm_O h7 p0 13 (jc_I (jm_D d mX13_stepsLeft [.ref p0] h7) (fun x11 h9 => (if x11 = (-1) then jm_O h9 p0 13 (jc_I (jm_D d mX13_no [.ref p0, .int 2] h9) (fun x15 h13 => some (.inl (some (.int x15)), h13)) jx) else some (.inl (some (.int x11)), h9))) jx)) jx))) jx)) = some r) : jm_D (d + 1) mX13_stepsToFinish [.ref p0, .int i1] h = some r := by
  rw [jm_D_body (Nat.le_of_ble_eq_true rfl)]
  show jm_B d mX13_stepsToFinish (0, [some (.ref p0), some (.int i1), none], []) h = some r
  refine Eq.trans (jb_nx (i := .aload_n 0) (n := 1) (q := (1, [some (.ref p0), some (.int i1), none], [.ref p0])) (jq qX13_stepsToFinish 0 rfl) rfl) ?_
  refine Eq.trans (jb_nx (i := .iconst 0) (n := 1) (q := (2, [some (.ref p0), some (.int i1), none], [.int 0, .ref p0])) (jq qX13_stepsToFinish 1 rfl) rfl) ?_
  obtain ⟨h1, e2, H⟩ := jbd H
  refine Eq.trans (jb_nx (i := .putfield 68) (n := 3) (q := (5, [some (.ref p0), some (.int i1), none], [])) (jq qX13_stepsToFinish 2 rfl) (jo_pf rfl (Or.inl rfl) e2)) ?_
  refine Eq.trans (jb_nx (i := .aload_n 0) (n := 1) (q := (6, [some (.ref p0), some (.int i1), none], [.ref p0])) (jq qX13_stepsToFinish 3 rfl) rfl) ?_
  refine Eq.trans (jb_nx (i := .iload_n 1) (n := 1) (q := (7, [some (.ref p0), some (.int i1), none], [.int i1, .ref p0])) (jq qX13_stepsToFinish 4 rfl) rfl) ?_
  obtain ⟨b31, H⟩ := jm_O_inv H
  rcases jcI H with ⟨x5, h3, r4, H⟩ | ⟨w32, h33, r4, H⟩
  · refine Eq.trans (jb_nx (i := .invokevirtual 473) (n := 3) (q := (10, [some (.ref p0), some (.int i1), none], [.int x5])) (jq qX13_stepsToFinish 5 rfl) (jo_cv (y := mX13_isPlay) rfl (Nat.le_of_ble_eq_true rfl) rfl (Nat.le_of_ble_eq_true rfl) b31 rfl r4 jo_ret)) ?_
    by_cases c6 : x5 = 0
    · rw [if_pos c6] at H
      refine Eq.trans (jb_nx (i := .ifCond .ne 9) (n := 3) (q := (13, [some (.ref p0), some (.int i1), none], [])) (jq qX13_stepsToFinish 6 rfl) (jo_ifF (jz_neF c6))) ?_
      refine Eq.trans (jb_nx (i := .aload_n 0) (n := 1) (q := (14, [some (.ref p0), some (.int i1), none], [.ref p0])) (jq qX13_stepsToFinish 7 rfl) rfl) ?_
      refine Eq.trans (jb_nx (i := .iconst 1) (n := 1) (q := (15, [some (.ref p0), some (.int i1), none], [.int 1, .ref p0])) (jq qX13_stepsToFinish 8 rfl) rfl) ?_
      obtain ⟨b28, H⟩ := jm_O_inv H
      rcases jcI H with ⟨x27, h25, r26, H⟩ | ⟨w29, h30, r26, H⟩
      · refine Eq.trans (jb_nx (i := .invokevirtual 463) (n := 3) (q := (18, [some (.ref p0), some (.int i1), none], [.int x27])) (jq qX13_stepsToFinish 9 rfl) (jo_cv (y := mX13_no) rfl (Nat.le_of_ble_eq_true rfl) rfl (Nat.le_of_ble_eq_true rfl) b28 rfl r26 jo_ret)) ?_
        exact Eq.trans (jb_rt (i := .ireturn) (n := 1) (jq qX13_stepsToFinish 10 rfl) (jo_iret rfl rfl)) H
      · exact Eq.trans (jb_rt (i := .invokevirtual 463) (n := 3) (jq qX13_stepsToFinish 9 rfl) (jo_cv (y := mX13_no) rfl (Nat.le_of_ble_eq_true rfl) rfl (Nat.le_of_ble_eq_true rfl) b28 rfl r26 (jo_exn rfl))) H
    · rw [if_neg c6] at H
      refine Eq.trans (jb_nx (i := .ifCond .ne 9) (n := 3) (q := (19, [some (.ref p0), some (.int i1), none], [])) (jq qX13_stepsToFinish 6 rfl) (jo_ifT (jz_neT c6) rfl)) ?_
      refine Eq.trans (jb_nx (i := .aload_n 0) (n := 1) (q := (20, [some (.ref p0), some (.int i1), none], [.ref p0])) (jq qX13_stepsToFinish 11 rfl) rfl) ?_
      refine Eq.trans (jb_nx (i := .iload_n 1) (n := 1) (q := (21, [some (.ref p0), some (.int i1), none], [.int i1, .ref p0])) (jq qX13_stepsToFinish 12 rfl) rfl) ?_
      obtain ⟨b22, H⟩ := jm_O_inv H
      rcases jcV H with ⟨h7, r8, H⟩ | ⟨w23, h24, r8, H⟩
      · refine Eq.trans (jb_nx (i := .invokevirtual 146) (n := 3) (q := (24, [some (.ref p0), some (.int i1), none], [])) (jq qX13_stepsToFinish 13 rfl) (jo_cv (y := mX13_takeUp) rfl (Nat.le_of_ble_eq_true rfl) rfl (Nat.le_of_ble_eq_true rfl) b22 rfl r8 jo_ret)) ?_
        refine Eq.trans (jb_nx (i := .aload_n 0) (n := 1) (q := (25, [some (.ref p0), some (.int i1), none], [.ref p0])) (jq qX13_stepsToFinish 14 rfl) rfl) ?_
        obtain ⟨b19, H⟩ := jm_O_inv H
        rcases jcI H with ⟨x11, h9, r10, H⟩ | ⟨w20, h21, r10, H⟩
        · refine Eq.trans (jb_nx (i := .invokevirtual 500) (n := 3) (q := (28, [some (.ref p0), some (.int i1), none], [.int x11])) (jq qX13_stepsToFinish 15 rfl) (jo_cv (y := mX13_stepsLeft) rfl (Nat.le_of_ble_eq_true rfl) rfl (Nat.le_of_ble_eq_true rfl) b19 rfl r10 jo_ret)) ?_
          refine Eq.trans (jb_nx (i := .istore_n 2) (n := 1) (q := (29, [some (.ref p0), some (.int i1), some (.int x11)], [])) (jq qX13_stepsToFinish 16 rfl) rfl) ?_
          refine Eq.trans (jb_nx (i := .iload_n 2) (n := 1) (q := (30, [some (.ref p0), some (.int i1), some (.int x11)], [.int x11])) (jq qX13_stepsToFinish 17 rfl) rfl) ?_
          refine Eq.trans (jb_nx (i := .iconst (-1)) (n := 1) (q := (31, [some (.ref p0), some (.int i1), some (.int x11)], [.int (-1), .int x11])) (jq qX13_stepsToFinish 18 rfl) rfl) ?_
          by_cases c12 : x11 = (-1)
          · rw [if_pos c12] at H
            refine Eq.trans (jb_nx (i := .if_icmp .ne 11) (n := 3) (q := (34, [some (.ref p0), some (.int i1), some (.int x11)], [])) (jq qX13_stepsToFinish 19 rfl) (jo_icF (jz_neF c12))) ?_
            refine Eq.trans (jb_nx (i := .aload_n 0) (n := 1) (q := (35, [some (.ref p0), some (.int i1), some (.int x11)], [.ref p0])) (jq qX13_stepsToFinish 20 rfl) rfl) ?_
            refine Eq.trans (jb_nx (i := .iconst 2) (n := 1) (q := (36, [some (.ref p0), some (.int i1), some (.int x11)], [.int 2, .ref p0])) (jq qX13_stepsToFinish 21 rfl) rfl) ?_
            obtain ⟨b16, H⟩ := jm_O_inv H
            rcases jcI H with ⟨x15, h13, r14, H⟩ | ⟨w17, h18, r14, H⟩
            · refine Eq.trans (jb_nx (i := .invokevirtual 463) (n := 3) (q := (39, [some (.ref p0), some (.int i1), some (.int x11)], [.int x15])) (jq qX13_stepsToFinish 22 rfl) (jo_cv (y := mX13_no) rfl (Nat.le_of_ble_eq_true rfl) rfl (Nat.le_of_ble_eq_true rfl) b16 rfl r14 jo_ret)) ?_
              refine Eq.trans (jb_nx (i := .goto 4) (n := 3) (q := (43, [some (.ref p0), some (.int i1), some (.int x11)], [.int x15])) (jq qX13_stepsToFinish 23 rfl) rfl) ?_
              exact Eq.trans (jb_rt (i := .ireturn) (n := 1) (jq qX13_stepsToFinish 25 rfl) (jo_iret rfl rfl)) H
            · exact Eq.trans (jb_rt (i := .invokevirtual 463) (n := 3) (jq qX13_stepsToFinish 22 rfl) (jo_cv (y := mX13_no) rfl (Nat.le_of_ble_eq_true rfl) rfl (Nat.le_of_ble_eq_true rfl) b16 rfl r14 (jo_exn rfl))) H
          · rw [if_neg c12] at H
            refine Eq.trans (jb_nx (i := .if_icmp .ne 11) (n := 3) (q := (42, [some (.ref p0), some (.int i1), some (.int x11)], [])) (jq qX13_stepsToFinish 19 rfl) (jo_icT (jz_neT c12) rfl)) ?_
            refine Eq.trans (jb_nx (i := .iload_n 2) (n := 1) (q := (43, [some (.ref p0), some (.int i1), some (.int x11)], [.int x11])) (jq qX13_stepsToFinish 24 rfl) rfl) ?_
            exact Eq.trans (jb_rt (i := .ireturn) (n := 1) (jq qX13_stepsToFinish 25 rfl) (jo_iret rfl rfl)) H
        · exact Eq.trans (jb_rt (i := .invokevirtual 500) (n := 3) (jq qX13_stepsToFinish 15 rfl) (jo_cv (y := mX13_stepsLeft) rfl (Nat.le_of_ble_eq_true rfl) rfl (Nat.le_of_ble_eq_true rfl) b19 rfl r10 (jo_exn rfl))) H
      · exact Eq.trans (jb_rt (i := .invokevirtual 146) (n := 3) (jq qX13_stepsToFinish 13 rfl) (jo_cv (y := mX13_takeUp) rfl (Nat.le_of_ble_eq_true rfl) rfl (Nat.le_of_ble_eq_true rfl) b22 rfl r8 (jo_exn rfl))) H
  · exact Eq.trans (jb_rt (i := .invokevirtual 473) (n := 3) (jq qX13_stepsToFinish 5 rfl) (jo_cv (y := mX13_isPlay) rfl (Nat.le_of_ble_eq_true rfl) rfl (Nat.le_of_ble_eq_true rfl) b31 rfl r4 (jo_exn rfl))) H
/-! MaskPlaysModel stepsLeft ()I -/
def tX13_stepsLeft : List (Nat × Instr × Nat) := [(0, .aload_n 0, 1), (1, .bipush 40, 2), (3, .invokevirtual 288, 3), (6, .istore_n 1, 1), (7, .aload_n 0, 1), (8, .invokevirtual 92, 3), (11, .iconst (-1), 1), (12, .if_icmp .ne 7, 3), (15, .iload_n 1, 1), (16, .goto 4, 3), (19, .iconst (-1), 1), (20, .ireturn, 1)]
set_option maxRecDepth 100000 in
theorem qX13_stepsLeft : ∀ q ∈ tX13_stepsLeft, decode cX13_stepsLeft q.1 = .ok (q.2.1, q.2.2) := by decide +kernel
theorem gX13_stepsLeft {d : Nat} {p0 : Nat} {h : jm_H} {r : jm_R} (H : (jm_O h p0 13 (jc_I (jm_D d mX13_stepOn [.ref p0, .int 40] h) (fun x3 h1 => jm_O h1 p0 13 (jc_I (jm_D d mX13_nextScene [.ref p0] h1) (fun x6 h4 => (if x6 = (-1) then some (.inl (some (.int x3)), h4) else some (.inl (some (.int (-1))), h4))) jx)) jx)) = some r) : jm_D (d + 1) mX13_stepsLeft [.ref p0] h = some r := by
  rw [jm_D_body (Nat.le_of_ble_eq_true rfl)]
  show jm_B d mX13_stepsLeft (0, [some (.ref p0), none], []) h = some r
  refine Eq.trans (jb_nx (i := .aload_n 0) (n := 1) (q := (1, [some (.ref p0), none], [.ref p0])) (jq qX13_stepsLeft 0 rfl) rfl) ?_
  refine Eq.trans (jb_nx (i := .bipush 40) (n := 2) (q := (3, [some (.ref p0), none], [.int 40, .ref p0])) (jq qX13_stepsLeft 1 rfl) rfl) ?_
  obtain ⟨b11, H⟩ := jm_O_inv H
  rcases jcI H with ⟨x3, h1, r2, H⟩ | ⟨w12, h13, r2, H⟩
  · refine Eq.trans (jb_nx (i := .invokevirtual 288) (n := 3) (q := (6, [some (.ref p0), none], [.int x3])) (jq qX13_stepsLeft 2 rfl) (jo_cv (y := mX13_stepOn) rfl (Nat.le_of_ble_eq_true rfl) rfl (Nat.le_of_ble_eq_true rfl) b11 rfl r2 jo_ret)) ?_
    refine Eq.trans (jb_nx (i := .istore_n 1) (n := 1) (q := (7, [some (.ref p0), some (.int x3)], [])) (jq qX13_stepsLeft 3 rfl) rfl) ?_
    refine Eq.trans (jb_nx (i := .aload_n 0) (n := 1) (q := (8, [some (.ref p0), some (.int x3)], [.ref p0])) (jq qX13_stepsLeft 4 rfl) rfl) ?_
    obtain ⟨b8, H⟩ := jm_O_inv H
    rcases jcI H with ⟨x6, h4, r5, H⟩ | ⟨w9, h10, r5, H⟩
    · refine Eq.trans (jb_nx (i := .invokevirtual 92) (n := 3) (q := (11, [some (.ref p0), some (.int x3)], [.int x6])) (jq qX13_stepsLeft 5 rfl) (jo_cv (y := mX13_nextScene) rfl (Nat.le_of_ble_eq_true rfl) rfl (Nat.le_of_ble_eq_true rfl) b8 rfl r5 jo_ret)) ?_
      refine Eq.trans (jb_nx (i := .iconst (-1)) (n := 1) (q := (12, [some (.ref p0), some (.int x3)], [.int (-1), .int x6])) (jq qX13_stepsLeft 6 rfl) rfl) ?_
      by_cases c7 : x6 = (-1)
      · rw [if_pos c7] at H
        refine Eq.trans (jb_nx (i := .if_icmp .ne 7) (n := 3) (q := (15, [some (.ref p0), some (.int x3)], [])) (jq qX13_stepsLeft 7 rfl) (jo_icF (jz_neF c7))) ?_
        refine Eq.trans (jb_nx (i := .iload_n 1) (n := 1) (q := (16, [some (.ref p0), some (.int x3)], [.int x3])) (jq qX13_stepsLeft 8 rfl) rfl) ?_
        refine Eq.trans (jb_nx (i := .goto 4) (n := 3) (q := (20, [some (.ref p0), some (.int x3)], [.int x3])) (jq qX13_stepsLeft 9 rfl) rfl) ?_
        exact Eq.trans (jb_rt (i := .ireturn) (n := 1) (jq qX13_stepsLeft 11 rfl) (jo_iret rfl rfl)) H
      · rw [if_neg c7] at H
        refine Eq.trans (jb_nx (i := .if_icmp .ne 7) (n := 3) (q := (19, [some (.ref p0), some (.int x3)], [])) (jq qX13_stepsLeft 7 rfl) (jo_icT (jz_neT c7) rfl)) ?_
        refine Eq.trans (jb_nx (i := .iconst (-1)) (n := 1) (q := (20, [some (.ref p0), some (.int x3)], [.int (-1)])) (jq qX13_stepsLeft 10 rfl) rfl) ?_
        exact Eq.trans (jb_rt (i := .ireturn) (n := 1) (jq qX13_stepsLeft 11 rfl) (jo_iret rfl rfl)) H
    · exact Eq.trans (jb_rt (i := .invokevirtual 92) (n := 3) (jq qX13_stepsLeft 5 rfl) (jo_cv (y := mX13_nextScene) rfl (Nat.le_of_ble_eq_true rfl) rfl (Nat.le_of_ble_eq_true rfl) b8 rfl r5 (jo_exn rfl))) H
  · exact Eq.trans (jb_rt (i := .invokevirtual 288) (n := 3) (jq qX13_stepsLeft 2 rfl) (jo_cv (y := mX13_stepOn) rfl (Nat.le_of_ble_eq_true rfl) rfl (Nat.le_of_ble_eq_true rfl) b11 rfl r2 (jo_exn rfl))) H
/-! MaskPlaysModel stepOn (I)I -/
def tX13_stepOn : List (Nat × Instr × Nat) := [(0, .iconst 0, 1), (1, .istore_n 2, 1), (2, .iload_n 2, 1), (3, .iload_n 1, 1), (4, .if_icmp .ge 21, 3), (7, .aload_n 0, 1), (8, .invokevirtual 260, 3), (11, .ifCond .eq 14, 3), (14, .aload_n 0, 1), (15, .invokevirtual 270, 3), (18, .pop, 1), (19, .iinc 2 1, 3), (22, .goto (-20), 3), (25, .iload_n 2, 1), (26, .ireturn, 1)]
set_option maxRecDepth 100000 in
theorem qX13_stepOn : ∀ q ∈ tX13_stepOn, decode cX13_stepOn q.1 = .ok (q.2.1, q.2.2) := by decide +kernel
noncomputable def kX13_stepOn_2 (d : Nat) (p0 : Nat) (i1 : Int32) (i2 : Int32) (h : jm_H) : Option jm_R := jm_B d mX13_stepOn (2, [some (.ref p0), some (.int i1), some (.int i2)], []) h
theorem gX13_stepOn_2 {d : Nat} {p0 : Nat} {i1 : Int32} {i2 : Int32} {h : jm_H} {r : jm_R} (H : ((if i2 < i1 then jm_O h p0 13 (jc_I (jm_D d mX13_canStepNow [.ref p0] h) (fun x4 h2 => (if x4 = 0 then some (.inl (some (.int i2)), h2) else jm_O h2 p0 13 (jc_I (jm_D d mX13_takeOff [.ref p0] h2) (fun x8 h6 => kX13_stepOn_2 d p0 i1 (i2 + 1) h6) jx))) jx) else some (.inl (some (.int i2)), h))) = some r) : kX13_stepOn_2 d p0 i1 i2 h = some r := by
  show jm_B d mX13_stepOn (2, [some (.ref p0), some (.int i1), some (.int i2)], []) h = some r
  refine Eq.trans (jb_nx (i := .iload_n 2) (n := 1) (q := (3, [some (.ref p0), some (.int i1), some (.int i2)], [.int i2])) (jq qX13_stepOn 2 rfl) rfl) ?_
  refine Eq.trans (jb_nx (i := .iload_n 1) (n := 1) (q := (4, [some (.ref p0), some (.int i1), some (.int i2)], [.int i1, .int i2])) (jq qX13_stepOn 3 rfl) rfl) ?_
  by_cases c1 : i2 < i1
  · rw [if_pos c1] at H
    refine Eq.trans (jb_nx (i := .if_icmp .ge 21) (n := 3) (q := (7, [some (.ref p0), some (.int i1), some (.int i2)], [])) (jq qX13_stepOn 4 rfl) (jo_icF (jz_geF c1))) ?_
    refine Eq.trans (jb_nx (i := .aload_n 0) (n := 1) (q := (8, [some (.ref p0), some (.int i1), some (.int i2)], [.ref p0])) (jq qX13_stepOn 5 rfl) rfl) ?_
    obtain ⟨b12, H⟩ := jm_O_inv H
    rcases jcI H with ⟨x4, h2, r3, H⟩ | ⟨w13, h14, r3, H⟩
    · refine Eq.trans (jb_nx (i := .invokevirtual 260) (n := 3) (q := (11, [some (.ref p0), some (.int i1), some (.int i2)], [.int x4])) (jq qX13_stepOn 6 rfl) (jo_cv (y := mX13_canStepNow) rfl (Nat.le_of_ble_eq_true rfl) rfl (Nat.le_of_ble_eq_true rfl) b12 rfl r3 jo_ret)) ?_
      by_cases c5 : x4 = 0
      · rw [if_pos c5] at H
        refine Eq.trans (jb_nx (i := .ifCond .eq 14) (n := 3) (q := (25, [some (.ref p0), some (.int i1), some (.int i2)], [])) (jq qX13_stepOn 7 rfl) (jo_ifT (jz_eqT c5) rfl)) ?_
        refine Eq.trans (jb_nx (i := .iload_n 2) (n := 1) (q := (26, [some (.ref p0), some (.int i1), some (.int i2)], [.int i2])) (jq qX13_stepOn 13 rfl) rfl) ?_
        exact Eq.trans (jb_rt (i := .ireturn) (n := 1) (jq qX13_stepOn 14 rfl) (jo_iret rfl rfl)) H
      · rw [if_neg c5] at H
        refine Eq.trans (jb_nx (i := .ifCond .eq 14) (n := 3) (q := (14, [some (.ref p0), some (.int i1), some (.int i2)], [])) (jq qX13_stepOn 7 rfl) (jo_ifF (jz_eqF c5))) ?_
        refine Eq.trans (jb_nx (i := .aload_n 0) (n := 1) (q := (15, [some (.ref p0), some (.int i1), some (.int i2)], [.ref p0])) (jq qX13_stepOn 8 rfl) rfl) ?_
        obtain ⟨b9, H⟩ := jm_O_inv H
        rcases jcI H with ⟨x8, h6, r7, H⟩ | ⟨w10, h11, r7, H⟩
        · refine Eq.trans (jb_nx (i := .invokevirtual 270) (n := 3) (q := (18, [some (.ref p0), some (.int i1), some (.int i2)], [.int x8])) (jq qX13_stepOn 9 rfl) (jo_cv (y := mX13_takeOff) rfl (Nat.le_of_ble_eq_true rfl) rfl (Nat.le_of_ble_eq_true rfl) b9 rfl r7 jo_ret)) ?_
          refine Eq.trans (jb_nx (i := .pop) (n := 1) (q := (19, [some (.ref p0), some (.int i1), some (.int i2)], [])) (jq qX13_stepOn 10 rfl) rfl) ?_
          refine Eq.trans (jb_nx (i := .iinc 2 1) (n := 3) (q := (22, [some (.ref p0), some (.int i1), some (.int (i2 + 1))], [])) (jq qX13_stepOn 11 rfl) rfl) ?_
          refine Eq.trans (jb_nx (i := .goto (-20)) (n := 3) (q := (2, [some (.ref p0), some (.int i1), some (.int (i2 + 1))], [])) (jq qX13_stepOn 12 rfl) rfl) ?_
          exact H
        · exact Eq.trans (jb_rt (i := .invokevirtual 270) (n := 3) (jq qX13_stepOn 9 rfl) (jo_cv (y := mX13_takeOff) rfl (Nat.le_of_ble_eq_true rfl) rfl (Nat.le_of_ble_eq_true rfl) b9 rfl r7 (jo_exn rfl))) H
    · exact Eq.trans (jb_rt (i := .invokevirtual 260) (n := 3) (jq qX13_stepOn 6 rfl) (jo_cv (y := mX13_canStepNow) rfl (Nat.le_of_ble_eq_true rfl) rfl (Nat.le_of_ble_eq_true rfl) b12 rfl r3 (jo_exn rfl))) H
  · rw [if_neg c1] at H
    refine Eq.trans (jb_nx (i := .if_icmp .ge 21) (n := 3) (q := (25, [some (.ref p0), some (.int i1), some (.int i2)], [])) (jq qX13_stepOn 4 rfl) (jo_icT (jz_geT c1) rfl)) ?_
    refine Eq.trans (jb_nx (i := .iload_n 2) (n := 1) (q := (26, [some (.ref p0), some (.int i1), some (.int i2)], [.int i2])) (jq qX13_stepOn 13 rfl) rfl) ?_
    exact Eq.trans (jb_rt (i := .ireturn) (n := 1) (jq qX13_stepOn 14 rfl) (jo_iret rfl rfl)) H
theorem gX13_stepOn {d : Nat} {p0 : Nat} {i1 : Int32} {h : jm_H} {r : jm_R} (H : (kX13_stepOn_2 d p0 i1 0 h) = some r) : jm_D (d + 1) mX13_stepOn [.ref p0, .int i1] h = some r := by
  rw [jm_D_body (Nat.le_of_ble_eq_true rfl)]
  show jm_B d mX13_stepOn (0, [some (.ref p0), some (.int i1), none], []) h = some r
  refine Eq.trans (jb_nx (i := .iconst 0) (n := 1) (q := (1, [some (.ref p0), some (.int i1), none], [.int 0])) (jq qX13_stepOn 0 rfl) rfl) ?_
  refine Eq.trans (jb_nx (i := .istore_n 2) (n := 1) (q := (2, [some (.ref p0), some (.int i1), some (.int 0)], [])) (jq qX13_stepOn 1 rfl) rfl) ?_
  exact H
/-! MaskPlaysModel sizeAfterSteps (II)I -/
def tX13_sizeAfterSteps : List (Nat × Instr × Nat) := [(0, .aload_n 0, 1), (1, .iconst 0, 1), (2, .putfield 68, 3), (5, .aload_n 0, 1), (6, .iload_n 1, 1), (7, .invokevirtual 473, 3), (10, .ifCond .ne 9, 3), (13, .aload_n 0, 1), (14, .iconst 1, 1), (15, .invokevirtual 463, 3), (18, .ireturn, 1), (19, .iload_n 2, 1), (20, .iconst 0, 1), (21, .bipush 40, 2), (23, .invokestatic 74, 3), (26, .ifCond .ne 9, 3), (29, .aload_n 0, 1), (30, .iconst 2, 1), (31, .invokevirtual 463, 3), (34, .ireturn, 1), (35, .aload_n 0, 1), (36, .iload_n 1, 1), (37, .invokevirtual 146, 3), (40, .aload_n 0, 1), (41, .iload_n 2, 1), (42, .invokevirtual 288, 3), (45, .pop, 1), (46, .aload_n 0, 1), (47, .getfield 82, 3), (50, .ireturn, 1)]
set_option maxRecDepth 100000 in
theorem qX13_sizeAfterSteps : ∀ q ∈ tX13_sizeAfterSteps, decode cX13_sizeAfterSteps q.1 = .ok (q.2.1, q.2.2) := by decide +kernel
theorem gX13_sizeAfterSteps {d : Nat} {p0 : Nat} {i1 : Int32} {i2 : Int32} {h : jm_H} {r : jm_R} (H : ((jm_pf h p0 12 0 0 (.int 0)).bind fun h1 => jm_O h1 p0 13 (jc_I (jm_D d mX13_isPlay [.ref p0, .int i1] h1) (fun x5 h3 => (if x5 = 0 then jm_O h3 p0 13 (jc_I (jm_D d mX13_no [.ref p0, .int 1] h3) (fun x34 h32 => some (.inl (some (.int x34)), h32)) jx) else jc_I (jm_D d mX13_isIn [.int i2, .int 0, .int 40] h3) (fun x9 h7 => (if x9 = 0 then jm_O h7 p0 13 (jc_I (jm_D d mX13_no [.ref p0, .int 2] h7) (fun x26 h24 => some (.inl (some (.int x26)), h24)) jx) else jm_O h7 p0 13 (jc_V (jm_D d mX13_takeUp [.ref p0, .int i1] h7) (fun h11 => jm_O h11 p0 13 (jc_I (jm_D d mX13_stepOn [.ref p0, .int i2] h11) (fun x15 h13 => (jr_I h13 p0 12 19 0).bind fun x16 => some (.inl (some (.int x16)), h13)) jx)) jx))) jx)) jx)) = some r) : jm_D (d + 1) mX13_sizeAfterSteps [.ref p0, .int i1, .int i2] h = some r := by
  rw [jm_D_body (Nat.le_of_ble_eq_true rfl)]
  show jm_B d mX13_sizeAfterSteps (0, [some (.ref p0), some (.int i1), some (.int i2)], []) h = some r
  refine Eq.trans (jb_nx (i := .aload_n 0) (n := 1) (q := (1, [some (.ref p0), some (.int i1), some (.int i2)], [.ref p0])) (jq qX13_sizeAfterSteps 0 rfl) rfl) ?_
  refine Eq.trans (jb_nx (i := .iconst 0) (n := 1) (q := (2, [some (.ref p0), some (.int i1), some (.int i2)], [.int 0, .ref p0])) (jq qX13_sizeAfterSteps 1 rfl) rfl) ?_
  obtain ⟨h1, e2, H⟩ := jbd H
  refine Eq.trans (jb_nx (i := .putfield 68) (n := 3) (q := (5, [some (.ref p0), some (.int i1), some (.int i2)], [])) (jq qX13_sizeAfterSteps 2 rfl) (jo_pf rfl (Or.inl rfl) e2)) ?_
  refine Eq.trans (jb_nx (i := .aload_n 0) (n := 1) (q := (6, [some (.ref p0), some (.int i1), some (.int i2)], [.ref p0])) (jq qX13_sizeAfterSteps 3 rfl) rfl) ?_
  refine Eq.trans (jb_nx (i := .iload_n 1) (n := 1) (q := (7, [some (.ref p0), some (.int i1), some (.int i2)], [.int i1, .ref p0])) (jq qX13_sizeAfterSteps 4 rfl) rfl) ?_
  obtain ⟨b38, H⟩ := jm_O_inv H
  rcases jcI H with ⟨x5, h3, r4, H⟩ | ⟨w39, h40, r4, H⟩
  · refine Eq.trans (jb_nx (i := .invokevirtual 473) (n := 3) (q := (10, [some (.ref p0), some (.int i1), some (.int i2)], [.int x5])) (jq qX13_sizeAfterSteps 5 rfl) (jo_cv (y := mX13_isPlay) rfl (Nat.le_of_ble_eq_true rfl) rfl (Nat.le_of_ble_eq_true rfl) b38 rfl r4 jo_ret)) ?_
    by_cases c6 : x5 = 0
    · rw [if_pos c6] at H
      refine Eq.trans (jb_nx (i := .ifCond .ne 9) (n := 3) (q := (13, [some (.ref p0), some (.int i1), some (.int i2)], [])) (jq qX13_sizeAfterSteps 6 rfl) (jo_ifF (jz_neF c6))) ?_
      refine Eq.trans (jb_nx (i := .aload_n 0) (n := 1) (q := (14, [some (.ref p0), some (.int i1), some (.int i2)], [.ref p0])) (jq qX13_sizeAfterSteps 7 rfl) rfl) ?_
      refine Eq.trans (jb_nx (i := .iconst 1) (n := 1) (q := (15, [some (.ref p0), some (.int i1), some (.int i2)], [.int 1, .ref p0])) (jq qX13_sizeAfterSteps 8 rfl) rfl) ?_
      obtain ⟨b35, H⟩ := jm_O_inv H
      rcases jcI H with ⟨x34, h32, r33, H⟩ | ⟨w36, h37, r33, H⟩
      · refine Eq.trans (jb_nx (i := .invokevirtual 463) (n := 3) (q := (18, [some (.ref p0), some (.int i1), some (.int i2)], [.int x34])) (jq qX13_sizeAfterSteps 9 rfl) (jo_cv (y := mX13_no) rfl (Nat.le_of_ble_eq_true rfl) rfl (Nat.le_of_ble_eq_true rfl) b35 rfl r33 jo_ret)) ?_
        exact Eq.trans (jb_rt (i := .ireturn) (n := 1) (jq qX13_sizeAfterSteps 10 rfl) (jo_iret rfl rfl)) H
      · exact Eq.trans (jb_rt (i := .invokevirtual 463) (n := 3) (jq qX13_sizeAfterSteps 9 rfl) (jo_cv (y := mX13_no) rfl (Nat.le_of_ble_eq_true rfl) rfl (Nat.le_of_ble_eq_true rfl) b35 rfl r33 (jo_exn rfl))) H
    · rw [if_neg c6] at H
      refine Eq.trans (jb_nx (i := .ifCond .ne 9) (n := 3) (q := (19, [some (.ref p0), some (.int i1), some (.int i2)], [])) (jq qX13_sizeAfterSteps 6 rfl) (jo_ifT (jz_neT c6) rfl)) ?_
      refine Eq.trans (jb_nx (i := .iload_n 2) (n := 1) (q := (20, [some (.ref p0), some (.int i1), some (.int i2)], [.int i2])) (jq qX13_sizeAfterSteps 11 rfl) rfl) ?_
      refine Eq.trans (jb_nx (i := .iconst 0) (n := 1) (q := (21, [some (.ref p0), some (.int i1), some (.int i2)], [.int 0, .int i2])) (jq qX13_sizeAfterSteps 12 rfl) rfl) ?_
      refine Eq.trans (jb_nx (i := .bipush 40) (n := 2) (q := (23, [some (.ref p0), some (.int i1), some (.int i2)], [.int 40, .int 0, .int i2])) (jq qX13_sizeAfterSteps 13 rfl) rfl) ?_
      rcases jcI H with ⟨x9, h7, r8, H⟩ | ⟨w30, h31, r8, H⟩
      · refine Eq.trans (jb_nx (i := .invokestatic 74) (n := 3) (q := (26, [some (.ref p0), some (.int i1), some (.int i2)], [.int x9])) (jq qX13_sizeAfterSteps 14 rfl) (jo_cs (y := mX13_isIn) (w := 1) (by decide) rfl (Nat.le_of_ble_eq_true rfl) rfl (Nat.le_of_ble_eq_true rfl) rfl r8 jo_ret)) ?_
        by_cases c10 : x9 = 0
        · rw [if_pos c10] at H
          refine Eq.trans (jb_nx (i := .ifCond .ne 9) (n := 3) (q := (29, [some (.ref p0), some (.int i1), some (.int i2)], [])) (jq qX13_sizeAfterSteps 15 rfl) (jo_ifF (jz_neF c10))) ?_
          refine Eq.trans (jb_nx (i := .aload_n 0) (n := 1) (q := (30, [some (.ref p0), some (.int i1), some (.int i2)], [.ref p0])) (jq qX13_sizeAfterSteps 16 rfl) rfl) ?_
          refine Eq.trans (jb_nx (i := .iconst 2) (n := 1) (q := (31, [some (.ref p0), some (.int i1), some (.int i2)], [.int 2, .ref p0])) (jq qX13_sizeAfterSteps 17 rfl) rfl) ?_
          obtain ⟨b27, H⟩ := jm_O_inv H
          rcases jcI H with ⟨x26, h24, r25, H⟩ | ⟨w28, h29, r25, H⟩
          · refine Eq.trans (jb_nx (i := .invokevirtual 463) (n := 3) (q := (34, [some (.ref p0), some (.int i1), some (.int i2)], [.int x26])) (jq qX13_sizeAfterSteps 18 rfl) (jo_cv (y := mX13_no) rfl (Nat.le_of_ble_eq_true rfl) rfl (Nat.le_of_ble_eq_true rfl) b27 rfl r25 jo_ret)) ?_
            exact Eq.trans (jb_rt (i := .ireturn) (n := 1) (jq qX13_sizeAfterSteps 19 rfl) (jo_iret rfl rfl)) H
          · exact Eq.trans (jb_rt (i := .invokevirtual 463) (n := 3) (jq qX13_sizeAfterSteps 18 rfl) (jo_cv (y := mX13_no) rfl (Nat.le_of_ble_eq_true rfl) rfl (Nat.le_of_ble_eq_true rfl) b27 rfl r25 (jo_exn rfl))) H
        · rw [if_neg c10] at H
          refine Eq.trans (jb_nx (i := .ifCond .ne 9) (n := 3) (q := (35, [some (.ref p0), some (.int i1), some (.int i2)], [])) (jq qX13_sizeAfterSteps 15 rfl) (jo_ifT (jz_neT c10) rfl)) ?_
          refine Eq.trans (jb_nx (i := .aload_n 0) (n := 1) (q := (36, [some (.ref p0), some (.int i1), some (.int i2)], [.ref p0])) (jq qX13_sizeAfterSteps 20 rfl) rfl) ?_
          refine Eq.trans (jb_nx (i := .iload_n 1) (n := 1) (q := (37, [some (.ref p0), some (.int i1), some (.int i2)], [.int i1, .ref p0])) (jq qX13_sizeAfterSteps 21 rfl) rfl) ?_
          obtain ⟨b21, H⟩ := jm_O_inv H
          rcases jcV H with ⟨h11, r12, H⟩ | ⟨w22, h23, r12, H⟩
          · refine Eq.trans (jb_nx (i := .invokevirtual 146) (n := 3) (q := (40, [some (.ref p0), some (.int i1), some (.int i2)], [])) (jq qX13_sizeAfterSteps 22 rfl) (jo_cv (y := mX13_takeUp) rfl (Nat.le_of_ble_eq_true rfl) rfl (Nat.le_of_ble_eq_true rfl) b21 rfl r12 jo_ret)) ?_
            refine Eq.trans (jb_nx (i := .aload_n 0) (n := 1) (q := (41, [some (.ref p0), some (.int i1), some (.int i2)], [.ref p0])) (jq qX13_sizeAfterSteps 23 rfl) rfl) ?_
            refine Eq.trans (jb_nx (i := .iload_n 2) (n := 1) (q := (42, [some (.ref p0), some (.int i1), some (.int i2)], [.int i2, .ref p0])) (jq qX13_sizeAfterSteps 24 rfl) rfl) ?_
            obtain ⟨b18, H⟩ := jm_O_inv H
            rcases jcI H with ⟨x15, h13, r14, H⟩ | ⟨w19, h20, r14, H⟩
            · refine Eq.trans (jb_nx (i := .invokevirtual 288) (n := 3) (q := (45, [some (.ref p0), some (.int i1), some (.int i2)], [.int x15])) (jq qX13_sizeAfterSteps 25 rfl) (jo_cv (y := mX13_stepOn) rfl (Nat.le_of_ble_eq_true rfl) rfl (Nat.le_of_ble_eq_true rfl) b18 rfl r14 jo_ret)) ?_
              refine Eq.trans (jb_nx (i := .pop) (n := 1) (q := (46, [some (.ref p0), some (.int i1), some (.int i2)], [])) (jq qX13_sizeAfterSteps 26 rfl) rfl) ?_
              refine Eq.trans (jb_nx (i := .aload_n 0) (n := 1) (q := (47, [some (.ref p0), some (.int i1), some (.int i2)], [.ref p0])) (jq qX13_sizeAfterSteps 27 rfl) rfl) ?_
              obtain ⟨x16, e17, H⟩ := jbd H
              refine Eq.trans (jb_nx (i := .getfield 82) (n := 3) (q := (50, [some (.ref p0), some (.int i1), some (.int i2)], [.int x16])) (jq qX13_sizeAfterSteps 28 rfl) (jo_gf rfl (jr_I_inv e17))) ?_
              exact Eq.trans (jb_rt (i := .ireturn) (n := 1) (jq qX13_sizeAfterSteps 29 rfl) (jo_iret rfl rfl)) H
            · exact Eq.trans (jb_rt (i := .invokevirtual 288) (n := 3) (jq qX13_sizeAfterSteps 25 rfl) (jo_cv (y := mX13_stepOn) rfl (Nat.le_of_ble_eq_true rfl) rfl (Nat.le_of_ble_eq_true rfl) b18 rfl r14 (jo_exn rfl))) H
          · exact Eq.trans (jb_rt (i := .invokevirtual 146) (n := 3) (jq qX13_sizeAfterSteps 22 rfl) (jo_cv (y := mX13_takeUp) rfl (Nat.le_of_ble_eq_true rfl) rfl (Nat.le_of_ble_eq_true rfl) b21 rfl r12 (jo_exn rfl))) H
      · exact Eq.trans (jb_rt (i := .invokestatic 74) (n := 3) (jq qX13_sizeAfterSteps 14 rfl) (jo_cs (y := mX13_isIn) (w := 1) (by decide) rfl (Nat.le_of_ble_eq_true rfl) rfl (Nat.le_of_ble_eq_true rfl) rfl r8 (jo_exn rfl))) H
  · exact Eq.trans (jb_rt (i := .invokevirtual 473) (n := 3) (jq qX13_sizeAfterSteps 5 rfl) (jo_cv (y := mX13_isPlay) rfl (Nat.le_of_ble_eq_true rfl) rfl (Nat.le_of_ble_eq_true rfl) b38 rfl r4 (jo_exn rfl))) H
/-! MaskPlaysModel endSame (II)Z -/
def tX13_endSame : List (Nat × Instr × Nat) := [(0, .aload_n 0, 1), (1, .iconst 0, 1), (2, .putfield 68, 3), (5, .aload_n 0, 1), (6, .iload_n 1, 1), (7, .invokevirtual 473, 3), (10, .ifCond .eq 20, 3), (13, .aload_n 0, 1), (14, .iload_n 2, 1), (15, .invokevirtual 473, 3), (18, .ifCond .eq 12, 3), (21, .aload_n 0, 1), (22, .iload_n 1, 1), (23, .iload_n 2, 1), (24, .invokevirtual 503, 3), (27, .goto 8, 3), (30, .aload_n 0, 1), (31, .iconst 1, 1), (32, .invokevirtual 485, 3), (35, .ireturn, 1)]
set_option maxRecDepth 100000 in
theorem qX13_endSame : ∀ q ∈ tX13_endSame, decode cX13_endSame q.1 = .ok (q.2.1, q.2.2) := by decide +kernel
theorem gX13_endSame {d : Nat} {p0 : Nat} {i1 : Int32} {i2 : Int32} {h : jm_H} {r : jm_R} (H : ((jm_pf h p0 12 0 0 (.int 0)).bind fun h1 => jm_O h1 p0 13 (jc_I (jm_D d mX13_isPlay [.ref p0, .int i1] h1) (fun x5 h3 => (if x5 = 0 then jm_O h3 p0 13 (jc_I (jm_D d mX13_isNot [.ref p0, .int 1] h3) (fun x9 h7 => jm_Y .boolean x9 (some (.inl (some (.int x9)), h7))) jx) else jm_O h3 p0 13 (jc_I (jm_D d mX13_isPlay [.ref p0, .int i2] h3) (fun x16 h14 => (if x16 = 0 then jm_O h14 p0 13 (jc_I (jm_D d mX13_isNot [.ref p0, .int 1] h14) (fun x20 h18 => jm_Y .boolean x20 (some (.inl (some (.int x20)), h18))) jx) else jm_O h14 p0 13 (jc_I (jm_D d mX13_endsSame [.ref p0, .int i1, .int i2] h14) (fun x27 h25 => jm_Y .boolean x27 (some (.inl (some (.int x27)), h25))) jx))) jx))) jx)) = some r) : jm_D (d + 1) mX13_endSame [.ref p0, .int i1, .int i2] h = some r := by
  rw [jm_D_body (Nat.le_of_ble_eq_true rfl)]
  show jm_B d mX13_endSame (0, [some (.ref p0), some (.int i1), some (.int i2)], []) h = some r
  refine Eq.trans (jb_nx (i := .aload_n 0) (n := 1) (q := (1, [some (.ref p0), some (.int i1), some (.int i2)], [.ref p0])) (jq qX13_endSame 0 rfl) rfl) ?_
  refine Eq.trans (jb_nx (i := .iconst 0) (n := 1) (q := (2, [some (.ref p0), some (.int i1), some (.int i2)], [.int 0, .ref p0])) (jq qX13_endSame 1 rfl) rfl) ?_
  obtain ⟨h1, e2, H⟩ := jbd H
  refine Eq.trans (jb_nx (i := .putfield 68) (n := 3) (q := (5, [some (.ref p0), some (.int i1), some (.int i2)], [])) (jq qX13_endSame 2 rfl) (jo_pf rfl (Or.inl rfl) e2)) ?_
  refine Eq.trans (jb_nx (i := .aload_n 0) (n := 1) (q := (6, [some (.ref p0), some (.int i1), some (.int i2)], [.ref p0])) (jq qX13_endSame 3 rfl) rfl) ?_
  refine Eq.trans (jb_nx (i := .iload_n 1) (n := 1) (q := (7, [some (.ref p0), some (.int i1), some (.int i2)], [.int i1, .ref p0])) (jq qX13_endSame 4 rfl) rfl) ?_
  obtain ⟨b35, H⟩ := jm_O_inv H
  rcases jcI H with ⟨x5, h3, r4, H⟩ | ⟨w36, h37, r4, H⟩
  · refine Eq.trans (jb_nx (i := .invokevirtual 473) (n := 3) (q := (10, [some (.ref p0), some (.int i1), some (.int i2)], [.int x5])) (jq qX13_endSame 5 rfl) (jo_cv (y := mX13_isPlay) rfl (Nat.le_of_ble_eq_true rfl) rfl (Nat.le_of_ble_eq_true rfl) b35 rfl r4 jo_ret)) ?_
    by_cases c6 : x5 = 0
    · rw [if_pos c6] at H
      refine Eq.trans (jb_nx (i := .ifCond .eq 20) (n := 3) (q := (30, [some (.ref p0), some (.int i1), some (.int i2)], [])) (jq qX13_endSame 6 rfl) (jo_ifT (jz_eqT c6) rfl)) ?_
      refine Eq.trans (jb_nx (i := .aload_n 0) (n := 1) (q := (31, [some (.ref p0), some (.int i1), some (.int i2)], [.ref p0])) (jq qX13_endSame 16 rfl) rfl) ?_
      refine Eq.trans (jb_nx (i := .iconst 1) (n := 1) (q := (32, [some (.ref p0), some (.int i1), some (.int i2)], [.int 1, .ref p0])) (jq qX13_endSame 17 rfl) rfl) ?_
      obtain ⟨b11, H⟩ := jm_O_inv H
      rcases jcI H with ⟨x9, h7, r8, H⟩ | ⟨w12, h13, r8, H⟩
      · refine Eq.trans (jb_nx (i := .invokevirtual 485) (n := 3) (q := (35, [some (.ref p0), some (.int i1), some (.int i2)], [.int x9])) (jq qX13_endSame 18 rfl) (jo_cv (y := mX13_isNot) rfl (Nat.le_of_ble_eq_true rfl) rfl (Nat.le_of_ble_eq_true rfl) b11 rfl r8 jo_ret)) ?_
        obtain ⟨u10, H⟩ := jm_Y_inv H
        exact Eq.trans (jb_rt (i := .ireturn) (n := 1) (jq qX13_endSame 19 rfl) (jo_iret rfl u10)) H
      · exact Eq.trans (jb_rt (i := .invokevirtual 485) (n := 3) (jq qX13_endSame 18 rfl) (jo_cv (y := mX13_isNot) rfl (Nat.le_of_ble_eq_true rfl) rfl (Nat.le_of_ble_eq_true rfl) b11 rfl r8 (jo_exn rfl))) H
    · rw [if_neg c6] at H
      refine Eq.trans (jb_nx (i := .ifCond .eq 20) (n := 3) (q := (13, [some (.ref p0), some (.int i1), some (.int i2)], [])) (jq qX13_endSame 6 rfl) (jo_ifF (jz_eqF c6))) ?_
      refine Eq.trans (jb_nx (i := .aload_n 0) (n := 1) (q := (14, [some (.ref p0), some (.int i1), some (.int i2)], [.ref p0])) (jq qX13_endSame 7 rfl) rfl) ?_
      refine Eq.trans (jb_nx (i := .iload_n 2) (n := 1) (q := (15, [some (.ref p0), some (.int i1), some (.int i2)], [.int i2, .ref p0])) (jq qX13_endSame 8 rfl) rfl) ?_
      obtain ⟨b32, H⟩ := jm_O_inv H
      rcases jcI H with ⟨x16, h14, r15, H⟩ | ⟨w33, h34, r15, H⟩
      · refine Eq.trans (jb_nx (i := .invokevirtual 473) (n := 3) (q := (18, [some (.ref p0), some (.int i1), some (.int i2)], [.int x16])) (jq qX13_endSame 9 rfl) (jo_cv (y := mX13_isPlay) rfl (Nat.le_of_ble_eq_true rfl) rfl (Nat.le_of_ble_eq_true rfl) b32 rfl r15 jo_ret)) ?_
        by_cases c17 : x16 = 0
        · rw [if_pos c17] at H
          refine Eq.trans (jb_nx (i := .ifCond .eq 12) (n := 3) (q := (30, [some (.ref p0), some (.int i1), some (.int i2)], [])) (jq qX13_endSame 10 rfl) (jo_ifT (jz_eqT c17) rfl)) ?_
          refine Eq.trans (jb_nx (i := .aload_n 0) (n := 1) (q := (31, [some (.ref p0), some (.int i1), some (.int i2)], [.ref p0])) (jq qX13_endSame 16 rfl) rfl) ?_
          refine Eq.trans (jb_nx (i := .iconst 1) (n := 1) (q := (32, [some (.ref p0), some (.int i1), some (.int i2)], [.int 1, .ref p0])) (jq qX13_endSame 17 rfl) rfl) ?_
          obtain ⟨b22, H⟩ := jm_O_inv H
          rcases jcI H with ⟨x20, h18, r19, H⟩ | ⟨w23, h24, r19, H⟩
          · refine Eq.trans (jb_nx (i := .invokevirtual 485) (n := 3) (q := (35, [some (.ref p0), some (.int i1), some (.int i2)], [.int x20])) (jq qX13_endSame 18 rfl) (jo_cv (y := mX13_isNot) rfl (Nat.le_of_ble_eq_true rfl) rfl (Nat.le_of_ble_eq_true rfl) b22 rfl r19 jo_ret)) ?_
            obtain ⟨u21, H⟩ := jm_Y_inv H
            exact Eq.trans (jb_rt (i := .ireturn) (n := 1) (jq qX13_endSame 19 rfl) (jo_iret rfl u21)) H
          · exact Eq.trans (jb_rt (i := .invokevirtual 485) (n := 3) (jq qX13_endSame 18 rfl) (jo_cv (y := mX13_isNot) rfl (Nat.le_of_ble_eq_true rfl) rfl (Nat.le_of_ble_eq_true rfl) b22 rfl r19 (jo_exn rfl))) H
        · rw [if_neg c17] at H
          refine Eq.trans (jb_nx (i := .ifCond .eq 12) (n := 3) (q := (21, [some (.ref p0), some (.int i1), some (.int i2)], [])) (jq qX13_endSame 10 rfl) (jo_ifF (jz_eqF c17))) ?_
          refine Eq.trans (jb_nx (i := .aload_n 0) (n := 1) (q := (22, [some (.ref p0), some (.int i1), some (.int i2)], [.ref p0])) (jq qX13_endSame 11 rfl) rfl) ?_
          refine Eq.trans (jb_nx (i := .iload_n 1) (n := 1) (q := (23, [some (.ref p0), some (.int i1), some (.int i2)], [.int i1, .ref p0])) (jq qX13_endSame 12 rfl) rfl) ?_
          refine Eq.trans (jb_nx (i := .iload_n 2) (n := 1) (q := (24, [some (.ref p0), some (.int i1), some (.int i2)], [.int i2, .int i1, .ref p0])) (jq qX13_endSame 13 rfl) rfl) ?_
          obtain ⟨b29, H⟩ := jm_O_inv H
          rcases jcI H with ⟨x27, h25, r26, H⟩ | ⟨w30, h31, r26, H⟩
          · refine Eq.trans (jb_nx (i := .invokevirtual 503) (n := 3) (q := (27, [some (.ref p0), some (.int i1), some (.int i2)], [.int x27])) (jq qX13_endSame 14 rfl) (jo_cv (y := mX13_endsSame) rfl (Nat.le_of_ble_eq_true rfl) rfl (Nat.le_of_ble_eq_true rfl) b29 rfl r26 jo_ret)) ?_
            refine Eq.trans (jb_nx (i := .goto 8) (n := 3) (q := (35, [some (.ref p0), some (.int i1), some (.int i2)], [.int x27])) (jq qX13_endSame 15 rfl) rfl) ?_
            obtain ⟨u28, H⟩ := jm_Y_inv H
            exact Eq.trans (jb_rt (i := .ireturn) (n := 1) (jq qX13_endSame 19 rfl) (jo_iret rfl u28)) H
          · exact Eq.trans (jb_rt (i := .invokevirtual 503) (n := 3) (jq qX13_endSame 14 rfl) (jo_cv (y := mX13_endsSame) rfl (Nat.le_of_ble_eq_true rfl) rfl (Nat.le_of_ble_eq_true rfl) b29 rfl r26 (jo_exn rfl))) H
      · exact Eq.trans (jb_rt (i := .invokevirtual 473) (n := 3) (jq qX13_endSame 9 rfl) (jo_cv (y := mX13_isPlay) rfl (Nat.le_of_ble_eq_true rfl) rfl (Nat.le_of_ble_eq_true rfl) b32 rfl r15 (jo_exn rfl))) H
  · exact Eq.trans (jb_rt (i := .invokevirtual 473) (n := 3) (jq qX13_endSame 5 rfl) (jo_cv (y := mX13_isPlay) rfl (Nat.le_of_ble_eq_true rfl) rfl (Nat.le_of_ble_eq_true rfl) b35 rfl r4 (jo_exn rfl))) H
/-! MaskPlaysModel endsSame (II)Z -/
def tX13_endsSame : List (Nat × Instr × Nat) := [(0, .aload_n 0, 1), (1, .iload_n 1, 1), (2, .invokevirtual 146, 3), (5, .aload_n 0, 1), (6, .bipush 40, 2), (8, .invokevirtual 288, 3), (11, .pop, 1), (12, .aload_n 0, 1), (13, .invokevirtual 150, 3), (16, .istore_n 3, 1), (17, .aload_n 0, 1), (18, .iload_n 2, 1), (19, .invokevirtual 146, 3), (22, .aload_n 0, 1), (23, .bipush 40, 2), (25, .invokevirtual 288, 3), (28, .pop, 1), (29, .aload_n 0, 1), (30, .iload_n 3, 1), (31, .invokevirtual 153, 3), (34, .ireturn, 1)]
set_option maxRecDepth 100000 in
theorem qX13_endsSame : ∀ q ∈ tX13_endsSame, decode cX13_endsSame q.1 = .ok (q.2.1, q.2.2) := by decide +kernel
theorem gX13_endsSame {d : Nat} {p0 : Nat} {i1 : Int32} {i2 : Int32} {h : jm_H} {r : jm_R} (H : (jm_O h p0 13 (jc_V (jm_D d mX13_takeUp [.ref p0, .int i1] h) (fun h1 => jm_O h1 p0 13 (jc_I (jm_D d mX13_stepOn [.ref p0, .int 40] h1) (fun x5 h3 => jm_O h3 p0 13 (jc_I (jm_D d mX13_setAside [.ref p0] h3) (fun x8 h6 => jm_O h6 p0 13 (jc_V (jm_D d mX13_takeUp [.ref p0, .int i2] h6) (fun h9 => jm_O h9 p0 13 (jc_I (jm_D d mX13_stepOn [.ref p0, .int 40] h9) (fun x13 h11 => jm_O h11 p0 13 (jc_I (jm_D d mX13_isAlike [.ref p0, .int x8] h11) (fun x16 h14 => jm_Y .boolean x16 (some (.inl (some (.int x16)), h14))) jx)) jx)) jx)) jx)) jx)) jx)) = some r) : jm_D (d + 1) mX13_endsSame [.ref p0, .int i1, .int i2] h = some r := by
  rw [jm_D_body (Nat.le_of_ble_eq_true rfl)]
  show jm_B d mX13_endsSame (0, [some (.ref p0), some (.int i1), some (.int i2), none], []) h = some r
  refine Eq.trans (jb_nx (i := .aload_n 0) (n := 1) (q := (1, [some (.ref p0), some (.int i1), some (.int i2), none], [.ref p0])) (jq qX13_endsSame 0 rfl) rfl) ?_
  refine Eq.trans (jb_nx (i := .iload_n 1) (n := 1) (q := (2, [some (.ref p0), some (.int i1), some (.int i2), none], [.int i1, .ref p0])) (jq qX13_endsSame 1 rfl) rfl) ?_
  obtain ⟨b33, H⟩ := jm_O_inv H
  rcases jcV H with ⟨h1, r2, H⟩ | ⟨w34, h35, r2, H⟩
  · refine Eq.trans (jb_nx (i := .invokevirtual 146) (n := 3) (q := (5, [some (.ref p0), some (.int i1), some (.int i2), none], [])) (jq qX13_endsSame 2 rfl) (jo_cv (y := mX13_takeUp) rfl (Nat.le_of_ble_eq_true rfl) rfl (Nat.le_of_ble_eq_true rfl) b33 rfl r2 jo_ret)) ?_
    refine Eq.trans (jb_nx (i := .aload_n 0) (n := 1) (q := (6, [some (.ref p0), some (.int i1), some (.int i2), none], [.ref p0])) (jq qX13_endsSame 3 rfl) rfl) ?_
    refine Eq.trans (jb_nx (i := .bipush 40) (n := 2) (q := (8, [some (.ref p0), some (.int i1), some (.int i2), none], [.int 40, .ref p0])) (jq qX13_endsSame 4 rfl) rfl) ?_
    obtain ⟨b30, H⟩ := jm_O_inv H
    rcases jcI H with ⟨x5, h3, r4, H⟩ | ⟨w31, h32, r4, H⟩
    · refine Eq.trans (jb_nx (i := .invokevirtual 288) (n := 3) (q := (11, [some (.ref p0), some (.int i1), some (.int i2), none], [.int x5])) (jq qX13_endsSame 5 rfl) (jo_cv (y := mX13_stepOn) rfl (Nat.le_of_ble_eq_true rfl) rfl (Nat.le_of_ble_eq_true rfl) b30 rfl r4 jo_ret)) ?_
      refine Eq.trans (jb_nx (i := .pop) (n := 1) (q := (12, [some (.ref p0), some (.int i1), some (.int i2), none], [])) (jq qX13_endsSame 6 rfl) rfl) ?_
      refine Eq.trans (jb_nx (i := .aload_n 0) (n := 1) (q := (13, [some (.ref p0), some (.int i1), some (.int i2), none], [.ref p0])) (jq qX13_endsSame 7 rfl) rfl) ?_
      obtain ⟨b27, H⟩ := jm_O_inv H
      rcases jcI H with ⟨x8, h6, r7, H⟩ | ⟨w28, h29, r7, H⟩
      · refine Eq.trans (jb_nx (i := .invokevirtual 150) (n := 3) (q := (16, [some (.ref p0), some (.int i1), some (.int i2), none], [.int x8])) (jq qX13_endsSame 8 rfl) (jo_cv (y := mX13_setAside) rfl (Nat.le_of_ble_eq_true rfl) rfl (Nat.le_of_ble_eq_true rfl) b27 rfl r7 jo_ret)) ?_
        refine Eq.trans (jb_nx (i := .istore_n 3) (n := 1) (q := (17, [some (.ref p0), some (.int i1), some (.int i2), some (.int x8)], [])) (jq qX13_endsSame 9 rfl) rfl) ?_
        refine Eq.trans (jb_nx (i := .aload_n 0) (n := 1) (q := (18, [some (.ref p0), some (.int i1), some (.int i2), some (.int x8)], [.ref p0])) (jq qX13_endsSame 10 rfl) rfl) ?_
        refine Eq.trans (jb_nx (i := .iload_n 2) (n := 1) (q := (19, [some (.ref p0), some (.int i1), some (.int i2), some (.int x8)], [.int i2, .ref p0])) (jq qX13_endsSame 11 rfl) rfl) ?_
        obtain ⟨b24, H⟩ := jm_O_inv H
        rcases jcV H with ⟨h9, r10, H⟩ | ⟨w25, h26, r10, H⟩
        · refine Eq.trans (jb_nx (i := .invokevirtual 146) (n := 3) (q := (22, [some (.ref p0), some (.int i1), some (.int i2), some (.int x8)], [])) (jq qX13_endsSame 12 rfl) (jo_cv (y := mX13_takeUp) rfl (Nat.le_of_ble_eq_true rfl) rfl (Nat.le_of_ble_eq_true rfl) b24 rfl r10 jo_ret)) ?_
          refine Eq.trans (jb_nx (i := .aload_n 0) (n := 1) (q := (23, [some (.ref p0), some (.int i1), some (.int i2), some (.int x8)], [.ref p0])) (jq qX13_endsSame 13 rfl) rfl) ?_
          refine Eq.trans (jb_nx (i := .bipush 40) (n := 2) (q := (25, [some (.ref p0), some (.int i1), some (.int i2), some (.int x8)], [.int 40, .ref p0])) (jq qX13_endsSame 14 rfl) rfl) ?_
          obtain ⟨b21, H⟩ := jm_O_inv H
          rcases jcI H with ⟨x13, h11, r12, H⟩ | ⟨w22, h23, r12, H⟩
          · refine Eq.trans (jb_nx (i := .invokevirtual 288) (n := 3) (q := (28, [some (.ref p0), some (.int i1), some (.int i2), some (.int x8)], [.int x13])) (jq qX13_endsSame 15 rfl) (jo_cv (y := mX13_stepOn) rfl (Nat.le_of_ble_eq_true rfl) rfl (Nat.le_of_ble_eq_true rfl) b21 rfl r12 jo_ret)) ?_
            refine Eq.trans (jb_nx (i := .pop) (n := 1) (q := (29, [some (.ref p0), some (.int i1), some (.int i2), some (.int x8)], [])) (jq qX13_endsSame 16 rfl) rfl) ?_
            refine Eq.trans (jb_nx (i := .aload_n 0) (n := 1) (q := (30, [some (.ref p0), some (.int i1), some (.int i2), some (.int x8)], [.ref p0])) (jq qX13_endsSame 17 rfl) rfl) ?_
            refine Eq.trans (jb_nx (i := .iload_n 3) (n := 1) (q := (31, [some (.ref p0), some (.int i1), some (.int i2), some (.int x8)], [.int x8, .ref p0])) (jq qX13_endsSame 18 rfl) rfl) ?_
            obtain ⟨b18, H⟩ := jm_O_inv H
            rcases jcI H with ⟨x16, h14, r15, H⟩ | ⟨w19, h20, r15, H⟩
            · refine Eq.trans (jb_nx (i := .invokevirtual 153) (n := 3) (q := (34, [some (.ref p0), some (.int i1), some (.int i2), some (.int x8)], [.int x16])) (jq qX13_endsSame 19 rfl) (jo_cv (y := mX13_isAlike) rfl (Nat.le_of_ble_eq_true rfl) rfl (Nat.le_of_ble_eq_true rfl) b18 rfl r15 jo_ret)) ?_
              obtain ⟨u17, H⟩ := jm_Y_inv H
              exact Eq.trans (jb_rt (i := .ireturn) (n := 1) (jq qX13_endsSame 20 rfl) (jo_iret rfl u17)) H
            · exact Eq.trans (jb_rt (i := .invokevirtual 153) (n := 3) (jq qX13_endsSame 19 rfl) (jo_cv (y := mX13_isAlike) rfl (Nat.le_of_ble_eq_true rfl) rfl (Nat.le_of_ble_eq_true rfl) b18 rfl r15 (jo_exn rfl))) H
          · exact Eq.trans (jb_rt (i := .invokevirtual 288) (n := 3) (jq qX13_endsSame 15 rfl) (jo_cv (y := mX13_stepOn) rfl (Nat.le_of_ble_eq_true rfl) rfl (Nat.le_of_ble_eq_true rfl) b21 rfl r12 (jo_exn rfl))) H
        · exact Eq.trans (jb_rt (i := .invokevirtual 146) (n := 3) (jq qX13_endsSame 12 rfl) (jo_cv (y := mX13_takeUp) rfl (Nat.le_of_ble_eq_true rfl) rfl (Nat.le_of_ble_eq_true rfl) b24 rfl r10 (jo_exn rfl))) H
      · exact Eq.trans (jb_rt (i := .invokevirtual 150) (n := 3) (jq qX13_endsSame 8 rfl) (jo_cv (y := mX13_setAside) rfl (Nat.le_of_ble_eq_true rfl) rfl (Nat.le_of_ble_eq_true rfl) b27 rfl r7 (jo_exn rfl))) H
    · exact Eq.trans (jb_rt (i := .invokevirtual 288) (n := 3) (jq qX13_endsSame 5 rfl) (jo_cv (y := mX13_stepOn) rfl (Nat.le_of_ble_eq_true rfl) rfl (Nat.le_of_ble_eq_true rfl) b30 rfl r4 (jo_exn rfl))) H
  · exact Eq.trans (jb_rt (i := .invokevirtual 146) (n := 3) (jq qX13_endsSame 2 rfl) (jo_cv (y := mX13_takeUp) rfl (Nat.le_of_ble_eq_true rfl) rfl (Nat.le_of_ble_eq_true rfl) b33 rfl r2 (jo_exn rfl))) H
/-! MaskPlaysModel sizeAfterEvenings (II)I -/
def tX13_sizeAfterEvenings : List (Nat × Instr × Nat) := [(0, .aload_n 0, 1), (1, .iconst 0, 1), (2, .putfield 68, 3), (5, .aload_n 0, 1), (6, .iload_n 1, 1), (7, .invokevirtual 473, 3), (10, .ifCond .ne 9, 3), (13, .aload_n 0, 1), (14, .iconst 1, 1), (15, .invokevirtual 463, 3), (18, .ireturn, 1), (19, .iload_n 2, 1), (20, .iconst 1, 1), (21, .bipush 20, 2), (23, .invokestatic 74, 3), (26, .ifCond .ne 9, 3), (29, .aload_n 0, 1), (30, .iconst 2, 1), (31, .invokevirtual 463, 3), (34, .ireturn, 1), (35, .aload_n 0, 1), (36, .invokevirtual 506, 3), (39, .iconst 0, 1), (40, .istore_n 3, 1), (41, .iload_n 3, 1), (42, .iload_n 2, 1), (43, .if_icmp .ge 14, 3), (46, .aload_n 0, 1), (47, .invokevirtual 497, 3), (50, .pop, 1), (51, .iinc 3 1, 3), (54, .goto (-13), 3), (57, .aload_n 0, 1), (58, .getfield 28, 3), (61, .iload_n 1, 1), (62, .iaload, 1), (63, .istore_n 3, 1), (64, .aload_n 0, 1), (65, .invokevirtual 509, 3), (68, .iload_n 3, 1), (69, .ireturn, 1)]
set_option maxRecDepth 100000 in
theorem qX13_sizeAfterEvenings : ∀ q ∈ tX13_sizeAfterEvenings, decode cX13_sizeAfterEvenings q.1 = .ok (q.2.1, q.2.2) := by decide +kernel
noncomputable def kX13_sizeAfterEvenings_41 (d : Nat) (p0 : Nat) (i1 : Int32) (i2 : Int32) (i3 : Int32) (h : jm_H) : Option jm_R := jm_B d mX13_sizeAfterEvenings (41, [some (.ref p0), some (.int i1), some (.int i2), some (.int i3)], []) h
theorem gX13_sizeAfterEvenings_41 {d : Nat} {p0 : Nat} {i1 : Int32} {i2 : Int32} {i3 : Int32} {h : jm_H} {r : jm_R} (H : ((if i3 < i2 then jm_O h p0 13 (jc_I (jm_D d mX13_evening [.ref p0] h) (fun x45 h43 => kX13_sizeAfterEvenings_41 d p0 i1 i2 (i3 + 1) h43) jx) else (jr_R h p0 12 9 2).bind fun a34 => (jm_ali h a34 0 i1).bind fun x36 => jm_O h p0 13 (jc_V (jm_D d mX13_bringBack [.ref p0] h) (fun h38 => some (.inl (some (.int x36)), h38)) jx))) = some r) : kX13_sizeAfterEvenings_41 d p0 i1 i2 i3 h = some r := by
  show jm_B d mX13_sizeAfterEvenings (41, [some (.ref p0), some (.int i1), some (.int i2), some (.int i3)], []) h = some r
  refine Eq.trans (jb_nx (i := .iload_n 3) (n := 1) (q := (42, [some (.ref p0), some (.int i1), some (.int i2), some (.int i3)], [.int i3])) (jq qX13_sizeAfterEvenings 24 rfl) rfl) ?_
  refine Eq.trans (jb_nx (i := .iload_n 2) (n := 1) (q := (43, [some (.ref p0), some (.int i1), some (.int i2), some (.int i3)], [.int i2, .int i3])) (jq qX13_sizeAfterEvenings 25 rfl) rfl) ?_
  by_cases c33 : i3 < i2
  · rw [if_pos c33] at H
    refine Eq.trans (jb_nx (i := .if_icmp .ge 14) (n := 3) (q := (46, [some (.ref p0), some (.int i1), some (.int i2), some (.int i3)], [])) (jq qX13_sizeAfterEvenings 26 rfl) (jo_icF (jz_geF c33))) ?_
    refine Eq.trans (jb_nx (i := .aload_n 0) (n := 1) (q := (47, [some (.ref p0), some (.int i1), some (.int i2), some (.int i3)], [.ref p0])) (jq qX13_sizeAfterEvenings 27 rfl) rfl) ?_
    obtain ⟨b46, H⟩ := jm_O_inv H
    rcases jcI H with ⟨x45, h43, r44, H⟩ | ⟨w47, h48, r44, H⟩
    · refine Eq.trans (jb_nx (i := .invokevirtual 497) (n := 3) (q := (50, [some (.ref p0), some (.int i1), some (.int i2), some (.int i3)], [.int x45])) (jq qX13_sizeAfterEvenings 28 rfl) (jo_cv (y := mX13_evening) rfl (Nat.le_of_ble_eq_true rfl) rfl (Nat.le_of_ble_eq_true rfl) b46 rfl r44 jo_ret)) ?_
      refine Eq.trans (jb_nx (i := .pop) (n := 1) (q := (51, [some (.ref p0), some (.int i1), some (.int i2), some (.int i3)], [])) (jq qX13_sizeAfterEvenings 29 rfl) rfl) ?_
      refine Eq.trans (jb_nx (i := .iinc 3 1) (n := 3) (q := (54, [some (.ref p0), some (.int i1), some (.int i2), some (.int (i3 + 1))], [])) (jq qX13_sizeAfterEvenings 30 rfl) rfl) ?_
      refine Eq.trans (jb_nx (i := .goto (-13)) (n := 3) (q := (41, [some (.ref p0), some (.int i1), some (.int i2), some (.int (i3 + 1))], [])) (jq qX13_sizeAfterEvenings 31 rfl) rfl) ?_
      exact H
    · exact Eq.trans (jb_rt (i := .invokevirtual 497) (n := 3) (jq qX13_sizeAfterEvenings 28 rfl) (jo_cv (y := mX13_evening) rfl (Nat.le_of_ble_eq_true rfl) rfl (Nat.le_of_ble_eq_true rfl) b46 rfl r44 (jo_exn rfl))) H
  · rw [if_neg c33] at H
    refine Eq.trans (jb_nx (i := .if_icmp .ge 14) (n := 3) (q := (57, [some (.ref p0), some (.int i1), some (.int i2), some (.int i3)], [])) (jq qX13_sizeAfterEvenings 26 rfl) (jo_icT (jz_geT c33) rfl)) ?_
    refine Eq.trans (jb_nx (i := .aload_n 0) (n := 1) (q := (58, [some (.ref p0), some (.int i1), some (.int i2), some (.int i3)], [.ref p0])) (jq qX13_sizeAfterEvenings 32 rfl) rfl) ?_
    obtain ⟨a34, e35, H⟩ := jbd H
    refine Eq.trans (jb_nx (i := .getfield 28) (n := 3) (q := (61, [some (.ref p0), some (.int i1), some (.int i2), some (.int i3)], [.ref a34])) (jq qX13_sizeAfterEvenings 33 rfl) (jo_gf rfl (jr_R_inv e35))) ?_
    refine Eq.trans (jb_nx (i := .iload_n 1) (n := 1) (q := (62, [some (.ref p0), some (.int i1), some (.int i2), some (.int i3)], [.int i1, .ref a34])) (jq qX13_sizeAfterEvenings 34 rfl) rfl) ?_
    obtain ⟨x36, e37, H⟩ := jbd H
    refine Eq.trans (jb_nx (i := .iaload) (n := 1) (q := (63, [some (.ref p0), some (.int i1), some (.int i2), some (.int i3)], [.int x36])) (jq qX13_sizeAfterEvenings 35 rfl) (jo_ial e37)) ?_
    refine Eq.trans (jb_nx (i := .istore_n 3) (n := 1) (q := (64, [some (.ref p0), some (.int i1), some (.int i2), some (.int x36)], [])) (jq qX13_sizeAfterEvenings 36 rfl) rfl) ?_
    refine Eq.trans (jb_nx (i := .aload_n 0) (n := 1) (q := (65, [some (.ref p0), some (.int i1), some (.int i2), some (.int x36)], [.ref p0])) (jq qX13_sizeAfterEvenings 37 rfl) rfl) ?_
    obtain ⟨b40, H⟩ := jm_O_inv H
    rcases jcV H with ⟨h38, r39, H⟩ | ⟨w41, h42, r39, H⟩
    · refine Eq.trans (jb_nx (i := .invokevirtual 509) (n := 3) (q := (68, [some (.ref p0), some (.int i1), some (.int i2), some (.int x36)], [])) (jq qX13_sizeAfterEvenings 38 rfl) (jo_cv (y := mX13_bringBack) rfl (Nat.le_of_ble_eq_true rfl) rfl (Nat.le_of_ble_eq_true rfl) b40 rfl r39 jo_ret)) ?_
      refine Eq.trans (jb_nx (i := .iload_n 3) (n := 1) (q := (69, [some (.ref p0), some (.int i1), some (.int i2), some (.int x36)], [.int x36])) (jq qX13_sizeAfterEvenings 39 rfl) rfl) ?_
      exact Eq.trans (jb_rt (i := .ireturn) (n := 1) (jq qX13_sizeAfterEvenings 40 rfl) (jo_iret rfl rfl)) H
    · exact Eq.trans (jb_rt (i := .invokevirtual 509) (n := 3) (jq qX13_sizeAfterEvenings 38 rfl) (jo_cv (y := mX13_bringBack) rfl (Nat.le_of_ble_eq_true rfl) rfl (Nat.le_of_ble_eq_true rfl) b40 rfl r39 (jo_exn rfl))) H
theorem gX13_sizeAfterEvenings {d : Nat} {p0 : Nat} {i1 : Int32} {i2 : Int32} {h : jm_H} {r : jm_R} (H : ((jm_pf h p0 12 0 0 (.int 0)).bind fun h1 => jm_O h1 p0 13 (jc_I (jm_D d mX13_isPlay [.ref p0, .int i1] h1) (fun x5 h3 => (if x5 = 0 then jm_O h3 p0 13 (jc_I (jm_D d mX13_no [.ref p0, .int 1] h3) (fun x26 h24 => some (.inl (some (.int x26)), h24)) jx) else jc_I (jm_D d mX13_isIn [.int i2, .int 1, .int 20] h3) (fun x9 h7 => (if x9 = 0 then jm_O h7 p0 13 (jc_I (jm_D d mX13_no [.ref p0, .int 2] h7) (fun x18 h16 => some (.inl (some (.int x18)), h16)) jx) else jm_O h7 p0 13 (jc_V (jm_D d mX13_keep [.ref p0] h7) (fun h11 => kX13_sizeAfterEvenings_41 d p0 i1 i2 0 h11) jx))) jx)) jx)) = some r) : jm_D (d + 1) mX13_sizeAfterEvenings [.ref p0, .int i1, .int i2] h = some r := by
  rw [jm_D_body (Nat.le_of_ble_eq_true rfl)]
  show jm_B d mX13_sizeAfterEvenings (0, [some (.ref p0), some (.int i1), some (.int i2), none], []) h = some r
  refine Eq.trans (jb_nx (i := .aload_n 0) (n := 1) (q := (1, [some (.ref p0), some (.int i1), some (.int i2), none], [.ref p0])) (jq qX13_sizeAfterEvenings 0 rfl) rfl) ?_
  refine Eq.trans (jb_nx (i := .iconst 0) (n := 1) (q := (2, [some (.ref p0), some (.int i1), some (.int i2), none], [.int 0, .ref p0])) (jq qX13_sizeAfterEvenings 1 rfl) rfl) ?_
  obtain ⟨h1, e2, H⟩ := jbd H
  refine Eq.trans (jb_nx (i := .putfield 68) (n := 3) (q := (5, [some (.ref p0), some (.int i1), some (.int i2), none], [])) (jq qX13_sizeAfterEvenings 2 rfl) (jo_pf rfl (Or.inl rfl) e2)) ?_
  refine Eq.trans (jb_nx (i := .aload_n 0) (n := 1) (q := (6, [some (.ref p0), some (.int i1), some (.int i2), none], [.ref p0])) (jq qX13_sizeAfterEvenings 3 rfl) rfl) ?_
  refine Eq.trans (jb_nx (i := .iload_n 1) (n := 1) (q := (7, [some (.ref p0), some (.int i1), some (.int i2), none], [.int i1, .ref p0])) (jq qX13_sizeAfterEvenings 4 rfl) rfl) ?_
  obtain ⟨b30, H⟩ := jm_O_inv H
  rcases jcI H with ⟨x5, h3, r4, H⟩ | ⟨w31, h32, r4, H⟩
  · refine Eq.trans (jb_nx (i := .invokevirtual 473) (n := 3) (q := (10, [some (.ref p0), some (.int i1), some (.int i2), none], [.int x5])) (jq qX13_sizeAfterEvenings 5 rfl) (jo_cv (y := mX13_isPlay) rfl (Nat.le_of_ble_eq_true rfl) rfl (Nat.le_of_ble_eq_true rfl) b30 rfl r4 jo_ret)) ?_
    by_cases c6 : x5 = 0
    · rw [if_pos c6] at H
      refine Eq.trans (jb_nx (i := .ifCond .ne 9) (n := 3) (q := (13, [some (.ref p0), some (.int i1), some (.int i2), none], [])) (jq qX13_sizeAfterEvenings 6 rfl) (jo_ifF (jz_neF c6))) ?_
      refine Eq.trans (jb_nx (i := .aload_n 0) (n := 1) (q := (14, [some (.ref p0), some (.int i1), some (.int i2), none], [.ref p0])) (jq qX13_sizeAfterEvenings 7 rfl) rfl) ?_
      refine Eq.trans (jb_nx (i := .iconst 1) (n := 1) (q := (15, [some (.ref p0), some (.int i1), some (.int i2), none], [.int 1, .ref p0])) (jq qX13_sizeAfterEvenings 8 rfl) rfl) ?_
      obtain ⟨b27, H⟩ := jm_O_inv H
      rcases jcI H with ⟨x26, h24, r25, H⟩ | ⟨w28, h29, r25, H⟩
      · refine Eq.trans (jb_nx (i := .invokevirtual 463) (n := 3) (q := (18, [some (.ref p0), some (.int i1), some (.int i2), none], [.int x26])) (jq qX13_sizeAfterEvenings 9 rfl) (jo_cv (y := mX13_no) rfl (Nat.le_of_ble_eq_true rfl) rfl (Nat.le_of_ble_eq_true rfl) b27 rfl r25 jo_ret)) ?_
        exact Eq.trans (jb_rt (i := .ireturn) (n := 1) (jq qX13_sizeAfterEvenings 10 rfl) (jo_iret rfl rfl)) H
      · exact Eq.trans (jb_rt (i := .invokevirtual 463) (n := 3) (jq qX13_sizeAfterEvenings 9 rfl) (jo_cv (y := mX13_no) rfl (Nat.le_of_ble_eq_true rfl) rfl (Nat.le_of_ble_eq_true rfl) b27 rfl r25 (jo_exn rfl))) H
    · rw [if_neg c6] at H
      refine Eq.trans (jb_nx (i := .ifCond .ne 9) (n := 3) (q := (19, [some (.ref p0), some (.int i1), some (.int i2), none], [])) (jq qX13_sizeAfterEvenings 6 rfl) (jo_ifT (jz_neT c6) rfl)) ?_
      refine Eq.trans (jb_nx (i := .iload_n 2) (n := 1) (q := (20, [some (.ref p0), some (.int i1), some (.int i2), none], [.int i2])) (jq qX13_sizeAfterEvenings 11 rfl) rfl) ?_
      refine Eq.trans (jb_nx (i := .iconst 1) (n := 1) (q := (21, [some (.ref p0), some (.int i1), some (.int i2), none], [.int 1, .int i2])) (jq qX13_sizeAfterEvenings 12 rfl) rfl) ?_
      refine Eq.trans (jb_nx (i := .bipush 20) (n := 2) (q := (23, [some (.ref p0), some (.int i1), some (.int i2), none], [.int 20, .int 1, .int i2])) (jq qX13_sizeAfterEvenings 13 rfl) rfl) ?_
      rcases jcI H with ⟨x9, h7, r8, H⟩ | ⟨w22, h23, r8, H⟩
      · refine Eq.trans (jb_nx (i := .invokestatic 74) (n := 3) (q := (26, [some (.ref p0), some (.int i1), some (.int i2), none], [.int x9])) (jq qX13_sizeAfterEvenings 14 rfl) (jo_cs (y := mX13_isIn) (w := 1) (by decide) rfl (Nat.le_of_ble_eq_true rfl) rfl (Nat.le_of_ble_eq_true rfl) rfl r8 jo_ret)) ?_
        by_cases c10 : x9 = 0
        · rw [if_pos c10] at H
          refine Eq.trans (jb_nx (i := .ifCond .ne 9) (n := 3) (q := (29, [some (.ref p0), some (.int i1), some (.int i2), none], [])) (jq qX13_sizeAfterEvenings 15 rfl) (jo_ifF (jz_neF c10))) ?_
          refine Eq.trans (jb_nx (i := .aload_n 0) (n := 1) (q := (30, [some (.ref p0), some (.int i1), some (.int i2), none], [.ref p0])) (jq qX13_sizeAfterEvenings 16 rfl) rfl) ?_
          refine Eq.trans (jb_nx (i := .iconst 2) (n := 1) (q := (31, [some (.ref p0), some (.int i1), some (.int i2), none], [.int 2, .ref p0])) (jq qX13_sizeAfterEvenings 17 rfl) rfl) ?_
          obtain ⟨b19, H⟩ := jm_O_inv H
          rcases jcI H with ⟨x18, h16, r17, H⟩ | ⟨w20, h21, r17, H⟩
          · refine Eq.trans (jb_nx (i := .invokevirtual 463) (n := 3) (q := (34, [some (.ref p0), some (.int i1), some (.int i2), none], [.int x18])) (jq qX13_sizeAfterEvenings 18 rfl) (jo_cv (y := mX13_no) rfl (Nat.le_of_ble_eq_true rfl) rfl (Nat.le_of_ble_eq_true rfl) b19 rfl r17 jo_ret)) ?_
            exact Eq.trans (jb_rt (i := .ireturn) (n := 1) (jq qX13_sizeAfterEvenings 19 rfl) (jo_iret rfl rfl)) H
          · exact Eq.trans (jb_rt (i := .invokevirtual 463) (n := 3) (jq qX13_sizeAfterEvenings 18 rfl) (jo_cv (y := mX13_no) rfl (Nat.le_of_ble_eq_true rfl) rfl (Nat.le_of_ble_eq_true rfl) b19 rfl r17 (jo_exn rfl))) H
        · rw [if_neg c10] at H
          refine Eq.trans (jb_nx (i := .ifCond .ne 9) (n := 3) (q := (35, [some (.ref p0), some (.int i1), some (.int i2), none], [])) (jq qX13_sizeAfterEvenings 15 rfl) (jo_ifT (jz_neT c10) rfl)) ?_
          refine Eq.trans (jb_nx (i := .aload_n 0) (n := 1) (q := (36, [some (.ref p0), some (.int i1), some (.int i2), none], [.ref p0])) (jq qX13_sizeAfterEvenings 20 rfl) rfl) ?_
          obtain ⟨b13, H⟩ := jm_O_inv H
          rcases jcV H with ⟨h11, r12, H⟩ | ⟨w14, h15, r12, H⟩
          · refine Eq.trans (jb_nx (i := .invokevirtual 506) (n := 3) (q := (39, [some (.ref p0), some (.int i1), some (.int i2), none], [])) (jq qX13_sizeAfterEvenings 21 rfl) (jo_cv (y := mX13_keep) rfl (Nat.le_of_ble_eq_true rfl) rfl (Nat.le_of_ble_eq_true rfl) b13 rfl r12 jo_ret)) ?_
            refine Eq.trans (jb_nx (i := .iconst 0) (n := 1) (q := (40, [some (.ref p0), some (.int i1), some (.int i2), none], [.int 0])) (jq qX13_sizeAfterEvenings 22 rfl) rfl) ?_
            refine Eq.trans (jb_nx (i := .istore_n 3) (n := 1) (q := (41, [some (.ref p0), some (.int i1), some (.int i2), some (.int 0)], [])) (jq qX13_sizeAfterEvenings 23 rfl) rfl) ?_
            exact H
          · exact Eq.trans (jb_rt (i := .invokevirtual 506) (n := 3) (jq qX13_sizeAfterEvenings 21 rfl) (jo_cv (y := mX13_keep) rfl (Nat.le_of_ble_eq_true rfl) rfl (Nat.le_of_ble_eq_true rfl) b13 rfl r12 (jo_exn rfl))) H
      · exact Eq.trans (jb_rt (i := .invokestatic 74) (n := 3) (jq qX13_sizeAfterEvenings 14 rfl) (jo_cs (y := mX13_isIn) (w := 1) (by decide) rfl (Nat.le_of_ble_eq_true rfl) rfl (Nat.le_of_ble_eq_true rfl) rfl r8 (jo_exn rfl))) H
  · exact Eq.trans (jb_rt (i := .invokevirtual 473) (n := 3) (jq qX13_sizeAfterEvenings 5 rfl) (jo_cv (y := mX13_isPlay) rfl (Nat.le_of_ble_eq_true rfl) rfl (Nat.le_of_ble_eq_true rfl) b30 rfl r4 (jo_exn rfl))) H
/-! MaskPlaysModel keep ()V -/
def tX13_keep : List (Nat × Instr × Nat) := [(0, .aload_n 0, 1), (1, .getfield 24, 3), (4, .iconst 0, 1), (5, .aload_n 0, 1), (6, .getfield 34, 3), (9, .iconst 0, 1), (10, .aload_n 0, 1), (11, .getfield 24, 3), (14, .arraylength, 1), (15, .invokestatic 128, 3), (18, .aload_n 0, 1), (19, .getfield 28, 3), (22, .iconst 0, 1), (23, .aload_n 0, 1), (24, .getfield 37, 3), (27, .iconst 0, 1), (28, .bipush 12, 2), (30, .invokestatic 128, 3), (33, .aload_n 0, 1), (34, .getfield 31, 3), (37, .iconst 0, 1), (38, .aload_n 0, 1), (39, .getfield 40, 3), (42, .iconst 0, 1), (43, .bipush 12, 2), (45, .invokestatic 128, 3), (48, .aload_n 0, 1), (49, .aload_n 0, 1), (50, .getfield 192, 3), (53, .putfield 282, 3), (56, .aload_n 0, 1), (57, .aload_n 0, 1), (58, .getfield 279, 3), (61, .putfield 285, 3), (64, .return_, 1)]
set_option maxRecDepth 100000 in
theorem qX13_keep : ∀ q ∈ tX13_keep, decode cX13_keep q.1 = .ok (q.2.1, q.2.2) := by decide +kernel
theorem gX13_keep {d : Nat} {p0 : Nat} {h : jm_H} {r : jm_R} (H : ((jr_R h p0 12 8 2).bind fun a1 => (jr_R h p0 12 11 2).bind fun a3 => (jr_R h p0 12 8 2).bind fun a5 => (jm_len h a5).bind fun n7 => (jm_cpy h a1 0 a3 0 (Int32.ofNat n7)).bind fun h9 => (jr_R h9 p0 12 9 2).bind fun a11 => (jr_R h9 p0 12 12 2).bind fun a13 => (jm_cpy h9 a11 0 a13 0 12).bind fun h15 => (jr_R h15 p0 12 10 2).bind fun a17 => (jr_R h15 p0 12 13 2).bind fun a19 => (jm_cpy h15 a17 0 a19 0 12).bind fun h21 => (jr_I h21 p0 12 14 0).bind fun x23 => (jm_pf h21 p0 12 16 0 (.int x23)).bind fun h25 => (jr_I h25 p0 12 15 0).bind fun x27 => (jm_pf h25 p0 12 17 0 (.int x27)).bind fun h29 => some (.inl none, h29)) = some r) : jm_D (d + 1) mX13_keep [.ref p0] h = some r := by
  rw [jm_D_body (Nat.le_of_ble_eq_true rfl)]
  show jm_B d mX13_keep (0, [some (.ref p0)], []) h = some r
  refine Eq.trans (jb_nx (i := .aload_n 0) (n := 1) (q := (1, [some (.ref p0)], [.ref p0])) (jq qX13_keep 0 rfl) rfl) ?_
  obtain ⟨a1, e2, H⟩ := jbd H
  refine Eq.trans (jb_nx (i := .getfield 24) (n := 3) (q := (4, [some (.ref p0)], [.ref a1])) (jq qX13_keep 1 rfl) (jo_gf rfl (jr_R_inv e2))) ?_
  refine Eq.trans (jb_nx (i := .iconst 0) (n := 1) (q := (5, [some (.ref p0)], [.int 0, .ref a1])) (jq qX13_keep 2 rfl) rfl) ?_
  refine Eq.trans (jb_nx (i := .aload_n 0) (n := 1) (q := (6, [some (.ref p0)], [.ref p0, .int 0, .ref a1])) (jq qX13_keep 3 rfl) rfl) ?_
  obtain ⟨a3, e4, H⟩ := jbd H
  refine Eq.trans (jb_nx (i := .getfield 34) (n := 3) (q := (9, [some (.ref p0)], [.ref a3, .int 0, .ref a1])) (jq qX13_keep 4 rfl) (jo_gf rfl (jr_R_inv e4))) ?_
  refine Eq.trans (jb_nx (i := .iconst 0) (n := 1) (q := (10, [some (.ref p0)], [.int 0, .ref a3, .int 0, .ref a1])) (jq qX13_keep 5 rfl) rfl) ?_
  refine Eq.trans (jb_nx (i := .aload_n 0) (n := 1) (q := (11, [some (.ref p0)], [.ref p0, .int 0, .ref a3, .int 0, .ref a1])) (jq qX13_keep 6 rfl) rfl) ?_
  obtain ⟨a5, e6, H⟩ := jbd H
  refine Eq.trans (jb_nx (i := .getfield 24) (n := 3) (q := (14, [some (.ref p0)], [.ref a5, .int 0, .ref a3, .int 0, .ref a1])) (jq qX13_keep 7 rfl) (jo_gf rfl (jr_R_inv e6))) ?_
  obtain ⟨n7, e8, H⟩ := jbd H
  refine Eq.trans (jb_nx (i := .arraylength) (n := 1) (q := (15, [some (.ref p0)], [.int (Int32.ofNat n7), .int 0, .ref a3, .int 0, .ref a1])) (jq qX13_keep 8 rfl) (jo_len e8)) ?_
  obtain ⟨h9, e10, H⟩ := jbd H
  refine Eq.trans (jb_nx (i := .invokestatic 128) (n := 3) (q := (18, [some (.ref p0)], [])) (jq qX13_keep 9 rfl) (jo_cpy (z := mX3_clear) rfl (Nat.le_of_ble_eq_true rfl) e10)) ?_
  refine Eq.trans (jb_nx (i := .aload_n 0) (n := 1) (q := (19, [some (.ref p0)], [.ref p0])) (jq qX13_keep 10 rfl) rfl) ?_
  obtain ⟨a11, e12, H⟩ := jbd H
  refine Eq.trans (jb_nx (i := .getfield 28) (n := 3) (q := (22, [some (.ref p0)], [.ref a11])) (jq qX13_keep 11 rfl) (jo_gf rfl (jr_R_inv e12))) ?_
  refine Eq.trans (jb_nx (i := .iconst 0) (n := 1) (q := (23, [some (.ref p0)], [.int 0, .ref a11])) (jq qX13_keep 12 rfl) rfl) ?_
  refine Eq.trans (jb_nx (i := .aload_n 0) (n := 1) (q := (24, [some (.ref p0)], [.ref p0, .int 0, .ref a11])) (jq qX13_keep 13 rfl) rfl) ?_
  obtain ⟨a13, e14, H⟩ := jbd H
  refine Eq.trans (jb_nx (i := .getfield 37) (n := 3) (q := (27, [some (.ref p0)], [.ref a13, .int 0, .ref a11])) (jq qX13_keep 14 rfl) (jo_gf rfl (jr_R_inv e14))) ?_
  refine Eq.trans (jb_nx (i := .iconst 0) (n := 1) (q := (28, [some (.ref p0)], [.int 0, .ref a13, .int 0, .ref a11])) (jq qX13_keep 15 rfl) rfl) ?_
  refine Eq.trans (jb_nx (i := .bipush 12) (n := 2) (q := (30, [some (.ref p0)], [.int 12, .int 0, .ref a13, .int 0, .ref a11])) (jq qX13_keep 16 rfl) rfl) ?_
  obtain ⟨h15, e16, H⟩ := jbd H
  refine Eq.trans (jb_nx (i := .invokestatic 128) (n := 3) (q := (33, [some (.ref p0)], [])) (jq qX13_keep 17 rfl) (jo_cpy (z := mX3_clear) rfl (Nat.le_of_ble_eq_true rfl) e16)) ?_
  refine Eq.trans (jb_nx (i := .aload_n 0) (n := 1) (q := (34, [some (.ref p0)], [.ref p0])) (jq qX13_keep 18 rfl) rfl) ?_
  obtain ⟨a17, e18, H⟩ := jbd H
  refine Eq.trans (jb_nx (i := .getfield 31) (n := 3) (q := (37, [some (.ref p0)], [.ref a17])) (jq qX13_keep 19 rfl) (jo_gf rfl (jr_R_inv e18))) ?_
  refine Eq.trans (jb_nx (i := .iconst 0) (n := 1) (q := (38, [some (.ref p0)], [.int 0, .ref a17])) (jq qX13_keep 20 rfl) rfl) ?_
  refine Eq.trans (jb_nx (i := .aload_n 0) (n := 1) (q := (39, [some (.ref p0)], [.ref p0, .int 0, .ref a17])) (jq qX13_keep 21 rfl) rfl) ?_
  obtain ⟨a19, e20, H⟩ := jbd H
  refine Eq.trans (jb_nx (i := .getfield 40) (n := 3) (q := (42, [some (.ref p0)], [.ref a19, .int 0, .ref a17])) (jq qX13_keep 22 rfl) (jo_gf rfl (jr_R_inv e20))) ?_
  refine Eq.trans (jb_nx (i := .iconst 0) (n := 1) (q := (43, [some (.ref p0)], [.int 0, .ref a19, .int 0, .ref a17])) (jq qX13_keep 23 rfl) rfl) ?_
  refine Eq.trans (jb_nx (i := .bipush 12) (n := 2) (q := (45, [some (.ref p0)], [.int 12, .int 0, .ref a19, .int 0, .ref a17])) (jq qX13_keep 24 rfl) rfl) ?_
  obtain ⟨h21, e22, H⟩ := jbd H
  refine Eq.trans (jb_nx (i := .invokestatic 128) (n := 3) (q := (48, [some (.ref p0)], [])) (jq qX13_keep 25 rfl) (jo_cpy (z := mX3_clear) rfl (Nat.le_of_ble_eq_true rfl) e22)) ?_
  refine Eq.trans (jb_nx (i := .aload_n 0) (n := 1) (q := (49, [some (.ref p0)], [.ref p0])) (jq qX13_keep 26 rfl) rfl) ?_
  refine Eq.trans (jb_nx (i := .aload_n 0) (n := 1) (q := (50, [some (.ref p0)], [.ref p0, .ref p0])) (jq qX13_keep 27 rfl) rfl) ?_
  obtain ⟨x23, e24, H⟩ := jbd H
  refine Eq.trans (jb_nx (i := .getfield 192) (n := 3) (q := (53, [some (.ref p0)], [.int x23, .ref p0])) (jq qX13_keep 28 rfl) (jo_gf rfl (jr_I_inv e24))) ?_
  obtain ⟨h25, e26, H⟩ := jbd H
  refine Eq.trans (jb_nx (i := .putfield 282) (n := 3) (q := (56, [some (.ref p0)], [])) (jq qX13_keep 29 rfl) (jo_pf rfl (Or.inl rfl) e26)) ?_
  refine Eq.trans (jb_nx (i := .aload_n 0) (n := 1) (q := (57, [some (.ref p0)], [.ref p0])) (jq qX13_keep 30 rfl) rfl) ?_
  refine Eq.trans (jb_nx (i := .aload_n 0) (n := 1) (q := (58, [some (.ref p0)], [.ref p0, .ref p0])) (jq qX13_keep 31 rfl) rfl) ?_
  obtain ⟨x27, e28, H⟩ := jbd H
  refine Eq.trans (jb_nx (i := .getfield 279) (n := 3) (q := (61, [some (.ref p0)], [.int x27, .ref p0])) (jq qX13_keep 32 rfl) (jo_gf rfl (jr_I_inv e28))) ?_
  obtain ⟨h29, e30, H⟩ := jbd H
  refine Eq.trans (jb_nx (i := .putfield 285) (n := 3) (q := (64, [some (.ref p0)], [])) (jq qX13_keep 33 rfl) (jo_pf rfl (Or.inl rfl) e30)) ?_
  exact Eq.trans (jb_rt (i := .return_) (n := 1) (jq qX13_keep 34 rfl) rfl) H
/-! MaskPlaysModel bringBack ()V -/
def tX13_bringBack : List (Nat × Instr × Nat) := [(0, .aload_n 0, 1), (1, .getfield 34, 3), (4, .iconst 0, 1), (5, .aload_n 0, 1), (6, .getfield 24, 3), (9, .iconst 0, 1), (10, .aload_n 0, 1), (11, .getfield 24, 3), (14, .arraylength, 1), (15, .invokestatic 128, 3), (18, .aload_n 0, 1), (19, .getfield 37, 3), (22, .iconst 0, 1), (23, .aload_n 0, 1), (24, .getfield 28, 3), (27, .iconst 0, 1), (28, .bipush 12, 2), (30, .invokestatic 128, 3), (33, .aload_n 0, 1), (34, .getfield 40, 3), (37, .iconst 0, 1), (38, .aload_n 0, 1), (39, .getfield 31, 3), (42, .iconst 0, 1), (43, .bipush 12, 2), (45, .invokestatic 128, 3), (48, .aload_n 0, 1), (49, .aload_n 0, 1), (50, .getfield 282, 3), (53, .putfield 192, 3), (56, .aload_n 0, 1), (57, .aload_n 0, 1), (58, .getfield 285, 3), (61, .putfield 279, 3), (64, .return_, 1)]
set_option maxRecDepth 100000 in
theorem qX13_bringBack : ∀ q ∈ tX13_bringBack, decode cX13_bringBack q.1 = .ok (q.2.1, q.2.2) := by decide +kernel
theorem gX13_bringBack {d : Nat} {p0 : Nat} {h : jm_H} {r : jm_R} (H : ((jr_R h p0 12 11 2).bind fun a1 => (jr_R h p0 12 8 2).bind fun a3 => (jr_R h p0 12 8 2).bind fun a5 => (jm_len h a5).bind fun n7 => (jm_cpy h a1 0 a3 0 (Int32.ofNat n7)).bind fun h9 => (jr_R h9 p0 12 12 2).bind fun a11 => (jr_R h9 p0 12 9 2).bind fun a13 => (jm_cpy h9 a11 0 a13 0 12).bind fun h15 => (jr_R h15 p0 12 13 2).bind fun a17 => (jr_R h15 p0 12 10 2).bind fun a19 => (jm_cpy h15 a17 0 a19 0 12).bind fun h21 => (jr_I h21 p0 12 16 0).bind fun x23 => (jm_pf h21 p0 12 14 0 (.int x23)).bind fun h25 => (jr_I h25 p0 12 17 0).bind fun x27 => (jm_pf h25 p0 12 15 0 (.int x27)).bind fun h29 => some (.inl none, h29)) = some r) : jm_D (d + 1) mX13_bringBack [.ref p0] h = some r := by
  rw [jm_D_body (Nat.le_of_ble_eq_true rfl)]
  show jm_B d mX13_bringBack (0, [some (.ref p0)], []) h = some r
  refine Eq.trans (jb_nx (i := .aload_n 0) (n := 1) (q := (1, [some (.ref p0)], [.ref p0])) (jq qX13_bringBack 0 rfl) rfl) ?_
  obtain ⟨a1, e2, H⟩ := jbd H
  refine Eq.trans (jb_nx (i := .getfield 34) (n := 3) (q := (4, [some (.ref p0)], [.ref a1])) (jq qX13_bringBack 1 rfl) (jo_gf rfl (jr_R_inv e2))) ?_
  refine Eq.trans (jb_nx (i := .iconst 0) (n := 1) (q := (5, [some (.ref p0)], [.int 0, .ref a1])) (jq qX13_bringBack 2 rfl) rfl) ?_
  refine Eq.trans (jb_nx (i := .aload_n 0) (n := 1) (q := (6, [some (.ref p0)], [.ref p0, .int 0, .ref a1])) (jq qX13_bringBack 3 rfl) rfl) ?_
  obtain ⟨a3, e4, H⟩ := jbd H
  refine Eq.trans (jb_nx (i := .getfield 24) (n := 3) (q := (9, [some (.ref p0)], [.ref a3, .int 0, .ref a1])) (jq qX13_bringBack 4 rfl) (jo_gf rfl (jr_R_inv e4))) ?_
  refine Eq.trans (jb_nx (i := .iconst 0) (n := 1) (q := (10, [some (.ref p0)], [.int 0, .ref a3, .int 0, .ref a1])) (jq qX13_bringBack 5 rfl) rfl) ?_
  refine Eq.trans (jb_nx (i := .aload_n 0) (n := 1) (q := (11, [some (.ref p0)], [.ref p0, .int 0, .ref a3, .int 0, .ref a1])) (jq qX13_bringBack 6 rfl) rfl) ?_
  obtain ⟨a5, e6, H⟩ := jbd H
  refine Eq.trans (jb_nx (i := .getfield 24) (n := 3) (q := (14, [some (.ref p0)], [.ref a5, .int 0, .ref a3, .int 0, .ref a1])) (jq qX13_bringBack 7 rfl) (jo_gf rfl (jr_R_inv e6))) ?_
  obtain ⟨n7, e8, H⟩ := jbd H
  refine Eq.trans (jb_nx (i := .arraylength) (n := 1) (q := (15, [some (.ref p0)], [.int (Int32.ofNat n7), .int 0, .ref a3, .int 0, .ref a1])) (jq qX13_bringBack 8 rfl) (jo_len e8)) ?_
  obtain ⟨h9, e10, H⟩ := jbd H
  refine Eq.trans (jb_nx (i := .invokestatic 128) (n := 3) (q := (18, [some (.ref p0)], [])) (jq qX13_bringBack 9 rfl) (jo_cpy (z := mX3_clear) rfl (Nat.le_of_ble_eq_true rfl) e10)) ?_
  refine Eq.trans (jb_nx (i := .aload_n 0) (n := 1) (q := (19, [some (.ref p0)], [.ref p0])) (jq qX13_bringBack 10 rfl) rfl) ?_
  obtain ⟨a11, e12, H⟩ := jbd H
  refine Eq.trans (jb_nx (i := .getfield 37) (n := 3) (q := (22, [some (.ref p0)], [.ref a11])) (jq qX13_bringBack 11 rfl) (jo_gf rfl (jr_R_inv e12))) ?_
  refine Eq.trans (jb_nx (i := .iconst 0) (n := 1) (q := (23, [some (.ref p0)], [.int 0, .ref a11])) (jq qX13_bringBack 12 rfl) rfl) ?_
  refine Eq.trans (jb_nx (i := .aload_n 0) (n := 1) (q := (24, [some (.ref p0)], [.ref p0, .int 0, .ref a11])) (jq qX13_bringBack 13 rfl) rfl) ?_
  obtain ⟨a13, e14, H⟩ := jbd H
  refine Eq.trans (jb_nx (i := .getfield 28) (n := 3) (q := (27, [some (.ref p0)], [.ref a13, .int 0, .ref a11])) (jq qX13_bringBack 14 rfl) (jo_gf rfl (jr_R_inv e14))) ?_
  refine Eq.trans (jb_nx (i := .iconst 0) (n := 1) (q := (28, [some (.ref p0)], [.int 0, .ref a13, .int 0, .ref a11])) (jq qX13_bringBack 15 rfl) rfl) ?_
  refine Eq.trans (jb_nx (i := .bipush 12) (n := 2) (q := (30, [some (.ref p0)], [.int 12, .int 0, .ref a13, .int 0, .ref a11])) (jq qX13_bringBack 16 rfl) rfl) ?_
  obtain ⟨h15, e16, H⟩ := jbd H
  refine Eq.trans (jb_nx (i := .invokestatic 128) (n := 3) (q := (33, [some (.ref p0)], [])) (jq qX13_bringBack 17 rfl) (jo_cpy (z := mX3_clear) rfl (Nat.le_of_ble_eq_true rfl) e16)) ?_
  refine Eq.trans (jb_nx (i := .aload_n 0) (n := 1) (q := (34, [some (.ref p0)], [.ref p0])) (jq qX13_bringBack 18 rfl) rfl) ?_
  obtain ⟨a17, e18, H⟩ := jbd H
  refine Eq.trans (jb_nx (i := .getfield 40) (n := 3) (q := (37, [some (.ref p0)], [.ref a17])) (jq qX13_bringBack 19 rfl) (jo_gf rfl (jr_R_inv e18))) ?_
  refine Eq.trans (jb_nx (i := .iconst 0) (n := 1) (q := (38, [some (.ref p0)], [.int 0, .ref a17])) (jq qX13_bringBack 20 rfl) rfl) ?_
  refine Eq.trans (jb_nx (i := .aload_n 0) (n := 1) (q := (39, [some (.ref p0)], [.ref p0, .int 0, .ref a17])) (jq qX13_bringBack 21 rfl) rfl) ?_
  obtain ⟨a19, e20, H⟩ := jbd H
  refine Eq.trans (jb_nx (i := .getfield 31) (n := 3) (q := (42, [some (.ref p0)], [.ref a19, .int 0, .ref a17])) (jq qX13_bringBack 22 rfl) (jo_gf rfl (jr_R_inv e20))) ?_
  refine Eq.trans (jb_nx (i := .iconst 0) (n := 1) (q := (43, [some (.ref p0)], [.int 0, .ref a19, .int 0, .ref a17])) (jq qX13_bringBack 23 rfl) rfl) ?_
  refine Eq.trans (jb_nx (i := .bipush 12) (n := 2) (q := (45, [some (.ref p0)], [.int 12, .int 0, .ref a19, .int 0, .ref a17])) (jq qX13_bringBack 24 rfl) rfl) ?_
  obtain ⟨h21, e22, H⟩ := jbd H
  refine Eq.trans (jb_nx (i := .invokestatic 128) (n := 3) (q := (48, [some (.ref p0)], [])) (jq qX13_bringBack 25 rfl) (jo_cpy (z := mX3_clear) rfl (Nat.le_of_ble_eq_true rfl) e22)) ?_
  refine Eq.trans (jb_nx (i := .aload_n 0) (n := 1) (q := (49, [some (.ref p0)], [.ref p0])) (jq qX13_bringBack 26 rfl) rfl) ?_
  refine Eq.trans (jb_nx (i := .aload_n 0) (n := 1) (q := (50, [some (.ref p0)], [.ref p0, .ref p0])) (jq qX13_bringBack 27 rfl) rfl) ?_
  obtain ⟨x23, e24, H⟩ := jbd H
  refine Eq.trans (jb_nx (i := .getfield 282) (n := 3) (q := (53, [some (.ref p0)], [.int x23, .ref p0])) (jq qX13_bringBack 28 rfl) (jo_gf rfl (jr_I_inv e24))) ?_
  obtain ⟨h25, e26, H⟩ := jbd H
  refine Eq.trans (jb_nx (i := .putfield 192) (n := 3) (q := (56, [some (.ref p0)], [])) (jq qX13_bringBack 29 rfl) (jo_pf rfl (Or.inl rfl) e26)) ?_
  refine Eq.trans (jb_nx (i := .aload_n 0) (n := 1) (q := (57, [some (.ref p0)], [.ref p0])) (jq qX13_bringBack 30 rfl) rfl) ?_
  refine Eq.trans (jb_nx (i := .aload_n 0) (n := 1) (q := (58, [some (.ref p0)], [.ref p0, .ref p0])) (jq qX13_bringBack 31 rfl) rfl) ?_
  obtain ⟨x27, e28, H⟩ := jbd H
  refine Eq.trans (jb_nx (i := .getfield 285) (n := 3) (q := (61, [some (.ref p0)], [.int x27, .ref p0])) (jq qX13_bringBack 32 rfl) (jo_gf rfl (jr_I_inv e28))) ?_
  obtain ⟨h29, e30, H⟩ := jbd H
  refine Eq.trans (jb_nx (i := .putfield 279) (n := 3) (q := (64, [some (.ref p0)], [])) (jq qX13_bringBack 33 rfl) (jo_pf rfl (Or.inl rfl) e30)) ?_
  exact Eq.trans (jb_rt (i := .return_) (n := 1) (jq qX13_bringBack 34 rfl) rfl) H
/-! MaskPlaysModel eveningsUntilFinished (I)I -/
def tX13_eveningsUntilFinished : List (Nat × Instr × Nat) := [(0, .aload_n 0, 1), (1, .iconst 0, 1), (2, .putfield 68, 3), (5, .aload_n 0, 1), (6, .iload_n 1, 1), (7, .invokevirtual 473, 3), (10, .ifCond .ne 9, 3), (13, .aload_n 0, 1), (14, .iconst 1, 1), (15, .invokevirtual 463, 3), (18, .ireturn, 1), (19, .aload_n 0, 1), (20, .invokevirtual 506, 3), (23, .aload_n 0, 1), (24, .iload_n 1, 1), (25, .invokevirtual 512, 3), (28, .istore_n 2, 1), (29, .aload_n 0, 1), (30, .invokevirtual 509, 3), (33, .iload_n 2, 1), (34, .ireturn, 1)]
set_option maxRecDepth 100000 in
theorem qX13_eveningsUntilFinished : ∀ q ∈ tX13_eveningsUntilFinished, decode cX13_eveningsUntilFinished q.1 = .ok (q.2.1, q.2.2) := by decide +kernel
theorem gX13_eveningsUntilFinished {d : Nat} {p0 : Nat} {i1 : Int32} {h : jm_H} {r : jm_R} (H : ((jm_pf h p0 12 0 0 (.int 0)).bind fun h1 => jm_O h1 p0 13 (jc_I (jm_D d mX13_isPlay [.ref p0, .int i1] h1) (fun x5 h3 => (if x5 = 0 then jm_O h3 p0 13 (jc_I (jm_D d mX13_no [.ref p0, .int 1] h3) (fun x25 h23 => some (.inl (some (.int x25)), h23)) jx) else jm_O h3 p0 13 (jc_V (jm_D d mX13_keep [.ref p0] h3) (fun h7 => jm_O h7 p0 13 (jc_I (jm_D d mX13_eveningsLeft [.ref p0, .int i1] h7) (fun x11 h9 => jm_O h9 p0 13 (jc_V (jm_D d mX13_bringBack [.ref p0] h9) (fun h12 => some (.inl (some (.int x11)), h12)) jx)) jx)) jx))) jx)) = some r) : jm_D (d + 1) mX13_eveningsUntilFinished [.ref p0, .int i1] h = some r := by
  rw [jm_D_body (Nat.le_of_ble_eq_true rfl)]
  show jm_B d mX13_eveningsUntilFinished (0, [some (.ref p0), some (.int i1), none], []) h = some r
  refine Eq.trans (jb_nx (i := .aload_n 0) (n := 1) (q := (1, [some (.ref p0), some (.int i1), none], [.ref p0])) (jq qX13_eveningsUntilFinished 0 rfl) rfl) ?_
  refine Eq.trans (jb_nx (i := .iconst 0) (n := 1) (q := (2, [some (.ref p0), some (.int i1), none], [.int 0, .ref p0])) (jq qX13_eveningsUntilFinished 1 rfl) rfl) ?_
  obtain ⟨h1, e2, H⟩ := jbd H
  refine Eq.trans (jb_nx (i := .putfield 68) (n := 3) (q := (5, [some (.ref p0), some (.int i1), none], [])) (jq qX13_eveningsUntilFinished 2 rfl) (jo_pf rfl (Or.inl rfl) e2)) ?_
  refine Eq.trans (jb_nx (i := .aload_n 0) (n := 1) (q := (6, [some (.ref p0), some (.int i1), none], [.ref p0])) (jq qX13_eveningsUntilFinished 3 rfl) rfl) ?_
  refine Eq.trans (jb_nx (i := .iload_n 1) (n := 1) (q := (7, [some (.ref p0), some (.int i1), none], [.int i1, .ref p0])) (jq qX13_eveningsUntilFinished 4 rfl) rfl) ?_
  obtain ⟨b29, H⟩ := jm_O_inv H
  rcases jcI H with ⟨x5, h3, r4, H⟩ | ⟨w30, h31, r4, H⟩
  · refine Eq.trans (jb_nx (i := .invokevirtual 473) (n := 3) (q := (10, [some (.ref p0), some (.int i1), none], [.int x5])) (jq qX13_eveningsUntilFinished 5 rfl) (jo_cv (y := mX13_isPlay) rfl (Nat.le_of_ble_eq_true rfl) rfl (Nat.le_of_ble_eq_true rfl) b29 rfl r4 jo_ret)) ?_
    by_cases c6 : x5 = 0
    · rw [if_pos c6] at H
      refine Eq.trans (jb_nx (i := .ifCond .ne 9) (n := 3) (q := (13, [some (.ref p0), some (.int i1), none], [])) (jq qX13_eveningsUntilFinished 6 rfl) (jo_ifF (jz_neF c6))) ?_
      refine Eq.trans (jb_nx (i := .aload_n 0) (n := 1) (q := (14, [some (.ref p0), some (.int i1), none], [.ref p0])) (jq qX13_eveningsUntilFinished 7 rfl) rfl) ?_
      refine Eq.trans (jb_nx (i := .iconst 1) (n := 1) (q := (15, [some (.ref p0), some (.int i1), none], [.int 1, .ref p0])) (jq qX13_eveningsUntilFinished 8 rfl) rfl) ?_
      obtain ⟨b26, H⟩ := jm_O_inv H
      rcases jcI H with ⟨x25, h23, r24, H⟩ | ⟨w27, h28, r24, H⟩
      · refine Eq.trans (jb_nx (i := .invokevirtual 463) (n := 3) (q := (18, [some (.ref p0), some (.int i1), none], [.int x25])) (jq qX13_eveningsUntilFinished 9 rfl) (jo_cv (y := mX13_no) rfl (Nat.le_of_ble_eq_true rfl) rfl (Nat.le_of_ble_eq_true rfl) b26 rfl r24 jo_ret)) ?_
        exact Eq.trans (jb_rt (i := .ireturn) (n := 1) (jq qX13_eveningsUntilFinished 10 rfl) (jo_iret rfl rfl)) H
      · exact Eq.trans (jb_rt (i := .invokevirtual 463) (n := 3) (jq qX13_eveningsUntilFinished 9 rfl) (jo_cv (y := mX13_no) rfl (Nat.le_of_ble_eq_true rfl) rfl (Nat.le_of_ble_eq_true rfl) b26 rfl r24 (jo_exn rfl))) H
    · rw [if_neg c6] at H
      refine Eq.trans (jb_nx (i := .ifCond .ne 9) (n := 3) (q := (19, [some (.ref p0), some (.int i1), none], [])) (jq qX13_eveningsUntilFinished 6 rfl) (jo_ifT (jz_neT c6) rfl)) ?_
      refine Eq.trans (jb_nx (i := .aload_n 0) (n := 1) (q := (20, [some (.ref p0), some (.int i1), none], [.ref p0])) (jq qX13_eveningsUntilFinished 11 rfl) rfl) ?_
      obtain ⟨b20, H⟩ := jm_O_inv H
      rcases jcV H with ⟨h7, r8, H⟩ | ⟨w21, h22, r8, H⟩
      · refine Eq.trans (jb_nx (i := .invokevirtual 506) (n := 3) (q := (23, [some (.ref p0), some (.int i1), none], [])) (jq qX13_eveningsUntilFinished 12 rfl) (jo_cv (y := mX13_keep) rfl (Nat.le_of_ble_eq_true rfl) rfl (Nat.le_of_ble_eq_true rfl) b20 rfl r8 jo_ret)) ?_
        refine Eq.trans (jb_nx (i := .aload_n 0) (n := 1) (q := (24, [some (.ref p0), some (.int i1), none], [.ref p0])) (jq qX13_eveningsUntilFinished 13 rfl) rfl) ?_
        refine Eq.trans (jb_nx (i := .iload_n 1) (n := 1) (q := (25, [some (.ref p0), some (.int i1), none], [.int i1, .ref p0])) (jq qX13_eveningsUntilFinished 14 rfl) rfl) ?_
        obtain ⟨b17, H⟩ := jm_O_inv H
        rcases jcI H with ⟨x11, h9, r10, H⟩ | ⟨w18, h19, r10, H⟩
        · refine Eq.trans (jb_nx (i := .invokevirtual 512) (n := 3) (q := (28, [some (.ref p0), some (.int i1), none], [.int x11])) (jq qX13_eveningsUntilFinished 15 rfl) (jo_cv (y := mX13_eveningsLeft) rfl (Nat.le_of_ble_eq_true rfl) rfl (Nat.le_of_ble_eq_true rfl) b17 rfl r10 jo_ret)) ?_
          refine Eq.trans (jb_nx (i := .istore_n 2) (n := 1) (q := (29, [some (.ref p0), some (.int i1), some (.int x11)], [])) (jq qX13_eveningsUntilFinished 16 rfl) rfl) ?_
          refine Eq.trans (jb_nx (i := .aload_n 0) (n := 1) (q := (30, [some (.ref p0), some (.int i1), some (.int x11)], [.ref p0])) (jq qX13_eveningsUntilFinished 17 rfl) rfl) ?_
          obtain ⟨b14, H⟩ := jm_O_inv H
          rcases jcV H with ⟨h12, r13, H⟩ | ⟨w15, h16, r13, H⟩
          · refine Eq.trans (jb_nx (i := .invokevirtual 509) (n := 3) (q := (33, [some (.ref p0), some (.int i1), some (.int x11)], [])) (jq qX13_eveningsUntilFinished 18 rfl) (jo_cv (y := mX13_bringBack) rfl (Nat.le_of_ble_eq_true rfl) rfl (Nat.le_of_ble_eq_true rfl) b14 rfl r13 jo_ret)) ?_
            refine Eq.trans (jb_nx (i := .iload_n 2) (n := 1) (q := (34, [some (.ref p0), some (.int i1), some (.int x11)], [.int x11])) (jq qX13_eveningsUntilFinished 19 rfl) rfl) ?_
            exact Eq.trans (jb_rt (i := .ireturn) (n := 1) (jq qX13_eveningsUntilFinished 20 rfl) (jo_iret rfl rfl)) H
          · exact Eq.trans (jb_rt (i := .invokevirtual 509) (n := 3) (jq qX13_eveningsUntilFinished 18 rfl) (jo_cv (y := mX13_bringBack) rfl (Nat.le_of_ble_eq_true rfl) rfl (Nat.le_of_ble_eq_true rfl) b14 rfl r13 (jo_exn rfl))) H
        · exact Eq.trans (jb_rt (i := .invokevirtual 512) (n := 3) (jq qX13_eveningsUntilFinished 15 rfl) (jo_cv (y := mX13_eveningsLeft) rfl (Nat.le_of_ble_eq_true rfl) rfl (Nat.le_of_ble_eq_true rfl) b17 rfl r10 (jo_exn rfl))) H
      · exact Eq.trans (jb_rt (i := .invokevirtual 506) (n := 3) (jq qX13_eveningsUntilFinished 12 rfl) (jo_cv (y := mX13_keep) rfl (Nat.le_of_ble_eq_true rfl) rfl (Nat.le_of_ble_eq_true rfl) b20 rfl r8 (jo_exn rfl))) H
  · exact Eq.trans (jb_rt (i := .invokevirtual 473) (n := 3) (jq qX13_eveningsUntilFinished 5 rfl) (jo_cv (y := mX13_isPlay) rfl (Nat.le_of_ble_eq_true rfl) rfl (Nat.le_of_ble_eq_true rfl) b29 rfl r4 (jo_exn rfl))) H
/-! MaskPlaysModel eveningsLeft (I)I -/
def tX13_eveningsLeft : List (Nat × Instr × Nat) := [(0, .iconst 0, 1), (1, .istore_n 2, 1), (2, .iload_n 2, 1), (3, .bipush 20, 2), (5, .if_icmp .gt 24, 3), (8, .aload_n 0, 1), (9, .iload_n 1, 1), (10, .invokevirtual 198, 3), (13, .ifCond .eq 5, 3), (16, .iload_n 2, 1), (17, .ireturn, 1), (18, .aload_n 0, 1), (19, .invokevirtual 497, 3), (22, .pop, 1), (23, .iinc 2 1, 3), (26, .goto (-24), 3), (29, .iconst (-1), 1), (30, .ireturn, 1)]
set_option maxRecDepth 100000 in
theorem qX13_eveningsLeft : ∀ q ∈ tX13_eveningsLeft, decode cX13_eveningsLeft q.1 = .ok (q.2.1, q.2.2) := by decide +kernel
noncomputable def kX13_eveningsLeft_2 (d : Nat) (p0 : Nat) (i1 : Int32) (i2 : Int32) (h : jm_H) : Option jm_R := jm_B d mX13_eveningsLeft (2, [some (.ref p0), some (.int i1), some (.int i2)], []) h
theorem gX13_eveningsLeft_2 {d : Nat} {p0 : Nat} {i1 : Int32} {i2 : Int32} {h : jm_H} {r : jm_R} (H : ((if 20 < i2 then some (.inl (some (.int (-1))), h) else jm_O h p0 13 (jc_I (jm_D d mX13_finished [.ref p0, .int i1] h) (fun x4 h2 => (if x4 = 0 then jm_O h2 p0 13 (jc_I (jm_D d mX13_evening [.ref p0] h2) (fun x8 h6 => kX13_eveningsLeft_2 d p0 i1 (i2 + 1) h6) jx) else some (.inl (some (.int i2)), h2))) jx))) = some r) : kX13_eveningsLeft_2 d p0 i1 i2 h = some r := by
  show jm_B d mX13_eveningsLeft (2, [some (.ref p0), some (.int i1), some (.int i2)], []) h = some r
  refine Eq.trans (jb_nx (i := .iload_n 2) (n := 1) (q := (3, [some (.ref p0), some (.int i1), some (.int i2)], [.int i2])) (jq qX13_eveningsLeft 2 rfl) rfl) ?_
  refine Eq.trans (jb_nx (i := .bipush 20) (n := 2) (q := (5, [some (.ref p0), some (.int i1), some (.int i2)], [.int 20, .int i2])) (jq qX13_eveningsLeft 3 rfl) rfl) ?_
  by_cases c1 : 20 < i2
  · rw [if_pos c1] at H
    refine Eq.trans (jb_nx (i := .if_icmp .gt 24) (n := 3) (q := (29, [some (.ref p0), some (.int i1), some (.int i2)], [])) (jq qX13_eveningsLeft 4 rfl) (jo_icT (jz_gtT c1) rfl)) ?_
    refine Eq.trans (jb_nx (i := .iconst (-1)) (n := 1) (q := (30, [some (.ref p0), some (.int i1), some (.int i2)], [.int (-1)])) (jq qX13_eveningsLeft 16 rfl) rfl) ?_
    exact Eq.trans (jb_rt (i := .ireturn) (n := 1) (jq qX13_eveningsLeft 17 rfl) (jo_iret rfl rfl)) H
  · rw [if_neg c1] at H
    refine Eq.trans (jb_nx (i := .if_icmp .gt 24) (n := 3) (q := (8, [some (.ref p0), some (.int i1), some (.int i2)], [])) (jq qX13_eveningsLeft 4 rfl) (jo_icF (jz_gtF c1))) ?_
    refine Eq.trans (jb_nx (i := .aload_n 0) (n := 1) (q := (9, [some (.ref p0), some (.int i1), some (.int i2)], [.ref p0])) (jq qX13_eveningsLeft 5 rfl) rfl) ?_
    refine Eq.trans (jb_nx (i := .iload_n 1) (n := 1) (q := (10, [some (.ref p0), some (.int i1), some (.int i2)], [.int i1, .ref p0])) (jq qX13_eveningsLeft 6 rfl) rfl) ?_
    obtain ⟨b12, H⟩ := jm_O_inv H
    rcases jcI H with ⟨x4, h2, r3, H⟩ | ⟨w13, h14, r3, H⟩
    · refine Eq.trans (jb_nx (i := .invokevirtual 198) (n := 3) (q := (13, [some (.ref p0), some (.int i1), some (.int i2)], [.int x4])) (jq qX13_eveningsLeft 7 rfl) (jo_cv (y := mX13_finished) rfl (Nat.le_of_ble_eq_true rfl) rfl (Nat.le_of_ble_eq_true rfl) b12 rfl r3 jo_ret)) ?_
      by_cases c5 : x4 = 0
      · rw [if_pos c5] at H
        refine Eq.trans (jb_nx (i := .ifCond .eq 5) (n := 3) (q := (18, [some (.ref p0), some (.int i1), some (.int i2)], [])) (jq qX13_eveningsLeft 8 rfl) (jo_ifT (jz_eqT c5) rfl)) ?_
        refine Eq.trans (jb_nx (i := .aload_n 0) (n := 1) (q := (19, [some (.ref p0), some (.int i1), some (.int i2)], [.ref p0])) (jq qX13_eveningsLeft 11 rfl) rfl) ?_
        obtain ⟨b9, H⟩ := jm_O_inv H
        rcases jcI H with ⟨x8, h6, r7, H⟩ | ⟨w10, h11, r7, H⟩
        · refine Eq.trans (jb_nx (i := .invokevirtual 497) (n := 3) (q := (22, [some (.ref p0), some (.int i1), some (.int i2)], [.int x8])) (jq qX13_eveningsLeft 12 rfl) (jo_cv (y := mX13_evening) rfl (Nat.le_of_ble_eq_true rfl) rfl (Nat.le_of_ble_eq_true rfl) b9 rfl r7 jo_ret)) ?_
          refine Eq.trans (jb_nx (i := .pop) (n := 1) (q := (23, [some (.ref p0), some (.int i1), some (.int i2)], [])) (jq qX13_eveningsLeft 13 rfl) rfl) ?_
          refine Eq.trans (jb_nx (i := .iinc 2 1) (n := 3) (q := (26, [some (.ref p0), some (.int i1), some (.int (i2 + 1))], [])) (jq qX13_eveningsLeft 14 rfl) rfl) ?_
          refine Eq.trans (jb_nx (i := .goto (-24)) (n := 3) (q := (2, [some (.ref p0), some (.int i1), some (.int (i2 + 1))], [])) (jq qX13_eveningsLeft 15 rfl) rfl) ?_
          exact H
        · exact Eq.trans (jb_rt (i := .invokevirtual 497) (n := 3) (jq qX13_eveningsLeft 12 rfl) (jo_cv (y := mX13_evening) rfl (Nat.le_of_ble_eq_true rfl) rfl (Nat.le_of_ble_eq_true rfl) b9 rfl r7 (jo_exn rfl))) H
      · rw [if_neg c5] at H
        refine Eq.trans (jb_nx (i := .ifCond .eq 5) (n := 3) (q := (16, [some (.ref p0), some (.int i1), some (.int i2)], [])) (jq qX13_eveningsLeft 8 rfl) (jo_ifF (jz_eqF c5))) ?_
        refine Eq.trans (jb_nx (i := .iload_n 2) (n := 1) (q := (17, [some (.ref p0), some (.int i1), some (.int i2)], [.int i2])) (jq qX13_eveningsLeft 9 rfl) rfl) ?_
        exact Eq.trans (jb_rt (i := .ireturn) (n := 1) (jq qX13_eveningsLeft 10 rfl) (jo_iret rfl rfl)) H
    · exact Eq.trans (jb_rt (i := .invokevirtual 198) (n := 3) (jq qX13_eveningsLeft 7 rfl) (jo_cv (y := mX13_finished) rfl (Nat.le_of_ble_eq_true rfl) rfl (Nat.le_of_ble_eq_true rfl) b12 rfl r3 (jo_exn rfl))) H
theorem gX13_eveningsLeft {d : Nat} {p0 : Nat} {i1 : Int32} {h : jm_H} {r : jm_R} (H : (kX13_eveningsLeft_2 d p0 i1 0 h) = some r) : jm_D (d + 1) mX13_eveningsLeft [.ref p0, .int i1] h = some r := by
  rw [jm_D_body (Nat.le_of_ble_eq_true rfl)]
  show jm_B d mX13_eveningsLeft (0, [some (.ref p0), some (.int i1), none], []) h = some r
  refine Eq.trans (jb_nx (i := .iconst 0) (n := 1) (q := (1, [some (.ref p0), some (.int i1), none], [.int 0])) (jq qX13_eveningsLeft 0 rfl) rfl) ?_
  refine Eq.trans (jb_nx (i := .istore_n 2) (n := 1) (q := (2, [some (.ref p0), some (.int i1), some (.int 0)], [])) (jq qX13_eveningsLeft 1 rfl) rfl) ?_
  exact H
/-! MaskPlaysModel bestGift (I)I -/
def tX13_bestGift : List (Nat × Instr × Nat) := [(0, .aload_n 0, 1), (1, .iconst 0, 1), (2, .putfield 68, 3), (5, .aload_n 0, 1), (6, .iload_n 1, 1), (7, .invokevirtual 473, 3), (10, .ifCond .eq 11, 3), (13, .aload_n 0, 1), (14, .iload_n 1, 1), (15, .invokevirtual 515, 3), (18, .goto 8, 3), (21, .aload_n 0, 1), (22, .iconst 1, 1), (23, .invokevirtual 463, 3), (26, .ireturn, 1)]
set_option maxRecDepth 100000 in
theorem qX13_bestGift : ∀ q ∈ tX13_bestGift, decode cX13_bestGift q.1 = .ok (q.2.1, q.2.2) := by decide +kernel
theorem gX13_bestGift {d : Nat} {p0 : Nat} {i1 : Int32} {h : jm_H} {r : jm_R} (H : ((jm_pf h p0 12 0 0 (.int 0)).bind fun h1 => jm_O h1 p0 13 (jc_I (jm_D d mX13_isPlay [.ref p0, .int i1] h1) (fun x5 h3 => (if x5 = 0 then jm_O h3 p0 13 (jc_I (jm_D d mX13_no [.ref p0, .int 1] h3) (fun x9 h7 => some (.inl (some (.int x9)), h7)) jx) else jm_O h3 p0 13 (jc_I (jm_D d mX13_gift [.ref p0, .int i1] h3) (fun x15 h13 => some (.inl (some (.int x15)), h13)) jx))) jx)) = some r) : jm_D (d + 1) mX13_bestGift [.ref p0, .int i1] h = some r := by
  rw [jm_D_body (Nat.le_of_ble_eq_true rfl)]
  show jm_B d mX13_bestGift (0, [some (.ref p0), some (.int i1)], []) h = some r
  refine Eq.trans (jb_nx (i := .aload_n 0) (n := 1) (q := (1, [some (.ref p0), some (.int i1)], [.ref p0])) (jq qX13_bestGift 0 rfl) rfl) ?_
  refine Eq.trans (jb_nx (i := .iconst 0) (n := 1) (q := (2, [some (.ref p0), some (.int i1)], [.int 0, .ref p0])) (jq qX13_bestGift 1 rfl) rfl) ?_
  obtain ⟨h1, e2, H⟩ := jbd H
  refine Eq.trans (jb_nx (i := .putfield 68) (n := 3) (q := (5, [some (.ref p0), some (.int i1)], [])) (jq qX13_bestGift 2 rfl) (jo_pf rfl (Or.inl rfl) e2)) ?_
  refine Eq.trans (jb_nx (i := .aload_n 0) (n := 1) (q := (6, [some (.ref p0), some (.int i1)], [.ref p0])) (jq qX13_bestGift 3 rfl) rfl) ?_
  refine Eq.trans (jb_nx (i := .iload_n 1) (n := 1) (q := (7, [some (.ref p0), some (.int i1)], [.int i1, .ref p0])) (jq qX13_bestGift 4 rfl) rfl) ?_
  obtain ⟨b19, H⟩ := jm_O_inv H
  rcases jcI H with ⟨x5, h3, r4, H⟩ | ⟨w20, h21, r4, H⟩
  · refine Eq.trans (jb_nx (i := .invokevirtual 473) (n := 3) (q := (10, [some (.ref p0), some (.int i1)], [.int x5])) (jq qX13_bestGift 5 rfl) (jo_cv (y := mX13_isPlay) rfl (Nat.le_of_ble_eq_true rfl) rfl (Nat.le_of_ble_eq_true rfl) b19 rfl r4 jo_ret)) ?_
    by_cases c6 : x5 = 0
    · rw [if_pos c6] at H
      refine Eq.trans (jb_nx (i := .ifCond .eq 11) (n := 3) (q := (21, [some (.ref p0), some (.int i1)], [])) (jq qX13_bestGift 6 rfl) (jo_ifT (jz_eqT c6) rfl)) ?_
      refine Eq.trans (jb_nx (i := .aload_n 0) (n := 1) (q := (22, [some (.ref p0), some (.int i1)], [.ref p0])) (jq qX13_bestGift 11 rfl) rfl) ?_
      refine Eq.trans (jb_nx (i := .iconst 1) (n := 1) (q := (23, [some (.ref p0), some (.int i1)], [.int 1, .ref p0])) (jq qX13_bestGift 12 rfl) rfl) ?_
      obtain ⟨b10, H⟩ := jm_O_inv H
      rcases jcI H with ⟨x9, h7, r8, H⟩ | ⟨w11, h12, r8, H⟩
      · refine Eq.trans (jb_nx (i := .invokevirtual 463) (n := 3) (q := (26, [some (.ref p0), some (.int i1)], [.int x9])) (jq qX13_bestGift 13 rfl) (jo_cv (y := mX13_no) rfl (Nat.le_of_ble_eq_true rfl) rfl (Nat.le_of_ble_eq_true rfl) b10 rfl r8 jo_ret)) ?_
        exact Eq.trans (jb_rt (i := .ireturn) (n := 1) (jq qX13_bestGift 14 rfl) (jo_iret rfl rfl)) H
      · exact Eq.trans (jb_rt (i := .invokevirtual 463) (n := 3) (jq qX13_bestGift 13 rfl) (jo_cv (y := mX13_no) rfl (Nat.le_of_ble_eq_true rfl) rfl (Nat.le_of_ble_eq_true rfl) b10 rfl r8 (jo_exn rfl))) H
    · rw [if_neg c6] at H
      refine Eq.trans (jb_nx (i := .ifCond .eq 11) (n := 3) (q := (13, [some (.ref p0), some (.int i1)], [])) (jq qX13_bestGift 6 rfl) (jo_ifF (jz_eqF c6))) ?_
      refine Eq.trans (jb_nx (i := .aload_n 0) (n := 1) (q := (14, [some (.ref p0), some (.int i1)], [.ref p0])) (jq qX13_bestGift 7 rfl) rfl) ?_
      refine Eq.trans (jb_nx (i := .iload_n 1) (n := 1) (q := (15, [some (.ref p0), some (.int i1)], [.int i1, .ref p0])) (jq qX13_bestGift 8 rfl) rfl) ?_
      obtain ⟨b16, H⟩ := jm_O_inv H
      rcases jcI H with ⟨x15, h13, r14, H⟩ | ⟨w17, h18, r14, H⟩
      · refine Eq.trans (jb_nx (i := .invokevirtual 515) (n := 3) (q := (18, [some (.ref p0), some (.int i1)], [.int x15])) (jq qX13_bestGift 9 rfl) (jo_cv (y := mX13_gift) rfl (Nat.le_of_ble_eq_true rfl) rfl (Nat.le_of_ble_eq_true rfl) b16 rfl r14 jo_ret)) ?_
        refine Eq.trans (jb_nx (i := .goto 8) (n := 3) (q := (26, [some (.ref p0), some (.int i1)], [.int x15])) (jq qX13_bestGift 10 rfl) rfl) ?_
        exact Eq.trans (jb_rt (i := .ireturn) (n := 1) (jq qX13_bestGift 14 rfl) (jo_iret rfl rfl)) H
      · exact Eq.trans (jb_rt (i := .invokevirtual 515) (n := 3) (jq qX13_bestGift 9 rfl) (jo_cv (y := mX13_gift) rfl (Nat.le_of_ble_eq_true rfl) rfl (Nat.le_of_ble_eq_true rfl) b16 rfl r14 (jo_exn rfl))) H
  · exact Eq.trans (jb_rt (i := .invokevirtual 473) (n := 3) (jq qX13_bestGift 5 rfl) (jo_cv (y := mX13_isPlay) rfl (Nat.le_of_ble_eq_true rfl) rfl (Nat.le_of_ble_eq_true rfl) b19 rfl r4 (jo_exn rfl))) H
/-! MaskPlaysModel gift (I)I -/
def tX13_gift : List (Nat × Instr × Nat) := [(0, .iconst (-1), 1), (1, .istore_n 2, 1), (2, .bipush 41, 2), (4, .istore_n 3, 1), (5, .iconst 0, 1), (6, .istore 4, 2), (8, .iload 4, 2), (10, .aload_n 0, 1), (11, .getfield 20, 3), (14, .getfield 71, 3), (17, .if_icmp .ge 56, 3), (20, .aload_n 0, 1), (21, .iload 4, 2), (23, .iload_n 1, 1), (24, .invokevirtual 250, 3), (27, .ifCond .ne 6, 3), (30, .goto 37, 3), (33, .aload_n 0, 1), (34, .iload 4, 2), (36, .iload_n 1, 1), (37, .invokevirtual 253, 3), (40, .aload_n 0, 1), (41, .invokevirtual 500, 3), (44, .istore 5, 2), (46, .iload 5, 2), (48, .iconst (-1), 1), (49, .if_icmp .eq 18, 3), (52, .iload 5, 2), (54, .iload_n 3, 1), (55, .if_icmp .lt 6, 3), (58, .goto 9, 3), (61, .iload 4, 2), (63, .istore_n 2, 1), (64, .iload 5, 2), (66, .istore_n 3, 1), (67, .iinc 4 1, 3), (70, .goto (-62), 3), (73, .iload_n 2, 1), (74, .ireturn, 1)]
set_option maxRecDepth 100000 in
theorem qX13_gift : ∀ q ∈ tX13_gift, decode cX13_gift q.1 = .ok (q.2.1, q.2.2) := by decide +kernel
noncomputable def kX13_gift_8 (d : Nat) (p0 : Nat) (i1 : Int32) (i2 : Int32) (i3 : Int32) (i4 : Int32) (o5 : Option Value) (h : jm_H) : Option jm_R := jm_B d mX13_gift (8, [some (.ref p0), some (.int i1), some (.int i2), some (.int i3), some (.int i4), o5], []) h
theorem gX13_gift_8 {d : Nat} {p0 : Nat} {i1 : Int32} {i2 : Int32} {i3 : Int32} {i4 : Int32} {o5 : Option Value} {h : jm_H} {r : jm_R} (H : ((jr_R h p0 12 4 2).bind fun a1 => (jr_I h a1 11 8 0).bind fun x3 => (if i4 < x3 then jm_O h p0 13 (jc_I (jm_D d mX13_canGive [.ref p0, .int i4, .int i1] h) (fun x8 h6 => (if x8 = 0 then kX13_gift_8 d p0 i1 i2 i3 (i4 + 1) o5 h6 else jm_O h6 p0 13 (jc_V (jm_D d mX13_takeUpGift [.ref p0, .int i4, .int i1] h6) (fun h10 => jm_O h10 p0 13 (jc_I (jm_D d mX13_stepsLeft [.ref p0] h10) (fun x14 h12 => (if x14 = (-1) then kX13_gift_8 d p0 i1 i2 i3 (i4 + 1) (some (.int x14)) h12 else (if x14 < i3 then kX13_gift_8 d p0 i1 i4 x14 (i4 + 1) (some (.int x14)) h12 else kX13_gift_8 d p0 i1 i2 i3 (i4 + 1) (some (.int x14)) h12))) jx)) jx))) jx) else some (.inl (some (.int i2)), h))) = some r) : kX13_gift_8 d p0 i1 i2 i3 i4 o5 h = some r := by
  show jm_B d mX13_gift (8, [some (.ref p0), some (.int i1), some (.int i2), some (.int i3), some (.int i4), o5], []) h = some r
  refine Eq.trans (jb_nx (i := .iload 4) (n := 2) (q := (10, [some (.ref p0), some (.int i1), some (.int i2), some (.int i3), some (.int i4), o5], [.int i4])) (jq qX13_gift 6 rfl) rfl) ?_
  refine Eq.trans (jb_nx (i := .aload_n 0) (n := 1) (q := (11, [some (.ref p0), some (.int i1), some (.int i2), some (.int i3), some (.int i4), o5], [.ref p0, .int i4])) (jq qX13_gift 7 rfl) rfl) ?_
  obtain ⟨a1, e2, H⟩ := jbd H
  refine Eq.trans (jb_nx (i := .getfield 20) (n := 3) (q := (14, [some (.ref p0), some (.int i1), some (.int i2), some (.int i3), some (.int i4), o5], [.ref a1, .int i4])) (jq qX13_gift 8 rfl) (jo_gf rfl (jr_R_inv e2))) ?_
  obtain ⟨x3, e4, H⟩ := jbd H
  refine Eq.trans (jb_nx (i := .getfield 71) (n := 3) (q := (17, [some (.ref p0), some (.int i1), some (.int i2), some (.int i3), some (.int i4), o5], [.int x3, .int i4])) (jq qX13_gift 9 rfl) (jo_gf rfl (jr_I_inv e4))) ?_
  by_cases c5 : i4 < x3
  · rw [if_pos c5] at H
    refine Eq.trans (jb_nx (i := .if_icmp .ge 56) (n := 3) (q := (20, [some (.ref p0), some (.int i1), some (.int i2), some (.int i3), some (.int i4), o5], [])) (jq qX13_gift 10 rfl) (jo_icF (jz_geF c5))) ?_
    refine Eq.trans (jb_nx (i := .aload_n 0) (n := 1) (q := (21, [some (.ref p0), some (.int i1), some (.int i2), some (.int i3), some (.int i4), o5], [.ref p0])) (jq qX13_gift 11 rfl) rfl) ?_
    refine Eq.trans (jb_nx (i := .iload 4) (n := 2) (q := (23, [some (.ref p0), some (.int i1), some (.int i2), some (.int i3), some (.int i4), o5], [.int i4, .ref p0])) (jq qX13_gift 12 rfl) rfl) ?_
    refine Eq.trans (jb_nx (i := .iload_n 1) (n := 1) (q := (24, [some (.ref p0), some (.int i1), some (.int i2), some (.int i3), some (.int i4), o5], [.int i1, .int i4, .ref p0])) (jq qX13_gift 13 rfl) rfl) ?_
    obtain ⟨b23, H⟩ := jm_O_inv H
    rcases jcI H with ⟨x8, h6, r7, H⟩ | ⟨w24, h25, r7, H⟩
    · refine Eq.trans (jb_nx (i := .invokevirtual 250) (n := 3) (q := (27, [some (.ref p0), some (.int i1), some (.int i2), some (.int i3), some (.int i4), o5], [.int x8])) (jq qX13_gift 14 rfl) (jo_cv (y := mX13_canGive) rfl (Nat.le_of_ble_eq_true rfl) rfl (Nat.le_of_ble_eq_true rfl) b23 rfl r7 jo_ret)) ?_
      by_cases c9 : x8 = 0
      · rw [if_pos c9] at H
        refine Eq.trans (jb_nx (i := .ifCond .ne 6) (n := 3) (q := (30, [some (.ref p0), some (.int i1), some (.int i2), some (.int i3), some (.int i4), o5], [])) (jq qX13_gift 15 rfl) (jo_ifF (jz_neF c9))) ?_
        refine Eq.trans (jb_nx (i := .goto 37) (n := 3) (q := (67, [some (.ref p0), some (.int i1), some (.int i2), some (.int i3), some (.int i4), o5], [])) (jq qX13_gift 16 rfl) rfl) ?_
        refine Eq.trans (jb_nx (i := .iinc 4 1) (n := 3) (q := (70, [some (.ref p0), some (.int i1), some (.int i2), some (.int i3), some (.int (i4 + 1)), o5], [])) (jq qX13_gift 35 rfl) rfl) ?_
        refine Eq.trans (jb_nx (i := .goto (-62)) (n := 3) (q := (8, [some (.ref p0), some (.int i1), some (.int i2), some (.int i3), some (.int (i4 + 1)), o5], [])) (jq qX13_gift 36 rfl) rfl) ?_
        exact H
      · rw [if_neg c9] at H
        refine Eq.trans (jb_nx (i := .ifCond .ne 6) (n := 3) (q := (33, [some (.ref p0), some (.int i1), some (.int i2), some (.int i3), some (.int i4), o5], [])) (jq qX13_gift 15 rfl) (jo_ifT (jz_neT c9) rfl)) ?_
        refine Eq.trans (jb_nx (i := .aload_n 0) (n := 1) (q := (34, [some (.ref p0), some (.int i1), some (.int i2), some (.int i3), some (.int i4), o5], [.ref p0])) (jq qX13_gift 17 rfl) rfl) ?_
        refine Eq.trans (jb_nx (i := .iload 4) (n := 2) (q := (36, [some (.ref p0), some (.int i1), some (.int i2), some (.int i3), some (.int i4), o5], [.int i4, .ref p0])) (jq qX13_gift 18 rfl) rfl) ?_
        refine Eq.trans (jb_nx (i := .iload_n 1) (n := 1) (q := (37, [some (.ref p0), some (.int i1), some (.int i2), some (.int i3), some (.int i4), o5], [.int i1, .int i4, .ref p0])) (jq qX13_gift 19 rfl) rfl) ?_
        obtain ⟨b20, H⟩ := jm_O_inv H
        rcases jcV H with ⟨h10, r11, H⟩ | ⟨w21, h22, r11, H⟩
        · refine Eq.trans (jb_nx (i := .invokevirtual 253) (n := 3) (q := (40, [some (.ref p0), some (.int i1), some (.int i2), some (.int i3), some (.int i4), o5], [])) (jq qX13_gift 20 rfl) (jo_cv (y := mX13_takeUpGift) rfl (Nat.le_of_ble_eq_true rfl) rfl (Nat.le_of_ble_eq_true rfl) b20 rfl r11 jo_ret)) ?_
          refine Eq.trans (jb_nx (i := .aload_n 0) (n := 1) (q := (41, [some (.ref p0), some (.int i1), some (.int i2), some (.int i3), some (.int i4), o5], [.ref p0])) (jq qX13_gift 21 rfl) rfl) ?_
          obtain ⟨b17, H⟩ := jm_O_inv H
          rcases jcI H with ⟨x14, h12, r13, H⟩ | ⟨w18, h19, r13, H⟩
          · refine Eq.trans (jb_nx (i := .invokevirtual 500) (n := 3) (q := (44, [some (.ref p0), some (.int i1), some (.int i2), some (.int i3), some (.int i4), o5], [.int x14])) (jq qX13_gift 22 rfl) (jo_cv (y := mX13_stepsLeft) rfl (Nat.le_of_ble_eq_true rfl) rfl (Nat.le_of_ble_eq_true rfl) b17 rfl r13 jo_ret)) ?_
            refine Eq.trans (jb_nx (i := .istore 5) (n := 2) (q := (46, [some (.ref p0), some (.int i1), some (.int i2), some (.int i3), some (.int i4), some (.int x14)], [])) (jq qX13_gift 23 rfl) rfl) ?_
            refine Eq.trans (jb_nx (i := .iload 5) (n := 2) (q := (48, [some (.ref p0), some (.int i1), some (.int i2), some (.int i3), some (.int i4), some (.int x14)], [.int x14])) (jq qX13_gift 24 rfl) rfl) ?_
            refine Eq.trans (jb_nx (i := .iconst (-1)) (n := 1) (q := (49, [some (.ref p0), some (.int i1), some (.int i2), some (.int i3), some (.int i4), some (.int x14)], [.int (-1), .int x14])) (jq qX13_gift 25 rfl) rfl) ?_
            by_cases c15 : x14 = (-1)
            · rw [if_pos c15] at H
              refine Eq.trans (jb_nx (i := .if_icmp .eq 18) (n := 3) (q := (67, [some (.ref p0), some (.int i1), some (.int i2), some (.int i3), some (.int i4), some (.int x14)], [])) (jq qX13_gift 26 rfl) (jo_icT (jz_eqT c15) rfl)) ?_
              refine Eq.trans (jb_nx (i := .iinc 4 1) (n := 3) (q := (70, [some (.ref p0), some (.int i1), some (.int i2), some (.int i3), some (.int (i4 + 1)), some (.int x14)], [])) (jq qX13_gift 35 rfl) rfl) ?_
              refine Eq.trans (jb_nx (i := .goto (-62)) (n := 3) (q := (8, [some (.ref p0), some (.int i1), some (.int i2), some (.int i3), some (.int (i4 + 1)), some (.int x14)], [])) (jq qX13_gift 36 rfl) rfl) ?_
              exact H
            · rw [if_neg c15] at H
              refine Eq.trans (jb_nx (i := .if_icmp .eq 18) (n := 3) (q := (52, [some (.ref p0), some (.int i1), some (.int i2), some (.int i3), some (.int i4), some (.int x14)], [])) (jq qX13_gift 26 rfl) (jo_icF (jz_eqF c15))) ?_
              refine Eq.trans (jb_nx (i := .iload 5) (n := 2) (q := (54, [some (.ref p0), some (.int i1), some (.int i2), some (.int i3), some (.int i4), some (.int x14)], [.int x14])) (jq qX13_gift 27 rfl) rfl) ?_
              refine Eq.trans (jb_nx (i := .iload_n 3) (n := 1) (q := (55, [some (.ref p0), some (.int i1), some (.int i2), some (.int i3), some (.int i4), some (.int x14)], [.int i3, .int x14])) (jq qX13_gift 28 rfl) rfl) ?_
              by_cases c16 : x14 < i3
              · rw [if_pos c16] at H
                refine Eq.trans (jb_nx (i := .if_icmp .lt 6) (n := 3) (q := (61, [some (.ref p0), some (.int i1), some (.int i2), some (.int i3), some (.int i4), some (.int x14)], [])) (jq qX13_gift 29 rfl) (jo_icT (jz_ltT c16) rfl)) ?_
                refine Eq.trans (jb_nx (i := .iload 4) (n := 2) (q := (63, [some (.ref p0), some (.int i1), some (.int i2), some (.int i3), some (.int i4), some (.int x14)], [.int i4])) (jq qX13_gift 31 rfl) rfl) ?_
                refine Eq.trans (jb_nx (i := .istore_n 2) (n := 1) (q := (64, [some (.ref p0), some (.int i1), some (.int i4), some (.int i3), some (.int i4), some (.int x14)], [])) (jq qX13_gift 32 rfl) rfl) ?_
                refine Eq.trans (jb_nx (i := .iload 5) (n := 2) (q := (66, [some (.ref p0), some (.int i1), some (.int i4), some (.int i3), some (.int i4), some (.int x14)], [.int x14])) (jq qX13_gift 33 rfl) rfl) ?_
                refine Eq.trans (jb_nx (i := .istore_n 3) (n := 1) (q := (67, [some (.ref p0), some (.int i1), some (.int i4), some (.int x14), some (.int i4), some (.int x14)], [])) (jq qX13_gift 34 rfl) rfl) ?_
                refine Eq.trans (jb_nx (i := .iinc 4 1) (n := 3) (q := (70, [some (.ref p0), some (.int i1), some (.int i4), some (.int x14), some (.int (i4 + 1)), some (.int x14)], [])) (jq qX13_gift 35 rfl) rfl) ?_
                refine Eq.trans (jb_nx (i := .goto (-62)) (n := 3) (q := (8, [some (.ref p0), some (.int i1), some (.int i4), some (.int x14), some (.int (i4 + 1)), some (.int x14)], [])) (jq qX13_gift 36 rfl) rfl) ?_
                exact H
              · rw [if_neg c16] at H
                refine Eq.trans (jb_nx (i := .if_icmp .lt 6) (n := 3) (q := (58, [some (.ref p0), some (.int i1), some (.int i2), some (.int i3), some (.int i4), some (.int x14)], [])) (jq qX13_gift 29 rfl) (jo_icF (jz_ltF c16))) ?_
                refine Eq.trans (jb_nx (i := .goto 9) (n := 3) (q := (67, [some (.ref p0), some (.int i1), some (.int i2), some (.int i3), some (.int i4), some (.int x14)], [])) (jq qX13_gift 30 rfl) rfl) ?_
                refine Eq.trans (jb_nx (i := .iinc 4 1) (n := 3) (q := (70, [some (.ref p0), some (.int i1), some (.int i2), some (.int i3), some (.int (i4 + 1)), some (.int x14)], [])) (jq qX13_gift 35 rfl) rfl) ?_
                refine Eq.trans (jb_nx (i := .goto (-62)) (n := 3) (q := (8, [some (.ref p0), some (.int i1), some (.int i2), some (.int i3), some (.int (i4 + 1)), some (.int x14)], [])) (jq qX13_gift 36 rfl) rfl) ?_
                exact H
          · exact Eq.trans (jb_rt (i := .invokevirtual 500) (n := 3) (jq qX13_gift 22 rfl) (jo_cv (y := mX13_stepsLeft) rfl (Nat.le_of_ble_eq_true rfl) rfl (Nat.le_of_ble_eq_true rfl) b17 rfl r13 (jo_exn rfl))) H
        · exact Eq.trans (jb_rt (i := .invokevirtual 253) (n := 3) (jq qX13_gift 20 rfl) (jo_cv (y := mX13_takeUpGift) rfl (Nat.le_of_ble_eq_true rfl) rfl (Nat.le_of_ble_eq_true rfl) b20 rfl r11 (jo_exn rfl))) H
    · exact Eq.trans (jb_rt (i := .invokevirtual 250) (n := 3) (jq qX13_gift 14 rfl) (jo_cv (y := mX13_canGive) rfl (Nat.le_of_ble_eq_true rfl) rfl (Nat.le_of_ble_eq_true rfl) b23 rfl r7 (jo_exn rfl))) H
  · rw [if_neg c5] at H
    refine Eq.trans (jb_nx (i := .if_icmp .ge 56) (n := 3) (q := (73, [some (.ref p0), some (.int i1), some (.int i2), some (.int i3), some (.int i4), o5], [])) (jq qX13_gift 10 rfl) (jo_icT (jz_geT c5) rfl)) ?_
    refine Eq.trans (jb_nx (i := .iload_n 2) (n := 1) (q := (74, [some (.ref p0), some (.int i1), some (.int i2), some (.int i3), some (.int i4), o5], [.int i2])) (jq qX13_gift 37 rfl) rfl) ?_
    exact Eq.trans (jb_rt (i := .ireturn) (n := 1) (jq qX13_gift 38 rfl) (jo_iret rfl rfl)) H
theorem gX13_gift {d : Nat} {p0 : Nat} {i1 : Int32} {h : jm_H} {r : jm_R} (H : (kX13_gift_8 d p0 i1 (-1) 41 0 none h) = some r) : jm_D (d + 1) mX13_gift [.ref p0, .int i1] h = some r := by
  rw [jm_D_body (Nat.le_of_ble_eq_true rfl)]
  show jm_B d mX13_gift (0, [some (.ref p0), some (.int i1), none, none, none, none], []) h = some r
  refine Eq.trans (jb_nx (i := .iconst (-1)) (n := 1) (q := (1, [some (.ref p0), some (.int i1), none, none, none, none], [.int (-1)])) (jq qX13_gift 0 rfl) rfl) ?_
  refine Eq.trans (jb_nx (i := .istore_n 2) (n := 1) (q := (2, [some (.ref p0), some (.int i1), some (.int (-1)), none, none, none], [])) (jq qX13_gift 1 rfl) rfl) ?_
  refine Eq.trans (jb_nx (i := .bipush 41) (n := 2) (q := (4, [some (.ref p0), some (.int i1), some (.int (-1)), none, none, none], [.int 41])) (jq qX13_gift 2 rfl) rfl) ?_
  refine Eq.trans (jb_nx (i := .istore_n 3) (n := 1) (q := (5, [some (.ref p0), some (.int i1), some (.int (-1)), some (.int 41), none, none], [])) (jq qX13_gift 3 rfl) rfl) ?_
  refine Eq.trans (jb_nx (i := .iconst 0) (n := 1) (q := (6, [some (.ref p0), some (.int i1), some (.int (-1)), some (.int 41), none, none], [.int 0])) (jq qX13_gift 4 rfl) rfl) ?_
  refine Eq.trans (jb_nx (i := .istore 4) (n := 2) (q := (8, [some (.ref p0), some (.int i1), some (.int (-1)), some (.int 41), some (.int 0), none], [])) (jq qX13_gift 5 rfl) rfl) ?_
  exact H
/-! MaskPlaysModel meanSize ()D -/
def tX13_meanSize : List (Nat × Instr × Nat) := [(0, .aload_n 0, 1), (1, .iconst 0, 1), (2, .putfield 68, 3), (5, .iconst 0, 1), (6, .istore_n 1, 1), (7, .iconst 0, 1), (8, .istore_n 2, 1), (9, .iload_n 2, 1), (10, .aload_n 0, 1), (11, .getfield 20, 3), (14, .getfield 71, 3), (17, .if_icmp .ge 18, 3), (20, .iload_n 1, 1), (21, .aload_n 0, 1), (22, .getfield 28, 3), (25, .iload_n 2, 1), (26, .iaload, 1), (27, .iadd, 1), (28, .istore_n 1, 1), (29, .iinc 2 1, 3), (32, .goto (-23), 3), (35, .aload_n 0, 1), (36, .getfield 20, 3), (39, .getfield 71, 3), (42, .ifCond .ne 7, 3), (45, .dconst 0, 1), (46, .goto 14, 3), (49, .iload_n 1, 1), (50, .i2d, 1), (51, .aload_n 0, 1), (52, .getfield 20, 3), (55, .getfield 71, 3), (58, .i2d, 1), (59, .ddiv, 1), (60, .dreturn, 1)]
set_option maxRecDepth 100000 in
theorem qX13_meanSize : ∀ q ∈ tX13_meanSize, decode cX13_meanSize q.1 = .ok (q.2.1, q.2.2) := by decide +kernel
noncomputable def kX13_meanSize_9 (d : Nat) (p0 : Nat) (i1 : Int32) (i2 : Int32) (h : jm_H) : Option jm_R := jm_B d mX13_meanSize (9, [some (.ref p0), some (.int i1), some (.int i2)], []) h
theorem gX13_meanSize_9 {d : Nat} {p0 : Nat} {i1 : Int32} {i2 : Int32} {h : jm_H} {r : jm_R} (H : ((jr_R h p0 12 4 2).bind fun a3 => (jr_I h a3 11 8 0).bind fun x5 => (if i2 < x5 then (jr_R h p0 12 9 2).bind fun a18 => (jm_ali h a18 0 i2).bind fun x20 => kX13_meanSize_9 d p0 (i1 + x20) (i2 + 1) h else (jr_R h p0 12 4 2).bind fun a8 => (jr_I h a8 11 8 0).bind fun x10 => (if x10 = 0 then some (.inl (some (.double FP.dconst0)), h) else (jr_R h p0 12 4 2).bind fun a13 => (jr_I h a13 11 8 0).bind fun x15 => (if FP.ddiv (FP.i2d i1) (FP.i2d x15) &&& 0x7fffffffffffffff ≤ 0x7ff0000000000000 then some (.inl (some (.double (FP.ddiv (FP.i2d i1) (FP.i2d x15)))), h) else none)))) = some r) : kX13_meanSize_9 d p0 i1 i2 h = some r := by
  show jm_B d mX13_meanSize (9, [some (.ref p0), some (.int i1), some (.int i2)], []) h = some r
  refine Eq.trans (jb_nx (i := .iload_n 2) (n := 1) (q := (10, [some (.ref p0), some (.int i1), some (.int i2)], [.int i2])) (jq qX13_meanSize 7 rfl) rfl) ?_
  refine Eq.trans (jb_nx (i := .aload_n 0) (n := 1) (q := (11, [some (.ref p0), some (.int i1), some (.int i2)], [.ref p0, .int i2])) (jq qX13_meanSize 8 rfl) rfl) ?_
  obtain ⟨a3, e4, H⟩ := jbd H
  refine Eq.trans (jb_nx (i := .getfield 20) (n := 3) (q := (14, [some (.ref p0), some (.int i1), some (.int i2)], [.ref a3, .int i2])) (jq qX13_meanSize 9 rfl) (jo_gf rfl (jr_R_inv e4))) ?_
  obtain ⟨x5, e6, H⟩ := jbd H
  refine Eq.trans (jb_nx (i := .getfield 71) (n := 3) (q := (17, [some (.ref p0), some (.int i1), some (.int i2)], [.int x5, .int i2])) (jq qX13_meanSize 10 rfl) (jo_gf rfl (jr_I_inv e6))) ?_
  by_cases c7 : i2 < x5
  · rw [if_pos c7] at H
    refine Eq.trans (jb_nx (i := .if_icmp .ge 18) (n := 3) (q := (20, [some (.ref p0), some (.int i1), some (.int i2)], [])) (jq qX13_meanSize 11 rfl) (jo_icF (jz_geF c7))) ?_
    refine Eq.trans (jb_nx (i := .iload_n 1) (n := 1) (q := (21, [some (.ref p0), some (.int i1), some (.int i2)], [.int i1])) (jq qX13_meanSize 12 rfl) rfl) ?_
    refine Eq.trans (jb_nx (i := .aload_n 0) (n := 1) (q := (22, [some (.ref p0), some (.int i1), some (.int i2)], [.ref p0, .int i1])) (jq qX13_meanSize 13 rfl) rfl) ?_
    obtain ⟨a18, e19, H⟩ := jbd H
    refine Eq.trans (jb_nx (i := .getfield 28) (n := 3) (q := (25, [some (.ref p0), some (.int i1), some (.int i2)], [.ref a18, .int i1])) (jq qX13_meanSize 14 rfl) (jo_gf rfl (jr_R_inv e19))) ?_
    refine Eq.trans (jb_nx (i := .iload_n 2) (n := 1) (q := (26, [some (.ref p0), some (.int i1), some (.int i2)], [.int i2, .ref a18, .int i1])) (jq qX13_meanSize 15 rfl) rfl) ?_
    obtain ⟨x20, e21, H⟩ := jbd H
    refine Eq.trans (jb_nx (i := .iaload) (n := 1) (q := (27, [some (.ref p0), some (.int i1), some (.int i2)], [.int x20, .int i1])) (jq qX13_meanSize 16 rfl) (jo_ial e21)) ?_
    refine Eq.trans (jb_nx (i := .iadd) (n := 1) (q := (28, [some (.ref p0), some (.int i1), some (.int i2)], [.int (i1 + x20)])) (jq qX13_meanSize 17 rfl) rfl) ?_
    refine Eq.trans (jb_nx (i := .istore_n 1) (n := 1) (q := (29, [some (.ref p0), some (.int (i1 + x20)), some (.int i2)], [])) (jq qX13_meanSize 18 rfl) rfl) ?_
    refine Eq.trans (jb_nx (i := .iinc 2 1) (n := 3) (q := (32, [some (.ref p0), some (.int (i1 + x20)), some (.int (i2 + 1))], [])) (jq qX13_meanSize 19 rfl) rfl) ?_
    refine Eq.trans (jb_nx (i := .goto (-23)) (n := 3) (q := (9, [some (.ref p0), some (.int (i1 + x20)), some (.int (i2 + 1))], [])) (jq qX13_meanSize 20 rfl) rfl) ?_
    exact H
  · rw [if_neg c7] at H
    refine Eq.trans (jb_nx (i := .if_icmp .ge 18) (n := 3) (q := (35, [some (.ref p0), some (.int i1), some (.int i2)], [])) (jq qX13_meanSize 11 rfl) (jo_icT (jz_geT c7) rfl)) ?_
    refine Eq.trans (jb_nx (i := .aload_n 0) (n := 1) (q := (36, [some (.ref p0), some (.int i1), some (.int i2)], [.ref p0])) (jq qX13_meanSize 21 rfl) rfl) ?_
    obtain ⟨a8, e9, H⟩ := jbd H
    refine Eq.trans (jb_nx (i := .getfield 20) (n := 3) (q := (39, [some (.ref p0), some (.int i1), some (.int i2)], [.ref a8])) (jq qX13_meanSize 22 rfl) (jo_gf rfl (jr_R_inv e9))) ?_
    obtain ⟨x10, e11, H⟩ := jbd H
    refine Eq.trans (jb_nx (i := .getfield 71) (n := 3) (q := (42, [some (.ref p0), some (.int i1), some (.int i2)], [.int x10])) (jq qX13_meanSize 23 rfl) (jo_gf rfl (jr_I_inv e11))) ?_
    by_cases c12 : x10 = 0
    · rw [if_pos c12] at H
      refine Eq.trans (jb_nx (i := .ifCond .ne 7) (n := 3) (q := (45, [some (.ref p0), some (.int i1), some (.int i2)], [])) (jq qX13_meanSize 24 rfl) (jo_ifF (jz_neF c12))) ?_
      refine Eq.trans (jb_nx (i := .dconst 0) (n := 1) (q := (46, [some (.ref p0), some (.int i1), some (.int i2)], [.double FP.dconst0])) (jq qX13_meanSize 25 rfl) rfl) ?_
      refine Eq.trans (jb_nx (i := .goto 14) (n := 3) (q := (60, [some (.ref p0), some (.int i1), some (.int i2)], [.double FP.dconst0])) (jq qX13_meanSize 26 rfl) rfl) ?_
      exact Eq.trans (jb_rt (i := .dreturn) (n := 1) (jq qX13_meanSize 34 rfl) rfl) H
    · rw [if_neg c12] at H
      refine Eq.trans (jb_nx (i := .ifCond .ne 7) (n := 3) (q := (49, [some (.ref p0), some (.int i1), some (.int i2)], [])) (jq qX13_meanSize 24 rfl) (jo_ifT (jz_neT c12) rfl)) ?_
      refine Eq.trans (jb_nx (i := .iload_n 1) (n := 1) (q := (50, [some (.ref p0), some (.int i1), some (.int i2)], [.int i1])) (jq qX13_meanSize 27 rfl) rfl) ?_
      refine Eq.trans (jb_nx (i := .i2d) (n := 1) (q := (51, [some (.ref p0), some (.int i1), some (.int i2)], [.double (FP.i2d i1)])) (jq qX13_meanSize 28 rfl) rfl) ?_
      refine Eq.trans (jb_nx (i := .aload_n 0) (n := 1) (q := (52, [some (.ref p0), some (.int i1), some (.int i2)], [.ref p0, .double (FP.i2d i1)])) (jq qX13_meanSize 29 rfl) rfl) ?_
      obtain ⟨a13, e14, H⟩ := jbd H
      refine Eq.trans (jb_nx (i := .getfield 20) (n := 3) (q := (55, [some (.ref p0), some (.int i1), some (.int i2)], [.ref a13, .double (FP.i2d i1)])) (jq qX13_meanSize 30 rfl) (jo_gf rfl (jr_R_inv e14))) ?_
      obtain ⟨x15, e16, H⟩ := jbd H
      refine Eq.trans (jb_nx (i := .getfield 71) (n := 3) (q := (58, [some (.ref p0), some (.int i1), some (.int i2)], [.int x15, .double (FP.i2d i1)])) (jq qX13_meanSize 31 rfl) (jo_gf rfl (jr_I_inv e16))) ?_
      refine Eq.trans (jb_nx (i := .i2d) (n := 1) (q := (59, [some (.ref p0), some (.int i1), some (.int i2)], [.double (FP.i2d x15), .double (FP.i2d i1)])) (jq qX13_meanSize 32 rfl) rfl) ?_
      by_cases c17 : FP.ddiv (FP.i2d i1) (FP.i2d x15) &&& 0x7fffffffffffffff ≤ 0x7ff0000000000000
      · rw [if_pos c17] at H
        refine Eq.trans (jb_nx (i := .ddiv) (n := 1) (q := (60, [some (.ref p0), some (.int i1), some (.int i2)], [.double (FP.ddiv (FP.i2d i1) (FP.i2d x15))])) (jq qX13_meanSize 33 rfl) (jo_ddiv c17)) ?_
        exact Eq.trans (jb_rt (i := .dreturn) (n := 1) (jq qX13_meanSize 34 rfl) rfl) H
      · rw [if_neg c17] at H; cases H
theorem gX13_meanSize {d : Nat} {p0 : Nat} {h : jm_H} {r : jm_R} (H : ((jm_pf h p0 12 0 0 (.int 0)).bind fun h1 => kX13_meanSize_9 d p0 0 0 h1) = some r) : jm_D (d + 1) mX13_meanSize [.ref p0] h = some r := by
  rw [jm_D_body (Nat.le_of_ble_eq_true rfl)]
  show jm_B d mX13_meanSize (0, [some (.ref p0), none, none], []) h = some r
  refine Eq.trans (jb_nx (i := .aload_n 0) (n := 1) (q := (1, [some (.ref p0), none, none], [.ref p0])) (jq qX13_meanSize 0 rfl) rfl) ?_
  refine Eq.trans (jb_nx (i := .iconst 0) (n := 1) (q := (2, [some (.ref p0), none, none], [.int 0, .ref p0])) (jq qX13_meanSize 1 rfl) rfl) ?_
  obtain ⟨h1, e2, H⟩ := jbd H
  refine Eq.trans (jb_nx (i := .putfield 68) (n := 3) (q := (5, [some (.ref p0), none, none], [])) (jq qX13_meanSize 2 rfl) (jo_pf rfl (Or.inl rfl) e2)) ?_
  refine Eq.trans (jb_nx (i := .iconst 0) (n := 1) (q := (6, [some (.ref p0), none, none], [.int 0])) (jq qX13_meanSize 3 rfl) rfl) ?_
  refine Eq.trans (jb_nx (i := .istore_n 1) (n := 1) (q := (7, [some (.ref p0), some (.int 0), none], [])) (jq qX13_meanSize 4 rfl) rfl) ?_
  refine Eq.trans (jb_nx (i := .iconst 0) (n := 1) (q := (8, [some (.ref p0), some (.int 0), none], [.int 0])) (jq qX13_meanSize 5 rfl) rfl) ?_
  refine Eq.trans (jb_nx (i := .istore_n 2) (n := 1) (q := (9, [some (.ref p0), some (.int 0), some (.int 0)], [])) (jq qX13_meanSize 6 rfl) rfl) ?_
  exact H
/-! MaskPlaysModel digest ()J -/
def tX13_digest : List (Nat × Instr × Nat) := [(0, .aload_n 0, 1), (1, .iconst 0, 1), (2, .putfield 68, 3), (5, .bipush 6, 2), (7, .newarray .int, 2), (9, .dup, 1), (10, .iconst 0, 1), (11, .aload_n 0, 1), (12, .getfield 20, 3), (15, .getfield 411, 3), (18, .iastore, 1), (19, .dup, 1), (20, .iconst 1, 1), (21, .aload_n 0, 1), (22, .getfield 20, 3), (25, .getfield 71, 3), (28, .iastore, 1), (29, .dup, 1), (30, .iconst 2, 1), (31, .aload_n 0, 1), (32, .getfield 20, 3), (35, .getfield 273, 3), (38, .iastore, 1), (39, .dup, 1), (40, .iconst 3, 1), (41, .aload_n 0, 1), (42, .getfield 192, 3), (45, .iastore, 1), (46, .dup, 1), (47, .iconst 4, 1), (48, .aload_n 0, 1), (49, .getfield 279, 3), (52, .iastore, 1), (53, .dup, 1), (54, .iconst 5, 1), (55, .aload_n 0, 1), (56, .getfield 291, 3), (59, .iastore, 1), (60, .astore_n 1, 1), (61, .ldc2_w 520, 3), (64, .lstore_n 2, 1), (65, .aload_n 1, 1), (66, .astore 4, 2), (68, .aload 4, 2), (70, .arraylength, 1), (71, .istore 5, 2), (73, .iconst 0, 1), (74, .istore 6, 2), (76, .iload 6, 2), (78, .iload 5, 2), (80, .if_icmp .ge 26, 3), (83, .aload 4, 2), (85, .iload 6, 2), (87, .iaload, 1), (88, .istore 7, 2), (90, .lload_n 2, 1), (91, .ldc2_w 518, 3), (94, .lmul, 1), (95, .iload 7, 2), (97, .i2l, 1), (98, .ladd, 1), (99, .lstore_n 2, 1), (100, .iinc 6 1, 3), (103, .goto (-27), 3), (106, .iconst 0, 1), (107, .istore 4, 2), (109, .iload 4, 2), (111, .aload_n 0, 1), (112, .getfield 20, 3), (115, .getfield 71, 3), (118, .if_icmp .ge 17, 3), (121, .aload_n 0, 1), (122, .lload_n 2, 1), (123, .iload 4, 2), (125, .invokevirtual 522, 3), (128, .lstore_n 2, 1), (129, .iinc 4 1, 3), (132, .goto (-23), 3), (135, .lload_n 2, 1), (136, .lreturn, 1)]
set_option maxRecDepth 100000 in
theorem qX13_digest : ∀ q ∈ tX13_digest, decode cX13_digest q.1 = .ok (q.2.1, q.2.2) := by decide +kernel
noncomputable def kX13_digest_76 (d : Nat) (p0 : Nat) (o1 : Option Value) (j2 : Int64) (p4 : Nat) (i5 : Int32) (i6 : Int32) (o7 : Option Value) (h : jm_H) : Option jm_R := jm_B d mX13_digest (76, [some (.ref p0), o1, some (.long j2), none, some (.ref p4), some (.int i5), some (.int i6), o7], []) h
noncomputable def kX13_digest_109 (d : Nat) (p0 : Nat) (o1 : Option Value) (j2 : Int64) (i4 : Int32) (o5 : Option Value) (o6 : Option Value) (o7 : Option Value) (h : jm_H) : Option jm_R := jm_B d mX13_digest (109, [some (.ref p0), o1, some (.long j2), none, some (.int i4), o5, o6, o7], []) h
theorem gX13_digest_76 {d : Nat} {p0 : Nat} {o1 : Option Value} {j2 : Int64} {p4 : Nat} {i5 : Int32} {i6 : Int32} {o7 : Option Value} {h : jm_H} {r : jm_R} (H : ((if i6 < i5 then (jm_ali h p4 0 i6).bind fun x40 => kX13_digest_76 d p0 (jm_dm o1) ((j2 * 31) + x40.toInt64) p4 i5 (i6 + 1) (some (.int x40)) h else kX13_digest_109 d p0 o1 j2 0 (some (.int i5)) (some (.int i6)) o7 h)) = some r) : kX13_digest_76 d p0 o1 j2 p4 i5 i6 o7 h = some r := by
  show jm_B d mX13_digest (76, [some (.ref p0), o1, some (.long j2), none, some (.ref p4), some (.int i5), some (.int i6), o7], []) h = some r
  refine Eq.trans (jb_nx (i := .iload 6) (n := 2) (q := (78, [some (.ref p0), o1, some (.long j2), none, some (.ref p4), some (.int i5), some (.int i6), o7], [.int i6])) (jq qX13_digest 48 rfl) rfl) ?_
  refine Eq.trans (jb_nx (i := .iload 5) (n := 2) (q := (80, [some (.ref p0), o1, some (.long j2), none, some (.ref p4), some (.int i5), some (.int i6), o7], [.int i5, .int i6])) (jq qX13_digest 49 rfl) rfl) ?_
  by_cases c39 : i6 < i5
  · rw [if_pos c39] at H
    refine Eq.trans (jb_nx (i := .if_icmp .ge 26) (n := 3) (q := (83, [some (.ref p0), o1, some (.long j2), none, some (.ref p4), some (.int i5), some (.int i6), o7], [])) (jq qX13_digest 50 rfl) (jo_icF (jz_geF c39))) ?_
    refine Eq.trans (jb_nx (i := .aload 4) (n := 2) (q := (85, [some (.ref p0), o1, some (.long j2), none, some (.ref p4), some (.int i5), some (.int i6), o7], [.ref p4])) (jq qX13_digest 51 rfl) rfl) ?_
    refine Eq.trans (jb_nx (i := .iload 6) (n := 2) (q := (87, [some (.ref p0), o1, some (.long j2), none, some (.ref p4), some (.int i5), some (.int i6), o7], [.int i6, .ref p4])) (jq qX13_digest 52 rfl) rfl) ?_
    obtain ⟨x40, e41, H⟩ := jbd H
    refine Eq.trans (jb_nx (i := .iaload) (n := 1) (q := (88, [some (.ref p0), o1, some (.long j2), none, some (.ref p4), some (.int i5), some (.int i6), o7], [.int x40])) (jq qX13_digest 53 rfl) (jo_ial e41)) ?_
    refine Eq.trans (jb_nx (i := .istore 7) (n := 2) (q := (90, [some (.ref p0), o1, some (.long j2), none, some (.ref p4), some (.int i5), some (.int i6), some (.int x40)], [])) (jq qX13_digest 54 rfl) rfl) ?_
    refine Eq.trans (jb_nx (i := .lload_n 2) (n := 1) (q := (91, [some (.ref p0), o1, some (.long j2), none, some (.ref p4), some (.int i5), some (.int i6), some (.int x40)], [.long j2])) (jq qX13_digest 55 rfl) rfl) ?_
    refine Eq.trans (jb_nx (i := .ldc2_w 518) (n := 3) (q := (94, [some (.ref p0), o1, some (.long j2), none, some (.ref p4), some (.int i5), some (.int i6), some (.int x40)], [.long 31, .long j2])) (jq qX13_digest 56 rfl) rfl) ?_
    refine Eq.trans (jb_nx (i := .lmul) (n := 1) (q := (95, [some (.ref p0), o1, some (.long j2), none, some (.ref p4), some (.int i5), some (.int i6), some (.int x40)], [.long (j2 * 31)])) (jq qX13_digest 57 rfl) rfl) ?_
    refine Eq.trans (jb_nx (i := .iload 7) (n := 2) (q := (97, [some (.ref p0), o1, some (.long j2), none, some (.ref p4), some (.int i5), some (.int i6), some (.int x40)], [.int x40, .long (j2 * 31)])) (jq qX13_digest 58 rfl) rfl) ?_
    refine Eq.trans (jb_nx (i := .i2l) (n := 1) (q := (98, [some (.ref p0), o1, some (.long j2), none, some (.ref p4), some (.int i5), some (.int i6), some (.int x40)], [.long x40.toInt64, .long (j2 * 31)])) (jq qX13_digest 59 rfl) rfl) ?_
    refine Eq.trans (jb_nx (i := .ladd) (n := 1) (q := (99, [some (.ref p0), o1, some (.long j2), none, some (.ref p4), some (.int i5), some (.int i6), some (.int x40)], [.long ((j2 * 31) + x40.toInt64)])) (jq qX13_digest 60 rfl) rfl) ?_
    refine Eq.trans (jb_nx (i := .lstore_n 2) (n := 1) (q := (100, [some (.ref p0), (jm_dm o1), some (.long ((j2 * 31) + x40.toInt64)), none, some (.ref p4), some (.int i5), some (.int i6), some (.int x40)], [])) (jq qX13_digest 61 rfl) rfl) ?_
    refine Eq.trans (jb_nx (i := .iinc 6 1) (n := 3) (q := (103, [some (.ref p0), (jm_dm o1), some (.long ((j2 * 31) + x40.toInt64)), none, some (.ref p4), some (.int i5), some (.int (i6 + 1)), some (.int x40)], [])) (jq qX13_digest 62 rfl) rfl) ?_
    refine Eq.trans (jb_nx (i := .goto (-27)) (n := 3) (q := (76, [some (.ref p0), (jm_dm o1), some (.long ((j2 * 31) + x40.toInt64)), none, some (.ref p4), some (.int i5), some (.int (i6 + 1)), some (.int x40)], [])) (jq qX13_digest 63 rfl) rfl) ?_
    exact H
  · rw [if_neg c39] at H
    refine Eq.trans (jb_nx (i := .if_icmp .ge 26) (n := 3) (q := (106, [some (.ref p0), o1, some (.long j2), none, some (.ref p4), some (.int i5), some (.int i6), o7], [])) (jq qX13_digest 50 rfl) (jo_icT (jz_geT c39) rfl)) ?_
    refine Eq.trans (jb_nx (i := .iconst 0) (n := 1) (q := (107, [some (.ref p0), o1, some (.long j2), none, some (.ref p4), some (.int i5), some (.int i6), o7], [.int 0])) (jq qX13_digest 64 rfl) rfl) ?_
    refine Eq.trans (jb_nx (i := .istore 4) (n := 2) (q := (109, [some (.ref p0), o1, some (.long j2), none, some (.int 0), some (.int i5), some (.int i6), o7], [])) (jq qX13_digest 65 rfl) rfl) ?_
    exact H
theorem gX13_digest_109 {d : Nat} {p0 : Nat} {o1 : Option Value} {j2 : Int64} {i4 : Int32} {o5 : Option Value} {o6 : Option Value} {o7 : Option Value} {h : jm_H} {r : jm_R} (H : ((jr_R h p0 12 4 2).bind fun a42 => (jr_I h a42 11 8 0).bind fun x44 => (if i4 < x44 then jm_O h p0 13 (jc_L (jm_D d mX13_digestPlay [.ref p0, .long j2, .int i4] h) (fun y49 h47 => kX13_digest_109 d p0 (jm_dm o1) y49 (i4 + 1) o5 o6 o7 h47) jx) else some (.inl (some (.long j2)), h))) = some r) : kX13_digest_109 d p0 o1 j2 i4 o5 o6 o7 h = some r := by
  show jm_B d mX13_digest (109, [some (.ref p0), o1, some (.long j2), none, some (.int i4), o5, o6, o7], []) h = some r
  refine Eq.trans (jb_nx (i := .iload 4) (n := 2) (q := (111, [some (.ref p0), o1, some (.long j2), none, some (.int i4), o5, o6, o7], [.int i4])) (jq qX13_digest 66 rfl) rfl) ?_
  refine Eq.trans (jb_nx (i := .aload_n 0) (n := 1) (q := (112, [some (.ref p0), o1, some (.long j2), none, some (.int i4), o5, o6, o7], [.ref p0, .int i4])) (jq qX13_digest 67 rfl) rfl) ?_
  obtain ⟨a42, e43, H⟩ := jbd H
  refine Eq.trans (jb_nx (i := .getfield 20) (n := 3) (q := (115, [some (.ref p0), o1, some (.long j2), none, some (.int i4), o5, o6, o7], [.ref a42, .int i4])) (jq qX13_digest 68 rfl) (jo_gf rfl (jr_R_inv e43))) ?_
  obtain ⟨x44, e45, H⟩ := jbd H
  refine Eq.trans (jb_nx (i := .getfield 71) (n := 3) (q := (118, [some (.ref p0), o1, some (.long j2), none, some (.int i4), o5, o6, o7], [.int x44, .int i4])) (jq qX13_digest 69 rfl) (jo_gf rfl (jr_I_inv e45))) ?_
  by_cases c46 : i4 < x44
  · rw [if_pos c46] at H
    refine Eq.trans (jb_nx (i := .if_icmp .ge 17) (n := 3) (q := (121, [some (.ref p0), o1, some (.long j2), none, some (.int i4), o5, o6, o7], [])) (jq qX13_digest 70 rfl) (jo_icF (jz_geF c46))) ?_
    refine Eq.trans (jb_nx (i := .aload_n 0) (n := 1) (q := (122, [some (.ref p0), o1, some (.long j2), none, some (.int i4), o5, o6, o7], [.ref p0])) (jq qX13_digest 71 rfl) rfl) ?_
    refine Eq.trans (jb_nx (i := .lload_n 2) (n := 1) (q := (123, [some (.ref p0), o1, some (.long j2), none, some (.int i4), o5, o6, o7], [.long j2, .ref p0])) (jq qX13_digest 72 rfl) rfl) ?_
    refine Eq.trans (jb_nx (i := .iload 4) (n := 2) (q := (125, [some (.ref p0), o1, some (.long j2), none, some (.int i4), o5, o6, o7], [.int i4, .long j2, .ref p0])) (jq qX13_digest 73 rfl) rfl) ?_
    obtain ⟨b50, H⟩ := jm_O_inv H
    rcases jcL H with ⟨y49, h47, r48, H⟩ | ⟨w51, h52, r48, H⟩
    · refine Eq.trans (jb_nx (i := .invokevirtual 522) (n := 3) (q := (128, [some (.ref p0), o1, some (.long j2), none, some (.int i4), o5, o6, o7], [.long y49])) (jq qX13_digest 74 rfl) (jo_cv (y := mX13_digestPlay) rfl (Nat.le_of_ble_eq_true rfl) rfl (Nat.le_of_ble_eq_true rfl) b50 rfl r48 jo_ret)) ?_
      refine Eq.trans (jb_nx (i := .lstore_n 2) (n := 1) (q := (129, [some (.ref p0), (jm_dm o1), some (.long y49), none, some (.int i4), o5, o6, o7], [])) (jq qX13_digest 75 rfl) rfl) ?_
      refine Eq.trans (jb_nx (i := .iinc 4 1) (n := 3) (q := (132, [some (.ref p0), (jm_dm o1), some (.long y49), none, some (.int (i4 + 1)), o5, o6, o7], [])) (jq qX13_digest 76 rfl) rfl) ?_
      refine Eq.trans (jb_nx (i := .goto (-23)) (n := 3) (q := (109, [some (.ref p0), (jm_dm o1), some (.long y49), none, some (.int (i4 + 1)), o5, o6, o7], [])) (jq qX13_digest 77 rfl) rfl) ?_
      exact H
    · exact Eq.trans (jb_rt (i := .invokevirtual 522) (n := 3) (jq qX13_digest 74 rfl) (jo_cv (y := mX13_digestPlay) rfl (Nat.le_of_ble_eq_true rfl) rfl (Nat.le_of_ble_eq_true rfl) b50 rfl r48 (jo_exn rfl))) H
  · rw [if_neg c46] at H
    refine Eq.trans (jb_nx (i := .if_icmp .ge 17) (n := 3) (q := (135, [some (.ref p0), o1, some (.long j2), none, some (.int i4), o5, o6, o7], [])) (jq qX13_digest 70 rfl) (jo_icT (jz_geT c46) rfl)) ?_
    refine Eq.trans (jb_nx (i := .lload_n 2) (n := 1) (q := (136, [some (.ref p0), o1, some (.long j2), none, some (.int i4), o5, o6, o7], [.long j2])) (jq qX13_digest 78 rfl) rfl) ?_
    exact Eq.trans (jb_rt (i := .lreturn) (n := 1) (jq qX13_digest 79 rfl) rfl) H
theorem gX13_digest {d : Nat} {p0 : Nat} {h : jm_H} {r : jm_R} (H : ((jm_pf h p0 12 0 0 (.int 0)).bind fun h1 => jl_newa h1 0 6 fun a3 h4 => (jr_R h4 p0 12 4 2).bind fun a7 => (jr_I h4 a7 11 6 0).bind fun x9 => (jm_asi h4 a3 0 0 x9).bind fun h11 => (jr_R h11 p0 12 4 2).bind fun a13 => (jr_I h11 a13 11 8 0).bind fun x15 => (jm_asi h11 a3 0 1 x15).bind fun h17 => (jr_R h17 p0 12 4 2).bind fun a19 => (jr_I h17 a19 11 12 0).bind fun x21 => (jm_asi h17 a3 0 2 x21).bind fun h23 => (jr_I h23 p0 12 14 0).bind fun x25 => (jm_asi h23 a3 0 3 x25).bind fun h27 => (jr_I h27 p0 12 15 0).bind fun x29 => (jm_asi h27 a3 0 4 x29).bind fun h31 => (jr_I h31 p0 12 2 0).bind fun x33 => (jm_asi h31 a3 0 5 x33).bind fun h35 => (jm_len h35 a3).bind fun n37 => kX13_digest_76 d p0 (some (.ref a3)) 941 a3 (Int32.ofNat n37) 0 none h35) = some r) : jm_D (d + 1) mX13_digest [.ref p0] h = some r := by
  rw [jm_D_body (Nat.le_of_ble_eq_true rfl)]
  show jm_B d mX13_digest (0, [some (.ref p0), none, none, none, none, none, none, none], []) h = some r
  refine Eq.trans (jb_nx (i := .aload_n 0) (n := 1) (q := (1, [some (.ref p0), none, none, none, none, none, none, none], [.ref p0])) (jq qX13_digest 0 rfl) rfl) ?_
  refine Eq.trans (jb_nx (i := .iconst 0) (n := 1) (q := (2, [some (.ref p0), none, none, none, none, none, none, none], [.int 0, .ref p0])) (jq qX13_digest 1 rfl) rfl) ?_
  obtain ⟨h1, e2, H⟩ := jbd H
  refine Eq.trans (jb_nx (i := .putfield 68) (n := 3) (q := (5, [some (.ref p0), none, none, none, none, none, none, none], [])) (jq qX13_digest 2 rfl) (jo_pf rfl (Or.inl rfl) e2)) ?_
  refine Eq.trans (jb_nx (i := .bipush 6) (n := 2) (q := (7, [some (.ref p0), none, none, none, none, none, none, none], [.int 6])) (jq qX13_digest 3 rfl) rfl) ?_
  obtain ⟨a3, h4, e5, e6, H⟩ := jl_newa_inv H
  refine Eq.trans (jb_nx (i := .newarray .int) (n := 2) (q := (9, [some (.ref p0), none, none, none, none, none, none, none], [.ref a3])) (jq qX13_digest 4 rfl) (jo_newb rfl e5 e6)) ?_
  refine Eq.trans (jb_nx (i := .dup) (n := 1) (q := (10, [some (.ref p0), none, none, none, none, none, none, none], [.ref a3, .ref a3])) (jq qX13_digest 5 rfl) rfl) ?_
  refine Eq.trans (jb_nx (i := .iconst 0) (n := 1) (q := (11, [some (.ref p0), none, none, none, none, none, none, none], [.int 0, .ref a3, .ref a3])) (jq qX13_digest 6 rfl) rfl) ?_
  refine Eq.trans (jb_nx (i := .aload_n 0) (n := 1) (q := (12, [some (.ref p0), none, none, none, none, none, none, none], [.ref p0, .int 0, .ref a3, .ref a3])) (jq qX13_digest 7 rfl) rfl) ?_
  obtain ⟨a7, e8, H⟩ := jbd H
  refine Eq.trans (jb_nx (i := .getfield 20) (n := 3) (q := (15, [some (.ref p0), none, none, none, none, none, none, none], [.ref a7, .int 0, .ref a3, .ref a3])) (jq qX13_digest 8 rfl) (jo_gf rfl (jr_R_inv e8))) ?_
  obtain ⟨x9, e10, H⟩ := jbd H
  refine Eq.trans (jb_nx (i := .getfield 411) (n := 3) (q := (18, [some (.ref p0), none, none, none, none, none, none, none], [.int x9, .int 0, .ref a3, .ref a3])) (jq qX13_digest 9 rfl) (jo_gf rfl (jr_I_inv e10))) ?_
  obtain ⟨h11, e12, H⟩ := jbd H
  refine Eq.trans (jb_nx (i := .iastore) (n := 1) (q := (19, [some (.ref p0), none, none, none, none, none, none, none], [.ref a3])) (jq qX13_digest 10 rfl) (jo_ias e12)) ?_
  refine Eq.trans (jb_nx (i := .dup) (n := 1) (q := (20, [some (.ref p0), none, none, none, none, none, none, none], [.ref a3, .ref a3])) (jq qX13_digest 11 rfl) rfl) ?_
  refine Eq.trans (jb_nx (i := .iconst 1) (n := 1) (q := (21, [some (.ref p0), none, none, none, none, none, none, none], [.int 1, .ref a3, .ref a3])) (jq qX13_digest 12 rfl) rfl) ?_
  refine Eq.trans (jb_nx (i := .aload_n 0) (n := 1) (q := (22, [some (.ref p0), none, none, none, none, none, none, none], [.ref p0, .int 1, .ref a3, .ref a3])) (jq qX13_digest 13 rfl) rfl) ?_
  obtain ⟨a13, e14, H⟩ := jbd H
  refine Eq.trans (jb_nx (i := .getfield 20) (n := 3) (q := (25, [some (.ref p0), none, none, none, none, none, none, none], [.ref a13, .int 1, .ref a3, .ref a3])) (jq qX13_digest 14 rfl) (jo_gf rfl (jr_R_inv e14))) ?_
  obtain ⟨x15, e16, H⟩ := jbd H
  refine Eq.trans (jb_nx (i := .getfield 71) (n := 3) (q := (28, [some (.ref p0), none, none, none, none, none, none, none], [.int x15, .int 1, .ref a3, .ref a3])) (jq qX13_digest 15 rfl) (jo_gf rfl (jr_I_inv e16))) ?_
  obtain ⟨h17, e18, H⟩ := jbd H
  refine Eq.trans (jb_nx (i := .iastore) (n := 1) (q := (29, [some (.ref p0), none, none, none, none, none, none, none], [.ref a3])) (jq qX13_digest 16 rfl) (jo_ias e18)) ?_
  refine Eq.trans (jb_nx (i := .dup) (n := 1) (q := (30, [some (.ref p0), none, none, none, none, none, none, none], [.ref a3, .ref a3])) (jq qX13_digest 17 rfl) rfl) ?_
  refine Eq.trans (jb_nx (i := .iconst 2) (n := 1) (q := (31, [some (.ref p0), none, none, none, none, none, none, none], [.int 2, .ref a3, .ref a3])) (jq qX13_digest 18 rfl) rfl) ?_
  refine Eq.trans (jb_nx (i := .aload_n 0) (n := 1) (q := (32, [some (.ref p0), none, none, none, none, none, none, none], [.ref p0, .int 2, .ref a3, .ref a3])) (jq qX13_digest 19 rfl) rfl) ?_
  obtain ⟨a19, e20, H⟩ := jbd H
  refine Eq.trans (jb_nx (i := .getfield 20) (n := 3) (q := (35, [some (.ref p0), none, none, none, none, none, none, none], [.ref a19, .int 2, .ref a3, .ref a3])) (jq qX13_digest 20 rfl) (jo_gf rfl (jr_R_inv e20))) ?_
  obtain ⟨x21, e22, H⟩ := jbd H
  refine Eq.trans (jb_nx (i := .getfield 273) (n := 3) (q := (38, [some (.ref p0), none, none, none, none, none, none, none], [.int x21, .int 2, .ref a3, .ref a3])) (jq qX13_digest 21 rfl) (jo_gf rfl (jr_I_inv e22))) ?_
  obtain ⟨h23, e24, H⟩ := jbd H
  refine Eq.trans (jb_nx (i := .iastore) (n := 1) (q := (39, [some (.ref p0), none, none, none, none, none, none, none], [.ref a3])) (jq qX13_digest 22 rfl) (jo_ias e24)) ?_
  refine Eq.trans (jb_nx (i := .dup) (n := 1) (q := (40, [some (.ref p0), none, none, none, none, none, none, none], [.ref a3, .ref a3])) (jq qX13_digest 23 rfl) rfl) ?_
  refine Eq.trans (jb_nx (i := .iconst 3) (n := 1) (q := (41, [some (.ref p0), none, none, none, none, none, none, none], [.int 3, .ref a3, .ref a3])) (jq qX13_digest 24 rfl) rfl) ?_
  refine Eq.trans (jb_nx (i := .aload_n 0) (n := 1) (q := (42, [some (.ref p0), none, none, none, none, none, none, none], [.ref p0, .int 3, .ref a3, .ref a3])) (jq qX13_digest 25 rfl) rfl) ?_
  obtain ⟨x25, e26, H⟩ := jbd H
  refine Eq.trans (jb_nx (i := .getfield 192) (n := 3) (q := (45, [some (.ref p0), none, none, none, none, none, none, none], [.int x25, .int 3, .ref a3, .ref a3])) (jq qX13_digest 26 rfl) (jo_gf rfl (jr_I_inv e26))) ?_
  obtain ⟨h27, e28, H⟩ := jbd H
  refine Eq.trans (jb_nx (i := .iastore) (n := 1) (q := (46, [some (.ref p0), none, none, none, none, none, none, none], [.ref a3])) (jq qX13_digest 27 rfl) (jo_ias e28)) ?_
  refine Eq.trans (jb_nx (i := .dup) (n := 1) (q := (47, [some (.ref p0), none, none, none, none, none, none, none], [.ref a3, .ref a3])) (jq qX13_digest 28 rfl) rfl) ?_
  refine Eq.trans (jb_nx (i := .iconst 4) (n := 1) (q := (48, [some (.ref p0), none, none, none, none, none, none, none], [.int 4, .ref a3, .ref a3])) (jq qX13_digest 29 rfl) rfl) ?_
  refine Eq.trans (jb_nx (i := .aload_n 0) (n := 1) (q := (49, [some (.ref p0), none, none, none, none, none, none, none], [.ref p0, .int 4, .ref a3, .ref a3])) (jq qX13_digest 30 rfl) rfl) ?_
  obtain ⟨x29, e30, H⟩ := jbd H
  refine Eq.trans (jb_nx (i := .getfield 279) (n := 3) (q := (52, [some (.ref p0), none, none, none, none, none, none, none], [.int x29, .int 4, .ref a3, .ref a3])) (jq qX13_digest 31 rfl) (jo_gf rfl (jr_I_inv e30))) ?_
  obtain ⟨h31, e32, H⟩ := jbd H
  refine Eq.trans (jb_nx (i := .iastore) (n := 1) (q := (53, [some (.ref p0), none, none, none, none, none, none, none], [.ref a3])) (jq qX13_digest 32 rfl) (jo_ias e32)) ?_
  refine Eq.trans (jb_nx (i := .dup) (n := 1) (q := (54, [some (.ref p0), none, none, none, none, none, none, none], [.ref a3, .ref a3])) (jq qX13_digest 33 rfl) rfl) ?_
  refine Eq.trans (jb_nx (i := .iconst 5) (n := 1) (q := (55, [some (.ref p0), none, none, none, none, none, none, none], [.int 5, .ref a3, .ref a3])) (jq qX13_digest 34 rfl) rfl) ?_
  refine Eq.trans (jb_nx (i := .aload_n 0) (n := 1) (q := (56, [some (.ref p0), none, none, none, none, none, none, none], [.ref p0, .int 5, .ref a3, .ref a3])) (jq qX13_digest 35 rfl) rfl) ?_
  obtain ⟨x33, e34, H⟩ := jbd H
  refine Eq.trans (jb_nx (i := .getfield 291) (n := 3) (q := (59, [some (.ref p0), none, none, none, none, none, none, none], [.int x33, .int 5, .ref a3, .ref a3])) (jq qX13_digest 36 rfl) (jo_gf rfl (jr_I_inv e34))) ?_
  obtain ⟨h35, e36, H⟩ := jbd H
  refine Eq.trans (jb_nx (i := .iastore) (n := 1) (q := (60, [some (.ref p0), none, none, none, none, none, none, none], [.ref a3])) (jq qX13_digest 37 rfl) (jo_ias e36)) ?_
  refine Eq.trans (jb_nx (i := .astore_n 1) (n := 1) (q := (61, [some (.ref p0), some (.ref a3), none, none, none, none, none, none], [])) (jq qX13_digest 38 rfl) rfl) ?_
  refine Eq.trans (jb_nx (i := .ldc2_w 520) (n := 3) (q := (64, [some (.ref p0), some (.ref a3), none, none, none, none, none, none], [.long 941])) (jq qX13_digest 39 rfl) rfl) ?_
  refine Eq.trans (jb_nx (i := .lstore_n 2) (n := 1) (q := (65, [some (.ref p0), some (.ref a3), some (.long 941), none, none, none, none, none], [])) (jq qX13_digest 40 rfl) rfl) ?_
  refine Eq.trans (jb_nx (i := .aload_n 1) (n := 1) (q := (66, [some (.ref p0), some (.ref a3), some (.long 941), none, none, none, none, none], [.ref a3])) (jq qX13_digest 41 rfl) rfl) ?_
  refine Eq.trans (jb_nx (i := .astore 4) (n := 2) (q := (68, [some (.ref p0), some (.ref a3), some (.long 941), none, some (.ref a3), none, none, none], [])) (jq qX13_digest 42 rfl) rfl) ?_
  refine Eq.trans (jb_nx (i := .aload 4) (n := 2) (q := (70, [some (.ref p0), some (.ref a3), some (.long 941), none, some (.ref a3), none, none, none], [.ref a3])) (jq qX13_digest 43 rfl) rfl) ?_
  obtain ⟨n37, e38, H⟩ := jbd H
  refine Eq.trans (jb_nx (i := .arraylength) (n := 1) (q := (71, [some (.ref p0), some (.ref a3), some (.long 941), none, some (.ref a3), none, none, none], [.int (Int32.ofNat n37)])) (jq qX13_digest 44 rfl) (jo_len e38)) ?_
  refine Eq.trans (jb_nx (i := .istore 5) (n := 2) (q := (73, [some (.ref p0), some (.ref a3), some (.long 941), none, some (.ref a3), some (.int (Int32.ofNat n37)), none, none], [])) (jq qX13_digest 45 rfl) rfl) ?_
  refine Eq.trans (jb_nx (i := .iconst 0) (n := 1) (q := (74, [some (.ref p0), some (.ref a3), some (.long 941), none, some (.ref a3), some (.int (Int32.ofNat n37)), none, none], [.int 0])) (jq qX13_digest 46 rfl) rfl) ?_
  refine Eq.trans (jb_nx (i := .istore 6) (n := 2) (q := (76, [some (.ref p0), some (.ref a3), some (.long 941), none, some (.ref a3), some (.int (Int32.ofNat n37)), some (.int 0), none], [])) (jq qX13_digest 47 rfl) rfl) ?_
  exact H
