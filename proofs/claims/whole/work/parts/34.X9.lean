/-! ===== LEVEL 2: X9 ===== -/
/-! MaskPlays$Tokens <init> ([B)V -/
def tX9_init : List (Nat × Instr × Nat) := [(0, .aload_n 0, 1), (1, .invokespecial 3, 3), (4, .aload_n 0, 1), (5, .bipush 20, 2), (7, .newarray .long, 2), (9, .putfield 9, 3), (12, .aload_n 0, 1), (13, .sipush 401, 3), (16, .newarray .int, 2), (18, .putfield 15, 3), (21, .aload_n 0, 1), (22, .sipush 401, 3), (25, .newarray .int, 2), (27, .putfield 19, 3), (30, .aload_n 0, 1), (31, .sipush 401, 3), (34, .newarray .long, 2), (36, .putfield 22, 3), (39, .aload_n 0, 1), (40, .sipush 401, 3), (43, .newarray .int, 2), (45, .putfield 25, 3), (48, .aload_n 0, 1), (49, .sipush 401, 3), (52, .newarray .int, 2), (54, .putfield 28, 3), (57, .aload_n 0, 1), (58, .aload_n 1, 1), (59, .putfield 31, 3), (62, .iconst 0, 1), (63, .istore_n 2, 1), (64, .iconst 0, 1), (65, .istore_n 3, 1), (66, .iload_n 3, 1), (67, .ldc 35, 2), (69, .invokevirtual 37, 3), (72, .if_icmp .ge 56, 3), (75, .ldc 35, 2), (77, .iload_n 3, 1), (78, .invokevirtual 43, 3), (81, .istore 4, 2), (83, .iload 4, 2), (85, .bipush 32, 2), (87, .if_icmp .ne 9, 3), (90, .iinc 2 1, 3), (93, .goto 29, 3), (96, .iload_n 2, 1), (97, .aload_n 0, 1), (98, .getfield 9, 3), (101, .arraylength, 1), (102, .if_icmp .ge 20, 3), (105, .aload_n 0, 1), (106, .getfield 9, 3), (109, .iload_n 2, 1), (110, .aload_n 0, 1), (111, .getfield 9, 3), (114, .iload_n 2, 1), (115, .laload, 1), (116, .iload 4, 2), (118, .invokestatic 47, 3), (121, .lastore, 1), (122, .iinc 3 1, 3), (125, .goto (-59), 3), (128, .return_, 1)]
set_option maxRecDepth 100000 in
theorem qX9_init : ∀ q ∈ tX9_init, decode cX9_init q.1 = .ok (q.2.1, q.2.2) := by decide +kernel
noncomputable def kX9_init_66 (d : Nat) (p0 : Nat) (o1 : Option Value) (i2 : Int32) (i3 : Int32) (o4 : Option Value) (h : jm_H) : Option jm_R := jm_B d mX9_init (66, [some (.ref p0), o1, some (.int i2), some (.int i3), o4], []) h
theorem gX9_init_66 {d : Nat} {p0 : Nat} {o1 : Option Value} {i2 : Int32} {i3 : Int32} {o4 : Option Value} {h : jm_H} {r : jm_R} (H : (jm_O h 0 14 (jc_I (jm_D d mJ0_length_8abf5 [.ref 0] h) (fun x42 h40 => (if i3 < x42 then jm_O h40 0 14 (jc_I (jm_D d mJ0_charAt_5068e [.ref 0, .int i3] h40) (fun x46 h44 => (if x46 = 32 then kX9_init_66 d p0 (jm_dm o1) (i2 + 1) (i3 + 1) (some (.int x46)) h44 else (jr_R h44 p0 9 0 2).bind fun a48 => (jm_len h44 a48).bind fun n50 => (if i2 < (Int32.ofNat n50) then (jr_R h44 p0 9 0 2).bind fun a53 => (jr_R h44 p0 9 0 2).bind fun a55 => (jm_all h44 a55 i2).bind fun y57 => jc_L (jm_D d mX10_longer [.long y57, .int x46] h44) (fun y61 h59 => (jm_asl h59 a53 i2 y61).bind fun h62 => kX9_init_66 d p0 o1 i2 (i3 + 1) (some (.int x46)) h62) jx else kX9_init_66 d p0 o1 i2 (i3 + 1) (some (.int x46)) h44))) jx) else some (.inl none, h40))) jx)) = some r) : kX9_init_66 d p0 o1 i2 i3 o4 h = some r := by
  show jm_B d mX9_init (66, [some (.ref p0), o1, some (.int i2), some (.int i3), o4], []) h = some r
  refine Eq.trans (jb_nx (i := .iload_n 3) (n := 1) (q := (67, [some (.ref p0), o1, some (.int i2), some (.int i3), o4], [.int i3])) (jq qX9_init 33 rfl) rfl) ?_
  refine Eq.trans (jb_nx (i := .ldc 35) (n := 2) (q := (69, [some (.ref p0), o1, some (.int i2), some (.int i3), o4], [.ref 0, .int i3])) (jq qX9_init 34 rfl) rfl) ?_
  obtain ⟨b69, H⟩ := jm_O_inv H
  rcases jcI H with ⟨x42, h40, r41, H⟩ | ⟨w70, h71, r41, H⟩
  · refine Eq.trans (jb_nx (i := .invokevirtual 37) (n := 3) (q := (72, [some (.ref p0), o1, some (.int i2), some (.int i3), o4], [.int x42, .int i3])) (jq qX9_init 35 rfl) (jo_cv (y := mJ0_length_8abf5) rfl (Nat.le_of_ble_eq_true rfl) rfl (Nat.le_of_ble_eq_true rfl) b69 rfl r41 jo_ret)) ?_
    by_cases c43 : i3 < x42
    · rw [if_pos c43] at H
      refine Eq.trans (jb_nx (i := .if_icmp .ge 56) (n := 3) (q := (75, [some (.ref p0), o1, some (.int i2), some (.int i3), o4], [])) (jq qX9_init 36 rfl) (jo_icF (jz_geF c43))) ?_
      refine Eq.trans (jb_nx (i := .ldc 35) (n := 2) (q := (77, [some (.ref p0), o1, some (.int i2), some (.int i3), o4], [.ref 0])) (jq qX9_init 37 rfl) rfl) ?_
      refine Eq.trans (jb_nx (i := .iload_n 3) (n := 1) (q := (78, [some (.ref p0), o1, some (.int i2), some (.int i3), o4], [.int i3, .ref 0])) (jq qX9_init 38 rfl) rfl) ?_
      obtain ⟨b66, H⟩ := jm_O_inv H
      rcases jcI H with ⟨x46, h44, r45, H⟩ | ⟨w67, h68, r45, H⟩
      · refine Eq.trans (jb_nx (i := .invokevirtual 43) (n := 3) (q := (81, [some (.ref p0), o1, some (.int i2), some (.int i3), o4], [.int x46])) (jq qX9_init 39 rfl) (jo_cv (y := mJ0_charAt_5068e) rfl (Nat.le_of_ble_eq_true rfl) rfl (Nat.le_of_ble_eq_true rfl) b66 rfl r45 jo_ret)) ?_
        refine Eq.trans (jb_nx (i := .istore 4) (n := 2) (q := (83, [some (.ref p0), o1, some (.int i2), some (.int i3), some (.int x46)], [])) (jq qX9_init 40 rfl) rfl) ?_
        refine Eq.trans (jb_nx (i := .iload 4) (n := 2) (q := (85, [some (.ref p0), o1, some (.int i2), some (.int i3), some (.int x46)], [.int x46])) (jq qX9_init 41 rfl) rfl) ?_
        refine Eq.trans (jb_nx (i := .bipush 32) (n := 2) (q := (87, [some (.ref p0), o1, some (.int i2), some (.int i3), some (.int x46)], [.int 32, .int x46])) (jq qX9_init 42 rfl) rfl) ?_
        by_cases c47 : x46 = 32
        · rw [if_pos c47] at H
          refine Eq.trans (jb_nx (i := .if_icmp .ne 9) (n := 3) (q := (90, [some (.ref p0), o1, some (.int i2), some (.int i3), some (.int x46)], [])) (jq qX9_init 43 rfl) (jo_icF (jz_neF c47))) ?_
          refine Eq.trans (jb_nx (i := .iinc 2 1) (n := 3) (q := (93, [some (.ref p0), (jm_dm o1), some (.int (i2 + 1)), some (.int i3), some (.int x46)], [])) (jq qX9_init 44 rfl) rfl) ?_
          refine Eq.trans (jb_nx (i := .goto 29) (n := 3) (q := (122, [some (.ref p0), (jm_dm o1), some (.int (i2 + 1)), some (.int i3), some (.int x46)], [])) (jq qX9_init 45 rfl) rfl) ?_
          refine Eq.trans (jb_nx (i := .iinc 3 1) (n := 3) (q := (125, [some (.ref p0), (jm_dm o1), some (.int (i2 + 1)), some (.int (i3 + 1)), some (.int x46)], [])) (jq qX9_init 61 rfl) rfl) ?_
          refine Eq.trans (jb_nx (i := .goto (-59)) (n := 3) (q := (66, [some (.ref p0), (jm_dm o1), some (.int (i2 + 1)), some (.int (i3 + 1)), some (.int x46)], [])) (jq qX9_init 62 rfl) rfl) ?_
          exact H
        · rw [if_neg c47] at H
          refine Eq.trans (jb_nx (i := .if_icmp .ne 9) (n := 3) (q := (96, [some (.ref p0), o1, some (.int i2), some (.int i3), some (.int x46)], [])) (jq qX9_init 43 rfl) (jo_icT (jz_neT c47) rfl)) ?_
          refine Eq.trans (jb_nx (i := .iload_n 2) (n := 1) (q := (97, [some (.ref p0), o1, some (.int i2), some (.int i3), some (.int x46)], [.int i2])) (jq qX9_init 46 rfl) rfl) ?_
          refine Eq.trans (jb_nx (i := .aload_n 0) (n := 1) (q := (98, [some (.ref p0), o1, some (.int i2), some (.int i3), some (.int x46)], [.ref p0, .int i2])) (jq qX9_init 47 rfl) rfl) ?_
          obtain ⟨a48, e49, H⟩ := jbd H
          refine Eq.trans (jb_nx (i := .getfield 9) (n := 3) (q := (101, [some (.ref p0), o1, some (.int i2), some (.int i3), some (.int x46)], [.ref a48, .int i2])) (jq qX9_init 48 rfl) (jo_gf rfl (jr_R_inv e49))) ?_
          obtain ⟨n50, e51, H⟩ := jbd H
          refine Eq.trans (jb_nx (i := .arraylength) (n := 1) (q := (102, [some (.ref p0), o1, some (.int i2), some (.int i3), some (.int x46)], [.int (Int32.ofNat n50), .int i2])) (jq qX9_init 49 rfl) (jo_len e51)) ?_
          by_cases c52 : i2 < (Int32.ofNat n50)
          · rw [if_pos c52] at H
            refine Eq.trans (jb_nx (i := .if_icmp .ge 20) (n := 3) (q := (105, [some (.ref p0), o1, some (.int i2), some (.int i3), some (.int x46)], [])) (jq qX9_init 50 rfl) (jo_icF (jz_geF c52))) ?_
            refine Eq.trans (jb_nx (i := .aload_n 0) (n := 1) (q := (106, [some (.ref p0), o1, some (.int i2), some (.int i3), some (.int x46)], [.ref p0])) (jq qX9_init 51 rfl) rfl) ?_
            obtain ⟨a53, e54, H⟩ := jbd H
            refine Eq.trans (jb_nx (i := .getfield 9) (n := 3) (q := (109, [some (.ref p0), o1, some (.int i2), some (.int i3), some (.int x46)], [.ref a53])) (jq qX9_init 52 rfl) (jo_gf rfl (jr_R_inv e54))) ?_
            refine Eq.trans (jb_nx (i := .iload_n 2) (n := 1) (q := (110, [some (.ref p0), o1, some (.int i2), some (.int i3), some (.int x46)], [.int i2, .ref a53])) (jq qX9_init 53 rfl) rfl) ?_
            refine Eq.trans (jb_nx (i := .aload_n 0) (n := 1) (q := (111, [some (.ref p0), o1, some (.int i2), some (.int i3), some (.int x46)], [.ref p0, .int i2, .ref a53])) (jq qX9_init 54 rfl) rfl) ?_
            obtain ⟨a55, e56, H⟩ := jbd H
            refine Eq.trans (jb_nx (i := .getfield 9) (n := 3) (q := (114, [some (.ref p0), o1, some (.int i2), some (.int i3), some (.int x46)], [.ref a55, .int i2, .ref a53])) (jq qX9_init 55 rfl) (jo_gf rfl (jr_R_inv e56))) ?_
            refine Eq.trans (jb_nx (i := .iload_n 2) (n := 1) (q := (115, [some (.ref p0), o1, some (.int i2), some (.int i3), some (.int x46)], [.int i2, .ref a55, .int i2, .ref a53])) (jq qX9_init 56 rfl) rfl) ?_
            obtain ⟨y57, e58, H⟩ := jbd H
            refine Eq.trans (jb_nx (i := .laload) (n := 1) (q := (116, [some (.ref p0), o1, some (.int i2), some (.int i3), some (.int x46)], [.long y57, .int i2, .ref a53])) (jq qX9_init 57 rfl) (jo_lal e58)) ?_
            refine Eq.trans (jb_nx (i := .iload 4) (n := 2) (q := (118, [some (.ref p0), o1, some (.int i2), some (.int i3), some (.int x46)], [.int x46, .long y57, .int i2, .ref a53])) (jq qX9_init 58 rfl) rfl) ?_
            rcases jcL H with ⟨y61, h59, r60, H⟩ | ⟨w64, h65, r60, H⟩
            · refine Eq.trans (jb_nx (i := .invokestatic 47) (n := 3) (q := (121, [some (.ref p0), o1, some (.int i2), some (.int i3), some (.int x46)], [.long y61, .int i2, .ref a53])) (jq qX9_init 59 rfl) (jo_cs (y := mX10_longer) (w := 1) (by decide) rfl (Nat.le_of_ble_eq_true rfl) rfl (Nat.le_of_ble_eq_true rfl) rfl r60 jo_ret)) ?_
              obtain ⟨h62, e63, H⟩ := jbd H
              refine Eq.trans (jb_nx (i := .lastore) (n := 1) (q := (122, [some (.ref p0), o1, some (.int i2), some (.int i3), some (.int x46)], [])) (jq qX9_init 60 rfl) (jo_las e63)) ?_
              refine Eq.trans (jb_nx (i := .iinc 3 1) (n := 3) (q := (125, [some (.ref p0), o1, some (.int i2), some (.int (i3 + 1)), some (.int x46)], [])) (jq qX9_init 61 rfl) rfl) ?_
              refine Eq.trans (jb_nx (i := .goto (-59)) (n := 3) (q := (66, [some (.ref p0), o1, some (.int i2), some (.int (i3 + 1)), some (.int x46)], [])) (jq qX9_init 62 rfl) rfl) ?_
              exact H
            · exact Eq.trans (jb_rt (i := .invokestatic 47) (n := 3) (jq qX9_init 59 rfl) (jo_cs (y := mX10_longer) (w := 1) (by decide) rfl (Nat.le_of_ble_eq_true rfl) rfl (Nat.le_of_ble_eq_true rfl) rfl r60 (jo_exn rfl))) H
          · rw [if_neg c52] at H
            refine Eq.trans (jb_nx (i := .if_icmp .ge 20) (n := 3) (q := (122, [some (.ref p0), o1, some (.int i2), some (.int i3), some (.int x46)], [])) (jq qX9_init 50 rfl) (jo_icT (jz_geT c52) rfl)) ?_
            refine Eq.trans (jb_nx (i := .iinc 3 1) (n := 3) (q := (125, [some (.ref p0), o1, some (.int i2), some (.int (i3 + 1)), some (.int x46)], [])) (jq qX9_init 61 rfl) rfl) ?_
            refine Eq.trans (jb_nx (i := .goto (-59)) (n := 3) (q := (66, [some (.ref p0), o1, some (.int i2), some (.int (i3 + 1)), some (.int x46)], [])) (jq qX9_init 62 rfl) rfl) ?_
            exact H
      · exact Eq.trans (jb_rt (i := .invokevirtual 43) (n := 3) (jq qX9_init 39 rfl) (jo_cv (y := mJ0_charAt_5068e) rfl (Nat.le_of_ble_eq_true rfl) rfl (Nat.le_of_ble_eq_true rfl) b66 rfl r45 (jo_exn rfl))) H
    · rw [if_neg c43] at H
      refine Eq.trans (jb_nx (i := .if_icmp .ge 56) (n := 3) (q := (128, [some (.ref p0), o1, some (.int i2), some (.int i3), o4], [])) (jq qX9_init 36 rfl) (jo_icT (jz_geT c43) rfl)) ?_
      exact Eq.trans (jb_rt (i := .return_) (n := 1) (jq qX9_init 63 rfl) rfl) H
  · exact Eq.trans (jb_rt (i := .invokevirtual 37) (n := 3) (jq qX9_init 35 rfl) (jo_cv (y := mJ0_length_8abf5) rfl (Nat.le_of_ble_eq_true rfl) rfl (Nat.le_of_ble_eq_true rfl) b69 rfl r41 (jo_exn rfl))) H
theorem gX9_init {d : Nat} {p0 : Nat} {p1 : Nat} {h : jm_H} {r : jm_R} (H : (jm_U p0 (jl_newa h 1 20 fun a2 h3 => (jm_pf h3 p0 9 0 2 (.ref a2)).bind fun h6 => jl_newa h6 0 401 fun a8 h9 => (jm_pf h9 p0 9 1 2 (.ref a8)).bind fun h12 => jl_newa h12 0 401 fun a14 h15 => (jm_pf h15 p0 9 2 2 (.ref a14)).bind fun h18 => jl_newa h18 1 401 fun a20 h21 => (jm_pf h21 p0 9 3 2 (.ref a20)).bind fun h24 => jl_newa h24 0 401 fun a26 h27 => (jm_pf h27 p0 9 4 2 (.ref a26)).bind fun h30 => jl_newa h30 0 401 fun a32 h33 => (jm_pf h33 p0 9 5 2 (.ref a32)).bind fun h36 => (jm_pf h36 p0 9 7 2 (.ref p1)).bind fun h38 => kX9_init_66 d p0 (some (.ref p1)) 0 0 none h38)) = some r) : jm_D (d + 1) mX9_init [.ref p0, .ref p1] h = some r := by
  rw [jm_D_body (Nat.le_of_ble_eq_true rfl)]
  show jm_B d mX9_init (0, [some (.ref p0), some (.ref p1), none, none, none], []) h = some r
  refine Eq.trans (jb_nx (i := .aload_n 0) (n := 1) (q := (1, [some (.ref p0), some (.ref p1), none, none, none], [.ref p0])) (jq qX9_init 0 rfl) rfl) ?_
  obtain ⟨u1, H⟩ := jm_U_inv H
  refine Eq.trans (jb_nx (i := .invokespecial 3) (n := 3) (q := (4, [some (.ref p0), some (.ref p1), none, none, none], [])) (jq qX9_init 1 rfl) (jo_oi (z := mX3_clear) rfl (Nat.le_of_ble_eq_true rfl) u1)) ?_
  refine Eq.trans (jb_nx (i := .aload_n 0) (n := 1) (q := (5, [some (.ref p0), some (.ref p1), none, none, none], [.ref p0])) (jq qX9_init 2 rfl) rfl) ?_
  refine Eq.trans (jb_nx (i := .bipush 20) (n := 2) (q := (7, [some (.ref p0), some (.ref p1), none, none, none], [.int 20, .ref p0])) (jq qX9_init 3 rfl) rfl) ?_
  obtain ⟨a2, h3, e4, e5, H⟩ := jl_newa_inv H
  refine Eq.trans (jb_nx (i := .newarray .long) (n := 2) (q := (9, [some (.ref p0), some (.ref p1), none, none, none], [.ref a2, .ref p0])) (jq qX9_init 4 rfl) (jo_newb rfl e4 e5)) ?_
  obtain ⟨h6, e7, H⟩ := jbd H
  refine Eq.trans (jb_nx (i := .putfield 9) (n := 3) (q := (12, [some (.ref p0), some (.ref p1), none, none, none], [])) (jq qX9_init 5 rfl) (jo_pf rfl (Or.inr ⟨rfl, rfl⟩) e7)) ?_
  refine Eq.trans (jb_nx (i := .aload_n 0) (n := 1) (q := (13, [some (.ref p0), some (.ref p1), none, none, none], [.ref p0])) (jq qX9_init 6 rfl) rfl) ?_
  refine Eq.trans (jb_nx (i := .sipush 401) (n := 3) (q := (16, [some (.ref p0), some (.ref p1), none, none, none], [.int 401, .ref p0])) (jq qX9_init 7 rfl) rfl) ?_
  obtain ⟨a8, h9, e10, e11, H⟩ := jl_newa_inv H
  refine Eq.trans (jb_nx (i := .newarray .int) (n := 2) (q := (18, [some (.ref p0), some (.ref p1), none, none, none], [.ref a8, .ref p0])) (jq qX9_init 8 rfl) (jo_newb rfl e10 e11)) ?_
  obtain ⟨h12, e13, H⟩ := jbd H
  refine Eq.trans (jb_nx (i := .putfield 15) (n := 3) (q := (21, [some (.ref p0), some (.ref p1), none, none, none], [])) (jq qX9_init 9 rfl) (jo_pf rfl (Or.inr ⟨rfl, rfl⟩) e13)) ?_
  refine Eq.trans (jb_nx (i := .aload_n 0) (n := 1) (q := (22, [some (.ref p0), some (.ref p1), none, none, none], [.ref p0])) (jq qX9_init 10 rfl) rfl) ?_
  refine Eq.trans (jb_nx (i := .sipush 401) (n := 3) (q := (25, [some (.ref p0), some (.ref p1), none, none, none], [.int 401, .ref p0])) (jq qX9_init 11 rfl) rfl) ?_
  obtain ⟨a14, h15, e16, e17, H⟩ := jl_newa_inv H
  refine Eq.trans (jb_nx (i := .newarray .int) (n := 2) (q := (27, [some (.ref p0), some (.ref p1), none, none, none], [.ref a14, .ref p0])) (jq qX9_init 12 rfl) (jo_newb rfl e16 e17)) ?_
  obtain ⟨h18, e19, H⟩ := jbd H
  refine Eq.trans (jb_nx (i := .putfield 19) (n := 3) (q := (30, [some (.ref p0), some (.ref p1), none, none, none], [])) (jq qX9_init 13 rfl) (jo_pf rfl (Or.inr ⟨rfl, rfl⟩) e19)) ?_
  refine Eq.trans (jb_nx (i := .aload_n 0) (n := 1) (q := (31, [some (.ref p0), some (.ref p1), none, none, none], [.ref p0])) (jq qX9_init 14 rfl) rfl) ?_
  refine Eq.trans (jb_nx (i := .sipush 401) (n := 3) (q := (34, [some (.ref p0), some (.ref p1), none, none, none], [.int 401, .ref p0])) (jq qX9_init 15 rfl) rfl) ?_
  obtain ⟨a20, h21, e22, e23, H⟩ := jl_newa_inv H
  refine Eq.trans (jb_nx (i := .newarray .long) (n := 2) (q := (36, [some (.ref p0), some (.ref p1), none, none, none], [.ref a20, .ref p0])) (jq qX9_init 16 rfl) (jo_newb rfl e22 e23)) ?_
  obtain ⟨h24, e25, H⟩ := jbd H
  refine Eq.trans (jb_nx (i := .putfield 22) (n := 3) (q := (39, [some (.ref p0), some (.ref p1), none, none, none], [])) (jq qX9_init 17 rfl) (jo_pf rfl (Or.inr ⟨rfl, rfl⟩) e25)) ?_
  refine Eq.trans (jb_nx (i := .aload_n 0) (n := 1) (q := (40, [some (.ref p0), some (.ref p1), none, none, none], [.ref p0])) (jq qX9_init 18 rfl) rfl) ?_
  refine Eq.trans (jb_nx (i := .sipush 401) (n := 3) (q := (43, [some (.ref p0), some (.ref p1), none, none, none], [.int 401, .ref p0])) (jq qX9_init 19 rfl) rfl) ?_
  obtain ⟨a26, h27, e28, e29, H⟩ := jl_newa_inv H
  refine Eq.trans (jb_nx (i := .newarray .int) (n := 2) (q := (45, [some (.ref p0), some (.ref p1), none, none, none], [.ref a26, .ref p0])) (jq qX9_init 20 rfl) (jo_newb rfl e28 e29)) ?_
  obtain ⟨h30, e31, H⟩ := jbd H
  refine Eq.trans (jb_nx (i := .putfield 25) (n := 3) (q := (48, [some (.ref p0), some (.ref p1), none, none, none], [])) (jq qX9_init 21 rfl) (jo_pf rfl (Or.inr ⟨rfl, rfl⟩) e31)) ?_
  refine Eq.trans (jb_nx (i := .aload_n 0) (n := 1) (q := (49, [some (.ref p0), some (.ref p1), none, none, none], [.ref p0])) (jq qX9_init 22 rfl) rfl) ?_
  refine Eq.trans (jb_nx (i := .sipush 401) (n := 3) (q := (52, [some (.ref p0), some (.ref p1), none, none, none], [.int 401, .ref p0])) (jq qX9_init 23 rfl) rfl) ?_
  obtain ⟨a32, h33, e34, e35, H⟩ := jl_newa_inv H
  refine Eq.trans (jb_nx (i := .newarray .int) (n := 2) (q := (54, [some (.ref p0), some (.ref p1), none, none, none], [.ref a32, .ref p0])) (jq qX9_init 24 rfl) (jo_newb rfl e34 e35)) ?_
  obtain ⟨h36, e37, H⟩ := jbd H
  refine Eq.trans (jb_nx (i := .putfield 28) (n := 3) (q := (57, [some (.ref p0), some (.ref p1), none, none, none], [])) (jq qX9_init 25 rfl) (jo_pf rfl (Or.inr ⟨rfl, rfl⟩) e37)) ?_
  refine Eq.trans (jb_nx (i := .aload_n 0) (n := 1) (q := (58, [some (.ref p0), some (.ref p1), none, none, none], [.ref p0])) (jq qX9_init 26 rfl) rfl) ?_
  refine Eq.trans (jb_nx (i := .aload_n 1) (n := 1) (q := (59, [some (.ref p0), some (.ref p1), none, none, none], [.ref p1, .ref p0])) (jq qX9_init 27 rfl) rfl) ?_
  obtain ⟨h38, e39, H⟩ := jbd H
  refine Eq.trans (jb_nx (i := .putfield 31) (n := 3) (q := (62, [some (.ref p0), some (.ref p1), none, none, none], [])) (jq qX9_init 28 rfl) (jo_pf rfl (Or.inr ⟨rfl, rfl⟩) e39)) ?_
  refine Eq.trans (jb_nx (i := .iconst 0) (n := 1) (q := (63, [some (.ref p0), some (.ref p1), none, none, none], [.int 0])) (jq qX9_init 29 rfl) rfl) ?_
  refine Eq.trans (jb_nx (i := .istore_n 2) (n := 1) (q := (64, [some (.ref p0), some (.ref p1), some (.int 0), none, none], [])) (jq qX9_init 30 rfl) rfl) ?_
  refine Eq.trans (jb_nx (i := .iconst 0) (n := 1) (q := (65, [some (.ref p0), some (.ref p1), some (.int 0), none, none], [.int 0])) (jq qX9_init 31 rfl) rfl) ?_
  refine Eq.trans (jb_nx (i := .istore_n 3) (n := 1) (q := (66, [some (.ref p0), some (.ref p1), some (.int 0), some (.int 0), none], [])) (jq qX9_init 32 rfl) rfl) ?_
  exact H
/-! MaskPlays$Tokens read (I)V -/
def tX9_read : List (Nat × Instr × Nat) := [(0, .aload_n 0, 1), (1, .iload_n 1, 1), (2, .putfield 53, 3), (5, .aload_n 0, 1), (6, .iconst 0, 1), (7, .putfield 56, 3), (10, .iconst 0, 1), (11, .istore_n 2, 1), (12, .iconst 0, 1), (13, .istore_n 3, 1), (14, .iload_n 3, 1), (15, .sipush 400, 3), (18, .if_icmp .gt 73, 3), (21, .aload_n 0, 1), (22, .iload_n 2, 1), (23, .invokevirtual 59, 3), (26, .istore_n 2, 1), (27, .iload_n 2, 1), (28, .aload_n 0, 1), (29, .getfield 53, 3), (32, .if_icmp .lt 16, 3), (35, .aload_n 0, 1), (36, .bipush 37, 2), (38, .aload_n 0, 1), (39, .getfield 53, 3), (42, .lconst 0, 1), (43, .iconst 0, 1), (44, .invokevirtual 63, 3), (47, .return_, 1), (48, .iload_n 3, 1), (49, .sipush 400, 3), (52, .if_icmp .ge 11, 3), (55, .aload_n 0, 1), (56, .iload_n 2, 1), (57, .invokevirtual 67, 3), (60, .goto 4, 3), (63, .iload_n 2, 1), (64, .istore 4, 2), (66, .iload 4, 2), (68, .iload_n 2, 1), (69, .if_icmp .gt 13, 3), (72, .aload_n 0, 1), (73, .bipush 38, 2), (75, .iload_n 2, 1), (76, .lconst 0, 1), (77, .iconst 0, 1), (78, .invokevirtual 63, 3), (81, .return_, 1), (82, .iload 4, 2), (84, .istore_n 2, 1), (85, .iinc 3 1, 3), (88, .goto (-74), 3), (91, .return_, 1)]
set_option maxRecDepth 100000 in
theorem qX9_read : ∀ q ∈ tX9_read, decode cX9_read q.1 = .ok (q.2.1, q.2.2) := by decide +kernel
noncomputable def kX9_read_14 (d : Nat) (p0 : Nat) (o1 : Option Value) (i2 : Int32) (i3 : Int32) (o4 : Option Value) (h : jm_H) : Option jm_R := jm_B d mX9_read (14, [some (.ref p0), o1, some (.int i2), some (.int i3), o4], []) h
noncomputable def kX9_read_64 (d : Nat) (p0 : Nat) (o1 : Option Value) (i2 : Int32) (i3 : Int32) (o4 : Option Value) (si0 : Int32) (h : jm_H) : Option jm_R := jm_B d mX9_read (64, [some (.ref p0), o1, some (.int i2), some (.int i3), o4], [.int si0]) h
theorem gX9_read_14 {d : Nat} {p0 : Nat} {o1 : Option Value} {i2 : Int32} {i3 : Int32} {o4 : Option Value} {h : jm_H} {r : jm_R} (H : ((if 400 < i3 then some (.inl none, h) else jm_O h p0 9 (jc_I (jm_D d mX9_behindBlanks [.ref p0, .int i2] h) (fun x8 h6 => (jr_I h6 p0 9 8 0).bind fun x9 => (if x8 < x9 then (if i3 < 400 then jm_O h6 p0 9 (jc_I (jm_D d mX9_readToken [.ref p0, .int x8] h6) (fun x15 h13 => kX9_read_64 d p0 (jm_dm o1) x8 i3 o4 x15 h13) jx) else kX9_read_64 d p0 (jm_dm o1) x8 i3 o4 x8 h6) else (jr_I h6 p0 9 8 0).bind fun x19 => jm_O h6 p0 9 (jc_V (jm_D d mX9_add [.ref p0, .int 37, .int x19, .long 0, .int 0] h6) (fun h21 => some (.inl none, h21)) jx))) jx))) = some r) : kX9_read_14 d p0 o1 i2 i3 o4 h = some r := by
  show jm_B d mX9_read (14, [some (.ref p0), o1, some (.int i2), some (.int i3), o4], []) h = some r
  refine Eq.trans (jb_nx (i := .iload_n 3) (n := 1) (q := (15, [some (.ref p0), o1, some (.int i2), some (.int i3), o4], [.int i3])) (jq qX9_read 10 rfl) rfl) ?_
  refine Eq.trans (jb_nx (i := .sipush 400) (n := 3) (q := (18, [some (.ref p0), o1, some (.int i2), some (.int i3), o4], [.int 400, .int i3])) (jq qX9_read 11 rfl) rfl) ?_
  by_cases c5 : 400 < i3
  · rw [if_pos c5] at H
    refine Eq.trans (jb_nx (i := .if_icmp .gt 73) (n := 3) (q := (91, [some (.ref p0), o1, some (.int i2), some (.int i3), o4], [])) (jq qX9_read 12 rfl) (jo_icT (jz_gtT c5) rfl)) ?_
    exact Eq.trans (jb_rt (i := .return_) (n := 1) (jq qX9_read 52 rfl) rfl) H
  · rw [if_neg c5] at H
    refine Eq.trans (jb_nx (i := .if_icmp .gt 73) (n := 3) (q := (21, [some (.ref p0), o1, some (.int i2), some (.int i3), o4], [])) (jq qX9_read 12 rfl) (jo_icF (jz_gtF c5))) ?_
    refine Eq.trans (jb_nx (i := .aload_n 0) (n := 1) (q := (22, [some (.ref p0), o1, some (.int i2), some (.int i3), o4], [.ref p0])) (jq qX9_read 13 rfl) rfl) ?_
    refine Eq.trans (jb_nx (i := .iload_n 2) (n := 1) (q := (23, [some (.ref p0), o1, some (.int i2), some (.int i3), o4], [.int i2, .ref p0])) (jq qX9_read 14 rfl) rfl) ?_
    obtain ⟨b26, H⟩ := jm_O_inv H
    rcases jcI H with ⟨x8, h6, r7, H⟩ | ⟨w27, h28, r7, H⟩
    · refine Eq.trans (jb_nx (i := .invokevirtual 59) (n := 3) (q := (26, [some (.ref p0), o1, some (.int i2), some (.int i3), o4], [.int x8])) (jq qX9_read 15 rfl) (jo_cv (y := mX9_behindBlanks) rfl (Nat.le_of_ble_eq_true rfl) rfl (Nat.le_of_ble_eq_true rfl) b26 rfl r7 jo_ret)) ?_
      refine Eq.trans (jb_nx (i := .istore_n 2) (n := 1) (q := (27, [some (.ref p0), (jm_dm o1), some (.int x8), some (.int i3), o4], [])) (jq qX9_read 16 rfl) rfl) ?_
      refine Eq.trans (jb_nx (i := .iload_n 2) (n := 1) (q := (28, [some (.ref p0), (jm_dm o1), some (.int x8), some (.int i3), o4], [.int x8])) (jq qX9_read 17 rfl) rfl) ?_
      refine Eq.trans (jb_nx (i := .aload_n 0) (n := 1) (q := (29, [some (.ref p0), (jm_dm o1), some (.int x8), some (.int i3), o4], [.ref p0, .int x8])) (jq qX9_read 18 rfl) rfl) ?_
      obtain ⟨x9, e10, H⟩ := jbd H
      refine Eq.trans (jb_nx (i := .getfield 53) (n := 3) (q := (32, [some (.ref p0), (jm_dm o1), some (.int x8), some (.int i3), o4], [.int x9, .int x8])) (jq qX9_read 19 rfl) (jo_gf rfl (jr_I_inv e10))) ?_
      by_cases c11 : x8 < x9
      · rw [if_pos c11] at H
        refine Eq.trans (jb_nx (i := .if_icmp .lt 16) (n := 3) (q := (48, [some (.ref p0), (jm_dm o1), some (.int x8), some (.int i3), o4], [])) (jq qX9_read 20 rfl) (jo_icT (jz_ltT c11) rfl)) ?_
        refine Eq.trans (jb_nx (i := .iload_n 3) (n := 1) (q := (49, [some (.ref p0), (jm_dm o1), some (.int x8), some (.int i3), o4], [.int i3])) (jq qX9_read 29 rfl) rfl) ?_
        refine Eq.trans (jb_nx (i := .sipush 400) (n := 3) (q := (52, [some (.ref p0), (jm_dm o1), some (.int x8), some (.int i3), o4], [.int 400, .int i3])) (jq qX9_read 30 rfl) rfl) ?_
        by_cases c12 : i3 < 400
        · rw [if_pos c12] at H
          refine Eq.trans (jb_nx (i := .if_icmp .ge 11) (n := 3) (q := (55, [some (.ref p0), (jm_dm o1), some (.int x8), some (.int i3), o4], [])) (jq qX9_read 31 rfl) (jo_icF (jz_geF c12))) ?_
          refine Eq.trans (jb_nx (i := .aload_n 0) (n := 1) (q := (56, [some (.ref p0), (jm_dm o1), some (.int x8), some (.int i3), o4], [.ref p0])) (jq qX9_read 32 rfl) rfl) ?_
          refine Eq.trans (jb_nx (i := .iload_n 2) (n := 1) (q := (57, [some (.ref p0), (jm_dm o1), some (.int x8), some (.int i3), o4], [.int x8, .ref p0])) (jq qX9_read 33 rfl) rfl) ?_
          obtain ⟨b16, H⟩ := jm_O_inv H
          rcases jcI H with ⟨x15, h13, r14, H⟩ | ⟨w17, h18, r14, H⟩
          · refine Eq.trans (jb_nx (i := .invokevirtual 67) (n := 3) (q := (60, [some (.ref p0), (jm_dm o1), some (.int x8), some (.int i3), o4], [.int x15])) (jq qX9_read 34 rfl) (jo_cv (y := mX9_readToken) rfl (Nat.le_of_ble_eq_true rfl) rfl (Nat.le_of_ble_eq_true rfl) b16 rfl r14 jo_ret)) ?_
            refine Eq.trans (jb_nx (i := .goto 4) (n := 3) (q := (64, [some (.ref p0), (jm_dm o1), some (.int x8), some (.int i3), o4], [.int x15])) (jq qX9_read 35 rfl) rfl) ?_
            exact H
          · exact Eq.trans (jb_rt (i := .invokevirtual 67) (n := 3) (jq qX9_read 34 rfl) (jo_cv (y := mX9_readToken) rfl (Nat.le_of_ble_eq_true rfl) rfl (Nat.le_of_ble_eq_true rfl) b16 rfl r14 (jo_exn rfl))) H
        · rw [if_neg c12] at H
          refine Eq.trans (jb_nx (i := .if_icmp .ge 11) (n := 3) (q := (63, [some (.ref p0), (jm_dm o1), some (.int x8), some (.int i3), o4], [])) (jq qX9_read 31 rfl) (jo_icT (jz_geT c12) rfl)) ?_
          refine Eq.trans (jb_nx (i := .iload_n 2) (n := 1) (q := (64, [some (.ref p0), (jm_dm o1), some (.int x8), some (.int i3), o4], [.int x8])) (jq qX9_read 36 rfl) rfl) ?_
          exact H
      · rw [if_neg c11] at H
        refine Eq.trans (jb_nx (i := .if_icmp .lt 16) (n := 3) (q := (35, [some (.ref p0), (jm_dm o1), some (.int x8), some (.int i3), o4], [])) (jq qX9_read 20 rfl) (jo_icF (jz_ltF c11))) ?_
        refine Eq.trans (jb_nx (i := .aload_n 0) (n := 1) (q := (36, [some (.ref p0), (jm_dm o1), some (.int x8), some (.int i3), o4], [.ref p0])) (jq qX9_read 21 rfl) rfl) ?_
        refine Eq.trans (jb_nx (i := .bipush 37) (n := 2) (q := (38, [some (.ref p0), (jm_dm o1), some (.int x8), some (.int i3), o4], [.int 37, .ref p0])) (jq qX9_read 22 rfl) rfl) ?_
        refine Eq.trans (jb_nx (i := .aload_n 0) (n := 1) (q := (39, [some (.ref p0), (jm_dm o1), some (.int x8), some (.int i3), o4], [.ref p0, .int 37, .ref p0])) (jq qX9_read 23 rfl) rfl) ?_
        obtain ⟨x19, e20, H⟩ := jbd H
        refine Eq.trans (jb_nx (i := .getfield 53) (n := 3) (q := (42, [some (.ref p0), (jm_dm o1), some (.int x8), some (.int i3), o4], [.int x19, .int 37, .ref p0])) (jq qX9_read 24 rfl) (jo_gf rfl (jr_I_inv e20))) ?_
        refine Eq.trans (jb_nx (i := .lconst 0) (n := 1) (q := (43, [some (.ref p0), (jm_dm o1), some (.int x8), some (.int i3), o4], [.long 0, .int x19, .int 37, .ref p0])) (jq qX9_read 25 rfl) rfl) ?_
        refine Eq.trans (jb_nx (i := .iconst 0) (n := 1) (q := (44, [some (.ref p0), (jm_dm o1), some (.int x8), some (.int i3), o4], [.int 0, .long 0, .int x19, .int 37, .ref p0])) (jq qX9_read 26 rfl) rfl) ?_
        obtain ⟨b23, H⟩ := jm_O_inv H
        rcases jcV H with ⟨h21, r22, H⟩ | ⟨w24, h25, r22, H⟩
        · refine Eq.trans (jb_nx (i := .invokevirtual 63) (n := 3) (q := (47, [some (.ref p0), (jm_dm o1), some (.int x8), some (.int i3), o4], [])) (jq qX9_read 27 rfl) (jo_cv (y := mX9_add) rfl (Nat.le_of_ble_eq_true rfl) rfl (Nat.le_of_ble_eq_true rfl) b23 rfl r22 jo_ret)) ?_
          exact Eq.trans (jb_rt (i := .return_) (n := 1) (jq qX9_read 28 rfl) rfl) H
        · exact Eq.trans (jb_rt (i := .invokevirtual 63) (n := 3) (jq qX9_read 27 rfl) (jo_cv (y := mX9_add) rfl (Nat.le_of_ble_eq_true rfl) rfl (Nat.le_of_ble_eq_true rfl) b23 rfl r22 (jo_exn rfl))) H
    · exact Eq.trans (jb_rt (i := .invokevirtual 59) (n := 3) (jq qX9_read 15 rfl) (jo_cv (y := mX9_behindBlanks) rfl (Nat.le_of_ble_eq_true rfl) rfl (Nat.le_of_ble_eq_true rfl) b26 rfl r7 (jo_exn rfl))) H
theorem gX9_read_64 {d : Nat} {p0 : Nat} {o1 : Option Value} {i2 : Int32} {i3 : Int32} {o4 : Option Value} {si0 : Int32} {h : jm_H} {r : jm_R} (H : ((if i2 < si0 then kX9_read_14 d p0 (jm_dm o1) si0 (i3 + 1) (some (.int si0)) h else jm_O h p0 9 (jc_V (jm_D d mX9_add [.ref p0, .int 38, .int i2, .long 0, .int 0] h) (fun h30 => some (.inl none, h30)) jx))) = some r) : kX9_read_64 d p0 o1 i2 i3 o4 si0 h = some r := by
  show jm_B d mX9_read (64, [some (.ref p0), o1, some (.int i2), some (.int i3), o4], [.int si0]) h = some r
  refine Eq.trans (jb_nx (i := .istore 4) (n := 2) (q := (66, [some (.ref p0), o1, some (.int i2), some (.int i3), some (.int si0)], [])) (jq qX9_read 37 rfl) rfl) ?_
  refine Eq.trans (jb_nx (i := .iload 4) (n := 2) (q := (68, [some (.ref p0), o1, some (.int i2), some (.int i3), some (.int si0)], [.int si0])) (jq qX9_read 38 rfl) rfl) ?_
  refine Eq.trans (jb_nx (i := .iload_n 2) (n := 1) (q := (69, [some (.ref p0), o1, some (.int i2), some (.int i3), some (.int si0)], [.int i2, .int si0])) (jq qX9_read 39 rfl) rfl) ?_
  by_cases c29 : i2 < si0
  · rw [if_pos c29] at H
    refine Eq.trans (jb_nx (i := .if_icmp .gt 13) (n := 3) (q := (82, [some (.ref p0), o1, some (.int i2), some (.int i3), some (.int si0)], [])) (jq qX9_read 40 rfl) (jo_icT (jz_gtT c29) rfl)) ?_
    refine Eq.trans (jb_nx (i := .iload 4) (n := 2) (q := (84, [some (.ref p0), o1, some (.int i2), some (.int i3), some (.int si0)], [.int si0])) (jq qX9_read 48 rfl) rfl) ?_
    refine Eq.trans (jb_nx (i := .istore_n 2) (n := 1) (q := (85, [some (.ref p0), (jm_dm o1), some (.int si0), some (.int i3), some (.int si0)], [])) (jq qX9_read 49 rfl) rfl) ?_
    refine Eq.trans (jb_nx (i := .iinc 3 1) (n := 3) (q := (88, [some (.ref p0), (jm_dm o1), some (.int si0), some (.int (i3 + 1)), some (.int si0)], [])) (jq qX9_read 50 rfl) rfl) ?_
    refine Eq.trans (jb_nx (i := .goto (-74)) (n := 3) (q := (14, [some (.ref p0), (jm_dm o1), some (.int si0), some (.int (i3 + 1)), some (.int si0)], [])) (jq qX9_read 51 rfl) rfl) ?_
    exact H
  · rw [if_neg c29] at H
    refine Eq.trans (jb_nx (i := .if_icmp .gt 13) (n := 3) (q := (72, [some (.ref p0), o1, some (.int i2), some (.int i3), some (.int si0)], [])) (jq qX9_read 40 rfl) (jo_icF (jz_gtF c29))) ?_
    refine Eq.trans (jb_nx (i := .aload_n 0) (n := 1) (q := (73, [some (.ref p0), o1, some (.int i2), some (.int i3), some (.int si0)], [.ref p0])) (jq qX9_read 41 rfl) rfl) ?_
    refine Eq.trans (jb_nx (i := .bipush 38) (n := 2) (q := (75, [some (.ref p0), o1, some (.int i2), some (.int i3), some (.int si0)], [.int 38, .ref p0])) (jq qX9_read 42 rfl) rfl) ?_
    refine Eq.trans (jb_nx (i := .iload_n 2) (n := 1) (q := (76, [some (.ref p0), o1, some (.int i2), some (.int i3), some (.int si0)], [.int i2, .int 38, .ref p0])) (jq qX9_read 43 rfl) rfl) ?_
    refine Eq.trans (jb_nx (i := .lconst 0) (n := 1) (q := (77, [some (.ref p0), o1, some (.int i2), some (.int i3), some (.int si0)], [.long 0, .int i2, .int 38, .ref p0])) (jq qX9_read 44 rfl) rfl) ?_
    refine Eq.trans (jb_nx (i := .iconst 0) (n := 1) (q := (78, [some (.ref p0), o1, some (.int i2), some (.int i3), some (.int si0)], [.int 0, .long 0, .int i2, .int 38, .ref p0])) (jq qX9_read 45 rfl) rfl) ?_
    obtain ⟨b32, H⟩ := jm_O_inv H
    rcases jcV H with ⟨h30, r31, H⟩ | ⟨w33, h34, r31, H⟩
    · refine Eq.trans (jb_nx (i := .invokevirtual 63) (n := 3) (q := (81, [some (.ref p0), o1, some (.int i2), some (.int i3), some (.int si0)], [])) (jq qX9_read 46 rfl) (jo_cv (y := mX9_add) rfl (Nat.le_of_ble_eq_true rfl) rfl (Nat.le_of_ble_eq_true rfl) b32 rfl r31 jo_ret)) ?_
      exact Eq.trans (jb_rt (i := .return_) (n := 1) (jq qX9_read 47 rfl) rfl) H
    · exact Eq.trans (jb_rt (i := .invokevirtual 63) (n := 3) (jq qX9_read 46 rfl) (jo_cv (y := mX9_add) rfl (Nat.le_of_ble_eq_true rfl) rfl (Nat.le_of_ble_eq_true rfl) b32 rfl r31 (jo_exn rfl))) H
theorem gX9_read {d : Nat} {p0 : Nat} {i1 : Int32} {h : jm_H} {r : jm_R} (H : ((jm_pf h p0 9 8 0 (.int i1)).bind fun h1 => (jm_pf h1 p0 9 6 0 (.int 0)).bind fun h3 => kX9_read_14 d p0 (some (.int i1)) 0 0 none h3) = some r) : jm_D (d + 1) mX9_read [.ref p0, .int i1] h = some r := by
  rw [jm_D_body (Nat.le_of_ble_eq_true rfl)]
  show jm_B d mX9_read (0, [some (.ref p0), some (.int i1), none, none, none], []) h = some r
  refine Eq.trans (jb_nx (i := .aload_n 0) (n := 1) (q := (1, [some (.ref p0), some (.int i1), none, none, none], [.ref p0])) (jq qX9_read 0 rfl) rfl) ?_
  refine Eq.trans (jb_nx (i := .iload_n 1) (n := 1) (q := (2, [some (.ref p0), some (.int i1), none, none, none], [.int i1, .ref p0])) (jq qX9_read 1 rfl) rfl) ?_
  obtain ⟨h1, e2, H⟩ := jbd H
  refine Eq.trans (jb_nx (i := .putfield 53) (n := 3) (q := (5, [some (.ref p0), some (.int i1), none, none, none], [])) (jq qX9_read 2 rfl) (jo_pf rfl (Or.inl rfl) e2)) ?_
  refine Eq.trans (jb_nx (i := .aload_n 0) (n := 1) (q := (6, [some (.ref p0), some (.int i1), none, none, none], [.ref p0])) (jq qX9_read 3 rfl) rfl) ?_
  refine Eq.trans (jb_nx (i := .iconst 0) (n := 1) (q := (7, [some (.ref p0), some (.int i1), none, none, none], [.int 0, .ref p0])) (jq qX9_read 4 rfl) rfl) ?_
  obtain ⟨h3, e4, H⟩ := jbd H
  refine Eq.trans (jb_nx (i := .putfield 56) (n := 3) (q := (10, [some (.ref p0), some (.int i1), none, none, none], [])) (jq qX9_read 5 rfl) (jo_pf rfl (Or.inl rfl) e4)) ?_
  refine Eq.trans (jb_nx (i := .iconst 0) (n := 1) (q := (11, [some (.ref p0), some (.int i1), none, none, none], [.int 0])) (jq qX9_read 6 rfl) rfl) ?_
  refine Eq.trans (jb_nx (i := .istore_n 2) (n := 1) (q := (12, [some (.ref p0), some (.int i1), some (.int 0), none, none], [])) (jq qX9_read 7 rfl) rfl) ?_
  refine Eq.trans (jb_nx (i := .iconst 0) (n := 1) (q := (13, [some (.ref p0), some (.int i1), some (.int 0), none, none], [.int 0])) (jq qX9_read 8 rfl) rfl) ?_
  refine Eq.trans (jb_nx (i := .istore_n 3) (n := 1) (q := (14, [some (.ref p0), some (.int i1), some (.int 0), some (.int 0), none], [])) (jq qX9_read 9 rfl) rfl) ?_
  exact H
/-! MaskPlays$Tokens behindBlanks (I)I -/
def tX9_behindBlanks : List (Nat × Instr × Nat) := [(0, .iload_n 1, 1), (1, .istore_n 2, 1), (2, .iload_n 2, 1), (3, .aload_n 0, 1), (4, .getfield 53, 3), (7, .if_icmp .ge 29, 3), (10, .aload_n 0, 1), (11, .iload_n 2, 1), (12, .invokevirtual 70, 3), (15, .bipush 32, 2), (17, .if_icmp .eq 13, 3), (20, .aload_n 0, 1), (21, .iload_n 2, 1), (22, .invokevirtual 70, 3), (25, .bipush 10, 2), (27, .if_icmp .ne 9, 3), (30, .iinc 2 1, 3), (33, .goto (-31), 3), (36, .iload_n 2, 1), (37, .ireturn, 1)]
set_option maxRecDepth 100000 in
theorem qX9_behindBlanks : ∀ q ∈ tX9_behindBlanks, decode cX9_behindBlanks q.1 = .ok (q.2.1, q.2.2) := by decide +kernel
noncomputable def kX9_behindBlanks_2 (d : Nat) (p0 : Nat) (o1 : Option Value) (i2 : Int32) (h : jm_H) : Option jm_R := jm_B d mX9_behindBlanks (2, [some (.ref p0), o1, some (.int i2)], []) h
theorem gX9_behindBlanks_2 {d : Nat} {p0 : Nat} {o1 : Option Value} {i2 : Int32} {h : jm_H} {r : jm_R} (H : ((jr_I h p0 9 8 0).bind fun x1 => (if i2 < x1 then jm_O h p0 9 (jc_I (jm_D d mX9_byteAt [.ref p0, .int i2] h) (fun x6 h4 => (if x6 = 32 then kX9_behindBlanks_2 d p0 (jm_dm o1) (i2 + 1) h4 else jm_O h4 p0 9 (jc_I (jm_D d mX9_byteAt [.ref p0, .int i2] h4) (fun x10 h8 => (if x10 = 10 then kX9_behindBlanks_2 d p0 (jm_dm o1) (i2 + 1) h8 else some (.inl (some (.int i2)), h8))) jx))) jx) else some (.inl (some (.int i2)), h))) = some r) : kX9_behindBlanks_2 d p0 o1 i2 h = some r := by
  show jm_B d mX9_behindBlanks (2, [some (.ref p0), o1, some (.int i2)], []) h = some r
  refine Eq.trans (jb_nx (i := .iload_n 2) (n := 1) (q := (3, [some (.ref p0), o1, some (.int i2)], [.int i2])) (jq qX9_behindBlanks 2 rfl) rfl) ?_
  refine Eq.trans (jb_nx (i := .aload_n 0) (n := 1) (q := (4, [some (.ref p0), o1, some (.int i2)], [.ref p0, .int i2])) (jq qX9_behindBlanks 3 rfl) rfl) ?_
  obtain ⟨x1, e2, H⟩ := jbd H
  refine Eq.trans (jb_nx (i := .getfield 53) (n := 3) (q := (7, [some (.ref p0), o1, some (.int i2)], [.int x1, .int i2])) (jq qX9_behindBlanks 4 rfl) (jo_gf rfl (jr_I_inv e2))) ?_
  by_cases c3 : i2 < x1
  · rw [if_pos c3] at H
    refine Eq.trans (jb_nx (i := .if_icmp .ge 29) (n := 3) (q := (10, [some (.ref p0), o1, some (.int i2)], [])) (jq qX9_behindBlanks 5 rfl) (jo_icF (jz_geF c3))) ?_
    refine Eq.trans (jb_nx (i := .aload_n 0) (n := 1) (q := (11, [some (.ref p0), o1, some (.int i2)], [.ref p0])) (jq qX9_behindBlanks 6 rfl) rfl) ?_
    refine Eq.trans (jb_nx (i := .iload_n 2) (n := 1) (q := (12, [some (.ref p0), o1, some (.int i2)], [.int i2, .ref p0])) (jq qX9_behindBlanks 7 rfl) rfl) ?_
    obtain ⟨b15, H⟩ := jm_O_inv H
    rcases jcI H with ⟨x6, h4, r5, H⟩ | ⟨w16, h17, r5, H⟩
    · refine Eq.trans (jb_nx (i := .invokevirtual 70) (n := 3) (q := (15, [some (.ref p0), o1, some (.int i2)], [.int x6])) (jq qX9_behindBlanks 8 rfl) (jo_cv (y := mX9_byteAt) rfl (Nat.le_of_ble_eq_true rfl) rfl (Nat.le_of_ble_eq_true rfl) b15 rfl r5 jo_ret)) ?_
      refine Eq.trans (jb_nx (i := .bipush 32) (n := 2) (q := (17, [some (.ref p0), o1, some (.int i2)], [.int 32, .int x6])) (jq qX9_behindBlanks 9 rfl) rfl) ?_
      by_cases c7 : x6 = 32
      · rw [if_pos c7] at H
        refine Eq.trans (jb_nx (i := .if_icmp .eq 13) (n := 3) (q := (30, [some (.ref p0), o1, some (.int i2)], [])) (jq qX9_behindBlanks 10 rfl) (jo_icT (jz_eqT c7) rfl)) ?_
        refine Eq.trans (jb_nx (i := .iinc 2 1) (n := 3) (q := (33, [some (.ref p0), (jm_dm o1), some (.int (i2 + 1))], [])) (jq qX9_behindBlanks 16 rfl) rfl) ?_
        refine Eq.trans (jb_nx (i := .goto (-31)) (n := 3) (q := (2, [some (.ref p0), (jm_dm o1), some (.int (i2 + 1))], [])) (jq qX9_behindBlanks 17 rfl) rfl) ?_
        exact H
      · rw [if_neg c7] at H
        refine Eq.trans (jb_nx (i := .if_icmp .eq 13) (n := 3) (q := (20, [some (.ref p0), o1, some (.int i2)], [])) (jq qX9_behindBlanks 10 rfl) (jo_icF (jz_eqF c7))) ?_
        refine Eq.trans (jb_nx (i := .aload_n 0) (n := 1) (q := (21, [some (.ref p0), o1, some (.int i2)], [.ref p0])) (jq qX9_behindBlanks 11 rfl) rfl) ?_
        refine Eq.trans (jb_nx (i := .iload_n 2) (n := 1) (q := (22, [some (.ref p0), o1, some (.int i2)], [.int i2, .ref p0])) (jq qX9_behindBlanks 12 rfl) rfl) ?_
        obtain ⟨b12, H⟩ := jm_O_inv H
        rcases jcI H with ⟨x10, h8, r9, H⟩ | ⟨w13, h14, r9, H⟩
        · refine Eq.trans (jb_nx (i := .invokevirtual 70) (n := 3) (q := (25, [some (.ref p0), o1, some (.int i2)], [.int x10])) (jq qX9_behindBlanks 13 rfl) (jo_cv (y := mX9_byteAt) rfl (Nat.le_of_ble_eq_true rfl) rfl (Nat.le_of_ble_eq_true rfl) b12 rfl r9 jo_ret)) ?_
          refine Eq.trans (jb_nx (i := .bipush 10) (n := 2) (q := (27, [some (.ref p0), o1, some (.int i2)], [.int 10, .int x10])) (jq qX9_behindBlanks 14 rfl) rfl) ?_
          by_cases c11 : x10 = 10
          · rw [if_pos c11] at H
            refine Eq.trans (jb_nx (i := .if_icmp .ne 9) (n := 3) (q := (30, [some (.ref p0), o1, some (.int i2)], [])) (jq qX9_behindBlanks 15 rfl) (jo_icF (jz_neF c11))) ?_
            refine Eq.trans (jb_nx (i := .iinc 2 1) (n := 3) (q := (33, [some (.ref p0), (jm_dm o1), some (.int (i2 + 1))], [])) (jq qX9_behindBlanks 16 rfl) rfl) ?_
            refine Eq.trans (jb_nx (i := .goto (-31)) (n := 3) (q := (2, [some (.ref p0), (jm_dm o1), some (.int (i2 + 1))], [])) (jq qX9_behindBlanks 17 rfl) rfl) ?_
            exact H
          · rw [if_neg c11] at H
            refine Eq.trans (jb_nx (i := .if_icmp .ne 9) (n := 3) (q := (36, [some (.ref p0), o1, some (.int i2)], [])) (jq qX9_behindBlanks 15 rfl) (jo_icT (jz_neT c11) rfl)) ?_
            refine Eq.trans (jb_nx (i := .iload_n 2) (n := 1) (q := (37, [some (.ref p0), o1, some (.int i2)], [.int i2])) (jq qX9_behindBlanks 18 rfl) rfl) ?_
            exact Eq.trans (jb_rt (i := .ireturn) (n := 1) (jq qX9_behindBlanks 19 rfl) (jo_iret rfl rfl)) H
        · exact Eq.trans (jb_rt (i := .invokevirtual 70) (n := 3) (jq qX9_behindBlanks 13 rfl) (jo_cv (y := mX9_byteAt) rfl (Nat.le_of_ble_eq_true rfl) rfl (Nat.le_of_ble_eq_true rfl) b12 rfl r9 (jo_exn rfl))) H
    · exact Eq.trans (jb_rt (i := .invokevirtual 70) (n := 3) (jq qX9_behindBlanks 8 rfl) (jo_cv (y := mX9_byteAt) rfl (Nat.le_of_ble_eq_true rfl) rfl (Nat.le_of_ble_eq_true rfl) b15 rfl r5 (jo_exn rfl))) H
  · rw [if_neg c3] at H
    refine Eq.trans (jb_nx (i := .if_icmp .ge 29) (n := 3) (q := (36, [some (.ref p0), o1, some (.int i2)], [])) (jq qX9_behindBlanks 5 rfl) (jo_icT (jz_geT c3) rfl)) ?_
    refine Eq.trans (jb_nx (i := .iload_n 2) (n := 1) (q := (37, [some (.ref p0), o1, some (.int i2)], [.int i2])) (jq qX9_behindBlanks 18 rfl) rfl) ?_
    exact Eq.trans (jb_rt (i := .ireturn) (n := 1) (jq qX9_behindBlanks 19 rfl) (jo_iret rfl rfl)) H
theorem gX9_behindBlanks {d : Nat} {p0 : Nat} {i1 : Int32} {h : jm_H} {r : jm_R} (H : (kX9_behindBlanks_2 d p0 (some (.int i1)) i1 h) = some r) : jm_D (d + 1) mX9_behindBlanks [.ref p0, .int i1] h = some r := by
  rw [jm_D_body (Nat.le_of_ble_eq_true rfl)]
  show jm_B d mX9_behindBlanks (0, [some (.ref p0), some (.int i1), none], []) h = some r
  refine Eq.trans (jb_nx (i := .iload_n 1) (n := 1) (q := (1, [some (.ref p0), some (.int i1), none], [.int i1])) (jq qX9_behindBlanks 0 rfl) rfl) ?_
  refine Eq.trans (jb_nx (i := .istore_n 2) (n := 1) (q := (2, [some (.ref p0), some (.int i1), some (.int i1)], [])) (jq qX9_behindBlanks 1 rfl) rfl) ?_
  exact H
/-! MaskPlays$Tokens byteAt (I)I -/
def tX9_byteAt : List (Nat × Instr × Nat) := [(0, .iload_n 1, 1), (1, .ifCond .lt 20, 3), (4, .iload_n 1, 1), (5, .aload_n 0, 1), (6, .getfield 53, 3), (9, .if_icmp .ge 12, 3), (12, .iload_n 1, 1), (13, .aload_n 0, 1), (14, .getfield 31, 3), (17, .arraylength, 1), (18, .if_icmp .lt 5, 3), (21, .iconst (-1), 1), (22, .ireturn, 1), (23, .aload_n 0, 1), (24, .getfield 31, 3), (27, .iload_n 1, 1), (28, .baload, 1), (29, .sipush 255, 3), (32, .iand, 1), (33, .ireturn, 1)]
set_option maxRecDepth 100000 in
theorem qX9_byteAt : ∀ q ∈ tX9_byteAt, decode cX9_byteAt q.1 = .ok (q.2.1, q.2.2) := by decide +kernel
theorem gX9_byteAt {d : Nat} {p0 : Nat} {i1 : Int32} {h : jm_H} {r : jm_R} (H : ((if i1 < 0 then some (.inl (some (.int (-1))), h) else (jr_I h p0 9 8 0).bind fun x2 => (if i1 < x2 then (jr_R h p0 9 7 2).bind fun a5 => (jm_len h a5).bind fun n7 => (if i1 < (Int32.ofNat n7) then (jr_R h p0 9 7 2).bind fun a10 => (jm_ali h a10 2 i1).bind fun x12 => some (.inl (some (.int (x12 &&& 255))), h) else some (.inl (some (.int (-1))), h)) else some (.inl (some (.int (-1))), h)))) = some r) : jm_D (d + 1) mX9_byteAt [.ref p0, .int i1] h = some r := by
  rw [jm_D_body (Nat.le_of_ble_eq_true rfl)]
  show jm_B d mX9_byteAt (0, [some (.ref p0), some (.int i1)], []) h = some r
  refine Eq.trans (jb_nx (i := .iload_n 1) (n := 1) (q := (1, [some (.ref p0), some (.int i1)], [.int i1])) (jq qX9_byteAt 0 rfl) rfl) ?_
  by_cases c1 : i1 < 0
  · rw [if_pos c1] at H
    refine Eq.trans (jb_nx (i := .ifCond .lt 20) (n := 3) (q := (21, [some (.ref p0), some (.int i1)], [])) (jq qX9_byteAt 1 rfl) (jo_ifT (jz_ltT c1) rfl)) ?_
    refine Eq.trans (jb_nx (i := .iconst (-1)) (n := 1) (q := (22, [some (.ref p0), some (.int i1)], [.int (-1)])) (jq qX9_byteAt 11 rfl) rfl) ?_
    exact Eq.trans (jb_rt (i := .ireturn) (n := 1) (jq qX9_byteAt 12 rfl) (jo_iret rfl rfl)) H
  · rw [if_neg c1] at H
    refine Eq.trans (jb_nx (i := .ifCond .lt 20) (n := 3) (q := (4, [some (.ref p0), some (.int i1)], [])) (jq qX9_byteAt 1 rfl) (jo_ifF (jz_ltF c1))) ?_
    refine Eq.trans (jb_nx (i := .iload_n 1) (n := 1) (q := (5, [some (.ref p0), some (.int i1)], [.int i1])) (jq qX9_byteAt 2 rfl) rfl) ?_
    refine Eq.trans (jb_nx (i := .aload_n 0) (n := 1) (q := (6, [some (.ref p0), some (.int i1)], [.ref p0, .int i1])) (jq qX9_byteAt 3 rfl) rfl) ?_
    obtain ⟨x2, e3, H⟩ := jbd H
    refine Eq.trans (jb_nx (i := .getfield 53) (n := 3) (q := (9, [some (.ref p0), some (.int i1)], [.int x2, .int i1])) (jq qX9_byteAt 4 rfl) (jo_gf rfl (jr_I_inv e3))) ?_
    by_cases c4 : i1 < x2
    · rw [if_pos c4] at H
      refine Eq.trans (jb_nx (i := .if_icmp .ge 12) (n := 3) (q := (12, [some (.ref p0), some (.int i1)], [])) (jq qX9_byteAt 5 rfl) (jo_icF (jz_geF c4))) ?_
      refine Eq.trans (jb_nx (i := .iload_n 1) (n := 1) (q := (13, [some (.ref p0), some (.int i1)], [.int i1])) (jq qX9_byteAt 6 rfl) rfl) ?_
      refine Eq.trans (jb_nx (i := .aload_n 0) (n := 1) (q := (14, [some (.ref p0), some (.int i1)], [.ref p0, .int i1])) (jq qX9_byteAt 7 rfl) rfl) ?_
      obtain ⟨a5, e6, H⟩ := jbd H
      refine Eq.trans (jb_nx (i := .getfield 31) (n := 3) (q := (17, [some (.ref p0), some (.int i1)], [.ref a5, .int i1])) (jq qX9_byteAt 8 rfl) (jo_gf rfl (jr_R_inv e6))) ?_
      obtain ⟨n7, e8, H⟩ := jbd H
      refine Eq.trans (jb_nx (i := .arraylength) (n := 1) (q := (18, [some (.ref p0), some (.int i1)], [.int (Int32.ofNat n7), .int i1])) (jq qX9_byteAt 9 rfl) (jo_len e8)) ?_
      by_cases c9 : i1 < (Int32.ofNat n7)
      · rw [if_pos c9] at H
        refine Eq.trans (jb_nx (i := .if_icmp .lt 5) (n := 3) (q := (23, [some (.ref p0), some (.int i1)], [])) (jq qX9_byteAt 10 rfl) (jo_icT (jz_ltT c9) rfl)) ?_
        refine Eq.trans (jb_nx (i := .aload_n 0) (n := 1) (q := (24, [some (.ref p0), some (.int i1)], [.ref p0])) (jq qX9_byteAt 13 rfl) rfl) ?_
        obtain ⟨a10, e11, H⟩ := jbd H
        refine Eq.trans (jb_nx (i := .getfield 31) (n := 3) (q := (27, [some (.ref p0), some (.int i1)], [.ref a10])) (jq qX9_byteAt 14 rfl) (jo_gf rfl (jr_R_inv e11))) ?_
        refine Eq.trans (jb_nx (i := .iload_n 1) (n := 1) (q := (28, [some (.ref p0), some (.int i1)], [.int i1, .ref a10])) (jq qX9_byteAt 15 rfl) rfl) ?_
        obtain ⟨x12, e13, H⟩ := jbd H
        refine Eq.trans (jb_nx (i := .baload) (n := 1) (q := (29, [some (.ref p0), some (.int i1)], [.int x12])) (jq qX9_byteAt 16 rfl) (jo_bal e13)) ?_
        refine Eq.trans (jb_nx (i := .sipush 255) (n := 3) (q := (32, [some (.ref p0), some (.int i1)], [.int 255, .int x12])) (jq qX9_byteAt 17 rfl) rfl) ?_
        refine Eq.trans (jb_nx (i := .iand) (n := 1) (q := (33, [some (.ref p0), some (.int i1)], [.int (x12 &&& 255)])) (jq qX9_byteAt 18 rfl) rfl) ?_
        exact Eq.trans (jb_rt (i := .ireturn) (n := 1) (jq qX9_byteAt 19 rfl) (jo_iret rfl rfl)) H
      · rw [if_neg c9] at H
        refine Eq.trans (jb_nx (i := .if_icmp .lt 5) (n := 3) (q := (21, [some (.ref p0), some (.int i1)], [])) (jq qX9_byteAt 10 rfl) (jo_icF (jz_ltF c9))) ?_
        refine Eq.trans (jb_nx (i := .iconst (-1)) (n := 1) (q := (22, [some (.ref p0), some (.int i1)], [.int (-1)])) (jq qX9_byteAt 11 rfl) rfl) ?_
        exact Eq.trans (jb_rt (i := .ireturn) (n := 1) (jq qX9_byteAt 12 rfl) (jo_iret rfl rfl)) H
    · rw [if_neg c4] at H
      refine Eq.trans (jb_nx (i := .if_icmp .ge 12) (n := 3) (q := (21, [some (.ref p0), some (.int i1)], [])) (jq qX9_byteAt 5 rfl) (jo_icT (jz_geT c4) rfl)) ?_
      refine Eq.trans (jb_nx (i := .iconst (-1)) (n := 1) (q := (22, [some (.ref p0), some (.int i1)], [.int (-1)])) (jq qX9_byteAt 11 rfl) rfl) ?_
      exact Eq.trans (jb_rt (i := .ireturn) (n := 1) (jq qX9_byteAt 12 rfl) (jo_iret rfl rfl)) H
/-! MaskPlays$Tokens add (IIJI)V -/
def tX9_add : List (Nat × Instr × Nat) := [(0, .aload_n 0, 1), (1, .getfield 56, 3), (4, .ifCond .lt 76, 3), (7, .aload_n 0, 1), (8, .getfield 56, 3), (11, .aload_n 0, 1), (12, .getfield 15, 3), (15, .arraylength, 1), (16, .if_icmp .ge 64, 3), (19, .aload_n 0, 1), (20, .getfield 15, 3), (23, .aload_n 0, 1), (24, .getfield 56, 3), (27, .iload_n 1, 1), (28, .iastore, 1), (29, .aload_n 0, 1), (30, .getfield 19, 3), (33, .aload_n 0, 1), (34, .getfield 56, 3), (37, .iload_n 2, 1), (38, .iastore, 1), (39, .aload_n 0, 1), (40, .getfield 22, 3), (43, .aload_n 0, 1), (44, .getfield 56, 3), (47, .lload_n 3, 1), (48, .lastore, 1), (49, .aload_n 0, 1), (50, .getfield 25, 3), (53, .aload_n 0, 1), (54, .getfield 56, 3), (57, .iload 5, 2), (59, .iastore, 1), (60, .aload_n 0, 1), (61, .getfield 28, 3), (64, .aload_n 0, 1), (65, .getfield 56, 3), (68, .iconst 0, 1), (69, .iastore, 1), (70, .aload_n 0, 1), (71, .dup, 1), (72, .getfield 56, 3), (75, .iconst 1, 1), (76, .iadd, 1), (77, .putfield 56, 3), (80, .return_, 1)]
set_option maxRecDepth 100000 in
theorem qX9_add : ∀ q ∈ tX9_add, decode cX9_add q.1 = .ok (q.2.1, q.2.2) := by decide +kernel
theorem gX9_add {d : Nat} {p0 : Nat} {i1 : Int32} {i2 : Int32} {j3 : Int64} {i5 : Int32} {h : jm_H} {r : jm_R} (H : ((jr_I h p0 9 6 0).bind fun x1 => (if x1 < 0 then some (.inl none, h) else (jr_I h p0 9 6 0).bind fun x4 => (jr_R h p0 9 1 2).bind fun a6 => (jm_len h a6).bind fun n8 => (if x4 < (Int32.ofNat n8) then (jr_R h p0 9 1 2).bind fun a11 => (jr_I h p0 9 6 0).bind fun x13 => (jm_asi h a11 0 x13 i1).bind fun h15 => (jr_R h15 p0 9 2 2).bind fun a17 => (jr_I h15 p0 9 6 0).bind fun x19 => (jm_asi h15 a17 0 x19 i2).bind fun h21 => (jr_R h21 p0 9 3 2).bind fun a23 => (jr_I h21 p0 9 6 0).bind fun x25 => (jm_asl h21 a23 x25 j3).bind fun h27 => (jr_R h27 p0 9 4 2).bind fun a29 => (jr_I h27 p0 9 6 0).bind fun x31 => (jm_asi h27 a29 0 x31 i5).bind fun h33 => (jr_R h33 p0 9 5 2).bind fun a35 => (jr_I h33 p0 9 6 0).bind fun x37 => (jm_asi h33 a35 0 x37 0).bind fun h39 => (jr_I h39 p0 9 6 0).bind fun x41 => (jm_pf h39 p0 9 6 0 (.int (x41 + 1))).bind fun h43 => some (.inl none, h43) else some (.inl none, h)))) = some r) : jm_D (d + 1) mX9_add [.ref p0, .int i1, .int i2, .long j3, .int i5] h = some r := by
  rw [jm_D_body (Nat.le_of_ble_eq_true rfl)]
  show jm_B d mX9_add (0, [some (.ref p0), some (.int i1), some (.int i2), some (.long j3), none, some (.int i5)], []) h = some r
  refine Eq.trans (jb_nx (i := .aload_n 0) (n := 1) (q := (1, [some (.ref p0), some (.int i1), some (.int i2), some (.long j3), none, some (.int i5)], [.ref p0])) (jq qX9_add 0 rfl) rfl) ?_
  obtain ⟨x1, e2, H⟩ := jbd H
  refine Eq.trans (jb_nx (i := .getfield 56) (n := 3) (q := (4, [some (.ref p0), some (.int i1), some (.int i2), some (.long j3), none, some (.int i5)], [.int x1])) (jq qX9_add 1 rfl) (jo_gf rfl (jr_I_inv e2))) ?_
  by_cases c3 : x1 < 0
  · rw [if_pos c3] at H
    refine Eq.trans (jb_nx (i := .ifCond .lt 76) (n := 3) (q := (80, [some (.ref p0), some (.int i1), some (.int i2), some (.long j3), none, some (.int i5)], [])) (jq qX9_add 2 rfl) (jo_ifT (jz_ltT c3) rfl)) ?_
    exact Eq.trans (jb_rt (i := .return_) (n := 1) (jq qX9_add 45 rfl) rfl) H
  · rw [if_neg c3] at H
    refine Eq.trans (jb_nx (i := .ifCond .lt 76) (n := 3) (q := (7, [some (.ref p0), some (.int i1), some (.int i2), some (.long j3), none, some (.int i5)], [])) (jq qX9_add 2 rfl) (jo_ifF (jz_ltF c3))) ?_
    refine Eq.trans (jb_nx (i := .aload_n 0) (n := 1) (q := (8, [some (.ref p0), some (.int i1), some (.int i2), some (.long j3), none, some (.int i5)], [.ref p0])) (jq qX9_add 3 rfl) rfl) ?_
    obtain ⟨x4, e5, H⟩ := jbd H
    refine Eq.trans (jb_nx (i := .getfield 56) (n := 3) (q := (11, [some (.ref p0), some (.int i1), some (.int i2), some (.long j3), none, some (.int i5)], [.int x4])) (jq qX9_add 4 rfl) (jo_gf rfl (jr_I_inv e5))) ?_
    refine Eq.trans (jb_nx (i := .aload_n 0) (n := 1) (q := (12, [some (.ref p0), some (.int i1), some (.int i2), some (.long j3), none, some (.int i5)], [.ref p0, .int x4])) (jq qX9_add 5 rfl) rfl) ?_
    obtain ⟨a6, e7, H⟩ := jbd H
    refine Eq.trans (jb_nx (i := .getfield 15) (n := 3) (q := (15, [some (.ref p0), some (.int i1), some (.int i2), some (.long j3), none, some (.int i5)], [.ref a6, .int x4])) (jq qX9_add 6 rfl) (jo_gf rfl (jr_R_inv e7))) ?_
    obtain ⟨n8, e9, H⟩ := jbd H
    refine Eq.trans (jb_nx (i := .arraylength) (n := 1) (q := (16, [some (.ref p0), some (.int i1), some (.int i2), some (.long j3), none, some (.int i5)], [.int (Int32.ofNat n8), .int x4])) (jq qX9_add 7 rfl) (jo_len e9)) ?_
    by_cases c10 : x4 < (Int32.ofNat n8)
    · rw [if_pos c10] at H
      refine Eq.trans (jb_nx (i := .if_icmp .ge 64) (n := 3) (q := (19, [some (.ref p0), some (.int i1), some (.int i2), some (.long j3), none, some (.int i5)], [])) (jq qX9_add 8 rfl) (jo_icF (jz_geF c10))) ?_
      refine Eq.trans (jb_nx (i := .aload_n 0) (n := 1) (q := (20, [some (.ref p0), some (.int i1), some (.int i2), some (.long j3), none, some (.int i5)], [.ref p0])) (jq qX9_add 9 rfl) rfl) ?_
      obtain ⟨a11, e12, H⟩ := jbd H
      refine Eq.trans (jb_nx (i := .getfield 15) (n := 3) (q := (23, [some (.ref p0), some (.int i1), some (.int i2), some (.long j3), none, some (.int i5)], [.ref a11])) (jq qX9_add 10 rfl) (jo_gf rfl (jr_R_inv e12))) ?_
      refine Eq.trans (jb_nx (i := .aload_n 0) (n := 1) (q := (24, [some (.ref p0), some (.int i1), some (.int i2), some (.long j3), none, some (.int i5)], [.ref p0, .ref a11])) (jq qX9_add 11 rfl) rfl) ?_
      obtain ⟨x13, e14, H⟩ := jbd H
      refine Eq.trans (jb_nx (i := .getfield 56) (n := 3) (q := (27, [some (.ref p0), some (.int i1), some (.int i2), some (.long j3), none, some (.int i5)], [.int x13, .ref a11])) (jq qX9_add 12 rfl) (jo_gf rfl (jr_I_inv e14))) ?_
      refine Eq.trans (jb_nx (i := .iload_n 1) (n := 1) (q := (28, [some (.ref p0), some (.int i1), some (.int i2), some (.long j3), none, some (.int i5)], [.int i1, .int x13, .ref a11])) (jq qX9_add 13 rfl) rfl) ?_
      obtain ⟨h15, e16, H⟩ := jbd H
      refine Eq.trans (jb_nx (i := .iastore) (n := 1) (q := (29, [some (.ref p0), some (.int i1), some (.int i2), some (.long j3), none, some (.int i5)], [])) (jq qX9_add 14 rfl) (jo_ias e16)) ?_
      refine Eq.trans (jb_nx (i := .aload_n 0) (n := 1) (q := (30, [some (.ref p0), some (.int i1), some (.int i2), some (.long j3), none, some (.int i5)], [.ref p0])) (jq qX9_add 15 rfl) rfl) ?_
      obtain ⟨a17, e18, H⟩ := jbd H
      refine Eq.trans (jb_nx (i := .getfield 19) (n := 3) (q := (33, [some (.ref p0), some (.int i1), some (.int i2), some (.long j3), none, some (.int i5)], [.ref a17])) (jq qX9_add 16 rfl) (jo_gf rfl (jr_R_inv e18))) ?_
      refine Eq.trans (jb_nx (i := .aload_n 0) (n := 1) (q := (34, [some (.ref p0), some (.int i1), some (.int i2), some (.long j3), none, some (.int i5)], [.ref p0, .ref a17])) (jq qX9_add 17 rfl) rfl) ?_
      obtain ⟨x19, e20, H⟩ := jbd H
      refine Eq.trans (jb_nx (i := .getfield 56) (n := 3) (q := (37, [some (.ref p0), some (.int i1), some (.int i2), some (.long j3), none, some (.int i5)], [.int x19, .ref a17])) (jq qX9_add 18 rfl) (jo_gf rfl (jr_I_inv e20))) ?_
      refine Eq.trans (jb_nx (i := .iload_n 2) (n := 1) (q := (38, [some (.ref p0), some (.int i1), some (.int i2), some (.long j3), none, some (.int i5)], [.int i2, .int x19, .ref a17])) (jq qX9_add 19 rfl) rfl) ?_
      obtain ⟨h21, e22, H⟩ := jbd H
      refine Eq.trans (jb_nx (i := .iastore) (n := 1) (q := (39, [some (.ref p0), some (.int i1), some (.int i2), some (.long j3), none, some (.int i5)], [])) (jq qX9_add 20 rfl) (jo_ias e22)) ?_
      refine Eq.trans (jb_nx (i := .aload_n 0) (n := 1) (q := (40, [some (.ref p0), some (.int i1), some (.int i2), some (.long j3), none, some (.int i5)], [.ref p0])) (jq qX9_add 21 rfl) rfl) ?_
      obtain ⟨a23, e24, H⟩ := jbd H
      refine Eq.trans (jb_nx (i := .getfield 22) (n := 3) (q := (43, [some (.ref p0), some (.int i1), some (.int i2), some (.long j3), none, some (.int i5)], [.ref a23])) (jq qX9_add 22 rfl) (jo_gf rfl (jr_R_inv e24))) ?_
      refine Eq.trans (jb_nx (i := .aload_n 0) (n := 1) (q := (44, [some (.ref p0), some (.int i1), some (.int i2), some (.long j3), none, some (.int i5)], [.ref p0, .ref a23])) (jq qX9_add 23 rfl) rfl) ?_
      obtain ⟨x25, e26, H⟩ := jbd H
      refine Eq.trans (jb_nx (i := .getfield 56) (n := 3) (q := (47, [some (.ref p0), some (.int i1), some (.int i2), some (.long j3), none, some (.int i5)], [.int x25, .ref a23])) (jq qX9_add 24 rfl) (jo_gf rfl (jr_I_inv e26))) ?_
      refine Eq.trans (jb_nx (i := .lload_n 3) (n := 1) (q := (48, [some (.ref p0), some (.int i1), some (.int i2), some (.long j3), none, some (.int i5)], [.long j3, .int x25, .ref a23])) (jq qX9_add 25 rfl) rfl) ?_
      obtain ⟨h27, e28, H⟩ := jbd H
      refine Eq.trans (jb_nx (i := .lastore) (n := 1) (q := (49, [some (.ref p0), some (.int i1), some (.int i2), some (.long j3), none, some (.int i5)], [])) (jq qX9_add 26 rfl) (jo_las e28)) ?_
      refine Eq.trans (jb_nx (i := .aload_n 0) (n := 1) (q := (50, [some (.ref p0), some (.int i1), some (.int i2), some (.long j3), none, some (.int i5)], [.ref p0])) (jq qX9_add 27 rfl) rfl) ?_
      obtain ⟨a29, e30, H⟩ := jbd H
      refine Eq.trans (jb_nx (i := .getfield 25) (n := 3) (q := (53, [some (.ref p0), some (.int i1), some (.int i2), some (.long j3), none, some (.int i5)], [.ref a29])) (jq qX9_add 28 rfl) (jo_gf rfl (jr_R_inv e30))) ?_
      refine Eq.trans (jb_nx (i := .aload_n 0) (n := 1) (q := (54, [some (.ref p0), some (.int i1), some (.int i2), some (.long j3), none, some (.int i5)], [.ref p0, .ref a29])) (jq qX9_add 29 rfl) rfl) ?_
      obtain ⟨x31, e32, H⟩ := jbd H
      refine Eq.trans (jb_nx (i := .getfield 56) (n := 3) (q := (57, [some (.ref p0), some (.int i1), some (.int i2), some (.long j3), none, some (.int i5)], [.int x31, .ref a29])) (jq qX9_add 30 rfl) (jo_gf rfl (jr_I_inv e32))) ?_
      refine Eq.trans (jb_nx (i := .iload 5) (n := 2) (q := (59, [some (.ref p0), some (.int i1), some (.int i2), some (.long j3), none, some (.int i5)], [.int i5, .int x31, .ref a29])) (jq qX9_add 31 rfl) rfl) ?_
      obtain ⟨h33, e34, H⟩ := jbd H
      refine Eq.trans (jb_nx (i := .iastore) (n := 1) (q := (60, [some (.ref p0), some (.int i1), some (.int i2), some (.long j3), none, some (.int i5)], [])) (jq qX9_add 32 rfl) (jo_ias e34)) ?_
      refine Eq.trans (jb_nx (i := .aload_n 0) (n := 1) (q := (61, [some (.ref p0), some (.int i1), some (.int i2), some (.long j3), none, some (.int i5)], [.ref p0])) (jq qX9_add 33 rfl) rfl) ?_
      obtain ⟨a35, e36, H⟩ := jbd H
      refine Eq.trans (jb_nx (i := .getfield 28) (n := 3) (q := (64, [some (.ref p0), some (.int i1), some (.int i2), some (.long j3), none, some (.int i5)], [.ref a35])) (jq qX9_add 34 rfl) (jo_gf rfl (jr_R_inv e36))) ?_
      refine Eq.trans (jb_nx (i := .aload_n 0) (n := 1) (q := (65, [some (.ref p0), some (.int i1), some (.int i2), some (.long j3), none, some (.int i5)], [.ref p0, .ref a35])) (jq qX9_add 35 rfl) rfl) ?_
      obtain ⟨x37, e38, H⟩ := jbd H
      refine Eq.trans (jb_nx (i := .getfield 56) (n := 3) (q := (68, [some (.ref p0), some (.int i1), some (.int i2), some (.long j3), none, some (.int i5)], [.int x37, .ref a35])) (jq qX9_add 36 rfl) (jo_gf rfl (jr_I_inv e38))) ?_
      refine Eq.trans (jb_nx (i := .iconst 0) (n := 1) (q := (69, [some (.ref p0), some (.int i1), some (.int i2), some (.long j3), none, some (.int i5)], [.int 0, .int x37, .ref a35])) (jq qX9_add 37 rfl) rfl) ?_
      obtain ⟨h39, e40, H⟩ := jbd H
      refine Eq.trans (jb_nx (i := .iastore) (n := 1) (q := (70, [some (.ref p0), some (.int i1), some (.int i2), some (.long j3), none, some (.int i5)], [])) (jq qX9_add 38 rfl) (jo_ias e40)) ?_
      refine Eq.trans (jb_nx (i := .aload_n 0) (n := 1) (q := (71, [some (.ref p0), some (.int i1), some (.int i2), some (.long j3), none, some (.int i5)], [.ref p0])) (jq qX9_add 39 rfl) rfl) ?_
      refine Eq.trans (jb_nx (i := .dup) (n := 1) (q := (72, [some (.ref p0), some (.int i1), some (.int i2), some (.long j3), none, some (.int i5)], [.ref p0, .ref p0])) (jq qX9_add 40 rfl) rfl) ?_
      obtain ⟨x41, e42, H⟩ := jbd H
      refine Eq.trans (jb_nx (i := .getfield 56) (n := 3) (q := (75, [some (.ref p0), some (.int i1), some (.int i2), some (.long j3), none, some (.int i5)], [.int x41, .ref p0])) (jq qX9_add 41 rfl) (jo_gf rfl (jr_I_inv e42))) ?_
      refine Eq.trans (jb_nx (i := .iconst 1) (n := 1) (q := (76, [some (.ref p0), some (.int i1), some (.int i2), some (.long j3), none, some (.int i5)], [.int 1, .int x41, .ref p0])) (jq qX9_add 42 rfl) rfl) ?_
      refine Eq.trans (jb_nx (i := .iadd) (n := 1) (q := (77, [some (.ref p0), some (.int i1), some (.int i2), some (.long j3), none, some (.int i5)], [.int (x41 + 1), .ref p0])) (jq qX9_add 43 rfl) rfl) ?_
      obtain ⟨h43, e44, H⟩ := jbd H
      refine Eq.trans (jb_nx (i := .putfield 56) (n := 3) (q := (80, [some (.ref p0), some (.int i1), some (.int i2), some (.long j3), none, some (.int i5)], [])) (jq qX9_add 44 rfl) (jo_pf rfl (Or.inl rfl) e44)) ?_
      exact Eq.trans (jb_rt (i := .return_) (n := 1) (jq qX9_add 45 rfl) rfl) H
    · rw [if_neg c10] at H
      refine Eq.trans (jb_nx (i := .if_icmp .ge 64) (n := 3) (q := (80, [some (.ref p0), some (.int i1), some (.int i2), some (.long j3), none, some (.int i5)], [])) (jq qX9_add 8 rfl) (jo_icT (jz_geT c10) rfl)) ?_
      exact Eq.trans (jb_rt (i := .return_) (n := 1) (jq qX9_add 45 rfl) rfl) H
/-! MaskPlays$Tokens readToken (I)I -/
def tX9_readToken : List (Nat × Instr × Nat) := [(0, .aload_n 0, 1), (1, .iload_n 1, 1), (2, .invokevirtual 70, 3), (5, .istore_n 2, 1), (6, .iload_n 2, 1), (7, .invokestatic 73, 3), (10, .ifCond .eq 9, 3), (13, .aload_n 0, 1), (14, .iload_n 1, 1), (15, .invokevirtual 77, 3), (18, .ireturn, 1), (19, .iload_n 2, 1), (20, .invokestatic 80, 3), (23, .ifCond .eq 9, 3), (26, .aload_n 0, 1), (27, .iload_n 1, 1), (28, .invokevirtual 83, 3), (31, .ireturn, 1), (32, .aload_n 0, 1), (33, .iload_n 1, 1), (34, .invokevirtual 86, 3), (37, .ireturn, 1)]
set_option maxRecDepth 100000 in
theorem qX9_readToken : ∀ q ∈ tX9_readToken, decode cX9_readToken q.1 = .ok (q.2.1, q.2.2) := by decide +kernel
theorem gX9_readToken {d : Nat} {p0 : Nat} {i1 : Int32} {h : jm_H} {r : jm_R} (H : (jm_O h p0 9 (jc_I (jm_D d mX9_byteAt [.ref p0, .int i1] h) (fun x3 h1 => jc_I (jm_D d mX9_isLetter [.int x3] h1) (fun x6 h4 => (if x6 = 0 then jc_I (jm_D d mX9_isDigit [.int x3] h4) (fun x10 h8 => (if x10 = 0 then jm_O h8 p0 9 (jc_I (jm_D d mX9_readSymbol [.ref p0, .int i1] h8) (fun x14 h12 => some (.inl (some (.int x14)), h12)) jx) else jm_O h8 p0 9 (jc_I (jm_D d mX9_readNumber [.ref p0, .int i1] h8) (fun x20 h18 => some (.inl (some (.int x20)), h18)) jx))) jx else jm_O h4 p0 9 (jc_I (jm_D d mX9_readWord [.ref p0, .int i1] h4) (fun x28 h26 => some (.inl (some (.int x28)), h26)) jx))) jx) jx)) = some r) : jm_D (d + 1) mX9_readToken [.ref p0, .int i1] h = some r := by
  rw [jm_D_body (Nat.le_of_ble_eq_true rfl)]
  show jm_B d mX9_readToken (0, [some (.ref p0), some (.int i1), none], []) h = some r
  refine Eq.trans (jb_nx (i := .aload_n 0) (n := 1) (q := (1, [some (.ref p0), some (.int i1), none], [.ref p0])) (jq qX9_readToken 0 rfl) rfl) ?_
  refine Eq.trans (jb_nx (i := .iload_n 1) (n := 1) (q := (2, [some (.ref p0), some (.int i1), none], [.int i1, .ref p0])) (jq qX9_readToken 1 rfl) rfl) ?_
  obtain ⟨b34, H⟩ := jm_O_inv H
  rcases jcI H with ⟨x3, h1, r2, H⟩ | ⟨w35, h36, r2, H⟩
  · refine Eq.trans (jb_nx (i := .invokevirtual 70) (n := 3) (q := (5, [some (.ref p0), some (.int i1), none], [.int x3])) (jq qX9_readToken 2 rfl) (jo_cv (y := mX9_byteAt) rfl (Nat.le_of_ble_eq_true rfl) rfl (Nat.le_of_ble_eq_true rfl) b34 rfl r2 jo_ret)) ?_
    refine Eq.trans (jb_nx (i := .istore_n 2) (n := 1) (q := (6, [some (.ref p0), some (.int i1), some (.int x3)], [])) (jq qX9_readToken 3 rfl) rfl) ?_
    refine Eq.trans (jb_nx (i := .iload_n 2) (n := 1) (q := (7, [some (.ref p0), some (.int i1), some (.int x3)], [.int x3])) (jq qX9_readToken 4 rfl) rfl) ?_
    rcases jcI H with ⟨x6, h4, r5, H⟩ | ⟨w32, h33, r5, H⟩
    · refine Eq.trans (jb_nx (i := .invokestatic 73) (n := 3) (q := (10, [some (.ref p0), some (.int i1), some (.int x3)], [.int x6])) (jq qX9_readToken 5 rfl) (jo_cs (y := mX9_isLetter) (w := 1) (by decide) rfl (Nat.le_of_ble_eq_true rfl) rfl (Nat.le_of_ble_eq_true rfl) rfl r5 jo_ret)) ?_
      by_cases c7 : x6 = 0
      · rw [if_pos c7] at H
        refine Eq.trans (jb_nx (i := .ifCond .eq 9) (n := 3) (q := (19, [some (.ref p0), some (.int i1), some (.int x3)], [])) (jq qX9_readToken 6 rfl) (jo_ifT (jz_eqT c7) rfl)) ?_
        refine Eq.trans (jb_nx (i := .iload_n 2) (n := 1) (q := (20, [some (.ref p0), some (.int i1), some (.int x3)], [.int x3])) (jq qX9_readToken 11 rfl) rfl) ?_
        rcases jcI H with ⟨x10, h8, r9, H⟩ | ⟨w24, h25, r9, H⟩
        · refine Eq.trans (jb_nx (i := .invokestatic 80) (n := 3) (q := (23, [some (.ref p0), some (.int i1), some (.int x3)], [.int x10])) (jq qX9_readToken 12 rfl) (jo_cs (y := mX9_isDigit) (w := 1) (by decide) rfl (Nat.le_of_ble_eq_true rfl) rfl (Nat.le_of_ble_eq_true rfl) rfl r9 jo_ret)) ?_
          by_cases c11 : x10 = 0
          · rw [if_pos c11] at H
            refine Eq.trans (jb_nx (i := .ifCond .eq 9) (n := 3) (q := (32, [some (.ref p0), some (.int i1), some (.int x3)], [])) (jq qX9_readToken 13 rfl) (jo_ifT (jz_eqT c11) rfl)) ?_
            refine Eq.trans (jb_nx (i := .aload_n 0) (n := 1) (q := (33, [some (.ref p0), some (.int i1), some (.int x3)], [.ref p0])) (jq qX9_readToken 18 rfl) rfl) ?_
            refine Eq.trans (jb_nx (i := .iload_n 1) (n := 1) (q := (34, [some (.ref p0), some (.int i1), some (.int x3)], [.int i1, .ref p0])) (jq qX9_readToken 19 rfl) rfl) ?_
            obtain ⟨b15, H⟩ := jm_O_inv H
            rcases jcI H with ⟨x14, h12, r13, H⟩ | ⟨w16, h17, r13, H⟩
            · refine Eq.trans (jb_nx (i := .invokevirtual 86) (n := 3) (q := (37, [some (.ref p0), some (.int i1), some (.int x3)], [.int x14])) (jq qX9_readToken 20 rfl) (jo_cv (y := mX9_readSymbol) rfl (Nat.le_of_ble_eq_true rfl) rfl (Nat.le_of_ble_eq_true rfl) b15 rfl r13 jo_ret)) ?_
              exact Eq.trans (jb_rt (i := .ireturn) (n := 1) (jq qX9_readToken 21 rfl) (jo_iret rfl rfl)) H
            · exact Eq.trans (jb_rt (i := .invokevirtual 86) (n := 3) (jq qX9_readToken 20 rfl) (jo_cv (y := mX9_readSymbol) rfl (Nat.le_of_ble_eq_true rfl) rfl (Nat.le_of_ble_eq_true rfl) b15 rfl r13 (jo_exn rfl))) H
          · rw [if_neg c11] at H
            refine Eq.trans (jb_nx (i := .ifCond .eq 9) (n := 3) (q := (26, [some (.ref p0), some (.int i1), some (.int x3)], [])) (jq qX9_readToken 13 rfl) (jo_ifF (jz_eqF c11))) ?_
            refine Eq.trans (jb_nx (i := .aload_n 0) (n := 1) (q := (27, [some (.ref p0), some (.int i1), some (.int x3)], [.ref p0])) (jq qX9_readToken 14 rfl) rfl) ?_
            refine Eq.trans (jb_nx (i := .iload_n 1) (n := 1) (q := (28, [some (.ref p0), some (.int i1), some (.int x3)], [.int i1, .ref p0])) (jq qX9_readToken 15 rfl) rfl) ?_
            obtain ⟨b21, H⟩ := jm_O_inv H
            rcases jcI H with ⟨x20, h18, r19, H⟩ | ⟨w22, h23, r19, H⟩
            · refine Eq.trans (jb_nx (i := .invokevirtual 83) (n := 3) (q := (31, [some (.ref p0), some (.int i1), some (.int x3)], [.int x20])) (jq qX9_readToken 16 rfl) (jo_cv (y := mX9_readNumber) rfl (Nat.le_of_ble_eq_true rfl) rfl (Nat.le_of_ble_eq_true rfl) b21 rfl r19 jo_ret)) ?_
              exact Eq.trans (jb_rt (i := .ireturn) (n := 1) (jq qX9_readToken 17 rfl) (jo_iret rfl rfl)) H
            · exact Eq.trans (jb_rt (i := .invokevirtual 83) (n := 3) (jq qX9_readToken 16 rfl) (jo_cv (y := mX9_readNumber) rfl (Nat.le_of_ble_eq_true rfl) rfl (Nat.le_of_ble_eq_true rfl) b21 rfl r19 (jo_exn rfl))) H
        · exact Eq.trans (jb_rt (i := .invokestatic 80) (n := 3) (jq qX9_readToken 12 rfl) (jo_cs (y := mX9_isDigit) (w := 1) (by decide) rfl (Nat.le_of_ble_eq_true rfl) rfl (Nat.le_of_ble_eq_true rfl) rfl r9 (jo_exn rfl))) H
      · rw [if_neg c7] at H
        refine Eq.trans (jb_nx (i := .ifCond .eq 9) (n := 3) (q := (13, [some (.ref p0), some (.int i1), some (.int x3)], [])) (jq qX9_readToken 6 rfl) (jo_ifF (jz_eqF c7))) ?_
        refine Eq.trans (jb_nx (i := .aload_n 0) (n := 1) (q := (14, [some (.ref p0), some (.int i1), some (.int x3)], [.ref p0])) (jq qX9_readToken 7 rfl) rfl) ?_
        refine Eq.trans (jb_nx (i := .iload_n 1) (n := 1) (q := (15, [some (.ref p0), some (.int i1), some (.int x3)], [.int i1, .ref p0])) (jq qX9_readToken 8 rfl) rfl) ?_
        obtain ⟨b29, H⟩ := jm_O_inv H
        rcases jcI H with ⟨x28, h26, r27, H⟩ | ⟨w30, h31, r27, H⟩
        · refine Eq.trans (jb_nx (i := .invokevirtual 77) (n := 3) (q := (18, [some (.ref p0), some (.int i1), some (.int x3)], [.int x28])) (jq qX9_readToken 9 rfl) (jo_cv (y := mX9_readWord) rfl (Nat.le_of_ble_eq_true rfl) rfl (Nat.le_of_ble_eq_true rfl) b29 rfl r27 jo_ret)) ?_
          exact Eq.trans (jb_rt (i := .ireturn) (n := 1) (jq qX9_readToken 10 rfl) (jo_iret rfl rfl)) H
        · exact Eq.trans (jb_rt (i := .invokevirtual 77) (n := 3) (jq qX9_readToken 9 rfl) (jo_cv (y := mX9_readWord) rfl (Nat.le_of_ble_eq_true rfl) rfl (Nat.le_of_ble_eq_true rfl) b29 rfl r27 (jo_exn rfl))) H
    · exact Eq.trans (jb_rt (i := .invokestatic 73) (n := 3) (jq qX9_readToken 5 rfl) (jo_cs (y := mX9_isLetter) (w := 1) (by decide) rfl (Nat.le_of_ble_eq_true rfl) rfl (Nat.le_of_ble_eq_true rfl) rfl r5 (jo_exn rfl))) H
  · exact Eq.trans (jb_rt (i := .invokevirtual 70) (n := 3) (jq qX9_readToken 2 rfl) (jo_cv (y := mX9_byteAt) rfl (Nat.le_of_ble_eq_true rfl) rfl (Nat.le_of_ble_eq_true rfl) b34 rfl r2 (jo_exn rfl))) H
/-! MaskPlays$Tokens isLetter (I)Z -/
def tX9_isLetter : List (Nat × Instr × Nat) := [(0, .iload_n 0, 1), (1, .bipush 97, 2), (3, .if_icmp .lt 13, 3), (6, .iload_n 0, 1), (7, .bipush 122, 2), (9, .if_icmp .gt 7, 3), (12, .iconst 1, 1), (13, .goto 4, 3), (16, .iconst 0, 1), (17, .ireturn, 1)]
set_option maxRecDepth 100000 in
theorem qX9_isLetter : ∀ q ∈ tX9_isLetter, decode cX9_isLetter q.1 = .ok (q.2.1, q.2.2) := by decide +kernel
theorem gX9_isLetter {d : Nat} {i0 : Int32} {h : jm_H} {r : jm_R} (H : ((if i0 < 97 then some (.inl (some (.int 0)), h) else (if 122 < i0 then some (.inl (some (.int 0)), h) else some (.inl (some (.int 1)), h)))) = some r) : jm_D (d + 1) mX9_isLetter [.int i0] h = some r := by
  rw [jm_D_body (Nat.le_of_ble_eq_true rfl)]
  show jm_B d mX9_isLetter (0, [some (.int i0)], []) h = some r
  refine Eq.trans (jb_nx (i := .iload_n 0) (n := 1) (q := (1, [some (.int i0)], [.int i0])) (jq qX9_isLetter 0 rfl) rfl) ?_
  refine Eq.trans (jb_nx (i := .bipush 97) (n := 2) (q := (3, [some (.int i0)], [.int 97, .int i0])) (jq qX9_isLetter 1 rfl) rfl) ?_
  by_cases c1 : i0 < 97
  · rw [if_pos c1] at H
    refine Eq.trans (jb_nx (i := .if_icmp .lt 13) (n := 3) (q := (16, [some (.int i0)], [])) (jq qX9_isLetter 2 rfl) (jo_icT (jz_ltT c1) rfl)) ?_
    refine Eq.trans (jb_nx (i := .iconst 0) (n := 1) (q := (17, [some (.int i0)], [.int 0])) (jq qX9_isLetter 8 rfl) rfl) ?_
    exact Eq.trans (jb_rt (i := .ireturn) (n := 1) (jq qX9_isLetter 9 rfl) (jo_iret rfl (by decide))) H
  · rw [if_neg c1] at H
    refine Eq.trans (jb_nx (i := .if_icmp .lt 13) (n := 3) (q := (6, [some (.int i0)], [])) (jq qX9_isLetter 2 rfl) (jo_icF (jz_ltF c1))) ?_
    refine Eq.trans (jb_nx (i := .iload_n 0) (n := 1) (q := (7, [some (.int i0)], [.int i0])) (jq qX9_isLetter 3 rfl) rfl) ?_
    refine Eq.trans (jb_nx (i := .bipush 122) (n := 2) (q := (9, [some (.int i0)], [.int 122, .int i0])) (jq qX9_isLetter 4 rfl) rfl) ?_
    by_cases c2 : 122 < i0
    · rw [if_pos c2] at H
      refine Eq.trans (jb_nx (i := .if_icmp .gt 7) (n := 3) (q := (16, [some (.int i0)], [])) (jq qX9_isLetter 5 rfl) (jo_icT (jz_gtT c2) rfl)) ?_
      refine Eq.trans (jb_nx (i := .iconst 0) (n := 1) (q := (17, [some (.int i0)], [.int 0])) (jq qX9_isLetter 8 rfl) rfl) ?_
      exact Eq.trans (jb_rt (i := .ireturn) (n := 1) (jq qX9_isLetter 9 rfl) (jo_iret rfl (by decide))) H
    · rw [if_neg c2] at H
      refine Eq.trans (jb_nx (i := .if_icmp .gt 7) (n := 3) (q := (12, [some (.int i0)], [])) (jq qX9_isLetter 5 rfl) (jo_icF (jz_gtF c2))) ?_
      refine Eq.trans (jb_nx (i := .iconst 1) (n := 1) (q := (13, [some (.int i0)], [.int 1])) (jq qX9_isLetter 6 rfl) rfl) ?_
      refine Eq.trans (jb_nx (i := .goto 4) (n := 3) (q := (17, [some (.int i0)], [.int 1])) (jq qX9_isLetter 7 rfl) rfl) ?_
      exact Eq.trans (jb_rt (i := .ireturn) (n := 1) (jq qX9_isLetter 9 rfl) (jo_iret rfl (by decide))) H
/-! MaskPlays$Tokens readWord (I)I -/
def tX9_readWord : List (Nat × Instr × Nat) := [(0, .lconst 0, 1), (1, .lstore_n 2, 1), (2, .iload_n 1, 1), (3, .istore 4, 2), (5, .iload 4, 2), (7, .aload_n 0, 1), (8, .getfield 53, 3), (11, .if_icmp .ge 44, 3), (14, .aload_n 0, 1), (15, .iload 4, 2), (17, .invokevirtual 70, 3), (20, .invokestatic 73, 3), (23, .ifCond .ne 15, 3), (26, .aload_n 0, 1), (27, .iload 4, 2), (29, .invokevirtual 70, 3), (32, .invokestatic 80, 3), (35, .ifCond .eq 20, 3), (38, .lload_n 2, 1), (39, .aload_n 0, 1), (40, .iload 4, 2), (42, .invokevirtual 70, 3), (45, .invokestatic 47, 3), (48, .lstore_n 2, 1), (49, .iinc 4 1, 3), (52, .goto (-47), 3), (55, .iload 4, 2), (57, .iload_n 1, 1), (58, .isub, 1), (59, .bipush 10, 2), (61, .if_icmp .le 5, 3), (64, .iload_n 1, 1), (65, .ireturn, 1), (66, .aload_n 0, 1), (67, .aload_n 0, 1), (68, .lload_n 2, 1), (69, .invokevirtual 89, 3), (72, .iload_n 1, 1), (73, .lload_n 2, 1), (74, .iconst 0, 1), (75, .invokevirtual 63, 3), (78, .iload 4, 2), (80, .ireturn, 1)]
set_option maxRecDepth 100000 in
theorem qX9_readWord : ∀ q ∈ tX9_readWord, decode cX9_readWord q.1 = .ok (q.2.1, q.2.2) := by decide +kernel
noncomputable def kX9_readWord_5 (d : Nat) (p0 : Nat) (i1 : Int32) (j2 : Int64) (i4 : Int32) (h : jm_H) : Option jm_R := jm_B d mX9_readWord (5, [some (.ref p0), some (.int i1), some (.long j2), none, some (.int i4)], []) h
noncomputable def kX9_readWord_55 (d : Nat) (p0 : Nat) (i1 : Int32) (j2 : Int64) (i4 : Int32) (h : jm_H) : Option jm_R := jm_B d mX9_readWord (55, [some (.ref p0), some (.int i1), some (.long j2), none, some (.int i4)], []) h
theorem gX9_readWord_5 {d : Nat} {p0 : Nat} {i1 : Int32} {j2 : Int64} {i4 : Int32} {h : jm_H} {r : jm_R} (H : ((jr_I h p0 9 8 0).bind fun x1 => (if i4 < x1 then jm_O h p0 9 (jc_I (jm_D d mX9_byteAt [.ref p0, .int i4] h) (fun x6 h4 => jc_I (jm_D d mX9_isLetter [.int x6] h4) (fun x9 h7 => (if x9 = 0 then jm_O h7 p0 9 (jc_I (jm_D d mX9_byteAt [.ref p0, .int i4] h7) (fun x24 h22 => jc_I (jm_D d mX9_isDigit [.int x24] h22) (fun x27 h25 => (if x27 = 0 then kX9_readWord_55 d p0 i1 j2 i4 h25 else jm_O h25 p0 9 (jc_I (jm_D d mX9_byteAt [.ref p0, .int i4] h25) (fun x31 h29 => jc_L (jm_D d mX10_longer [.long j2, .int x31] h29) (fun y34 h32 => kX9_readWord_5 d p0 i1 y34 (i4 + 1) h32) jx) jx))) jx) jx) else jm_O h7 p0 9 (jc_I (jm_D d mX9_byteAt [.ref p0, .int i4] h7) (fun x13 h11 => jc_L (jm_D d mX10_longer [.long j2, .int x13] h11) (fun y16 h14 => kX9_readWord_5 d p0 i1 y16 (i4 + 1) h14) jx) jx))) jx) jx) else kX9_readWord_55 d p0 i1 j2 i4 h)) = some r) : kX9_readWord_5 d p0 i1 j2 i4 h = some r := by
  show jm_B d mX9_readWord (5, [some (.ref p0), some (.int i1), some (.long j2), none, some (.int i4)], []) h = some r
  refine Eq.trans (jb_nx (i := .iload 4) (n := 2) (q := (7, [some (.ref p0), some (.int i1), some (.long j2), none, some (.int i4)], [.int i4])) (jq qX9_readWord 4 rfl) rfl) ?_
  refine Eq.trans (jb_nx (i := .aload_n 0) (n := 1) (q := (8, [some (.ref p0), some (.int i1), some (.long j2), none, some (.int i4)], [.ref p0, .int i4])) (jq qX9_readWord 5 rfl) rfl) ?_
  obtain ⟨x1, e2, H⟩ := jbd H
  refine Eq.trans (jb_nx (i := .getfield 53) (n := 3) (q := (11, [some (.ref p0), some (.int i1), some (.long j2), none, some (.int i4)], [.int x1, .int i4])) (jq qX9_readWord 6 rfl) (jo_gf rfl (jr_I_inv e2))) ?_
  by_cases c3 : i4 < x1
  · rw [if_pos c3] at H
    refine Eq.trans (jb_nx (i := .if_icmp .ge 44) (n := 3) (q := (14, [some (.ref p0), some (.int i1), some (.long j2), none, some (.int i4)], [])) (jq qX9_readWord 7 rfl) (jo_icF (jz_geF c3))) ?_
    refine Eq.trans (jb_nx (i := .aload_n 0) (n := 1) (q := (15, [some (.ref p0), some (.int i1), some (.long j2), none, some (.int i4)], [.ref p0])) (jq qX9_readWord 8 rfl) rfl) ?_
    refine Eq.trans (jb_nx (i := .iload 4) (n := 2) (q := (17, [some (.ref p0), some (.int i1), some (.long j2), none, some (.int i4)], [.int i4, .ref p0])) (jq qX9_readWord 9 rfl) rfl) ?_
    obtain ⟨b47, H⟩ := jm_O_inv H
    rcases jcI H with ⟨x6, h4, r5, H⟩ | ⟨w48, h49, r5, H⟩
    · refine Eq.trans (jb_nx (i := .invokevirtual 70) (n := 3) (q := (20, [some (.ref p0), some (.int i1), some (.long j2), none, some (.int i4)], [.int x6])) (jq qX9_readWord 10 rfl) (jo_cv (y := mX9_byteAt) rfl (Nat.le_of_ble_eq_true rfl) rfl (Nat.le_of_ble_eq_true rfl) b47 rfl r5 jo_ret)) ?_
      rcases jcI H with ⟨x9, h7, r8, H⟩ | ⟨w45, h46, r8, H⟩
      · refine Eq.trans (jb_nx (i := .invokestatic 73) (n := 3) (q := (23, [some (.ref p0), some (.int i1), some (.long j2), none, some (.int i4)], [.int x9])) (jq qX9_readWord 11 rfl) (jo_cs (y := mX9_isLetter) (w := 1) (by decide) rfl (Nat.le_of_ble_eq_true rfl) rfl (Nat.le_of_ble_eq_true rfl) rfl r8 jo_ret)) ?_
        by_cases c10 : x9 = 0
        · rw [if_pos c10] at H
          refine Eq.trans (jb_nx (i := .ifCond .ne 15) (n := 3) (q := (26, [some (.ref p0), some (.int i1), some (.long j2), none, some (.int i4)], [])) (jq qX9_readWord 12 rfl) (jo_ifF (jz_neF c10))) ?_
          refine Eq.trans (jb_nx (i := .aload_n 0) (n := 1) (q := (27, [some (.ref p0), some (.int i1), some (.long j2), none, some (.int i4)], [.ref p0])) (jq qX9_readWord 13 rfl) rfl) ?_
          refine Eq.trans (jb_nx (i := .iload 4) (n := 2) (q := (29, [some (.ref p0), some (.int i1), some (.long j2), none, some (.int i4)], [.int i4, .ref p0])) (jq qX9_readWord 14 rfl) rfl) ?_
          obtain ⟨b42, H⟩ := jm_O_inv H
          rcases jcI H with ⟨x24, h22, r23, H⟩ | ⟨w43, h44, r23, H⟩
          · refine Eq.trans (jb_nx (i := .invokevirtual 70) (n := 3) (q := (32, [some (.ref p0), some (.int i1), some (.long j2), none, some (.int i4)], [.int x24])) (jq qX9_readWord 15 rfl) (jo_cv (y := mX9_byteAt) rfl (Nat.le_of_ble_eq_true rfl) rfl (Nat.le_of_ble_eq_true rfl) b42 rfl r23 jo_ret)) ?_
            rcases jcI H with ⟨x27, h25, r26, H⟩ | ⟨w40, h41, r26, H⟩
            · refine Eq.trans (jb_nx (i := .invokestatic 80) (n := 3) (q := (35, [some (.ref p0), some (.int i1), some (.long j2), none, some (.int i4)], [.int x27])) (jq qX9_readWord 16 rfl) (jo_cs (y := mX9_isDigit) (w := 1) (by decide) rfl (Nat.le_of_ble_eq_true rfl) rfl (Nat.le_of_ble_eq_true rfl) rfl r26 jo_ret)) ?_
              by_cases c28 : x27 = 0
              · rw [if_pos c28] at H
                refine Eq.trans (jb_nx (i := .ifCond .eq 20) (n := 3) (q := (55, [some (.ref p0), some (.int i1), some (.long j2), none, some (.int i4)], [])) (jq qX9_readWord 17 rfl) (jo_ifT (jz_eqT c28) rfl)) ?_
                exact H
              · rw [if_neg c28] at H
                refine Eq.trans (jb_nx (i := .ifCond .eq 20) (n := 3) (q := (38, [some (.ref p0), some (.int i1), some (.long j2), none, some (.int i4)], [])) (jq qX9_readWord 17 rfl) (jo_ifF (jz_eqF c28))) ?_
                refine Eq.trans (jb_nx (i := .lload_n 2) (n := 1) (q := (39, [some (.ref p0), some (.int i1), some (.long j2), none, some (.int i4)], [.long j2])) (jq qX9_readWord 18 rfl) rfl) ?_
                refine Eq.trans (jb_nx (i := .aload_n 0) (n := 1) (q := (40, [some (.ref p0), some (.int i1), some (.long j2), none, some (.int i4)], [.ref p0, .long j2])) (jq qX9_readWord 19 rfl) rfl) ?_
                refine Eq.trans (jb_nx (i := .iload 4) (n := 2) (q := (42, [some (.ref p0), some (.int i1), some (.long j2), none, some (.int i4)], [.int i4, .ref p0, .long j2])) (jq qX9_readWord 20 rfl) rfl) ?_
                obtain ⟨b37, H⟩ := jm_O_inv H
                rcases jcI H with ⟨x31, h29, r30, H⟩ | ⟨w38, h39, r30, H⟩
                · refine Eq.trans (jb_nx (i := .invokevirtual 70) (n := 3) (q := (45, [some (.ref p0), some (.int i1), some (.long j2), none, some (.int i4)], [.int x31, .long j2])) (jq qX9_readWord 21 rfl) (jo_cv (y := mX9_byteAt) rfl (Nat.le_of_ble_eq_true rfl) rfl (Nat.le_of_ble_eq_true rfl) b37 rfl r30 jo_ret)) ?_
                  rcases jcL H with ⟨y34, h32, r33, H⟩ | ⟨w35, h36, r33, H⟩
                  · refine Eq.trans (jb_nx (i := .invokestatic 47) (n := 3) (q := (48, [some (.ref p0), some (.int i1), some (.long j2), none, some (.int i4)], [.long y34])) (jq qX9_readWord 22 rfl) (jo_cs (y := mX10_longer) (w := 1) (by decide) rfl (Nat.le_of_ble_eq_true rfl) rfl (Nat.le_of_ble_eq_true rfl) rfl r33 jo_ret)) ?_
                    refine Eq.trans (jb_nx (i := .lstore_n 2) (n := 1) (q := (49, [some (.ref p0), some (.int i1), some (.long y34), none, some (.int i4)], [])) (jq qX9_readWord 23 rfl) rfl) ?_
                    refine Eq.trans (jb_nx (i := .iinc 4 1) (n := 3) (q := (52, [some (.ref p0), some (.int i1), some (.long y34), none, some (.int (i4 + 1))], [])) (jq qX9_readWord 24 rfl) rfl) ?_
                    refine Eq.trans (jb_nx (i := .goto (-47)) (n := 3) (q := (5, [some (.ref p0), some (.int i1), some (.long y34), none, some (.int (i4 + 1))], [])) (jq qX9_readWord 25 rfl) rfl) ?_
                    exact H
                  · exact Eq.trans (jb_rt (i := .invokestatic 47) (n := 3) (jq qX9_readWord 22 rfl) (jo_cs (y := mX10_longer) (w := 1) (by decide) rfl (Nat.le_of_ble_eq_true rfl) rfl (Nat.le_of_ble_eq_true rfl) rfl r33 (jo_exn rfl))) H
                · exact Eq.trans (jb_rt (i := .invokevirtual 70) (n := 3) (jq qX9_readWord 21 rfl) (jo_cv (y := mX9_byteAt) rfl (Nat.le_of_ble_eq_true rfl) rfl (Nat.le_of_ble_eq_true rfl) b37 rfl r30 (jo_exn rfl))) H
            · exact Eq.trans (jb_rt (i := .invokestatic 80) (n := 3) (jq qX9_readWord 16 rfl) (jo_cs (y := mX9_isDigit) (w := 1) (by decide) rfl (Nat.le_of_ble_eq_true rfl) rfl (Nat.le_of_ble_eq_true rfl) rfl r26 (jo_exn rfl))) H
          · exact Eq.trans (jb_rt (i := .invokevirtual 70) (n := 3) (jq qX9_readWord 15 rfl) (jo_cv (y := mX9_byteAt) rfl (Nat.le_of_ble_eq_true rfl) rfl (Nat.le_of_ble_eq_true rfl) b42 rfl r23 (jo_exn rfl))) H
        · rw [if_neg c10] at H
          refine Eq.trans (jb_nx (i := .ifCond .ne 15) (n := 3) (q := (38, [some (.ref p0), some (.int i1), some (.long j2), none, some (.int i4)], [])) (jq qX9_readWord 12 rfl) (jo_ifT (jz_neT c10) rfl)) ?_
          refine Eq.trans (jb_nx (i := .lload_n 2) (n := 1) (q := (39, [some (.ref p0), some (.int i1), some (.long j2), none, some (.int i4)], [.long j2])) (jq qX9_readWord 18 rfl) rfl) ?_
          refine Eq.trans (jb_nx (i := .aload_n 0) (n := 1) (q := (40, [some (.ref p0), some (.int i1), some (.long j2), none, some (.int i4)], [.ref p0, .long j2])) (jq qX9_readWord 19 rfl) rfl) ?_
          refine Eq.trans (jb_nx (i := .iload 4) (n := 2) (q := (42, [some (.ref p0), some (.int i1), some (.long j2), none, some (.int i4)], [.int i4, .ref p0, .long j2])) (jq qX9_readWord 20 rfl) rfl) ?_
          obtain ⟨b19, H⟩ := jm_O_inv H
          rcases jcI H with ⟨x13, h11, r12, H⟩ | ⟨w20, h21, r12, H⟩
          · refine Eq.trans (jb_nx (i := .invokevirtual 70) (n := 3) (q := (45, [some (.ref p0), some (.int i1), some (.long j2), none, some (.int i4)], [.int x13, .long j2])) (jq qX9_readWord 21 rfl) (jo_cv (y := mX9_byteAt) rfl (Nat.le_of_ble_eq_true rfl) rfl (Nat.le_of_ble_eq_true rfl) b19 rfl r12 jo_ret)) ?_
            rcases jcL H with ⟨y16, h14, r15, H⟩ | ⟨w17, h18, r15, H⟩
            · refine Eq.trans (jb_nx (i := .invokestatic 47) (n := 3) (q := (48, [some (.ref p0), some (.int i1), some (.long j2), none, some (.int i4)], [.long y16])) (jq qX9_readWord 22 rfl) (jo_cs (y := mX10_longer) (w := 1) (by decide) rfl (Nat.le_of_ble_eq_true rfl) rfl (Nat.le_of_ble_eq_true rfl) rfl r15 jo_ret)) ?_
              refine Eq.trans (jb_nx (i := .lstore_n 2) (n := 1) (q := (49, [some (.ref p0), some (.int i1), some (.long y16), none, some (.int i4)], [])) (jq qX9_readWord 23 rfl) rfl) ?_
              refine Eq.trans (jb_nx (i := .iinc 4 1) (n := 3) (q := (52, [some (.ref p0), some (.int i1), some (.long y16), none, some (.int (i4 + 1))], [])) (jq qX9_readWord 24 rfl) rfl) ?_
              refine Eq.trans (jb_nx (i := .goto (-47)) (n := 3) (q := (5, [some (.ref p0), some (.int i1), some (.long y16), none, some (.int (i4 + 1))], [])) (jq qX9_readWord 25 rfl) rfl) ?_
              exact H
            · exact Eq.trans (jb_rt (i := .invokestatic 47) (n := 3) (jq qX9_readWord 22 rfl) (jo_cs (y := mX10_longer) (w := 1) (by decide) rfl (Nat.le_of_ble_eq_true rfl) rfl (Nat.le_of_ble_eq_true rfl) rfl r15 (jo_exn rfl))) H
          · exact Eq.trans (jb_rt (i := .invokevirtual 70) (n := 3) (jq qX9_readWord 21 rfl) (jo_cv (y := mX9_byteAt) rfl (Nat.le_of_ble_eq_true rfl) rfl (Nat.le_of_ble_eq_true rfl) b19 rfl r12 (jo_exn rfl))) H
      · exact Eq.trans (jb_rt (i := .invokestatic 73) (n := 3) (jq qX9_readWord 11 rfl) (jo_cs (y := mX9_isLetter) (w := 1) (by decide) rfl (Nat.le_of_ble_eq_true rfl) rfl (Nat.le_of_ble_eq_true rfl) rfl r8 (jo_exn rfl))) H
    · exact Eq.trans (jb_rt (i := .invokevirtual 70) (n := 3) (jq qX9_readWord 10 rfl) (jo_cv (y := mX9_byteAt) rfl (Nat.le_of_ble_eq_true rfl) rfl (Nat.le_of_ble_eq_true rfl) b47 rfl r5 (jo_exn rfl))) H
  · rw [if_neg c3] at H
    refine Eq.trans (jb_nx (i := .if_icmp .ge 44) (n := 3) (q := (55, [some (.ref p0), some (.int i1), some (.long j2), none, some (.int i4)], [])) (jq qX9_readWord 7 rfl) (jo_icT (jz_geT c3) rfl)) ?_
    exact H
theorem gX9_readWord_55 {d : Nat} {p0 : Nat} {i1 : Int32} {j2 : Int64} {i4 : Int32} {h : jm_H} {r : jm_R} (H : ((if 10 < (i4 - i1) then some (.inl (some (.int i1)), h) else jm_O h p0 9 (jc_I (jm_D d mX9_kindOf [.ref p0, .long j2] h) (fun x53 h51 => jm_O h51 p0 9 (jc_V (jm_D d mX9_add [.ref p0, .int x53, .int i1, .long j2, .int 0] h51) (fun h54 => some (.inl (some (.int i4)), h54)) jx)) jx))) = some r) : kX9_readWord_55 d p0 i1 j2 i4 h = some r := by
  show jm_B d mX9_readWord (55, [some (.ref p0), some (.int i1), some (.long j2), none, some (.int i4)], []) h = some r
  refine Eq.trans (jb_nx (i := .iload 4) (n := 2) (q := (57, [some (.ref p0), some (.int i1), some (.long j2), none, some (.int i4)], [.int i4])) (jq qX9_readWord 26 rfl) rfl) ?_
  refine Eq.trans (jb_nx (i := .iload_n 1) (n := 1) (q := (58, [some (.ref p0), some (.int i1), some (.long j2), none, some (.int i4)], [.int i1, .int i4])) (jq qX9_readWord 27 rfl) rfl) ?_
  refine Eq.trans (jb_nx (i := .isub) (n := 1) (q := (59, [some (.ref p0), some (.int i1), some (.long j2), none, some (.int i4)], [.int (i4 - i1)])) (jq qX9_readWord 28 rfl) rfl) ?_
  refine Eq.trans (jb_nx (i := .bipush 10) (n := 2) (q := (61, [some (.ref p0), some (.int i1), some (.long j2), none, some (.int i4)], [.int 10, .int (i4 - i1)])) (jq qX9_readWord 29 rfl) rfl) ?_
  by_cases c50 : 10 < (i4 - i1)
  · rw [if_pos c50] at H
    refine Eq.trans (jb_nx (i := .if_icmp .le 5) (n := 3) (q := (64, [some (.ref p0), some (.int i1), some (.long j2), none, some (.int i4)], [])) (jq qX9_readWord 30 rfl) (jo_icF (jz_leF c50))) ?_
    refine Eq.trans (jb_nx (i := .iload_n 1) (n := 1) (q := (65, [some (.ref p0), some (.int i1), some (.long j2), none, some (.int i4)], [.int i1])) (jq qX9_readWord 31 rfl) rfl) ?_
    exact Eq.trans (jb_rt (i := .ireturn) (n := 1) (jq qX9_readWord 32 rfl) (jo_iret rfl rfl)) H
  · rw [if_neg c50] at H
    refine Eq.trans (jb_nx (i := .if_icmp .le 5) (n := 3) (q := (66, [some (.ref p0), some (.int i1), some (.long j2), none, some (.int i4)], [])) (jq qX9_readWord 30 rfl) (jo_icT (jz_leT c50) rfl)) ?_
    refine Eq.trans (jb_nx (i := .aload_n 0) (n := 1) (q := (67, [some (.ref p0), some (.int i1), some (.long j2), none, some (.int i4)], [.ref p0])) (jq qX9_readWord 33 rfl) rfl) ?_
    refine Eq.trans (jb_nx (i := .aload_n 0) (n := 1) (q := (68, [some (.ref p0), some (.int i1), some (.long j2), none, some (.int i4)], [.ref p0, .ref p0])) (jq qX9_readWord 34 rfl) rfl) ?_
    refine Eq.trans (jb_nx (i := .lload_n 2) (n := 1) (q := (69, [some (.ref p0), some (.int i1), some (.long j2), none, some (.int i4)], [.long j2, .ref p0, .ref p0])) (jq qX9_readWord 35 rfl) rfl) ?_
    obtain ⟨b59, H⟩ := jm_O_inv H
    rcases jcI H with ⟨x53, h51, r52, H⟩ | ⟨w60, h61, r52, H⟩
    · refine Eq.trans (jb_nx (i := .invokevirtual 89) (n := 3) (q := (72, [some (.ref p0), some (.int i1), some (.long j2), none, some (.int i4)], [.int x53, .ref p0])) (jq qX9_readWord 36 rfl) (jo_cv (y := mX9_kindOf) rfl (Nat.le_of_ble_eq_true rfl) rfl (Nat.le_of_ble_eq_true rfl) b59 rfl r52 jo_ret)) ?_
      refine Eq.trans (jb_nx (i := .iload_n 1) (n := 1) (q := (73, [some (.ref p0), some (.int i1), some (.long j2), none, some (.int i4)], [.int i1, .int x53, .ref p0])) (jq qX9_readWord 37 rfl) rfl) ?_
      refine Eq.trans (jb_nx (i := .lload_n 2) (n := 1) (q := (74, [some (.ref p0), some (.int i1), some (.long j2), none, some (.int i4)], [.long j2, .int i1, .int x53, .ref p0])) (jq qX9_readWord 38 rfl) rfl) ?_
      refine Eq.trans (jb_nx (i := .iconst 0) (n := 1) (q := (75, [some (.ref p0), some (.int i1), some (.long j2), none, some (.int i4)], [.int 0, .long j2, .int i1, .int x53, .ref p0])) (jq qX9_readWord 39 rfl) rfl) ?_
      obtain ⟨b56, H⟩ := jm_O_inv H
      rcases jcV H with ⟨h54, r55, H⟩ | ⟨w57, h58, r55, H⟩
      · refine Eq.trans (jb_nx (i := .invokevirtual 63) (n := 3) (q := (78, [some (.ref p0), some (.int i1), some (.long j2), none, some (.int i4)], [])) (jq qX9_readWord 40 rfl) (jo_cv (y := mX9_add) rfl (Nat.le_of_ble_eq_true rfl) rfl (Nat.le_of_ble_eq_true rfl) b56 rfl r55 jo_ret)) ?_
        refine Eq.trans (jb_nx (i := .iload 4) (n := 2) (q := (80, [some (.ref p0), some (.int i1), some (.long j2), none, some (.int i4)], [.int i4])) (jq qX9_readWord 41 rfl) rfl) ?_
        exact Eq.trans (jb_rt (i := .ireturn) (n := 1) (jq qX9_readWord 42 rfl) (jo_iret rfl rfl)) H
      · exact Eq.trans (jb_rt (i := .invokevirtual 63) (n := 3) (jq qX9_readWord 40 rfl) (jo_cv (y := mX9_add) rfl (Nat.le_of_ble_eq_true rfl) rfl (Nat.le_of_ble_eq_true rfl) b56 rfl r55 (jo_exn rfl))) H
    · exact Eq.trans (jb_rt (i := .invokevirtual 89) (n := 3) (jq qX9_readWord 36 rfl) (jo_cv (y := mX9_kindOf) rfl (Nat.le_of_ble_eq_true rfl) rfl (Nat.le_of_ble_eq_true rfl) b59 rfl r52 (jo_exn rfl))) H
theorem gX9_readWord {d : Nat} {p0 : Nat} {i1 : Int32} {h : jm_H} {r : jm_R} (H : (kX9_readWord_5 d p0 i1 0 i1 h) = some r) : jm_D (d + 1) mX9_readWord [.ref p0, .int i1] h = some r := by
  rw [jm_D_body (Nat.le_of_ble_eq_true rfl)]
  show jm_B d mX9_readWord (0, [some (.ref p0), some (.int i1), none, none, none], []) h = some r
  refine Eq.trans (jb_nx (i := .lconst 0) (n := 1) (q := (1, [some (.ref p0), some (.int i1), none, none, none], [.long 0])) (jq qX9_readWord 0 rfl) rfl) ?_
  refine Eq.trans (jb_nx (i := .lstore_n 2) (n := 1) (q := (2, [some (.ref p0), some (.int i1), some (.long 0), none, none], [])) (jq qX9_readWord 1 rfl) rfl) ?_
  refine Eq.trans (jb_nx (i := .iload_n 1) (n := 1) (q := (3, [some (.ref p0), some (.int i1), some (.long 0), none, none], [.int i1])) (jq qX9_readWord 2 rfl) rfl) ?_
  refine Eq.trans (jb_nx (i := .istore 4) (n := 2) (q := (5, [some (.ref p0), some (.int i1), some (.long 0), none, some (.int i1)], [])) (jq qX9_readWord 3 rfl) rfl) ?_
  exact H
/-! MaskPlays$Tokens isDigit (I)Z -/
def tX9_isDigit : List (Nat × Instr × Nat) := [(0, .iload_n 0, 1), (1, .bipush 48, 2), (3, .if_icmp .lt 13, 3), (6, .iload_n 0, 1), (7, .bipush 57, 2), (9, .if_icmp .gt 7, 3), (12, .iconst 1, 1), (13, .goto 4, 3), (16, .iconst 0, 1), (17, .ireturn, 1)]
set_option maxRecDepth 100000 in
theorem qX9_isDigit : ∀ q ∈ tX9_isDigit, decode cX9_isDigit q.1 = .ok (q.2.1, q.2.2) := by decide +kernel
theorem gX9_isDigit {d : Nat} {i0 : Int32} {h : jm_H} {r : jm_R} (H : ((if i0 < 48 then some (.inl (some (.int 0)), h) else (if 57 < i0 then some (.inl (some (.int 0)), h) else some (.inl (some (.int 1)), h)))) = some r) : jm_D (d + 1) mX9_isDigit [.int i0] h = some r := by
  rw [jm_D_body (Nat.le_of_ble_eq_true rfl)]
  show jm_B d mX9_isDigit (0, [some (.int i0)], []) h = some r
  refine Eq.trans (jb_nx (i := .iload_n 0) (n := 1) (q := (1, [some (.int i0)], [.int i0])) (jq qX9_isDigit 0 rfl) rfl) ?_
  refine Eq.trans (jb_nx (i := .bipush 48) (n := 2) (q := (3, [some (.int i0)], [.int 48, .int i0])) (jq qX9_isDigit 1 rfl) rfl) ?_
  by_cases c1 : i0 < 48
  · rw [if_pos c1] at H
    refine Eq.trans (jb_nx (i := .if_icmp .lt 13) (n := 3) (q := (16, [some (.int i0)], [])) (jq qX9_isDigit 2 rfl) (jo_icT (jz_ltT c1) rfl)) ?_
    refine Eq.trans (jb_nx (i := .iconst 0) (n := 1) (q := (17, [some (.int i0)], [.int 0])) (jq qX9_isDigit 8 rfl) rfl) ?_
    exact Eq.trans (jb_rt (i := .ireturn) (n := 1) (jq qX9_isDigit 9 rfl) (jo_iret rfl (by decide))) H
  · rw [if_neg c1] at H
    refine Eq.trans (jb_nx (i := .if_icmp .lt 13) (n := 3) (q := (6, [some (.int i0)], [])) (jq qX9_isDigit 2 rfl) (jo_icF (jz_ltF c1))) ?_
    refine Eq.trans (jb_nx (i := .iload_n 0) (n := 1) (q := (7, [some (.int i0)], [.int i0])) (jq qX9_isDigit 3 rfl) rfl) ?_
    refine Eq.trans (jb_nx (i := .bipush 57) (n := 2) (q := (9, [some (.int i0)], [.int 57, .int i0])) (jq qX9_isDigit 4 rfl) rfl) ?_
    by_cases c2 : 57 < i0
    · rw [if_pos c2] at H
      refine Eq.trans (jb_nx (i := .if_icmp .gt 7) (n := 3) (q := (16, [some (.int i0)], [])) (jq qX9_isDigit 5 rfl) (jo_icT (jz_gtT c2) rfl)) ?_
      refine Eq.trans (jb_nx (i := .iconst 0) (n := 1) (q := (17, [some (.int i0)], [.int 0])) (jq qX9_isDigit 8 rfl) rfl) ?_
      exact Eq.trans (jb_rt (i := .ireturn) (n := 1) (jq qX9_isDigit 9 rfl) (jo_iret rfl (by decide))) H
    · rw [if_neg c2] at H
      refine Eq.trans (jb_nx (i := .if_icmp .gt 7) (n := 3) (q := (12, [some (.int i0)], [])) (jq qX9_isDigit 5 rfl) (jo_icF (jz_gtF c2))) ?_
      refine Eq.trans (jb_nx (i := .iconst 1) (n := 1) (q := (13, [some (.int i0)], [.int 1])) (jq qX9_isDigit 6 rfl) rfl) ?_
      refine Eq.trans (jb_nx (i := .goto 4) (n := 3) (q := (17, [some (.int i0)], [.int 1])) (jq qX9_isDigit 7 rfl) rfl) ?_
      exact Eq.trans (jb_rt (i := .ireturn) (n := 1) (jq qX9_isDigit 9 rfl) (jo_iret rfl (by decide))) H
/-! MaskPlays$Tokens kindOf (J)I -/
def tX9_kindOf : List (Nat × Instr × Nat) := [(0, .iconst 0, 1), (1, .istore_n 3, 1), (2, .iload_n 3, 1), (3, .aload_n 0, 1), (4, .getfield 9, 3), (7, .arraylength, 1), (8, .if_icmp .ge 22, 3), (11, .aload_n 0, 1), (12, .getfield 9, 3), (15, .iload_n 3, 1), (16, .laload, 1), (17, .lload_n 1, 1), (18, .lcmp, 1), (19, .ifCond .ne 5, 3), (22, .iload_n 3, 1), (23, .ireturn, 1), (24, .iinc 3 1, 3), (27, .goto (-25), 3), (30, .bipush 35, 2), (32, .ireturn, 1)]
set_option maxRecDepth 100000 in
theorem qX9_kindOf : ∀ q ∈ tX9_kindOf, decode cX9_kindOf q.1 = .ok (q.2.1, q.2.2) := by decide +kernel
noncomputable def kX9_kindOf_2 (d : Nat) (p0 : Nat) (j1 : Int64) (i3 : Int32) (h : jm_H) : Option jm_R := jm_B d mX9_kindOf (2, [some (.ref p0), some (.long j1), none, some (.int i3)], []) h
theorem gX9_kindOf_2 {d : Nat} {p0 : Nat} {j1 : Int64} {i3 : Int32} {h : jm_H} {r : jm_R} (H : ((jr_R h p0 9 0 2).bind fun a1 => (jm_len h a1).bind fun n3 => (if i3 < (Int32.ofNat n3) then (jr_R h p0 9 0 2).bind fun a6 => (jm_all h a6 i3).bind fun y8 => (if (lg_cmp y8 j1) = 0 then some (.inl (some (.int i3)), h) else kX9_kindOf_2 d p0 j1 (i3 + 1) h) else some (.inl (some (.int 35)), h))) = some r) : kX9_kindOf_2 d p0 j1 i3 h = some r := by
  show jm_B d mX9_kindOf (2, [some (.ref p0), some (.long j1), none, some (.int i3)], []) h = some r
  refine Eq.trans (jb_nx (i := .iload_n 3) (n := 1) (q := (3, [some (.ref p0), some (.long j1), none, some (.int i3)], [.int i3])) (jq qX9_kindOf 2 rfl) rfl) ?_
  refine Eq.trans (jb_nx (i := .aload_n 0) (n := 1) (q := (4, [some (.ref p0), some (.long j1), none, some (.int i3)], [.ref p0, .int i3])) (jq qX9_kindOf 3 rfl) rfl) ?_
  obtain ⟨a1, e2, H⟩ := jbd H
  refine Eq.trans (jb_nx (i := .getfield 9) (n := 3) (q := (7, [some (.ref p0), some (.long j1), none, some (.int i3)], [.ref a1, .int i3])) (jq qX9_kindOf 4 rfl) (jo_gf rfl (jr_R_inv e2))) ?_
  obtain ⟨n3, e4, H⟩ := jbd H
  refine Eq.trans (jb_nx (i := .arraylength) (n := 1) (q := (8, [some (.ref p0), some (.long j1), none, some (.int i3)], [.int (Int32.ofNat n3), .int i3])) (jq qX9_kindOf 5 rfl) (jo_len e4)) ?_
  by_cases c5 : i3 < (Int32.ofNat n3)
  · rw [if_pos c5] at H
    refine Eq.trans (jb_nx (i := .if_icmp .ge 22) (n := 3) (q := (11, [some (.ref p0), some (.long j1), none, some (.int i3)], [])) (jq qX9_kindOf 6 rfl) (jo_icF (jz_geF c5))) ?_
    refine Eq.trans (jb_nx (i := .aload_n 0) (n := 1) (q := (12, [some (.ref p0), some (.long j1), none, some (.int i3)], [.ref p0])) (jq qX9_kindOf 7 rfl) rfl) ?_
    obtain ⟨a6, e7, H⟩ := jbd H
    refine Eq.trans (jb_nx (i := .getfield 9) (n := 3) (q := (15, [some (.ref p0), some (.long j1), none, some (.int i3)], [.ref a6])) (jq qX9_kindOf 8 rfl) (jo_gf rfl (jr_R_inv e7))) ?_
    refine Eq.trans (jb_nx (i := .iload_n 3) (n := 1) (q := (16, [some (.ref p0), some (.long j1), none, some (.int i3)], [.int i3, .ref a6])) (jq qX9_kindOf 9 rfl) rfl) ?_
    obtain ⟨y8, e9, H⟩ := jbd H
    refine Eq.trans (jb_nx (i := .laload) (n := 1) (q := (17, [some (.ref p0), some (.long j1), none, some (.int i3)], [.long y8])) (jq qX9_kindOf 10 rfl) (jo_lal e9)) ?_
    refine Eq.trans (jb_nx (i := .lload_n 1) (n := 1) (q := (18, [some (.ref p0), some (.long j1), none, some (.int i3)], [.long j1, .long y8])) (jq qX9_kindOf 11 rfl) rfl) ?_
    refine Eq.trans (jb_nx (i := .lcmp) (n := 1) (q := (19, [some (.ref p0), some (.long j1), none, some (.int i3)], [.int (lg_cmp y8 j1)])) (jq qX9_kindOf 12 rfl) rfl) ?_
    by_cases c10 : (lg_cmp y8 j1) = 0
    · rw [if_pos c10] at H
      refine Eq.trans (jb_nx (i := .ifCond .ne 5) (n := 3) (q := (22, [some (.ref p0), some (.long j1), none, some (.int i3)], [])) (jq qX9_kindOf 13 rfl) (jo_ifF (jz_neF c10))) ?_
      refine Eq.trans (jb_nx (i := .iload_n 3) (n := 1) (q := (23, [some (.ref p0), some (.long j1), none, some (.int i3)], [.int i3])) (jq qX9_kindOf 14 rfl) rfl) ?_
      exact Eq.trans (jb_rt (i := .ireturn) (n := 1) (jq qX9_kindOf 15 rfl) (jo_iret rfl rfl)) H
    · rw [if_neg c10] at H
      refine Eq.trans (jb_nx (i := .ifCond .ne 5) (n := 3) (q := (24, [some (.ref p0), some (.long j1), none, some (.int i3)], [])) (jq qX9_kindOf 13 rfl) (jo_ifT (jz_neT c10) rfl)) ?_
      refine Eq.trans (jb_nx (i := .iinc 3 1) (n := 3) (q := (27, [some (.ref p0), some (.long j1), none, some (.int (i3 + 1))], [])) (jq qX9_kindOf 16 rfl) rfl) ?_
      refine Eq.trans (jb_nx (i := .goto (-25)) (n := 3) (q := (2, [some (.ref p0), some (.long j1), none, some (.int (i3 + 1))], [])) (jq qX9_kindOf 17 rfl) rfl) ?_
      exact H
  · rw [if_neg c5] at H
    refine Eq.trans (jb_nx (i := .if_icmp .ge 22) (n := 3) (q := (30, [some (.ref p0), some (.long j1), none, some (.int i3)], [])) (jq qX9_kindOf 6 rfl) (jo_icT (jz_geT c5) rfl)) ?_
    refine Eq.trans (jb_nx (i := .bipush 35) (n := 2) (q := (32, [some (.ref p0), some (.long j1), none, some (.int i3)], [.int 35])) (jq qX9_kindOf 18 rfl) rfl) ?_
    exact Eq.trans (jb_rt (i := .ireturn) (n := 1) (jq qX9_kindOf 19 rfl) (jo_iret rfl rfl)) H
theorem gX9_kindOf {d : Nat} {p0 : Nat} {j1 : Int64} {h : jm_H} {r : jm_R} (H : (kX9_kindOf_2 d p0 j1 0 h) = some r) : jm_D (d + 1) mX9_kindOf [.ref p0, .long j1] h = some r := by
  rw [jm_D_body (Nat.le_of_ble_eq_true rfl)]
  show jm_B d mX9_kindOf (0, [some (.ref p0), some (.long j1), none, none], []) h = some r
  refine Eq.trans (jb_nx (i := .iconst 0) (n := 1) (q := (1, [some (.ref p0), some (.long j1), none, none], [.int 0])) (jq qX9_kindOf 0 rfl) rfl) ?_
  refine Eq.trans (jb_nx (i := .istore_n 3) (n := 1) (q := (2, [some (.ref p0), some (.long j1), none, some (.int 0)], [])) (jq qX9_kindOf 1 rfl) rfl) ?_
  exact H
/-! MaskPlays$Tokens readNumber (I)I -/
def tX9_readNumber : List (Nat × Instr × Nat) := [(0, .iconst 0, 1), (1, .istore_n 2, 1), (2, .iload_n 1, 1), (3, .istore_n 3, 1), (4, .iload_n 3, 1), (5, .aload_n 0, 1), (6, .getfield 53, 3), (9, .if_icmp .ge 34, 3), (12, .aload_n 0, 1), (13, .iload_n 3, 1), (14, .invokevirtual 70, 3), (17, .invokestatic 80, 3), (20, .ifCond .eq 23, 3), (23, .iload_n 2, 1), (24, .bipush 10, 2), (26, .imul, 1), (27, .aload_n 0, 1), (28, .iload_n 3, 1), (29, .invokevirtual 70, 3), (32, .iadd, 1), (33, .bipush 48, 2), (35, .isub, 1), (36, .istore_n 2, 1), (37, .iinc 3 1, 3), (40, .goto (-36), 3), (43, .iload_n 3, 1), (44, .iload_n 1, 1), (45, .isub, 1), (46, .bipush 6, 2), (48, .if_icmp .le 5, 3), (51, .iload_n 1, 1), (52, .ireturn, 1), (53, .aload_n 0, 1), (54, .bipush 36, 2), (56, .iload_n 1, 1), (57, .lconst 0, 1), (58, .iload_n 2, 1), (59, .invokevirtual 63, 3), (62, .iload_n 3, 1), (63, .ireturn, 1)]
set_option maxRecDepth 100000 in
theorem qX9_readNumber : ∀ q ∈ tX9_readNumber, decode cX9_readNumber q.1 = .ok (q.2.1, q.2.2) := by decide +kernel
noncomputable def kX9_readNumber_4 (d : Nat) (p0 : Nat) (i1 : Int32) (i2 : Int32) (i3 : Int32) (h : jm_H) : Option jm_R := jm_B d mX9_readNumber (4, [some (.ref p0), some (.int i1), some (.int i2), some (.int i3)], []) h
noncomputable def kX9_readNumber_43 (d : Nat) (p0 : Nat) (i1 : Int32) (i2 : Int32) (i3 : Int32) (h : jm_H) : Option jm_R := jm_B d mX9_readNumber (43, [some (.ref p0), some (.int i1), some (.int i2), some (.int i3)], []) h
theorem gX9_readNumber_4 {d : Nat} {p0 : Nat} {i1 : Int32} {i2 : Int32} {i3 : Int32} {h : jm_H} {r : jm_R} (H : ((jr_I h p0 9 8 0).bind fun x1 => (if i3 < x1 then jm_O h p0 9 (jc_I (jm_D d mX9_byteAt [.ref p0, .int i3] h) (fun x6 h4 => jc_I (jm_D d mX9_isDigit [.int x6] h4) (fun x9 h7 => (if x9 = 0 then kX9_readNumber_43 d p0 i1 i2 i3 h7 else jm_O h7 p0 9 (jc_I (jm_D d mX9_byteAt [.ref p0, .int i3] h7) (fun x13 h11 => kX9_readNumber_4 d p0 i1 (((i2 * 10) + x13) - 48) (i3 + 1) h11) jx))) jx) jx) else kX9_readNumber_43 d p0 i1 i2 i3 h)) = some r) : kX9_readNumber_4 d p0 i1 i2 i3 h = some r := by
  show jm_B d mX9_readNumber (4, [some (.ref p0), some (.int i1), some (.int i2), some (.int i3)], []) h = some r
  refine Eq.trans (jb_nx (i := .iload_n 3) (n := 1) (q := (5, [some (.ref p0), some (.int i1), some (.int i2), some (.int i3)], [.int i3])) (jq qX9_readNumber 4 rfl) rfl) ?_
  refine Eq.trans (jb_nx (i := .aload_n 0) (n := 1) (q := (6, [some (.ref p0), some (.int i1), some (.int i2), some (.int i3)], [.ref p0, .int i3])) (jq qX9_readNumber 5 rfl) rfl) ?_
  obtain ⟨x1, e2, H⟩ := jbd H
  refine Eq.trans (jb_nx (i := .getfield 53) (n := 3) (q := (9, [some (.ref p0), some (.int i1), some (.int i2), some (.int i3)], [.int x1, .int i3])) (jq qX9_readNumber 6 rfl) (jo_gf rfl (jr_I_inv e2))) ?_
  by_cases c3 : i3 < x1
  · rw [if_pos c3] at H
    refine Eq.trans (jb_nx (i := .if_icmp .ge 34) (n := 3) (q := (12, [some (.ref p0), some (.int i1), some (.int i2), some (.int i3)], [])) (jq qX9_readNumber 7 rfl) (jo_icF (jz_geF c3))) ?_
    refine Eq.trans (jb_nx (i := .aload_n 0) (n := 1) (q := (13, [some (.ref p0), some (.int i1), some (.int i2), some (.int i3)], [.ref p0])) (jq qX9_readNumber 8 rfl) rfl) ?_
    refine Eq.trans (jb_nx (i := .iload_n 3) (n := 1) (q := (14, [some (.ref p0), some (.int i1), some (.int i2), some (.int i3)], [.int i3, .ref p0])) (jq qX9_readNumber 9 rfl) rfl) ?_
    obtain ⟨b19, H⟩ := jm_O_inv H
    rcases jcI H with ⟨x6, h4, r5, H⟩ | ⟨w20, h21, r5, H⟩
    · refine Eq.trans (jb_nx (i := .invokevirtual 70) (n := 3) (q := (17, [some (.ref p0), some (.int i1), some (.int i2), some (.int i3)], [.int x6])) (jq qX9_readNumber 10 rfl) (jo_cv (y := mX9_byteAt) rfl (Nat.le_of_ble_eq_true rfl) rfl (Nat.le_of_ble_eq_true rfl) b19 rfl r5 jo_ret)) ?_
      rcases jcI H with ⟨x9, h7, r8, H⟩ | ⟨w17, h18, r8, H⟩
      · refine Eq.trans (jb_nx (i := .invokestatic 80) (n := 3) (q := (20, [some (.ref p0), some (.int i1), some (.int i2), some (.int i3)], [.int x9])) (jq qX9_readNumber 11 rfl) (jo_cs (y := mX9_isDigit) (w := 1) (by decide) rfl (Nat.le_of_ble_eq_true rfl) rfl (Nat.le_of_ble_eq_true rfl) rfl r8 jo_ret)) ?_
        by_cases c10 : x9 = 0
        · rw [if_pos c10] at H
          refine Eq.trans (jb_nx (i := .ifCond .eq 23) (n := 3) (q := (43, [some (.ref p0), some (.int i1), some (.int i2), some (.int i3)], [])) (jq qX9_readNumber 12 rfl) (jo_ifT (jz_eqT c10) rfl)) ?_
          exact H
        · rw [if_neg c10] at H
          refine Eq.trans (jb_nx (i := .ifCond .eq 23) (n := 3) (q := (23, [some (.ref p0), some (.int i1), some (.int i2), some (.int i3)], [])) (jq qX9_readNumber 12 rfl) (jo_ifF (jz_eqF c10))) ?_
          refine Eq.trans (jb_nx (i := .iload_n 2) (n := 1) (q := (24, [some (.ref p0), some (.int i1), some (.int i2), some (.int i3)], [.int i2])) (jq qX9_readNumber 13 rfl) rfl) ?_
          refine Eq.trans (jb_nx (i := .bipush 10) (n := 2) (q := (26, [some (.ref p0), some (.int i1), some (.int i2), some (.int i3)], [.int 10, .int i2])) (jq qX9_readNumber 14 rfl) rfl) ?_
          refine Eq.trans (jb_nx (i := .imul) (n := 1) (q := (27, [some (.ref p0), some (.int i1), some (.int i2), some (.int i3)], [.int (i2 * 10)])) (jq qX9_readNumber 15 rfl) rfl) ?_
          refine Eq.trans (jb_nx (i := .aload_n 0) (n := 1) (q := (28, [some (.ref p0), some (.int i1), some (.int i2), some (.int i3)], [.ref p0, .int (i2 * 10)])) (jq qX9_readNumber 16 rfl) rfl) ?_
          refine Eq.trans (jb_nx (i := .iload_n 3) (n := 1) (q := (29, [some (.ref p0), some (.int i1), some (.int i2), some (.int i3)], [.int i3, .ref p0, .int (i2 * 10)])) (jq qX9_readNumber 17 rfl) rfl) ?_
          obtain ⟨b14, H⟩ := jm_O_inv H
          rcases jcI H with ⟨x13, h11, r12, H⟩ | ⟨w15, h16, r12, H⟩
          · refine Eq.trans (jb_nx (i := .invokevirtual 70) (n := 3) (q := (32, [some (.ref p0), some (.int i1), some (.int i2), some (.int i3)], [.int x13, .int (i2 * 10)])) (jq qX9_readNumber 18 rfl) (jo_cv (y := mX9_byteAt) rfl (Nat.le_of_ble_eq_true rfl) rfl (Nat.le_of_ble_eq_true rfl) b14 rfl r12 jo_ret)) ?_
            refine Eq.trans (jb_nx (i := .iadd) (n := 1) (q := (33, [some (.ref p0), some (.int i1), some (.int i2), some (.int i3)], [.int ((i2 * 10) + x13)])) (jq qX9_readNumber 19 rfl) rfl) ?_
            refine Eq.trans (jb_nx (i := .bipush 48) (n := 2) (q := (35, [some (.ref p0), some (.int i1), some (.int i2), some (.int i3)], [.int 48, .int ((i2 * 10) + x13)])) (jq qX9_readNumber 20 rfl) rfl) ?_
            refine Eq.trans (jb_nx (i := .isub) (n := 1) (q := (36, [some (.ref p0), some (.int i1), some (.int i2), some (.int i3)], [.int (((i2 * 10) + x13) - 48)])) (jq qX9_readNumber 21 rfl) rfl) ?_
            refine Eq.trans (jb_nx (i := .istore_n 2) (n := 1) (q := (37, [some (.ref p0), some (.int i1), some (.int (((i2 * 10) + x13) - 48)), some (.int i3)], [])) (jq qX9_readNumber 22 rfl) rfl) ?_
            refine Eq.trans (jb_nx (i := .iinc 3 1) (n := 3) (q := (40, [some (.ref p0), some (.int i1), some (.int (((i2 * 10) + x13) - 48)), some (.int (i3 + 1))], [])) (jq qX9_readNumber 23 rfl) rfl) ?_
            refine Eq.trans (jb_nx (i := .goto (-36)) (n := 3) (q := (4, [some (.ref p0), some (.int i1), some (.int (((i2 * 10) + x13) - 48)), some (.int (i3 + 1))], [])) (jq qX9_readNumber 24 rfl) rfl) ?_
            exact H
          · exact Eq.trans (jb_rt (i := .invokevirtual 70) (n := 3) (jq qX9_readNumber 18 rfl) (jo_cv (y := mX9_byteAt) rfl (Nat.le_of_ble_eq_true rfl) rfl (Nat.le_of_ble_eq_true rfl) b14 rfl r12 (jo_exn rfl))) H
      · exact Eq.trans (jb_rt (i := .invokestatic 80) (n := 3) (jq qX9_readNumber 11 rfl) (jo_cs (y := mX9_isDigit) (w := 1) (by decide) rfl (Nat.le_of_ble_eq_true rfl) rfl (Nat.le_of_ble_eq_true rfl) rfl r8 (jo_exn rfl))) H
    · exact Eq.trans (jb_rt (i := .invokevirtual 70) (n := 3) (jq qX9_readNumber 10 rfl) (jo_cv (y := mX9_byteAt) rfl (Nat.le_of_ble_eq_true rfl) rfl (Nat.le_of_ble_eq_true rfl) b19 rfl r5 (jo_exn rfl))) H
  · rw [if_neg c3] at H
    refine Eq.trans (jb_nx (i := .if_icmp .ge 34) (n := 3) (q := (43, [some (.ref p0), some (.int i1), some (.int i2), some (.int i3)], [])) (jq qX9_readNumber 7 rfl) (jo_icT (jz_geT c3) rfl)) ?_
    exact H
theorem gX9_readNumber_43 {d : Nat} {p0 : Nat} {i1 : Int32} {i2 : Int32} {i3 : Int32} {h : jm_H} {r : jm_R} (H : ((if 6 < (i3 - i1) then some (.inl (some (.int i1)), h) else jm_O h p0 9 (jc_V (jm_D d mX9_add [.ref p0, .int 36, .int i1, .long 0, .int i2] h) (fun h23 => some (.inl (some (.int i3)), h23)) jx))) = some r) : kX9_readNumber_43 d p0 i1 i2 i3 h = some r := by
  show jm_B d mX9_readNumber (43, [some (.ref p0), some (.int i1), some (.int i2), some (.int i3)], []) h = some r
  refine Eq.trans (jb_nx (i := .iload_n 3) (n := 1) (q := (44, [some (.ref p0), some (.int i1), some (.int i2), some (.int i3)], [.int i3])) (jq qX9_readNumber 25 rfl) rfl) ?_
  refine Eq.trans (jb_nx (i := .iload_n 1) (n := 1) (q := (45, [some (.ref p0), some (.int i1), some (.int i2), some (.int i3)], [.int i1, .int i3])) (jq qX9_readNumber 26 rfl) rfl) ?_
  refine Eq.trans (jb_nx (i := .isub) (n := 1) (q := (46, [some (.ref p0), some (.int i1), some (.int i2), some (.int i3)], [.int (i3 - i1)])) (jq qX9_readNumber 27 rfl) rfl) ?_
  refine Eq.trans (jb_nx (i := .bipush 6) (n := 2) (q := (48, [some (.ref p0), some (.int i1), some (.int i2), some (.int i3)], [.int 6, .int (i3 - i1)])) (jq qX9_readNumber 28 rfl) rfl) ?_
  by_cases c22 : 6 < (i3 - i1)
  · rw [if_pos c22] at H
    refine Eq.trans (jb_nx (i := .if_icmp .le 5) (n := 3) (q := (51, [some (.ref p0), some (.int i1), some (.int i2), some (.int i3)], [])) (jq qX9_readNumber 29 rfl) (jo_icF (jz_leF c22))) ?_
    refine Eq.trans (jb_nx (i := .iload_n 1) (n := 1) (q := (52, [some (.ref p0), some (.int i1), some (.int i2), some (.int i3)], [.int i1])) (jq qX9_readNumber 30 rfl) rfl) ?_
    exact Eq.trans (jb_rt (i := .ireturn) (n := 1) (jq qX9_readNumber 31 rfl) (jo_iret rfl rfl)) H
  · rw [if_neg c22] at H
    refine Eq.trans (jb_nx (i := .if_icmp .le 5) (n := 3) (q := (53, [some (.ref p0), some (.int i1), some (.int i2), some (.int i3)], [])) (jq qX9_readNumber 29 rfl) (jo_icT (jz_leT c22) rfl)) ?_
    refine Eq.trans (jb_nx (i := .aload_n 0) (n := 1) (q := (54, [some (.ref p0), some (.int i1), some (.int i2), some (.int i3)], [.ref p0])) (jq qX9_readNumber 32 rfl) rfl) ?_
    refine Eq.trans (jb_nx (i := .bipush 36) (n := 2) (q := (56, [some (.ref p0), some (.int i1), some (.int i2), some (.int i3)], [.int 36, .ref p0])) (jq qX9_readNumber 33 rfl) rfl) ?_
    refine Eq.trans (jb_nx (i := .iload_n 1) (n := 1) (q := (57, [some (.ref p0), some (.int i1), some (.int i2), some (.int i3)], [.int i1, .int 36, .ref p0])) (jq qX9_readNumber 34 rfl) rfl) ?_
    refine Eq.trans (jb_nx (i := .lconst 0) (n := 1) (q := (58, [some (.ref p0), some (.int i1), some (.int i2), some (.int i3)], [.long 0, .int i1, .int 36, .ref p0])) (jq qX9_readNumber 35 rfl) rfl) ?_
    refine Eq.trans (jb_nx (i := .iload_n 2) (n := 1) (q := (59, [some (.ref p0), some (.int i1), some (.int i2), some (.int i3)], [.int i2, .long 0, .int i1, .int 36, .ref p0])) (jq qX9_readNumber 36 rfl) rfl) ?_
    obtain ⟨b25, H⟩ := jm_O_inv H
    rcases jcV H with ⟨h23, r24, H⟩ | ⟨w26, h27, r24, H⟩
    · refine Eq.trans (jb_nx (i := .invokevirtual 63) (n := 3) (q := (62, [some (.ref p0), some (.int i1), some (.int i2), some (.int i3)], [])) (jq qX9_readNumber 37 rfl) (jo_cv (y := mX9_add) rfl (Nat.le_of_ble_eq_true rfl) rfl (Nat.le_of_ble_eq_true rfl) b25 rfl r24 jo_ret)) ?_
      refine Eq.trans (jb_nx (i := .iload_n 3) (n := 1) (q := (63, [some (.ref p0), some (.int i1), some (.int i2), some (.int i3)], [.int i3])) (jq qX9_readNumber 38 rfl) rfl) ?_
      exact Eq.trans (jb_rt (i := .ireturn) (n := 1) (jq qX9_readNumber 39 rfl) (jo_iret rfl rfl)) H
    · exact Eq.trans (jb_rt (i := .invokevirtual 63) (n := 3) (jq qX9_readNumber 37 rfl) (jo_cv (y := mX9_add) rfl (Nat.le_of_ble_eq_true rfl) rfl (Nat.le_of_ble_eq_true rfl) b25 rfl r24 (jo_exn rfl))) H
theorem gX9_readNumber {d : Nat} {p0 : Nat} {i1 : Int32} {h : jm_H} {r : jm_R} (H : (kX9_readNumber_4 d p0 i1 0 i1 h) = some r) : jm_D (d + 1) mX9_readNumber [.ref p0, .int i1] h = some r := by
  rw [jm_D_body (Nat.le_of_ble_eq_true rfl)]
  show jm_B d mX9_readNumber (0, [some (.ref p0), some (.int i1), none, none], []) h = some r
  refine Eq.trans (jb_nx (i := .iconst 0) (n := 1) (q := (1, [some (.ref p0), some (.int i1), none, none], [.int 0])) (jq qX9_readNumber 0 rfl) rfl) ?_
  refine Eq.trans (jb_nx (i := .istore_n 2) (n := 1) (q := (2, [some (.ref p0), some (.int i1), some (.int 0), none], [])) (jq qX9_readNumber 1 rfl) rfl) ?_
  refine Eq.trans (jb_nx (i := .iload_n 1) (n := 1) (q := (3, [some (.ref p0), some (.int i1), some (.int 0), none], [.int i1])) (jq qX9_readNumber 2 rfl) rfl) ?_
  refine Eq.trans (jb_nx (i := .istore_n 3) (n := 1) (q := (4, [some (.ref p0), some (.int i1), some (.int 0), some (.int i1)], [])) (jq qX9_readNumber 3 rfl) rfl) ?_
  exact H
/-! MaskPlays$Tokens readSymbol (I)I -/
def tX9_readSymbol : List (Nat × Instr × Nat) := [(0, .ldc 93, 2), (2, .aload_n 0, 1), (3, .iload_n 1, 1), (4, .invokevirtual 70, 3), (7, .i2c, 1), (8, .invokevirtual 95, 3), (11, .istore_n 2, 1), (12, .iload_n 2, 1), (13, .ifCond .ge 5, 3), (16, .iload_n 1, 1), (17, .ireturn, 1), (18, .bipush 20, 2), (20, .iload_n 2, 1), (21, .iadd, 1), (22, .istore_n 3, 1), (23, .aload_n 0, 1), (24, .iload_n 1, 1), (25, .iconst 1, 1), (26, .iadd, 1), (27, .invokevirtual 70, 3), (30, .bipush 61, 2), (32, .if_icmp .ne 39, 3), (35, .iload_n 3, 1), (36, .bipush 30, 2), (38, .if_icmp .eq 9, 3), (41, .iload_n 3, 1), (42, .bipush 31, 2), (44, .if_icmp .ne 27, 3), (47, .aload_n 0, 1), (48, .iload_n 3, 1), (49, .bipush 30, 2), (51, .if_icmp .ne 8, 3), (54, .bipush 33, 2), (56, .goto 5, 3), (59, .bipush 34, 2), (61, .iload_n 1, 1), (62, .lconst 0, 1), (63, .iconst 0, 1), (64, .invokevirtual 63, 3), (67, .iload_n 1, 1), (68, .iconst 2, 1), (69, .iadd, 1), (70, .ireturn, 1), (71, .aload_n 0, 1), (72, .iload_n 3, 1), (73, .iload_n 1, 1), (74, .lconst 0, 1), (75, .iconst 0, 1), (76, .invokevirtual 63, 3), (79, .iload_n 1, 1), (80, .iconst 1, 1), (81, .iadd, 1), (82, .ireturn, 1)]
set_option maxRecDepth 100000 in
theorem qX9_readSymbol : ∀ q ∈ tX9_readSymbol, decode cX9_readSymbol q.1 = .ok (q.2.1, q.2.2) := by decide +kernel
noncomputable def kX9_readSymbol_47 (d : Nat) (p0 : Nat) (i1 : Int32) (o2 : Option Value) (i3 : Int32) (h : jm_H) : Option jm_R := jm_B d mX9_readSymbol (47, [some (.ref p0), some (.int i1), o2, some (.int i3)], []) h
theorem gX9_readSymbol_47 {d : Nat} {p0 : Nat} {i1 : Int32} {o2 : Option Value} {i3 : Int32} {h : jm_H} {r : jm_R} (H : ((if i3 = 30 then jm_O h p0 9 (jc_V (jm_D d mX9_add [.ref p0, .int 33, .int i1, .long 0, .int 0] h) (fun h39 => some (.inl (some (.int (i1 + 2))), h39)) jx) else jm_O h p0 9 (jc_V (jm_D d mX9_add [.ref p0, .int 34, .int i1, .long 0, .int 0] h) (fun h34 => some (.inl (some (.int (i1 + 2))), h34)) jx))) = some r) : kX9_readSymbol_47 d p0 i1 o2 i3 h = some r := by
  show jm_B d mX9_readSymbol (47, [some (.ref p0), some (.int i1), o2, some (.int i3)], []) h = some r
  refine Eq.trans (jb_nx (i := .aload_n 0) (n := 1) (q := (48, [some (.ref p0), some (.int i1), o2, some (.int i3)], [.ref p0])) (jq qX9_readSymbol 28 rfl) rfl) ?_
  refine Eq.trans (jb_nx (i := .iload_n 3) (n := 1) (q := (49, [some (.ref p0), some (.int i1), o2, some (.int i3)], [.int i3, .ref p0])) (jq qX9_readSymbol 29 rfl) rfl) ?_
  refine Eq.trans (jb_nx (i := .bipush 30) (n := 2) (q := (51, [some (.ref p0), some (.int i1), o2, some (.int i3)], [.int 30, .int i3, .ref p0])) (jq qX9_readSymbol 30 rfl) rfl) ?_
  by_cases c33 : i3 = 30
  · rw [if_pos c33] at H
    refine Eq.trans (jb_nx (i := .if_icmp .ne 8) (n := 3) (q := (54, [some (.ref p0), some (.int i1), o2, some (.int i3)], [.ref p0])) (jq qX9_readSymbol 31 rfl) (jo_icF (jz_neF c33))) ?_
    refine Eq.trans (jb_nx (i := .bipush 33) (n := 2) (q := (56, [some (.ref p0), some (.int i1), o2, some (.int i3)], [.int 33, .ref p0])) (jq qX9_readSymbol 32 rfl) rfl) ?_
    refine Eq.trans (jb_nx (i := .goto 5) (n := 3) (q := (61, [some (.ref p0), some (.int i1), o2, some (.int i3)], [.int 33, .ref p0])) (jq qX9_readSymbol 33 rfl) rfl) ?_
    refine Eq.trans (jb_nx (i := .iload_n 1) (n := 1) (q := (62, [some (.ref p0), some (.int i1), o2, some (.int i3)], [.int i1, .int 33, .ref p0])) (jq qX9_readSymbol 35 rfl) rfl) ?_
    refine Eq.trans (jb_nx (i := .lconst 0) (n := 1) (q := (63, [some (.ref p0), some (.int i1), o2, some (.int i3)], [.long 0, .int i1, .int 33, .ref p0])) (jq qX9_readSymbol 36 rfl) rfl) ?_
    refine Eq.trans (jb_nx (i := .iconst 0) (n := 1) (q := (64, [some (.ref p0), some (.int i1), o2, some (.int i3)], [.int 0, .long 0, .int i1, .int 33, .ref p0])) (jq qX9_readSymbol 37 rfl) rfl) ?_
    obtain ⟨b41, H⟩ := jm_O_inv H
    rcases jcV H with ⟨h39, r40, H⟩ | ⟨w42, h43, r40, H⟩
    · refine Eq.trans (jb_nx (i := .invokevirtual 63) (n := 3) (q := (67, [some (.ref p0), some (.int i1), o2, some (.int i3)], [])) (jq qX9_readSymbol 38 rfl) (jo_cv (y := mX9_add) rfl (Nat.le_of_ble_eq_true rfl) rfl (Nat.le_of_ble_eq_true rfl) b41 rfl r40 jo_ret)) ?_
      refine Eq.trans (jb_nx (i := .iload_n 1) (n := 1) (q := (68, [some (.ref p0), some (.int i1), o2, some (.int i3)], [.int i1])) (jq qX9_readSymbol 39 rfl) rfl) ?_
      refine Eq.trans (jb_nx (i := .iconst 2) (n := 1) (q := (69, [some (.ref p0), some (.int i1), o2, some (.int i3)], [.int 2, .int i1])) (jq qX9_readSymbol 40 rfl) rfl) ?_
      refine Eq.trans (jb_nx (i := .iadd) (n := 1) (q := (70, [some (.ref p0), some (.int i1), o2, some (.int i3)], [.int (i1 + 2)])) (jq qX9_readSymbol 41 rfl) rfl) ?_
      exact Eq.trans (jb_rt (i := .ireturn) (n := 1) (jq qX9_readSymbol 42 rfl) (jo_iret rfl rfl)) H
    · exact Eq.trans (jb_rt (i := .invokevirtual 63) (n := 3) (jq qX9_readSymbol 38 rfl) (jo_cv (y := mX9_add) rfl (Nat.le_of_ble_eq_true rfl) rfl (Nat.le_of_ble_eq_true rfl) b41 rfl r40 (jo_exn rfl))) H
  · rw [if_neg c33] at H
    refine Eq.trans (jb_nx (i := .if_icmp .ne 8) (n := 3) (q := (59, [some (.ref p0), some (.int i1), o2, some (.int i3)], [.ref p0])) (jq qX9_readSymbol 31 rfl) (jo_icT (jz_neT c33) rfl)) ?_
    refine Eq.trans (jb_nx (i := .bipush 34) (n := 2) (q := (61, [some (.ref p0), some (.int i1), o2, some (.int i3)], [.int 34, .ref p0])) (jq qX9_readSymbol 34 rfl) rfl) ?_
    refine Eq.trans (jb_nx (i := .iload_n 1) (n := 1) (q := (62, [some (.ref p0), some (.int i1), o2, some (.int i3)], [.int i1, .int 34, .ref p0])) (jq qX9_readSymbol 35 rfl) rfl) ?_
    refine Eq.trans (jb_nx (i := .lconst 0) (n := 1) (q := (63, [some (.ref p0), some (.int i1), o2, some (.int i3)], [.long 0, .int i1, .int 34, .ref p0])) (jq qX9_readSymbol 36 rfl) rfl) ?_
    refine Eq.trans (jb_nx (i := .iconst 0) (n := 1) (q := (64, [some (.ref p0), some (.int i1), o2, some (.int i3)], [.int 0, .long 0, .int i1, .int 34, .ref p0])) (jq qX9_readSymbol 37 rfl) rfl) ?_
    obtain ⟨b36, H⟩ := jm_O_inv H
    rcases jcV H with ⟨h34, r35, H⟩ | ⟨w37, h38, r35, H⟩
    · refine Eq.trans (jb_nx (i := .invokevirtual 63) (n := 3) (q := (67, [some (.ref p0), some (.int i1), o2, some (.int i3)], [])) (jq qX9_readSymbol 38 rfl) (jo_cv (y := mX9_add) rfl (Nat.le_of_ble_eq_true rfl) rfl (Nat.le_of_ble_eq_true rfl) b36 rfl r35 jo_ret)) ?_
      refine Eq.trans (jb_nx (i := .iload_n 1) (n := 1) (q := (68, [some (.ref p0), some (.int i1), o2, some (.int i3)], [.int i1])) (jq qX9_readSymbol 39 rfl) rfl) ?_
      refine Eq.trans (jb_nx (i := .iconst 2) (n := 1) (q := (69, [some (.ref p0), some (.int i1), o2, some (.int i3)], [.int 2, .int i1])) (jq qX9_readSymbol 40 rfl) rfl) ?_
      refine Eq.trans (jb_nx (i := .iadd) (n := 1) (q := (70, [some (.ref p0), some (.int i1), o2, some (.int i3)], [.int (i1 + 2)])) (jq qX9_readSymbol 41 rfl) rfl) ?_
      exact Eq.trans (jb_rt (i := .ireturn) (n := 1) (jq qX9_readSymbol 42 rfl) (jo_iret rfl rfl)) H
    · exact Eq.trans (jb_rt (i := .invokevirtual 63) (n := 3) (jq qX9_readSymbol 38 rfl) (jo_cv (y := mX9_add) rfl (Nat.le_of_ble_eq_true rfl) rfl (Nat.le_of_ble_eq_true rfl) b36 rfl r35 (jo_exn rfl))) H
theorem gX9_readSymbol {d : Nat} {p0 : Nat} {i1 : Int32} {h : jm_H} {r : jm_R} (H : (jm_O h p0 9 (jc_I (jm_D d mX9_byteAt [.ref p0, .int i1] h) (fun x3 h1 => jm_O h1 1 14 (jc_I (jm_D d mJ0_indexOf_0f7a4 [.ref 1, .int (UInt32.toInt32 (Int32.toUInt32 x3 % 65536))] h1) (fun x6 h4 => (if x6 < 0 then some (.inl (some (.int i1)), h4) else jm_O h4 p0 9 (jc_I (jm_D d mX9_byteAt [.ref p0, .int (i1 + 1)] h4) (fun x10 h8 => (if x10 = 61 then (if (20 + x6) = 30 then kX9_readSymbol_47 d p0 i1 (some (.int x6)) (20 + x6) h8 else (if (20 + x6) = 31 then kX9_readSymbol_47 d p0 i1 (some (.int x6)) (20 + x6) h8 else jm_O h8 p0 9 (jc_V (jm_D d mX9_add [.ref p0, .int (20 + x6), .int i1, .long 0, .int 0] h8) (fun h19 => some (.inl (some (.int (i1 + 1))), h19)) jx))) else jm_O h8 p0 9 (jc_V (jm_D d mX9_add [.ref p0, .int (20 + x6), .int i1, .long 0, .int 0] h8) (fun h12 => some (.inl (some (.int (i1 + 1))), h12)) jx))) jx))) jx)) jx)) = some r) : jm_D (d + 1) mX9_readSymbol [.ref p0, .int i1] h = some r := by
  rw [jm_D_body (Nat.le_of_ble_eq_true rfl)]
  show jm_B d mX9_readSymbol (0, [some (.ref p0), some (.int i1), none, none], []) h = some r
  refine Eq.trans (jb_nx (i := .ldc 93) (n := 2) (q := (2, [some (.ref p0), some (.int i1), none, none], [.ref 1])) (jq qX9_readSymbol 0 rfl) rfl) ?_
  refine Eq.trans (jb_nx (i := .aload_n 0) (n := 1) (q := (3, [some (.ref p0), some (.int i1), none, none], [.ref p0, .ref 1])) (jq qX9_readSymbol 1 rfl) rfl) ?_
  refine Eq.trans (jb_nx (i := .iload_n 1) (n := 1) (q := (4, [some (.ref p0), some (.int i1), none, none], [.int i1, .ref p0, .ref 1])) (jq qX9_readSymbol 2 rfl) rfl) ?_
  obtain ⟨b30, H⟩ := jm_O_inv H
  rcases jcI H with ⟨x3, h1, r2, H⟩ | ⟨w31, h32, r2, H⟩
  · refine Eq.trans (jb_nx (i := .invokevirtual 70) (n := 3) (q := (7, [some (.ref p0), some (.int i1), none, none], [.int x3, .ref 1])) (jq qX9_readSymbol 3 rfl) (jo_cv (y := mX9_byteAt) rfl (Nat.le_of_ble_eq_true rfl) rfl (Nat.le_of_ble_eq_true rfl) b30 rfl r2 jo_ret)) ?_
    refine Eq.trans (jb_nx (i := .i2c) (n := 1) (q := (8, [some (.ref p0), some (.int i1), none, none], [.int (UInt32.toInt32 (Int32.toUInt32 x3 % 65536)), .ref 1])) (jq qX9_readSymbol 4 rfl) rfl) ?_
    obtain ⟨b27, H⟩ := jm_O_inv H
    rcases jcI H with ⟨x6, h4, r5, H⟩ | ⟨w28, h29, r5, H⟩
    · refine Eq.trans (jb_nx (i := .invokevirtual 95) (n := 3) (q := (11, [some (.ref p0), some (.int i1), none, none], [.int x6])) (jq qX9_readSymbol 5 rfl) (jo_cv (y := mJ0_indexOf_0f7a4) rfl (Nat.le_of_ble_eq_true rfl) rfl (Nat.le_of_ble_eq_true rfl) b27 rfl r5 jo_ret)) ?_
      refine Eq.trans (jb_nx (i := .istore_n 2) (n := 1) (q := (12, [some (.ref p0), some (.int i1), some (.int x6), none], [])) (jq qX9_readSymbol 6 rfl) rfl) ?_
      refine Eq.trans (jb_nx (i := .iload_n 2) (n := 1) (q := (13, [some (.ref p0), some (.int i1), some (.int x6), none], [.int x6])) (jq qX9_readSymbol 7 rfl) rfl) ?_
      by_cases c7 : x6 < 0
      · rw [if_pos c7] at H
        refine Eq.trans (jb_nx (i := .ifCond .ge 5) (n := 3) (q := (16, [some (.ref p0), some (.int i1), some (.int x6), none], [])) (jq qX9_readSymbol 8 rfl) (jo_ifF (jz_geF c7))) ?_
        refine Eq.trans (jb_nx (i := .iload_n 1) (n := 1) (q := (17, [some (.ref p0), some (.int i1), some (.int x6), none], [.int i1])) (jq qX9_readSymbol 9 rfl) rfl) ?_
        exact Eq.trans (jb_rt (i := .ireturn) (n := 1) (jq qX9_readSymbol 10 rfl) (jo_iret rfl rfl)) H
      · rw [if_neg c7] at H
        refine Eq.trans (jb_nx (i := .ifCond .ge 5) (n := 3) (q := (18, [some (.ref p0), some (.int i1), some (.int x6), none], [])) (jq qX9_readSymbol 8 rfl) (jo_ifT (jz_geT c7) rfl)) ?_
        refine Eq.trans (jb_nx (i := .bipush 20) (n := 2) (q := (20, [some (.ref p0), some (.int i1), some (.int x6), none], [.int 20])) (jq qX9_readSymbol 11 rfl) rfl) ?_
        refine Eq.trans (jb_nx (i := .iload_n 2) (n := 1) (q := (21, [some (.ref p0), some (.int i1), some (.int x6), none], [.int x6, .int 20])) (jq qX9_readSymbol 12 rfl) rfl) ?_
        refine Eq.trans (jb_nx (i := .iadd) (n := 1) (q := (22, [some (.ref p0), some (.int i1), some (.int x6), none], [.int (20 + x6)])) (jq qX9_readSymbol 13 rfl) rfl) ?_
        refine Eq.trans (jb_nx (i := .istore_n 3) (n := 1) (q := (23, [some (.ref p0), some (.int i1), some (.int x6), some (.int (20 + x6))], [])) (jq qX9_readSymbol 14 rfl) rfl) ?_
        refine Eq.trans (jb_nx (i := .aload_n 0) (n := 1) (q := (24, [some (.ref p0), some (.int i1), some (.int x6), some (.int (20 + x6))], [.ref p0])) (jq qX9_readSymbol 15 rfl) rfl) ?_
        refine Eq.trans (jb_nx (i := .iload_n 1) (n := 1) (q := (25, [some (.ref p0), some (.int i1), some (.int x6), some (.int (20 + x6))], [.int i1, .ref p0])) (jq qX9_readSymbol 16 rfl) rfl) ?_
        refine Eq.trans (jb_nx (i := .iconst 1) (n := 1) (q := (26, [some (.ref p0), some (.int i1), some (.int x6), some (.int (20 + x6))], [.int 1, .int i1, .ref p0])) (jq qX9_readSymbol 17 rfl) rfl) ?_
        refine Eq.trans (jb_nx (i := .iadd) (n := 1) (q := (27, [some (.ref p0), some (.int i1), some (.int x6), some (.int (20 + x6))], [.int (i1 + 1), .ref p0])) (jq qX9_readSymbol 18 rfl) rfl) ?_
        obtain ⟨b24, H⟩ := jm_O_inv H
        rcases jcI H with ⟨x10, h8, r9, H⟩ | ⟨w25, h26, r9, H⟩
        · refine Eq.trans (jb_nx (i := .invokevirtual 70) (n := 3) (q := (30, [some (.ref p0), some (.int i1), some (.int x6), some (.int (20 + x6))], [.int x10])) (jq qX9_readSymbol 19 rfl) (jo_cv (y := mX9_byteAt) rfl (Nat.le_of_ble_eq_true rfl) rfl (Nat.le_of_ble_eq_true rfl) b24 rfl r9 jo_ret)) ?_
          refine Eq.trans (jb_nx (i := .bipush 61) (n := 2) (q := (32, [some (.ref p0), some (.int i1), some (.int x6), some (.int (20 + x6))], [.int 61, .int x10])) (jq qX9_readSymbol 20 rfl) rfl) ?_
          by_cases c11 : x10 = 61
          · rw [if_pos c11] at H
            refine Eq.trans (jb_nx (i := .if_icmp .ne 39) (n := 3) (q := (35, [some (.ref p0), some (.int i1), some (.int x6), some (.int (20 + x6))], [])) (jq qX9_readSymbol 21 rfl) (jo_icF (jz_neF c11))) ?_
            refine Eq.trans (jb_nx (i := .iload_n 3) (n := 1) (q := (36, [some (.ref p0), some (.int i1), some (.int x6), some (.int (20 + x6))], [.int (20 + x6)])) (jq qX9_readSymbol 22 rfl) rfl) ?_
            refine Eq.trans (jb_nx (i := .bipush 30) (n := 2) (q := (38, [some (.ref p0), some (.int i1), some (.int x6), some (.int (20 + x6))], [.int 30, .int (20 + x6)])) (jq qX9_readSymbol 23 rfl) rfl) ?_
            by_cases c17 : (20 + x6) = 30
            · rw [if_pos c17] at H
              refine Eq.trans (jb_nx (i := .if_icmp .eq 9) (n := 3) (q := (47, [some (.ref p0), some (.int i1), some (.int x6), some (.int (20 + x6))], [])) (jq qX9_readSymbol 24 rfl) (jo_icT (jz_eqT c17) rfl)) ?_
              exact H
            · rw [if_neg c17] at H
              refine Eq.trans (jb_nx (i := .if_icmp .eq 9) (n := 3) (q := (41, [some (.ref p0), some (.int i1), some (.int x6), some (.int (20 + x6))], [])) (jq qX9_readSymbol 24 rfl) (jo_icF (jz_eqF c17))) ?_
              refine Eq.trans (jb_nx (i := .iload_n 3) (n := 1) (q := (42, [some (.ref p0), some (.int i1), some (.int x6), some (.int (20 + x6))], [.int (20 + x6)])) (jq qX9_readSymbol 25 rfl) rfl) ?_
              refine Eq.trans (jb_nx (i := .bipush 31) (n := 2) (q := (44, [some (.ref p0), some (.int i1), some (.int x6), some (.int (20 + x6))], [.int 31, .int (20 + x6)])) (jq qX9_readSymbol 26 rfl) rfl) ?_
              by_cases c18 : (20 + x6) = 31
              · rw [if_pos c18] at H
                refine Eq.trans (jb_nx (i := .if_icmp .ne 27) (n := 3) (q := (47, [some (.ref p0), some (.int i1), some (.int x6), some (.int (20 + x6))], [])) (jq qX9_readSymbol 27 rfl) (jo_icF (jz_neF c18))) ?_
                exact H
              · rw [if_neg c18] at H
                refine Eq.trans (jb_nx (i := .if_icmp .ne 27) (n := 3) (q := (71, [some (.ref p0), some (.int i1), some (.int x6), some (.int (20 + x6))], [])) (jq qX9_readSymbol 27 rfl) (jo_icT (jz_neT c18) rfl)) ?_
                refine Eq.trans (jb_nx (i := .aload_n 0) (n := 1) (q := (72, [some (.ref p0), some (.int i1), some (.int x6), some (.int (20 + x6))], [.ref p0])) (jq qX9_readSymbol 43 rfl) rfl) ?_
                refine Eq.trans (jb_nx (i := .iload_n 3) (n := 1) (q := (73, [some (.ref p0), some (.int i1), some (.int x6), some (.int (20 + x6))], [.int (20 + x6), .ref p0])) (jq qX9_readSymbol 44 rfl) rfl) ?_
                refine Eq.trans (jb_nx (i := .iload_n 1) (n := 1) (q := (74, [some (.ref p0), some (.int i1), some (.int x6), some (.int (20 + x6))], [.int i1, .int (20 + x6), .ref p0])) (jq qX9_readSymbol 45 rfl) rfl) ?_
                refine Eq.trans (jb_nx (i := .lconst 0) (n := 1) (q := (75, [some (.ref p0), some (.int i1), some (.int x6), some (.int (20 + x6))], [.long 0, .int i1, .int (20 + x6), .ref p0])) (jq qX9_readSymbol 46 rfl) rfl) ?_
                refine Eq.trans (jb_nx (i := .iconst 0) (n := 1) (q := (76, [some (.ref p0), some (.int i1), some (.int x6), some (.int (20 + x6))], [.int 0, .long 0, .int i1, .int (20 + x6), .ref p0])) (jq qX9_readSymbol 47 rfl) rfl) ?_
                obtain ⟨b21, H⟩ := jm_O_inv H
                rcases jcV H with ⟨h19, r20, H⟩ | ⟨w22, h23, r20, H⟩
                · refine Eq.trans (jb_nx (i := .invokevirtual 63) (n := 3) (q := (79, [some (.ref p0), some (.int i1), some (.int x6), some (.int (20 + x6))], [])) (jq qX9_readSymbol 48 rfl) (jo_cv (y := mX9_add) rfl (Nat.le_of_ble_eq_true rfl) rfl (Nat.le_of_ble_eq_true rfl) b21 rfl r20 jo_ret)) ?_
                  refine Eq.trans (jb_nx (i := .iload_n 1) (n := 1) (q := (80, [some (.ref p0), some (.int i1), some (.int x6), some (.int (20 + x6))], [.int i1])) (jq qX9_readSymbol 49 rfl) rfl) ?_
                  refine Eq.trans (jb_nx (i := .iconst 1) (n := 1) (q := (81, [some (.ref p0), some (.int i1), some (.int x6), some (.int (20 + x6))], [.int 1, .int i1])) (jq qX9_readSymbol 50 rfl) rfl) ?_
                  refine Eq.trans (jb_nx (i := .iadd) (n := 1) (q := (82, [some (.ref p0), some (.int i1), some (.int x6), some (.int (20 + x6))], [.int (i1 + 1)])) (jq qX9_readSymbol 51 rfl) rfl) ?_
                  exact Eq.trans (jb_rt (i := .ireturn) (n := 1) (jq qX9_readSymbol 52 rfl) (jo_iret rfl rfl)) H
                · exact Eq.trans (jb_rt (i := .invokevirtual 63) (n := 3) (jq qX9_readSymbol 48 rfl) (jo_cv (y := mX9_add) rfl (Nat.le_of_ble_eq_true rfl) rfl (Nat.le_of_ble_eq_true rfl) b21 rfl r20 (jo_exn rfl))) H
          · rw [if_neg c11] at H
            refine Eq.trans (jb_nx (i := .if_icmp .ne 39) (n := 3) (q := (71, [some (.ref p0), some (.int i1), some (.int x6), some (.int (20 + x6))], [])) (jq qX9_readSymbol 21 rfl) (jo_icT (jz_neT c11) rfl)) ?_
            refine Eq.trans (jb_nx (i := .aload_n 0) (n := 1) (q := (72, [some (.ref p0), some (.int i1), some (.int x6), some (.int (20 + x6))], [.ref p0])) (jq qX9_readSymbol 43 rfl) rfl) ?_
            refine Eq.trans (jb_nx (i := .iload_n 3) (n := 1) (q := (73, [some (.ref p0), some (.int i1), some (.int x6), some (.int (20 + x6))], [.int (20 + x6), .ref p0])) (jq qX9_readSymbol 44 rfl) rfl) ?_
            refine Eq.trans (jb_nx (i := .iload_n 1) (n := 1) (q := (74, [some (.ref p0), some (.int i1), some (.int x6), some (.int (20 + x6))], [.int i1, .int (20 + x6), .ref p0])) (jq qX9_readSymbol 45 rfl) rfl) ?_
            refine Eq.trans (jb_nx (i := .lconst 0) (n := 1) (q := (75, [some (.ref p0), some (.int i1), some (.int x6), some (.int (20 + x6))], [.long 0, .int i1, .int (20 + x6), .ref p0])) (jq qX9_readSymbol 46 rfl) rfl) ?_
            refine Eq.trans (jb_nx (i := .iconst 0) (n := 1) (q := (76, [some (.ref p0), some (.int i1), some (.int x6), some (.int (20 + x6))], [.int 0, .long 0, .int i1, .int (20 + x6), .ref p0])) (jq qX9_readSymbol 47 rfl) rfl) ?_
            obtain ⟨b14, H⟩ := jm_O_inv H
            rcases jcV H with ⟨h12, r13, H⟩ | ⟨w15, h16, r13, H⟩
            · refine Eq.trans (jb_nx (i := .invokevirtual 63) (n := 3) (q := (79, [some (.ref p0), some (.int i1), some (.int x6), some (.int (20 + x6))], [])) (jq qX9_readSymbol 48 rfl) (jo_cv (y := mX9_add) rfl (Nat.le_of_ble_eq_true rfl) rfl (Nat.le_of_ble_eq_true rfl) b14 rfl r13 jo_ret)) ?_
              refine Eq.trans (jb_nx (i := .iload_n 1) (n := 1) (q := (80, [some (.ref p0), some (.int i1), some (.int x6), some (.int (20 + x6))], [.int i1])) (jq qX9_readSymbol 49 rfl) rfl) ?_
              refine Eq.trans (jb_nx (i := .iconst 1) (n := 1) (q := (81, [some (.ref p0), some (.int i1), some (.int x6), some (.int (20 + x6))], [.int 1, .int i1])) (jq qX9_readSymbol 50 rfl) rfl) ?_
              refine Eq.trans (jb_nx (i := .iadd) (n := 1) (q := (82, [some (.ref p0), some (.int i1), some (.int x6), some (.int (20 + x6))], [.int (i1 + 1)])) (jq qX9_readSymbol 51 rfl) rfl) ?_
              exact Eq.trans (jb_rt (i := .ireturn) (n := 1) (jq qX9_readSymbol 52 rfl) (jo_iret rfl rfl)) H
            · exact Eq.trans (jb_rt (i := .invokevirtual 63) (n := 3) (jq qX9_readSymbol 48 rfl) (jo_cv (y := mX9_add) rfl (Nat.le_of_ble_eq_true rfl) rfl (Nat.le_of_ble_eq_true rfl) b14 rfl r13 (jo_exn rfl))) H
        · exact Eq.trans (jb_rt (i := .invokevirtual 70) (n := 3) (jq qX9_readSymbol 19 rfl) (jo_cv (y := mX9_byteAt) rfl (Nat.le_of_ble_eq_true rfl) rfl (Nat.le_of_ble_eq_true rfl) b24 rfl r9 (jo_exn rfl))) H
    · exact Eq.trans (jb_rt (i := .invokevirtual 95) (n := 3) (jq qX9_readSymbol 5 rfl) (jo_cv (y := mJ0_indexOf_0f7a4) rfl (Nat.le_of_ble_eq_true rfl) rfl (Nat.le_of_ble_eq_true rfl) b27 rfl r5 (jo_exn rfl))) H
  · exact Eq.trans (jb_rt (i := .invokevirtual 70) (n := 3) (jq qX9_readSymbol 3 rfl) (jo_cv (y := mX9_byteAt) rfl (Nat.le_of_ble_eq_true rfl) rfl (Nat.le_of_ble_eq_true rfl) b30 rfl r2 (jo_exn rfl))) H
/-! MaskPlays$Tokens kindAt (I)I -/
def tX9_kindAt : List (Nat × Instr × Nat) := [(0, .iload_n 1, 1), (1, .ifCond .lt 29, 3), (4, .iload_n 1, 1), (5, .aload_n 0, 1), (6, .getfield 56, 3), (9, .if_icmp .ge 21, 3), (12, .iload_n 1, 1), (13, .aload_n 0, 1), (14, .getfield 15, 3), (17, .arraylength, 1), (18, .if_icmp .ge 12, 3), (21, .aload_n 0, 1), (22, .getfield 15, 3), (25, .iload_n 1, 1), (26, .iaload, 1), (27, .goto 5, 3), (30, .bipush 37, 2), (32, .ireturn, 1)]
set_option maxRecDepth 100000 in
theorem qX9_kindAt : ∀ q ∈ tX9_kindAt, decode cX9_kindAt q.1 = .ok (q.2.1, q.2.2) := by decide +kernel
theorem gX9_kindAt {d : Nat} {p0 : Nat} {i1 : Int32} {h : jm_H} {r : jm_R} (H : ((if i1 < 0 then some (.inl (some (.int 37)), h) else (jr_I h p0 9 6 0).bind fun x2 => (if i1 < x2 then (jr_R h p0 9 1 2).bind fun a5 => (jm_len h a5).bind fun n7 => (if i1 < (Int32.ofNat n7) then (jr_R h p0 9 1 2).bind fun a10 => (jm_ali h a10 0 i1).bind fun x12 => some (.inl (some (.int x12)), h) else some (.inl (some (.int 37)), h)) else some (.inl (some (.int 37)), h)))) = some r) : jm_D (d + 1) mX9_kindAt [.ref p0, .int i1] h = some r := by
  rw [jm_D_body (Nat.le_of_ble_eq_true rfl)]
  show jm_B d mX9_kindAt (0, [some (.ref p0), some (.int i1)], []) h = some r
  refine Eq.trans (jb_nx (i := .iload_n 1) (n := 1) (q := (1, [some (.ref p0), some (.int i1)], [.int i1])) (jq qX9_kindAt 0 rfl) rfl) ?_
  by_cases c1 : i1 < 0
  · rw [if_pos c1] at H
    refine Eq.trans (jb_nx (i := .ifCond .lt 29) (n := 3) (q := (30, [some (.ref p0), some (.int i1)], [])) (jq qX9_kindAt 1 rfl) (jo_ifT (jz_ltT c1) rfl)) ?_
    refine Eq.trans (jb_nx (i := .bipush 37) (n := 2) (q := (32, [some (.ref p0), some (.int i1)], [.int 37])) (jq qX9_kindAt 16 rfl) rfl) ?_
    exact Eq.trans (jb_rt (i := .ireturn) (n := 1) (jq qX9_kindAt 17 rfl) (jo_iret rfl rfl)) H
  · rw [if_neg c1] at H
    refine Eq.trans (jb_nx (i := .ifCond .lt 29) (n := 3) (q := (4, [some (.ref p0), some (.int i1)], [])) (jq qX9_kindAt 1 rfl) (jo_ifF (jz_ltF c1))) ?_
    refine Eq.trans (jb_nx (i := .iload_n 1) (n := 1) (q := (5, [some (.ref p0), some (.int i1)], [.int i1])) (jq qX9_kindAt 2 rfl) rfl) ?_
    refine Eq.trans (jb_nx (i := .aload_n 0) (n := 1) (q := (6, [some (.ref p0), some (.int i1)], [.ref p0, .int i1])) (jq qX9_kindAt 3 rfl) rfl) ?_
    obtain ⟨x2, e3, H⟩ := jbd H
    refine Eq.trans (jb_nx (i := .getfield 56) (n := 3) (q := (9, [some (.ref p0), some (.int i1)], [.int x2, .int i1])) (jq qX9_kindAt 4 rfl) (jo_gf rfl (jr_I_inv e3))) ?_
    by_cases c4 : i1 < x2
    · rw [if_pos c4] at H
      refine Eq.trans (jb_nx (i := .if_icmp .ge 21) (n := 3) (q := (12, [some (.ref p0), some (.int i1)], [])) (jq qX9_kindAt 5 rfl) (jo_icF (jz_geF c4))) ?_
      refine Eq.trans (jb_nx (i := .iload_n 1) (n := 1) (q := (13, [some (.ref p0), some (.int i1)], [.int i1])) (jq qX9_kindAt 6 rfl) rfl) ?_
      refine Eq.trans (jb_nx (i := .aload_n 0) (n := 1) (q := (14, [some (.ref p0), some (.int i1)], [.ref p0, .int i1])) (jq qX9_kindAt 7 rfl) rfl) ?_
      obtain ⟨a5, e6, H⟩ := jbd H
      refine Eq.trans (jb_nx (i := .getfield 15) (n := 3) (q := (17, [some (.ref p0), some (.int i1)], [.ref a5, .int i1])) (jq qX9_kindAt 8 rfl) (jo_gf rfl (jr_R_inv e6))) ?_
      obtain ⟨n7, e8, H⟩ := jbd H
      refine Eq.trans (jb_nx (i := .arraylength) (n := 1) (q := (18, [some (.ref p0), some (.int i1)], [.int (Int32.ofNat n7), .int i1])) (jq qX9_kindAt 9 rfl) (jo_len e8)) ?_
      by_cases c9 : i1 < (Int32.ofNat n7)
      · rw [if_pos c9] at H
        refine Eq.trans (jb_nx (i := .if_icmp .ge 12) (n := 3) (q := (21, [some (.ref p0), some (.int i1)], [])) (jq qX9_kindAt 10 rfl) (jo_icF (jz_geF c9))) ?_
        refine Eq.trans (jb_nx (i := .aload_n 0) (n := 1) (q := (22, [some (.ref p0), some (.int i1)], [.ref p0])) (jq qX9_kindAt 11 rfl) rfl) ?_
        obtain ⟨a10, e11, H⟩ := jbd H
        refine Eq.trans (jb_nx (i := .getfield 15) (n := 3) (q := (25, [some (.ref p0), some (.int i1)], [.ref a10])) (jq qX9_kindAt 12 rfl) (jo_gf rfl (jr_R_inv e11))) ?_
        refine Eq.trans (jb_nx (i := .iload_n 1) (n := 1) (q := (26, [some (.ref p0), some (.int i1)], [.int i1, .ref a10])) (jq qX9_kindAt 13 rfl) rfl) ?_
        obtain ⟨x12, e13, H⟩ := jbd H
        refine Eq.trans (jb_nx (i := .iaload) (n := 1) (q := (27, [some (.ref p0), some (.int i1)], [.int x12])) (jq qX9_kindAt 14 rfl) (jo_ial e13)) ?_
        refine Eq.trans (jb_nx (i := .goto 5) (n := 3) (q := (32, [some (.ref p0), some (.int i1)], [.int x12])) (jq qX9_kindAt 15 rfl) rfl) ?_
        exact Eq.trans (jb_rt (i := .ireturn) (n := 1) (jq qX9_kindAt 17 rfl) (jo_iret rfl rfl)) H
      · rw [if_neg c9] at H
        refine Eq.trans (jb_nx (i := .if_icmp .ge 12) (n := 3) (q := (30, [some (.ref p0), some (.int i1)], [])) (jq qX9_kindAt 10 rfl) (jo_icT (jz_geT c9) rfl)) ?_
        refine Eq.trans (jb_nx (i := .bipush 37) (n := 2) (q := (32, [some (.ref p0), some (.int i1)], [.int 37])) (jq qX9_kindAt 16 rfl) rfl) ?_
        exact Eq.trans (jb_rt (i := .ireturn) (n := 1) (jq qX9_kindAt 17 rfl) (jo_iret rfl rfl)) H
    · rw [if_neg c4] at H
      refine Eq.trans (jb_nx (i := .if_icmp .ge 21) (n := 3) (q := (30, [some (.ref p0), some (.int i1)], [])) (jq qX9_kindAt 5 rfl) (jo_icT (jz_geT c4) rfl)) ?_
      refine Eq.trans (jb_nx (i := .bipush 37) (n := 2) (q := (32, [some (.ref p0), some (.int i1)], [.int 37])) (jq qX9_kindAt 16 rfl) rfl) ?_
      exact Eq.trans (jb_rt (i := .ireturn) (n := 1) (jq qX9_kindAt 17 rfl) (jo_iret rfl rfl)) H
/-! MaskPlays$Tokens mark (II)V -/
def tX9_mark : List (Nat × Instr × Nat) := [(0, .iload_n 1, 1), (1, .ifCond .lt 27, 3), (4, .iload_n 1, 1), (5, .aload_n 0, 1), (6, .getfield 56, 3), (9, .if_icmp .ge 19, 3), (12, .iload_n 1, 1), (13, .aload_n 0, 1), (14, .getfield 28, 3), (17, .arraylength, 1), (18, .if_icmp .ge 10, 3), (21, .aload_n 0, 1), (22, .getfield 28, 3), (25, .iload_n 1, 1), (26, .iload_n 2, 1), (27, .iastore, 1), (28, .return_, 1)]
set_option maxRecDepth 100000 in
theorem qX9_mark : ∀ q ∈ tX9_mark, decode cX9_mark q.1 = .ok (q.2.1, q.2.2) := by decide +kernel
theorem gX9_mark {d : Nat} {p0 : Nat} {i1 : Int32} {i2 : Int32} {h : jm_H} {r : jm_R} (H : ((if i1 < 0 then some (.inl none, h) else (jr_I h p0 9 6 0).bind fun x2 => (if i1 < x2 then (jr_R h p0 9 5 2).bind fun a5 => (jm_len h a5).bind fun n7 => (if i1 < (Int32.ofNat n7) then (jr_R h p0 9 5 2).bind fun a10 => (jm_asi h a10 0 i1 i2).bind fun h12 => some (.inl none, h12) else some (.inl none, h)) else some (.inl none, h)))) = some r) : jm_D (d + 1) mX9_mark [.ref p0, .int i1, .int i2] h = some r := by
  rw [jm_D_body (Nat.le_of_ble_eq_true rfl)]
  show jm_B d mX9_mark (0, [some (.ref p0), some (.int i1), some (.int i2)], []) h = some r
  refine Eq.trans (jb_nx (i := .iload_n 1) (n := 1) (q := (1, [some (.ref p0), some (.int i1), some (.int i2)], [.int i1])) (jq qX9_mark 0 rfl) rfl) ?_
  by_cases c1 : i1 < 0
  · rw [if_pos c1] at H
    refine Eq.trans (jb_nx (i := .ifCond .lt 27) (n := 3) (q := (28, [some (.ref p0), some (.int i1), some (.int i2)], [])) (jq qX9_mark 1 rfl) (jo_ifT (jz_ltT c1) rfl)) ?_
    exact Eq.trans (jb_rt (i := .return_) (n := 1) (jq qX9_mark 16 rfl) rfl) H
  · rw [if_neg c1] at H
    refine Eq.trans (jb_nx (i := .ifCond .lt 27) (n := 3) (q := (4, [some (.ref p0), some (.int i1), some (.int i2)], [])) (jq qX9_mark 1 rfl) (jo_ifF (jz_ltF c1))) ?_
    refine Eq.trans (jb_nx (i := .iload_n 1) (n := 1) (q := (5, [some (.ref p0), some (.int i1), some (.int i2)], [.int i1])) (jq qX9_mark 2 rfl) rfl) ?_
    refine Eq.trans (jb_nx (i := .aload_n 0) (n := 1) (q := (6, [some (.ref p0), some (.int i1), some (.int i2)], [.ref p0, .int i1])) (jq qX9_mark 3 rfl) rfl) ?_
    obtain ⟨x2, e3, H⟩ := jbd H
    refine Eq.trans (jb_nx (i := .getfield 56) (n := 3) (q := (9, [some (.ref p0), some (.int i1), some (.int i2)], [.int x2, .int i1])) (jq qX9_mark 4 rfl) (jo_gf rfl (jr_I_inv e3))) ?_
    by_cases c4 : i1 < x2
    · rw [if_pos c4] at H
      refine Eq.trans (jb_nx (i := .if_icmp .ge 19) (n := 3) (q := (12, [some (.ref p0), some (.int i1), some (.int i2)], [])) (jq qX9_mark 5 rfl) (jo_icF (jz_geF c4))) ?_
      refine Eq.trans (jb_nx (i := .iload_n 1) (n := 1) (q := (13, [some (.ref p0), some (.int i1), some (.int i2)], [.int i1])) (jq qX9_mark 6 rfl) rfl) ?_
      refine Eq.trans (jb_nx (i := .aload_n 0) (n := 1) (q := (14, [some (.ref p0), some (.int i1), some (.int i2)], [.ref p0, .int i1])) (jq qX9_mark 7 rfl) rfl) ?_
      obtain ⟨a5, e6, H⟩ := jbd H
      refine Eq.trans (jb_nx (i := .getfield 28) (n := 3) (q := (17, [some (.ref p0), some (.int i1), some (.int i2)], [.ref a5, .int i1])) (jq qX9_mark 8 rfl) (jo_gf rfl (jr_R_inv e6))) ?_
      obtain ⟨n7, e8, H⟩ := jbd H
      refine Eq.trans (jb_nx (i := .arraylength) (n := 1) (q := (18, [some (.ref p0), some (.int i1), some (.int i2)], [.int (Int32.ofNat n7), .int i1])) (jq qX9_mark 9 rfl) (jo_len e8)) ?_
      by_cases c9 : i1 < (Int32.ofNat n7)
      · rw [if_pos c9] at H
        refine Eq.trans (jb_nx (i := .if_icmp .ge 10) (n := 3) (q := (21, [some (.ref p0), some (.int i1), some (.int i2)], [])) (jq qX9_mark 10 rfl) (jo_icF (jz_geF c9))) ?_
        refine Eq.trans (jb_nx (i := .aload_n 0) (n := 1) (q := (22, [some (.ref p0), some (.int i1), some (.int i2)], [.ref p0])) (jq qX9_mark 11 rfl) rfl) ?_
        obtain ⟨a10, e11, H⟩ := jbd H
        refine Eq.trans (jb_nx (i := .getfield 28) (n := 3) (q := (25, [some (.ref p0), some (.int i1), some (.int i2)], [.ref a10])) (jq qX9_mark 12 rfl) (jo_gf rfl (jr_R_inv e11))) ?_
        refine Eq.trans (jb_nx (i := .iload_n 1) (n := 1) (q := (26, [some (.ref p0), some (.int i1), some (.int i2)], [.int i1, .ref a10])) (jq qX9_mark 13 rfl) rfl) ?_
        refine Eq.trans (jb_nx (i := .iload_n 2) (n := 1) (q := (27, [some (.ref p0), some (.int i1), some (.int i2)], [.int i2, .int i1, .ref a10])) (jq qX9_mark 14 rfl) rfl) ?_
        obtain ⟨h12, e13, H⟩ := jbd H
        refine Eq.trans (jb_nx (i := .iastore) (n := 1) (q := (28, [some (.ref p0), some (.int i1), some (.int i2)], [])) (jq qX9_mark 15 rfl) (jo_ias e13)) ?_
        exact Eq.trans (jb_rt (i := .return_) (n := 1) (jq qX9_mark 16 rfl) rfl) H
      · rw [if_neg c9] at H
        refine Eq.trans (jb_nx (i := .if_icmp .ge 10) (n := 3) (q := (28, [some (.ref p0), some (.int i1), some (.int i2)], [])) (jq qX9_mark 10 rfl) (jo_icT (jz_geT c9) rfl)) ?_
        exact Eq.trans (jb_rt (i := .return_) (n := 1) (jq qX9_mark 16 rfl) rfl) H
    · rw [if_neg c4] at H
      refine Eq.trans (jb_nx (i := .if_icmp .ge 19) (n := 3) (q := (28, [some (.ref p0), some (.int i1), some (.int i2)], [])) (jq qX9_mark 5 rfl) (jo_icT (jz_geT c4) rfl)) ?_
      exact Eq.trans (jb_rt (i := .return_) (n := 1) (jq qX9_mark 16 rfl) rfl) H
/-! MaskPlays$Tokens valueAt (I)I -/
def tX9_valueAt : List (Nat × Instr × Nat) := [(0, .iload_n 1, 1), (1, .ifCond .lt 29, 3), (4, .iload_n 1, 1), (5, .aload_n 0, 1), (6, .getfield 56, 3), (9, .if_icmp .ge 21, 3), (12, .iload_n 1, 1), (13, .aload_n 0, 1), (14, .getfield 25, 3), (17, .arraylength, 1), (18, .if_icmp .ge 12, 3), (21, .aload_n 0, 1), (22, .getfield 25, 3), (25, .iload_n 1, 1), (26, .iaload, 1), (27, .goto 4, 3), (30, .iconst 0, 1), (31, .ireturn, 1)]
set_option maxRecDepth 100000 in
theorem qX9_valueAt : ∀ q ∈ tX9_valueAt, decode cX9_valueAt q.1 = .ok (q.2.1, q.2.2) := by decide +kernel
theorem gX9_valueAt {d : Nat} {p0 : Nat} {i1 : Int32} {h : jm_H} {r : jm_R} (H : ((if i1 < 0 then some (.inl (some (.int 0)), h) else (jr_I h p0 9 6 0).bind fun x2 => (if i1 < x2 then (jr_R h p0 9 4 2).bind fun a5 => (jm_len h a5).bind fun n7 => (if i1 < (Int32.ofNat n7) then (jr_R h p0 9 4 2).bind fun a10 => (jm_ali h a10 0 i1).bind fun x12 => some (.inl (some (.int x12)), h) else some (.inl (some (.int 0)), h)) else some (.inl (some (.int 0)), h)))) = some r) : jm_D (d + 1) mX9_valueAt [.ref p0, .int i1] h = some r := by
  rw [jm_D_body (Nat.le_of_ble_eq_true rfl)]
  show jm_B d mX9_valueAt (0, [some (.ref p0), some (.int i1)], []) h = some r
  refine Eq.trans (jb_nx (i := .iload_n 1) (n := 1) (q := (1, [some (.ref p0), some (.int i1)], [.int i1])) (jq qX9_valueAt 0 rfl) rfl) ?_
  by_cases c1 : i1 < 0
  · rw [if_pos c1] at H
    refine Eq.trans (jb_nx (i := .ifCond .lt 29) (n := 3) (q := (30, [some (.ref p0), some (.int i1)], [])) (jq qX9_valueAt 1 rfl) (jo_ifT (jz_ltT c1) rfl)) ?_
    refine Eq.trans (jb_nx (i := .iconst 0) (n := 1) (q := (31, [some (.ref p0), some (.int i1)], [.int 0])) (jq qX9_valueAt 16 rfl) rfl) ?_
    exact Eq.trans (jb_rt (i := .ireturn) (n := 1) (jq qX9_valueAt 17 rfl) (jo_iret rfl rfl)) H
  · rw [if_neg c1] at H
    refine Eq.trans (jb_nx (i := .ifCond .lt 29) (n := 3) (q := (4, [some (.ref p0), some (.int i1)], [])) (jq qX9_valueAt 1 rfl) (jo_ifF (jz_ltF c1))) ?_
    refine Eq.trans (jb_nx (i := .iload_n 1) (n := 1) (q := (5, [some (.ref p0), some (.int i1)], [.int i1])) (jq qX9_valueAt 2 rfl) rfl) ?_
    refine Eq.trans (jb_nx (i := .aload_n 0) (n := 1) (q := (6, [some (.ref p0), some (.int i1)], [.ref p0, .int i1])) (jq qX9_valueAt 3 rfl) rfl) ?_
    obtain ⟨x2, e3, H⟩ := jbd H
    refine Eq.trans (jb_nx (i := .getfield 56) (n := 3) (q := (9, [some (.ref p0), some (.int i1)], [.int x2, .int i1])) (jq qX9_valueAt 4 rfl) (jo_gf rfl (jr_I_inv e3))) ?_
    by_cases c4 : i1 < x2
    · rw [if_pos c4] at H
      refine Eq.trans (jb_nx (i := .if_icmp .ge 21) (n := 3) (q := (12, [some (.ref p0), some (.int i1)], [])) (jq qX9_valueAt 5 rfl) (jo_icF (jz_geF c4))) ?_
      refine Eq.trans (jb_nx (i := .iload_n 1) (n := 1) (q := (13, [some (.ref p0), some (.int i1)], [.int i1])) (jq qX9_valueAt 6 rfl) rfl) ?_
      refine Eq.trans (jb_nx (i := .aload_n 0) (n := 1) (q := (14, [some (.ref p0), some (.int i1)], [.ref p0, .int i1])) (jq qX9_valueAt 7 rfl) rfl) ?_
      obtain ⟨a5, e6, H⟩ := jbd H
      refine Eq.trans (jb_nx (i := .getfield 25) (n := 3) (q := (17, [some (.ref p0), some (.int i1)], [.ref a5, .int i1])) (jq qX9_valueAt 8 rfl) (jo_gf rfl (jr_R_inv e6))) ?_
      obtain ⟨n7, e8, H⟩ := jbd H
      refine Eq.trans (jb_nx (i := .arraylength) (n := 1) (q := (18, [some (.ref p0), some (.int i1)], [.int (Int32.ofNat n7), .int i1])) (jq qX9_valueAt 9 rfl) (jo_len e8)) ?_
      by_cases c9 : i1 < (Int32.ofNat n7)
      · rw [if_pos c9] at H
        refine Eq.trans (jb_nx (i := .if_icmp .ge 12) (n := 3) (q := (21, [some (.ref p0), some (.int i1)], [])) (jq qX9_valueAt 10 rfl) (jo_icF (jz_geF c9))) ?_
        refine Eq.trans (jb_nx (i := .aload_n 0) (n := 1) (q := (22, [some (.ref p0), some (.int i1)], [.ref p0])) (jq qX9_valueAt 11 rfl) rfl) ?_
        obtain ⟨a10, e11, H⟩ := jbd H
        refine Eq.trans (jb_nx (i := .getfield 25) (n := 3) (q := (25, [some (.ref p0), some (.int i1)], [.ref a10])) (jq qX9_valueAt 12 rfl) (jo_gf rfl (jr_R_inv e11))) ?_
        refine Eq.trans (jb_nx (i := .iload_n 1) (n := 1) (q := (26, [some (.ref p0), some (.int i1)], [.int i1, .ref a10])) (jq qX9_valueAt 13 rfl) rfl) ?_
        obtain ⟨x12, e13, H⟩ := jbd H
        refine Eq.trans (jb_nx (i := .iaload) (n := 1) (q := (27, [some (.ref p0), some (.int i1)], [.int x12])) (jq qX9_valueAt 14 rfl) (jo_ial e13)) ?_
        refine Eq.trans (jb_nx (i := .goto 4) (n := 3) (q := (31, [some (.ref p0), some (.int i1)], [.int x12])) (jq qX9_valueAt 15 rfl) rfl) ?_
        exact Eq.trans (jb_rt (i := .ireturn) (n := 1) (jq qX9_valueAt 17 rfl) (jo_iret rfl rfl)) H
      · rw [if_neg c9] at H
        refine Eq.trans (jb_nx (i := .if_icmp .ge 12) (n := 3) (q := (30, [some (.ref p0), some (.int i1)], [])) (jq qX9_valueAt 10 rfl) (jo_icT (jz_geT c9) rfl)) ?_
        refine Eq.trans (jb_nx (i := .iconst 0) (n := 1) (q := (31, [some (.ref p0), some (.int i1)], [.int 0])) (jq qX9_valueAt 16 rfl) rfl) ?_
        exact Eq.trans (jb_rt (i := .ireturn) (n := 1) (jq qX9_valueAt 17 rfl) (jo_iret rfl rfl)) H
    · rw [if_neg c4] at H
      refine Eq.trans (jb_nx (i := .if_icmp .ge 21) (n := 3) (q := (30, [some (.ref p0), some (.int i1)], [])) (jq qX9_valueAt 5 rfl) (jo_icT (jz_geT c4) rfl)) ?_
      refine Eq.trans (jb_nx (i := .iconst 0) (n := 1) (q := (31, [some (.ref p0), some (.int i1)], [.int 0])) (jq qX9_valueAt 16 rfl) rfl) ?_
      exact Eq.trans (jb_rt (i := .ireturn) (n := 1) (jq qX9_valueAt 17 rfl) (jo_iret rfl rfl)) H
/-! MaskPlays$Tokens wordAt (I)J -/
def tX9_wordAt : List (Nat × Instr × Nat) := [(0, .iload_n 1, 1), (1, .ifCond .lt 29, 3), (4, .iload_n 1, 1), (5, .aload_n 0, 1), (6, .getfield 56, 3), (9, .if_icmp .ge 21, 3), (12, .iload_n 1, 1), (13, .aload_n 0, 1), (14, .getfield 22, 3), (17, .arraylength, 1), (18, .if_icmp .ge 12, 3), (21, .aload_n 0, 1), (22, .getfield 22, 3), (25, .iload_n 1, 1), (26, .laload, 1), (27, .goto 4, 3), (30, .lconst 0, 1), (31, .lreturn, 1)]
set_option maxRecDepth 100000 in
theorem qX9_wordAt : ∀ q ∈ tX9_wordAt, decode cX9_wordAt q.1 = .ok (q.2.1, q.2.2) := by decide +kernel
theorem gX9_wordAt {d : Nat} {p0 : Nat} {i1 : Int32} {h : jm_H} {r : jm_R} (H : ((if i1 < 0 then some (.inl (some (.long 0)), h) else (jr_I h p0 9 6 0).bind fun x2 => (if i1 < x2 then (jr_R h p0 9 3 2).bind fun a5 => (jm_len h a5).bind fun n7 => (if i1 < (Int32.ofNat n7) then (jr_R h p0 9 3 2).bind fun a10 => (jm_all h a10 i1).bind fun y12 => some (.inl (some (.long y12)), h) else some (.inl (some (.long 0)), h)) else some (.inl (some (.long 0)), h)))) = some r) : jm_D (d + 1) mX9_wordAt [.ref p0, .int i1] h = some r := by
  rw [jm_D_body (Nat.le_of_ble_eq_true rfl)]
  show jm_B d mX9_wordAt (0, [some (.ref p0), some (.int i1)], []) h = some r
  refine Eq.trans (jb_nx (i := .iload_n 1) (n := 1) (q := (1, [some (.ref p0), some (.int i1)], [.int i1])) (jq qX9_wordAt 0 rfl) rfl) ?_
  by_cases c1 : i1 < 0
  · rw [if_pos c1] at H
    refine Eq.trans (jb_nx (i := .ifCond .lt 29) (n := 3) (q := (30, [some (.ref p0), some (.int i1)], [])) (jq qX9_wordAt 1 rfl) (jo_ifT (jz_ltT c1) rfl)) ?_
    refine Eq.trans (jb_nx (i := .lconst 0) (n := 1) (q := (31, [some (.ref p0), some (.int i1)], [.long 0])) (jq qX9_wordAt 16 rfl) rfl) ?_
    exact Eq.trans (jb_rt (i := .lreturn) (n := 1) (jq qX9_wordAt 17 rfl) rfl) H
  · rw [if_neg c1] at H
    refine Eq.trans (jb_nx (i := .ifCond .lt 29) (n := 3) (q := (4, [some (.ref p0), some (.int i1)], [])) (jq qX9_wordAt 1 rfl) (jo_ifF (jz_ltF c1))) ?_
    refine Eq.trans (jb_nx (i := .iload_n 1) (n := 1) (q := (5, [some (.ref p0), some (.int i1)], [.int i1])) (jq qX9_wordAt 2 rfl) rfl) ?_
    refine Eq.trans (jb_nx (i := .aload_n 0) (n := 1) (q := (6, [some (.ref p0), some (.int i1)], [.ref p0, .int i1])) (jq qX9_wordAt 3 rfl) rfl) ?_
    obtain ⟨x2, e3, H⟩ := jbd H
    refine Eq.trans (jb_nx (i := .getfield 56) (n := 3) (q := (9, [some (.ref p0), some (.int i1)], [.int x2, .int i1])) (jq qX9_wordAt 4 rfl) (jo_gf rfl (jr_I_inv e3))) ?_
    by_cases c4 : i1 < x2
    · rw [if_pos c4] at H
      refine Eq.trans (jb_nx (i := .if_icmp .ge 21) (n := 3) (q := (12, [some (.ref p0), some (.int i1)], [])) (jq qX9_wordAt 5 rfl) (jo_icF (jz_geF c4))) ?_
      refine Eq.trans (jb_nx (i := .iload_n 1) (n := 1) (q := (13, [some (.ref p0), some (.int i1)], [.int i1])) (jq qX9_wordAt 6 rfl) rfl) ?_
      refine Eq.trans (jb_nx (i := .aload_n 0) (n := 1) (q := (14, [some (.ref p0), some (.int i1)], [.ref p0, .int i1])) (jq qX9_wordAt 7 rfl) rfl) ?_
      obtain ⟨a5, e6, H⟩ := jbd H
      refine Eq.trans (jb_nx (i := .getfield 22) (n := 3) (q := (17, [some (.ref p0), some (.int i1)], [.ref a5, .int i1])) (jq qX9_wordAt 8 rfl) (jo_gf rfl (jr_R_inv e6))) ?_
      obtain ⟨n7, e8, H⟩ := jbd H
      refine Eq.trans (jb_nx (i := .arraylength) (n := 1) (q := (18, [some (.ref p0), some (.int i1)], [.int (Int32.ofNat n7), .int i1])) (jq qX9_wordAt 9 rfl) (jo_len e8)) ?_
      by_cases c9 : i1 < (Int32.ofNat n7)
      · rw [if_pos c9] at H
        refine Eq.trans (jb_nx (i := .if_icmp .ge 12) (n := 3) (q := (21, [some (.ref p0), some (.int i1)], [])) (jq qX9_wordAt 10 rfl) (jo_icF (jz_geF c9))) ?_
        refine Eq.trans (jb_nx (i := .aload_n 0) (n := 1) (q := (22, [some (.ref p0), some (.int i1)], [.ref p0])) (jq qX9_wordAt 11 rfl) rfl) ?_
        obtain ⟨a10, e11, H⟩ := jbd H
        refine Eq.trans (jb_nx (i := .getfield 22) (n := 3) (q := (25, [some (.ref p0), some (.int i1)], [.ref a10])) (jq qX9_wordAt 12 rfl) (jo_gf rfl (jr_R_inv e11))) ?_
        refine Eq.trans (jb_nx (i := .iload_n 1) (n := 1) (q := (26, [some (.ref p0), some (.int i1)], [.int i1, .ref a10])) (jq qX9_wordAt 13 rfl) rfl) ?_
        obtain ⟨y12, e13, H⟩ := jbd H
        refine Eq.trans (jb_nx (i := .laload) (n := 1) (q := (27, [some (.ref p0), some (.int i1)], [.long y12])) (jq qX9_wordAt 14 rfl) (jo_lal e13)) ?_
        refine Eq.trans (jb_nx (i := .goto 4) (n := 3) (q := (31, [some (.ref p0), some (.int i1)], [.long y12])) (jq qX9_wordAt 15 rfl) rfl) ?_
        exact Eq.trans (jb_rt (i := .lreturn) (n := 1) (jq qX9_wordAt 17 rfl) rfl) H
      · rw [if_neg c9] at H
        refine Eq.trans (jb_nx (i := .if_icmp .ge 12) (n := 3) (q := (30, [some (.ref p0), some (.int i1)], [])) (jq qX9_wordAt 10 rfl) (jo_icT (jz_geT c9) rfl)) ?_
        refine Eq.trans (jb_nx (i := .lconst 0) (n := 1) (q := (31, [some (.ref p0), some (.int i1)], [.long 0])) (jq qX9_wordAt 16 rfl) rfl) ?_
        exact Eq.trans (jb_rt (i := .lreturn) (n := 1) (jq qX9_wordAt 17 rfl) rfl) H
    · rw [if_neg c4] at H
      refine Eq.trans (jb_nx (i := .if_icmp .ge 21) (n := 3) (q := (30, [some (.ref p0), some (.int i1)], [])) (jq qX9_wordAt 5 rfl) (jo_icT (jz_geT c4) rfl)) ?_
      refine Eq.trans (jb_nx (i := .lconst 0) (n := 1) (q := (31, [some (.ref p0), some (.int i1)], [.long 0])) (jq qX9_wordAt 16 rfl) rfl) ?_
      exact Eq.trans (jb_rt (i := .lreturn) (n := 1) (jq qX9_wordAt 17 rfl) rfl) H
/-! MaskPlays$Tokens markAt (I)I -/
def tX9_markAt : List (Nat × Instr × Nat) := [(0, .iload_n 1, 1), (1, .ifCond .lt 29, 3), (4, .iload_n 1, 1), (5, .aload_n 0, 1), (6, .getfield 56, 3), (9, .if_icmp .ge 21, 3), (12, .iload_n 1, 1), (13, .aload_n 0, 1), (14, .getfield 28, 3), (17, .arraylength, 1), (18, .if_icmp .ge 12, 3), (21, .aload_n 0, 1), (22, .getfield 28, 3), (25, .iload_n 1, 1), (26, .iaload, 1), (27, .goto 4, 3), (30, .iconst 0, 1), (31, .ireturn, 1)]
set_option maxRecDepth 100000 in
theorem qX9_markAt : ∀ q ∈ tX9_markAt, decode cX9_markAt q.1 = .ok (q.2.1, q.2.2) := by decide +kernel
theorem gX9_markAt {d : Nat} {p0 : Nat} {i1 : Int32} {h : jm_H} {r : jm_R} (H : ((if i1 < 0 then some (.inl (some (.int 0)), h) else (jr_I h p0 9 6 0).bind fun x2 => (if i1 < x2 then (jr_R h p0 9 5 2).bind fun a5 => (jm_len h a5).bind fun n7 => (if i1 < (Int32.ofNat n7) then (jr_R h p0 9 5 2).bind fun a10 => (jm_ali h a10 0 i1).bind fun x12 => some (.inl (some (.int x12)), h) else some (.inl (some (.int 0)), h)) else some (.inl (some (.int 0)), h)))) = some r) : jm_D (d + 1) mX9_markAt [.ref p0, .int i1] h = some r := by
  rw [jm_D_body (Nat.le_of_ble_eq_true rfl)]
  show jm_B d mX9_markAt (0, [some (.ref p0), some (.int i1)], []) h = some r
  refine Eq.trans (jb_nx (i := .iload_n 1) (n := 1) (q := (1, [some (.ref p0), some (.int i1)], [.int i1])) (jq qX9_markAt 0 rfl) rfl) ?_
  by_cases c1 : i1 < 0
  · rw [if_pos c1] at H
    refine Eq.trans (jb_nx (i := .ifCond .lt 29) (n := 3) (q := (30, [some (.ref p0), some (.int i1)], [])) (jq qX9_markAt 1 rfl) (jo_ifT (jz_ltT c1) rfl)) ?_
    refine Eq.trans (jb_nx (i := .iconst 0) (n := 1) (q := (31, [some (.ref p0), some (.int i1)], [.int 0])) (jq qX9_markAt 16 rfl) rfl) ?_
    exact Eq.trans (jb_rt (i := .ireturn) (n := 1) (jq qX9_markAt 17 rfl) (jo_iret rfl rfl)) H
  · rw [if_neg c1] at H
    refine Eq.trans (jb_nx (i := .ifCond .lt 29) (n := 3) (q := (4, [some (.ref p0), some (.int i1)], [])) (jq qX9_markAt 1 rfl) (jo_ifF (jz_ltF c1))) ?_
    refine Eq.trans (jb_nx (i := .iload_n 1) (n := 1) (q := (5, [some (.ref p0), some (.int i1)], [.int i1])) (jq qX9_markAt 2 rfl) rfl) ?_
    refine Eq.trans (jb_nx (i := .aload_n 0) (n := 1) (q := (6, [some (.ref p0), some (.int i1)], [.ref p0, .int i1])) (jq qX9_markAt 3 rfl) rfl) ?_
    obtain ⟨x2, e3, H⟩ := jbd H
    refine Eq.trans (jb_nx (i := .getfield 56) (n := 3) (q := (9, [some (.ref p0), some (.int i1)], [.int x2, .int i1])) (jq qX9_markAt 4 rfl) (jo_gf rfl (jr_I_inv e3))) ?_
    by_cases c4 : i1 < x2
    · rw [if_pos c4] at H
      refine Eq.trans (jb_nx (i := .if_icmp .ge 21) (n := 3) (q := (12, [some (.ref p0), some (.int i1)], [])) (jq qX9_markAt 5 rfl) (jo_icF (jz_geF c4))) ?_
      refine Eq.trans (jb_nx (i := .iload_n 1) (n := 1) (q := (13, [some (.ref p0), some (.int i1)], [.int i1])) (jq qX9_markAt 6 rfl) rfl) ?_
      refine Eq.trans (jb_nx (i := .aload_n 0) (n := 1) (q := (14, [some (.ref p0), some (.int i1)], [.ref p0, .int i1])) (jq qX9_markAt 7 rfl) rfl) ?_
      obtain ⟨a5, e6, H⟩ := jbd H
      refine Eq.trans (jb_nx (i := .getfield 28) (n := 3) (q := (17, [some (.ref p0), some (.int i1)], [.ref a5, .int i1])) (jq qX9_markAt 8 rfl) (jo_gf rfl (jr_R_inv e6))) ?_
      obtain ⟨n7, e8, H⟩ := jbd H
      refine Eq.trans (jb_nx (i := .arraylength) (n := 1) (q := (18, [some (.ref p0), some (.int i1)], [.int (Int32.ofNat n7), .int i1])) (jq qX9_markAt 9 rfl) (jo_len e8)) ?_
      by_cases c9 : i1 < (Int32.ofNat n7)
      · rw [if_pos c9] at H
        refine Eq.trans (jb_nx (i := .if_icmp .ge 12) (n := 3) (q := (21, [some (.ref p0), some (.int i1)], [])) (jq qX9_markAt 10 rfl) (jo_icF (jz_geF c9))) ?_
        refine Eq.trans (jb_nx (i := .aload_n 0) (n := 1) (q := (22, [some (.ref p0), some (.int i1)], [.ref p0])) (jq qX9_markAt 11 rfl) rfl) ?_
        obtain ⟨a10, e11, H⟩ := jbd H
        refine Eq.trans (jb_nx (i := .getfield 28) (n := 3) (q := (25, [some (.ref p0), some (.int i1)], [.ref a10])) (jq qX9_markAt 12 rfl) (jo_gf rfl (jr_R_inv e11))) ?_
        refine Eq.trans (jb_nx (i := .iload_n 1) (n := 1) (q := (26, [some (.ref p0), some (.int i1)], [.int i1, .ref a10])) (jq qX9_markAt 13 rfl) rfl) ?_
        obtain ⟨x12, e13, H⟩ := jbd H
        refine Eq.trans (jb_nx (i := .iaload) (n := 1) (q := (27, [some (.ref p0), some (.int i1)], [.int x12])) (jq qX9_markAt 14 rfl) (jo_ial e13)) ?_
        refine Eq.trans (jb_nx (i := .goto 4) (n := 3) (q := (31, [some (.ref p0), some (.int i1)], [.int x12])) (jq qX9_markAt 15 rfl) rfl) ?_
        exact Eq.trans (jb_rt (i := .ireturn) (n := 1) (jq qX9_markAt 17 rfl) (jo_iret rfl rfl)) H
      · rw [if_neg c9] at H
        refine Eq.trans (jb_nx (i := .if_icmp .ge 12) (n := 3) (q := (30, [some (.ref p0), some (.int i1)], [])) (jq qX9_markAt 10 rfl) (jo_icT (jz_geT c9) rfl)) ?_
        refine Eq.trans (jb_nx (i := .iconst 0) (n := 1) (q := (31, [some (.ref p0), some (.int i1)], [.int 0])) (jq qX9_markAt 16 rfl) rfl) ?_
        exact Eq.trans (jb_rt (i := .ireturn) (n := 1) (jq qX9_markAt 17 rfl) (jo_iret rfl rfl)) H
    · rw [if_neg c4] at H
      refine Eq.trans (jb_nx (i := .if_icmp .ge 21) (n := 3) (q := (30, [some (.ref p0), some (.int i1)], [])) (jq qX9_markAt 5 rfl) (jo_icT (jz_geT c4) rfl)) ?_
      refine Eq.trans (jb_nx (i := .iconst 0) (n := 1) (q := (31, [some (.ref p0), some (.int i1)], [.int 0])) (jq qX9_markAt 16 rfl) rfl) ?_
      exact Eq.trans (jb_rt (i := .ireturn) (n := 1) (jq qX9_markAt 17 rfl) (jo_iret rfl rfl)) H
/-! MaskPlays$Tokens placeAt (I)I -/
def tX9_placeAt : List (Nat × Instr × Nat) := [(0, .iload_n 1, 1), (1, .ifCond .lt 29, 3), (4, .iload_n 1, 1), (5, .aload_n 0, 1), (6, .getfield 56, 3), (9, .if_icmp .ge 21, 3), (12, .iload_n 1, 1), (13, .aload_n 0, 1), (14, .getfield 19, 3), (17, .arraylength, 1), (18, .if_icmp .ge 12, 3), (21, .aload_n 0, 1), (22, .getfield 19, 3), (25, .iload_n 1, 1), (26, .iaload, 1), (27, .goto 7, 3), (30, .aload_n 0, 1), (31, .getfield 53, 3), (34, .ireturn, 1)]
set_option maxRecDepth 100000 in
theorem qX9_placeAt : ∀ q ∈ tX9_placeAt, decode cX9_placeAt q.1 = .ok (q.2.1, q.2.2) := by decide +kernel
theorem gX9_placeAt {d : Nat} {p0 : Nat} {i1 : Int32} {h : jm_H} {r : jm_R} (H : ((if i1 < 0 then (jr_I h p0 9 8 0).bind fun x2 => some (.inl (some (.int x2)), h) else (jr_I h p0 9 6 0).bind fun x4 => (if i1 < x4 then (jr_R h p0 9 2 2).bind fun a9 => (jm_len h a9).bind fun n11 => (if i1 < (Int32.ofNat n11) then (jr_R h p0 9 2 2).bind fun a16 => (jm_ali h a16 0 i1).bind fun x18 => some (.inl (some (.int x18)), h) else (jr_I h p0 9 8 0).bind fun x14 => some (.inl (some (.int x14)), h)) else (jr_I h p0 9 8 0).bind fun x7 => some (.inl (some (.int x7)), h)))) = some r) : jm_D (d + 1) mX9_placeAt [.ref p0, .int i1] h = some r := by
  rw [jm_D_body (Nat.le_of_ble_eq_true rfl)]
  show jm_B d mX9_placeAt (0, [some (.ref p0), some (.int i1)], []) h = some r
  refine Eq.trans (jb_nx (i := .iload_n 1) (n := 1) (q := (1, [some (.ref p0), some (.int i1)], [.int i1])) (jq qX9_placeAt 0 rfl) rfl) ?_
  by_cases c1 : i1 < 0
  · rw [if_pos c1] at H
    refine Eq.trans (jb_nx (i := .ifCond .lt 29) (n := 3) (q := (30, [some (.ref p0), some (.int i1)], [])) (jq qX9_placeAt 1 rfl) (jo_ifT (jz_ltT c1) rfl)) ?_
    refine Eq.trans (jb_nx (i := .aload_n 0) (n := 1) (q := (31, [some (.ref p0), some (.int i1)], [.ref p0])) (jq qX9_placeAt 16 rfl) rfl) ?_
    obtain ⟨x2, e3, H⟩ := jbd H
    refine Eq.trans (jb_nx (i := .getfield 53) (n := 3) (q := (34, [some (.ref p0), some (.int i1)], [.int x2])) (jq qX9_placeAt 17 rfl) (jo_gf rfl (jr_I_inv e3))) ?_
    exact Eq.trans (jb_rt (i := .ireturn) (n := 1) (jq qX9_placeAt 18 rfl) (jo_iret rfl rfl)) H
  · rw [if_neg c1] at H
    refine Eq.trans (jb_nx (i := .ifCond .lt 29) (n := 3) (q := (4, [some (.ref p0), some (.int i1)], [])) (jq qX9_placeAt 1 rfl) (jo_ifF (jz_ltF c1))) ?_
    refine Eq.trans (jb_nx (i := .iload_n 1) (n := 1) (q := (5, [some (.ref p0), some (.int i1)], [.int i1])) (jq qX9_placeAt 2 rfl) rfl) ?_
    refine Eq.trans (jb_nx (i := .aload_n 0) (n := 1) (q := (6, [some (.ref p0), some (.int i1)], [.ref p0, .int i1])) (jq qX9_placeAt 3 rfl) rfl) ?_
    obtain ⟨x4, e5, H⟩ := jbd H
    refine Eq.trans (jb_nx (i := .getfield 56) (n := 3) (q := (9, [some (.ref p0), some (.int i1)], [.int x4, .int i1])) (jq qX9_placeAt 4 rfl) (jo_gf rfl (jr_I_inv e5))) ?_
    by_cases c6 : i1 < x4
    · rw [if_pos c6] at H
      refine Eq.trans (jb_nx (i := .if_icmp .ge 21) (n := 3) (q := (12, [some (.ref p0), some (.int i1)], [])) (jq qX9_placeAt 5 rfl) (jo_icF (jz_geF c6))) ?_
      refine Eq.trans (jb_nx (i := .iload_n 1) (n := 1) (q := (13, [some (.ref p0), some (.int i1)], [.int i1])) (jq qX9_placeAt 6 rfl) rfl) ?_
      refine Eq.trans (jb_nx (i := .aload_n 0) (n := 1) (q := (14, [some (.ref p0), some (.int i1)], [.ref p0, .int i1])) (jq qX9_placeAt 7 rfl) rfl) ?_
      obtain ⟨a9, e10, H⟩ := jbd H
      refine Eq.trans (jb_nx (i := .getfield 19) (n := 3) (q := (17, [some (.ref p0), some (.int i1)], [.ref a9, .int i1])) (jq qX9_placeAt 8 rfl) (jo_gf rfl (jr_R_inv e10))) ?_
      obtain ⟨n11, e12, H⟩ := jbd H
      refine Eq.trans (jb_nx (i := .arraylength) (n := 1) (q := (18, [some (.ref p0), some (.int i1)], [.int (Int32.ofNat n11), .int i1])) (jq qX9_placeAt 9 rfl) (jo_len e12)) ?_
      by_cases c13 : i1 < (Int32.ofNat n11)
      · rw [if_pos c13] at H
        refine Eq.trans (jb_nx (i := .if_icmp .ge 12) (n := 3) (q := (21, [some (.ref p0), some (.int i1)], [])) (jq qX9_placeAt 10 rfl) (jo_icF (jz_geF c13))) ?_
        refine Eq.trans (jb_nx (i := .aload_n 0) (n := 1) (q := (22, [some (.ref p0), some (.int i1)], [.ref p0])) (jq qX9_placeAt 11 rfl) rfl) ?_
        obtain ⟨a16, e17, H⟩ := jbd H
        refine Eq.trans (jb_nx (i := .getfield 19) (n := 3) (q := (25, [some (.ref p0), some (.int i1)], [.ref a16])) (jq qX9_placeAt 12 rfl) (jo_gf rfl (jr_R_inv e17))) ?_
        refine Eq.trans (jb_nx (i := .iload_n 1) (n := 1) (q := (26, [some (.ref p0), some (.int i1)], [.int i1, .ref a16])) (jq qX9_placeAt 13 rfl) rfl) ?_
        obtain ⟨x18, e19, H⟩ := jbd H
        refine Eq.trans (jb_nx (i := .iaload) (n := 1) (q := (27, [some (.ref p0), some (.int i1)], [.int x18])) (jq qX9_placeAt 14 rfl) (jo_ial e19)) ?_
        refine Eq.trans (jb_nx (i := .goto 7) (n := 3) (q := (34, [some (.ref p0), some (.int i1)], [.int x18])) (jq qX9_placeAt 15 rfl) rfl) ?_
        exact Eq.trans (jb_rt (i := .ireturn) (n := 1) (jq qX9_placeAt 18 rfl) (jo_iret rfl rfl)) H
      · rw [if_neg c13] at H
        refine Eq.trans (jb_nx (i := .if_icmp .ge 12) (n := 3) (q := (30, [some (.ref p0), some (.int i1)], [])) (jq qX9_placeAt 10 rfl) (jo_icT (jz_geT c13) rfl)) ?_
        refine Eq.trans (jb_nx (i := .aload_n 0) (n := 1) (q := (31, [some (.ref p0), some (.int i1)], [.ref p0])) (jq qX9_placeAt 16 rfl) rfl) ?_
        obtain ⟨x14, e15, H⟩ := jbd H
        refine Eq.trans (jb_nx (i := .getfield 53) (n := 3) (q := (34, [some (.ref p0), some (.int i1)], [.int x14])) (jq qX9_placeAt 17 rfl) (jo_gf rfl (jr_I_inv e15))) ?_
        exact Eq.trans (jb_rt (i := .ireturn) (n := 1) (jq qX9_placeAt 18 rfl) (jo_iret rfl rfl)) H
    · rw [if_neg c6] at H
      refine Eq.trans (jb_nx (i := .if_icmp .ge 21) (n := 3) (q := (30, [some (.ref p0), some (.int i1)], [])) (jq qX9_placeAt 5 rfl) (jo_icT (jz_geT c6) rfl)) ?_
      refine Eq.trans (jb_nx (i := .aload_n 0) (n := 1) (q := (31, [some (.ref p0), some (.int i1)], [.ref p0])) (jq qX9_placeAt 16 rfl) rfl) ?_
      obtain ⟨x7, e8, H⟩ := jbd H
      refine Eq.trans (jb_nx (i := .getfield 53) (n := 3) (q := (34, [some (.ref p0), some (.int i1)], [.int x7])) (jq qX9_placeAt 17 rfl) (jo_gf rfl (jr_I_inv e8))) ?_
      exact Eq.trans (jb_rt (i := .ireturn) (n := 1) (jq qX9_placeAt 18 rfl) (jo_iret rfl rfl)) H
