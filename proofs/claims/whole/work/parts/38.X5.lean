/-! ===== LEVEL 2: X5 ===== -/
/-! MaskPlays$Step <init> ()V -/
def tX5_init : List (Nat × Instr × Nat) := [(0, .aload_n 0, 1), (1, .invokespecial 3, 3), (4, .aload_n 0, 1), (5, .new 9, 3), (8, .dup, 1), (9, .invokespecial 11, 3), (12, .putfield 12, 3), (15, .aload_n 0, 1), (16, .new 9, 3), (19, .dup, 1), (20, .invokespecial 11, 3), (23, .putfield 18, 3), (26, .aload_n 0, 1), (27, .sipush 150, 3), (30, .newarray .boolean, 2), (32, .putfield 21, 3), (35, .aload_n 0, 1), (36, .sipush 150, 3), (39, .newarray .boolean, 2), (41, .putfield 25, 3), (44, .aload_n 0, 1), (45, .sipush 150, 3), (48, .newarray .long, 2), (50, .putfield 28, 3), (53, .aload_n 0, 1), (54, .sipush 151, 3), (57, .newarray .long, 2), (59, .putfield 32, 3), (62, .iconst 0, 1), (63, .istore_n 1, 1), (64, .iload_n 1, 1), (65, .aload_n 0, 1), (66, .getfield 32, 3), (69, .arraylength, 1), (70, .if_icmp .ge 19, 3), (73, .aload_n 0, 1), (74, .getfield 32, 3), (77, .iload_n 1, 1), (78, .iload_n 1, 1), (79, .invokestatic 35, 3), (82, .lastore, 1), (83, .iinc 1 1, 3), (86, .goto (-22), 3), (89, .return_, 1)]
set_option maxRecDepth 100000 in
theorem qX5_init : ∀ q ∈ tX5_init, decode cX5_init q.1 = .ok (q.2.1, q.2.2) := by decide +kernel
noncomputable def kX5_init_64 (d : Nat) (p0 : Nat) (i1 : Int32) (h : jm_H) : Option jm_R := jm_B d mX5_init (64, [some (.ref p0), some (.int i1)], []) h
theorem gX5_init_64 {d : Nat} {p0 : Nat} {i1 : Int32} {h : jm_H} {r : jm_R} (H : ((jr_R h p0 5 8 2).bind fun a44 => (jm_len h a44).bind fun n46 => (if i1 < (Int32.ofNat n46) then (jr_R h p0 5 8 2).bind fun a49 => jc_L (jm_D d mX10_zName [.int i1] h) (fun y53 h51 => (jm_asl h51 a49 i1 y53).bind fun h54 => kX5_init_64 d p0 (i1 + 1) h54) jx else some (.inl none, h))) = some r) : kX5_init_64 d p0 i1 h = some r := by
  show jm_B d mX5_init (64, [some (.ref p0), some (.int i1)], []) h = some r
  refine Eq.trans (jb_nx (i := .iload_n 1) (n := 1) (q := (65, [some (.ref p0), some (.int i1)], [.int i1])) (jq qX5_init 30 rfl) rfl) ?_
  refine Eq.trans (jb_nx (i := .aload_n 0) (n := 1) (q := (66, [some (.ref p0), some (.int i1)], [.ref p0, .int i1])) (jq qX5_init 31 rfl) rfl) ?_
  obtain ⟨a44, e45, H⟩ := jbd H
  refine Eq.trans (jb_nx (i := .getfield 32) (n := 3) (q := (69, [some (.ref p0), some (.int i1)], [.ref a44, .int i1])) (jq qX5_init 32 rfl) (jo_gf rfl (jr_R_inv e45))) ?_
  obtain ⟨n46, e47, H⟩ := jbd H
  refine Eq.trans (jb_nx (i := .arraylength) (n := 1) (q := (70, [some (.ref p0), some (.int i1)], [.int (Int32.ofNat n46), .int i1])) (jq qX5_init 33 rfl) (jo_len e47)) ?_
  by_cases c48 : i1 < (Int32.ofNat n46)
  · rw [if_pos c48] at H
    refine Eq.trans (jb_nx (i := .if_icmp .ge 19) (n := 3) (q := (73, [some (.ref p0), some (.int i1)], [])) (jq qX5_init 34 rfl) (jo_icF (jz_geF c48))) ?_
    refine Eq.trans (jb_nx (i := .aload_n 0) (n := 1) (q := (74, [some (.ref p0), some (.int i1)], [.ref p0])) (jq qX5_init 35 rfl) rfl) ?_
    obtain ⟨a49, e50, H⟩ := jbd H
    refine Eq.trans (jb_nx (i := .getfield 32) (n := 3) (q := (77, [some (.ref p0), some (.int i1)], [.ref a49])) (jq qX5_init 36 rfl) (jo_gf rfl (jr_R_inv e50))) ?_
    refine Eq.trans (jb_nx (i := .iload_n 1) (n := 1) (q := (78, [some (.ref p0), some (.int i1)], [.int i1, .ref a49])) (jq qX5_init 37 rfl) rfl) ?_
    refine Eq.trans (jb_nx (i := .iload_n 1) (n := 1) (q := (79, [some (.ref p0), some (.int i1)], [.int i1, .int i1, .ref a49])) (jq qX5_init 38 rfl) rfl) ?_
    rcases jcL H with ⟨y53, h51, r52, H⟩ | ⟨w56, h57, r52, H⟩
    · refine Eq.trans (jb_nx (i := .invokestatic 35) (n := 3) (q := (82, [some (.ref p0), some (.int i1)], [.long y53, .int i1, .ref a49])) (jq qX5_init 39 rfl) (jo_cs (y := mX10_zName) (w := 1) (by decide) rfl (Nat.le_of_ble_eq_true rfl) rfl (Nat.le_of_ble_eq_true rfl) rfl r52 jo_ret)) ?_
      obtain ⟨h54, e55, H⟩ := jbd H
      refine Eq.trans (jb_nx (i := .lastore) (n := 1) (q := (83, [some (.ref p0), some (.int i1)], [])) (jq qX5_init 40 rfl) (jo_las e55)) ?_
      refine Eq.trans (jb_nx (i := .iinc 1 1) (n := 3) (q := (86, [some (.ref p0), some (.int (i1 + 1))], [])) (jq qX5_init 41 rfl) rfl) ?_
      refine Eq.trans (jb_nx (i := .goto (-22)) (n := 3) (q := (64, [some (.ref p0), some (.int (i1 + 1))], [])) (jq qX5_init 42 rfl) rfl) ?_
      exact H
    · exact Eq.trans (jb_rt (i := .invokestatic 35) (n := 3) (jq qX5_init 39 rfl) (jo_cs (y := mX10_zName) (w := 1) (by decide) rfl (Nat.le_of_ble_eq_true rfl) rfl (Nat.le_of_ble_eq_true rfl) rfl r52 (jo_exn rfl))) H
  · rw [if_neg c48] at H
    refine Eq.trans (jb_nx (i := .if_icmp .ge 19) (n := 3) (q := (89, [some (.ref p0), some (.int i1)], [])) (jq qX5_init 34 rfl) (jo_icT (jz_geT c48) rfl)) ?_
    exact Eq.trans (jb_rt (i := .return_) (n := 1) (jq qX5_init 43 rfl) rfl) H
theorem gX5_init {d : Nat} {p0 : Nat} {h : jm_H} {r : jm_R} (H : (jm_U p0 (jl_new h 3 [.int 0, .null, .null, .null, .null] 5 fun a2 h3 => jm_U a2 (jc_V (jm_D d mX3_init [.ref a2] h3) (fun h6 => (jm_pf h6 p0 5 2 2 (.ref a2)).bind fun h8 => jl_new h8 3 [.int 0, .null, .null, .null, .null] 5 fun a10 h11 => jm_U a10 (jc_V (jm_D d mX3_init [.ref a10] h11) (fun h14 => (jm_pf h14 p0 5 3 2 (.ref a10)).bind fun h16 => jl_newa h16 3 150 fun a18 h19 => (jm_pf h19 p0 5 4 2 (.ref a18)).bind fun h22 => jl_newa h22 3 150 fun a24 h25 => (jm_pf h25 p0 5 5 2 (.ref a24)).bind fun h28 => jl_newa h28 1 150 fun a30 h31 => (jm_pf h31 p0 5 6 2 (.ref a30)).bind fun h34 => jl_newa h34 1 151 fun a36 h37 => (jm_pf h37 p0 5 8 2 (.ref a36)).bind fun h40 => kX5_init_64 d p0 0 h40) (fun _ _ => none))) (fun _ _ => none)))) = some r) : jm_D (d + 1) mX5_init [.ref p0] h = some r := by
  rw [jm_D_body (Nat.le_of_ble_eq_true rfl)]
  show jm_B d mX5_init (0, [some (.ref p0), none], []) h = some r
  refine Eq.trans (jb_nx (i := .aload_n 0) (n := 1) (q := (1, [some (.ref p0), none], [.ref p0])) (jq qX5_init 0 rfl) rfl) ?_
  obtain ⟨u1, H⟩ := jm_U_inv H
  refine Eq.trans (jb_nx (i := .invokespecial 3) (n := 3) (q := (4, [some (.ref p0), none], [])) (jq qX5_init 1 rfl) (jo_oi (z := mX3_clear) rfl (Nat.le_of_ble_eq_true rfl) u1)) ?_
  refine Eq.trans (jb_nx (i := .aload_n 0) (n := 1) (q := (5, [some (.ref p0), none], [.ref p0])) (jq qX5_init 2 rfl) rfl) ?_
  obtain ⟨a2, h3, e4, e5, H⟩ := jl_new_inv H
  refine Eq.trans (jb_nx (i := .new 9) (n := 3) (q := (8, [some (.ref p0), none], [.ref a2, .ref p0])) (jq qX5_init 3 rfl) (jo_newo rfl (by decide) rfl rfl e4 e5)) ?_
  refine Eq.trans (jb_nx (i := .dup) (n := 1) (q := (9, [some (.ref p0), none], [.ref a2, .ref a2, .ref p0])) (jq qX5_init 4 rfl) rfl) ?_
  obtain ⟨u43, H⟩ := jm_U_inv H
  rcases jcV H with ⟨h6, r7, H⟩ | ⟨_, _, _, H⟩
  · refine Eq.trans (jb_nx (i := .invokespecial 11) (n := 3) (q := (12, [some (.ref p0), none], [.ref a2, .ref p0])) (jq qX5_init 5 rfl) (jo_ci (y := mX3_init) (w := 2) (by decide) rfl (Nat.le_of_ble_eq_true rfl) rfl (Nat.le_of_ble_eq_true rfl) u43 rfl r7)) ?_
    obtain ⟨h8, e9, H⟩ := jbd H
    refine Eq.trans (jb_nx (i := .putfield 12) (n := 3) (q := (15, [some (.ref p0), none], [])) (jq qX5_init 6 rfl) (jo_pf rfl (Or.inr ⟨rfl, rfl⟩) e9)) ?_
    refine Eq.trans (jb_nx (i := .aload_n 0) (n := 1) (q := (16, [some (.ref p0), none], [.ref p0])) (jq qX5_init 7 rfl) rfl) ?_
    obtain ⟨a10, h11, e12, e13, H⟩ := jl_new_inv H
    refine Eq.trans (jb_nx (i := .new 9) (n := 3) (q := (19, [some (.ref p0), none], [.ref a10, .ref p0])) (jq qX5_init 8 rfl) (jo_newo rfl (by decide) rfl rfl e12 e13)) ?_
    refine Eq.trans (jb_nx (i := .dup) (n := 1) (q := (20, [some (.ref p0), none], [.ref a10, .ref a10, .ref p0])) (jq qX5_init 9 rfl) rfl) ?_
    obtain ⟨u42, H⟩ := jm_U_inv H
    rcases jcV H with ⟨h14, r15, H⟩ | ⟨_, _, _, H⟩
    · refine Eq.trans (jb_nx (i := .invokespecial 11) (n := 3) (q := (23, [some (.ref p0), none], [.ref a10, .ref p0])) (jq qX5_init 10 rfl) (jo_ci (y := mX3_init) (w := 2) (by decide) rfl (Nat.le_of_ble_eq_true rfl) rfl (Nat.le_of_ble_eq_true rfl) u42 rfl r15)) ?_
      obtain ⟨h16, e17, H⟩ := jbd H
      refine Eq.trans (jb_nx (i := .putfield 18) (n := 3) (q := (26, [some (.ref p0), none], [])) (jq qX5_init 11 rfl) (jo_pf rfl (Or.inr ⟨rfl, rfl⟩) e17)) ?_
      refine Eq.trans (jb_nx (i := .aload_n 0) (n := 1) (q := (27, [some (.ref p0), none], [.ref p0])) (jq qX5_init 12 rfl) rfl) ?_
      refine Eq.trans (jb_nx (i := .sipush 150) (n := 3) (q := (30, [some (.ref p0), none], [.int 150, .ref p0])) (jq qX5_init 13 rfl) rfl) ?_
      obtain ⟨a18, h19, e20, e21, H⟩ := jl_newa_inv H
      refine Eq.trans (jb_nx (i := .newarray .boolean) (n := 2) (q := (32, [some (.ref p0), none], [.ref a18, .ref p0])) (jq qX5_init 14 rfl) (jo_newb rfl e20 e21)) ?_
      obtain ⟨h22, e23, H⟩ := jbd H
      refine Eq.trans (jb_nx (i := .putfield 21) (n := 3) (q := (35, [some (.ref p0), none], [])) (jq qX5_init 15 rfl) (jo_pf rfl (Or.inr ⟨rfl, rfl⟩) e23)) ?_
      refine Eq.trans (jb_nx (i := .aload_n 0) (n := 1) (q := (36, [some (.ref p0), none], [.ref p0])) (jq qX5_init 16 rfl) rfl) ?_
      refine Eq.trans (jb_nx (i := .sipush 150) (n := 3) (q := (39, [some (.ref p0), none], [.int 150, .ref p0])) (jq qX5_init 17 rfl) rfl) ?_
      obtain ⟨a24, h25, e26, e27, H⟩ := jl_newa_inv H
      refine Eq.trans (jb_nx (i := .newarray .boolean) (n := 2) (q := (41, [some (.ref p0), none], [.ref a24, .ref p0])) (jq qX5_init 18 rfl) (jo_newb rfl e26 e27)) ?_
      obtain ⟨h28, e29, H⟩ := jbd H
      refine Eq.trans (jb_nx (i := .putfield 25) (n := 3) (q := (44, [some (.ref p0), none], [])) (jq qX5_init 19 rfl) (jo_pf rfl (Or.inr ⟨rfl, rfl⟩) e29)) ?_
      refine Eq.trans (jb_nx (i := .aload_n 0) (n := 1) (q := (45, [some (.ref p0), none], [.ref p0])) (jq qX5_init 20 rfl) rfl) ?_
      refine Eq.trans (jb_nx (i := .sipush 150) (n := 3) (q := (48, [some (.ref p0), none], [.int 150, .ref p0])) (jq qX5_init 21 rfl) rfl) ?_
      obtain ⟨a30, h31, e32, e33, H⟩ := jl_newa_inv H
      refine Eq.trans (jb_nx (i := .newarray .long) (n := 2) (q := (50, [some (.ref p0), none], [.ref a30, .ref p0])) (jq qX5_init 22 rfl) (jo_newb rfl e32 e33)) ?_
      obtain ⟨h34, e35, H⟩ := jbd H
      refine Eq.trans (jb_nx (i := .putfield 28) (n := 3) (q := (53, [some (.ref p0), none], [])) (jq qX5_init 23 rfl) (jo_pf rfl (Or.inr ⟨rfl, rfl⟩) e35)) ?_
      refine Eq.trans (jb_nx (i := .aload_n 0) (n := 1) (q := (54, [some (.ref p0), none], [.ref p0])) (jq qX5_init 24 rfl) rfl) ?_
      refine Eq.trans (jb_nx (i := .sipush 151) (n := 3) (q := (57, [some (.ref p0), none], [.int 151, .ref p0])) (jq qX5_init 25 rfl) rfl) ?_
      obtain ⟨a36, h37, e38, e39, H⟩ := jl_newa_inv H
      refine Eq.trans (jb_nx (i := .newarray .long) (n := 2) (q := (59, [some (.ref p0), none], [.ref a36, .ref p0])) (jq qX5_init 26 rfl) (jo_newb rfl e38 e39)) ?_
      obtain ⟨h40, e41, H⟩ := jbd H
      refine Eq.trans (jb_nx (i := .putfield 32) (n := 3) (q := (62, [some (.ref p0), none], [])) (jq qX5_init 27 rfl) (jo_pf rfl (Or.inr ⟨rfl, rfl⟩) e41)) ?_
      refine Eq.trans (jb_nx (i := .iconst 0) (n := 1) (q := (63, [some (.ref p0), none], [.int 0])) (jq qX5_init 28 rfl) rfl) ?_
      refine Eq.trans (jb_nx (i := .istore_n 1) (n := 1) (q := (64, [some (.ref p0), some (.int 0)], [])) (jq qX5_init 29 rfl) rfl) ?_
      exact H
    · cases H
  · cases H
/-! MaskPlays$Step canBeTaken (LMaskPlays$Part;)Z -/
def tX5_canBeTaken : List (Nat × Instr × Nat) := [(0, .aload_n 0, 1), (1, .aload_n 1, 1), (2, .invokevirtual 41, 3), (5, .putfield 45, 3), (8, .aload_n 0, 1), (9, .getfield 45, 3), (12, .ifCond .ge 5, 3), (15, .iconst 0, 1), (16, .ireturn, 1), (17, .aload_n 0, 1), (18, .aload_n 0, 1), (19, .getfield 45, 3), (22, .iconst 1, 1), (23, .iadd, 1), (24, .putfield 49, 3), (27, .aload_n 0, 1), (28, .aload_n 1, 1), (29, .aload_n 0, 1), (30, .getfield 49, 3), (33, .invokevirtual 52, 3), (36, .putfield 56, 3), (39, .aload_n 0, 1), (40, .aload_n 1, 1), (41, .aload_n 0, 1), (42, .getfield 45, 3), (45, .invokevirtual 52, 3), (48, .putfield 59, 3), (51, .aload_n 0, 1), (52, .aload_n 1, 1), (53, .invokevirtual 62, 3), (56, .aload_n 0, 1), (57, .getfield 59, 3), (60, .aload_n 0, 1), (61, .getfield 56, 3), (64, .isub, 1), (65, .istore_n 2, 1), (66, .aload_n 1, 1), (67, .getfield 66, 3), (70, .iconst 2, 1), (71, .isub, 1), (72, .iload_n 2, 1), (73, .isub, 1), (74, .aload_n 0, 1), (75, .getfield 69, 3), (78, .isub, 1), (79, .aload_n 0, 1), (80, .getfield 69, 3), (83, .iload_n 2, 1), (84, .imul, 1), (85, .iadd, 1), (86, .sipush 150, 3), (89, .if_icmp .gt 7, 3), (92, .iconst 1, 1), (93, .goto 4, 3), (96, .iconst 0, 1), (97, .ireturn, 1)]
set_option maxRecDepth 100000 in
theorem qX5_canBeTaken : ∀ q ∈ tX5_canBeTaken, decode cX5_canBeTaken q.1 = .ok (q.2.1, q.2.2) := by decide +kernel
theorem gX5_canBeTaken {d : Nat} {p0 : Nat} {p1 : Nat} {h : jm_H} {r : jm_R} (H : (jm_O h p1 3 (jc_I (jm_D d mX3_readyScene [.ref p1] h) (fun x3 h1 => (jm_pf h1 p0 5 9 0 (.int x3)).bind fun h4 => (jr_I h4 p0 5 9 0).bind fun x6 => (if x6 < 0 then some (.inl (some (.int 0)), h4) else (jr_I h4 p0 5 9 0).bind fun x9 => (jm_pf h4 p0 5 10 0 (.int (x9 + 1))).bind fun h11 => (jr_I h11 p0 5 10 0).bind fun x13 => jm_O h11 p1 3 (jc_I (jm_D d mX3_endAt [.ref p1, .int x13] h11) (fun x17 h15 => (jm_pf h15 p0 5 11 0 (.int x17)).bind fun h18 => (jr_I h18 p0 5 9 0).bind fun x20 => jm_O h18 p1 3 (jc_I (jm_D d mX3_endAt [.ref p1, .int x20] h18) (fun x24 h22 => (jm_pf h22 p0 5 12 0 (.int x24)).bind fun h25 => jm_O h25 p0 5 (jc_V (jm_D d mX5_findUses [.ref p0, .ref p1] h25) (fun h27 => (jr_I h27 p0 5 12 0).bind fun x29 => (jr_I h27 p0 5 11 0).bind fun x31 => (jr_I h27 p1 3 0 0).bind fun x33 => (jr_I h27 p0 5 13 0).bind fun x35 => (jr_I h27 p0 5 13 0).bind fun x37 => (if 150 < ((((x33 - 2) - (x29 - x31)) - x35) + (x37 * (x29 - x31))) then some (.inl (some (.int 0)), h27) else some (.inl (some (.int 1)), h27))) jx)) jx)) jx))) jx)) = some r) : jm_D (d + 1) mX5_canBeTaken [.ref p0, .ref p1] h = some r := by
  rw [jm_D_body (Nat.le_of_ble_eq_true rfl)]
  show jm_B d mX5_canBeTaken (0, [some (.ref p0), some (.ref p1), none], []) h = some r
  refine Eq.trans (jb_nx (i := .aload_n 0) (n := 1) (q := (1, [some (.ref p0), some (.ref p1), none], [.ref p0])) (jq qX5_canBeTaken 0 rfl) rfl) ?_
  refine Eq.trans (jb_nx (i := .aload_n 1) (n := 1) (q := (2, [some (.ref p0), some (.ref p1), none], [.ref p1, .ref p0])) (jq qX5_canBeTaken 1 rfl) rfl) ?_
  obtain ⟨b49, H⟩ := jm_O_inv H
  rcases jcI H with ⟨x3, h1, r2, H⟩ | ⟨w50, h51, r2, H⟩
  · refine Eq.trans (jb_nx (i := .invokevirtual 41) (n := 3) (q := (5, [some (.ref p0), some (.ref p1), none], [.int x3, .ref p0])) (jq qX5_canBeTaken 2 rfl) (jo_cv (y := mX3_readyScene) rfl (Nat.le_of_ble_eq_true rfl) rfl (Nat.le_of_ble_eq_true rfl) b49 rfl r2 jo_ret)) ?_
    obtain ⟨h4, e5, H⟩ := jbd H
    refine Eq.trans (jb_nx (i := .putfield 45) (n := 3) (q := (8, [some (.ref p0), some (.ref p1), none], [])) (jq qX5_canBeTaken 3 rfl) (jo_pf rfl (Or.inl rfl) e5)) ?_
    refine Eq.trans (jb_nx (i := .aload_n 0) (n := 1) (q := (9, [some (.ref p0), some (.ref p1), none], [.ref p0])) (jq qX5_canBeTaken 4 rfl) rfl) ?_
    obtain ⟨x6, e7, H⟩ := jbd H
    refine Eq.trans (jb_nx (i := .getfield 45) (n := 3) (q := (12, [some (.ref p0), some (.ref p1), none], [.int x6])) (jq qX5_canBeTaken 5 rfl) (jo_gf rfl (jr_I_inv e7))) ?_
    by_cases c8 : x6 < 0
    · rw [if_pos c8] at H
      refine Eq.trans (jb_nx (i := .ifCond .ge 5) (n := 3) (q := (15, [some (.ref p0), some (.ref p1), none], [])) (jq qX5_canBeTaken 6 rfl) (jo_ifF (jz_geF c8))) ?_
      refine Eq.trans (jb_nx (i := .iconst 0) (n := 1) (q := (16, [some (.ref p0), some (.ref p1), none], [.int 0])) (jq qX5_canBeTaken 7 rfl) rfl) ?_
      exact Eq.trans (jb_rt (i := .ireturn) (n := 1) (jq qX5_canBeTaken 8 rfl) (jo_iret rfl (by decide))) H
    · rw [if_neg c8] at H
      refine Eq.trans (jb_nx (i := .ifCond .ge 5) (n := 3) (q := (17, [some (.ref p0), some (.ref p1), none], [])) (jq qX5_canBeTaken 6 rfl) (jo_ifT (jz_geT c8) rfl)) ?_
      refine Eq.trans (jb_nx (i := .aload_n 0) (n := 1) (q := (18, [some (.ref p0), some (.ref p1), none], [.ref p0])) (jq qX5_canBeTaken 9 rfl) rfl) ?_
      refine Eq.trans (jb_nx (i := .aload_n 0) (n := 1) (q := (19, [some (.ref p0), some (.ref p1), none], [.ref p0, .ref p0])) (jq qX5_canBeTaken 10 rfl) rfl) ?_
      obtain ⟨x9, e10, H⟩ := jbd H
      refine Eq.trans (jb_nx (i := .getfield 45) (n := 3) (q := (22, [some (.ref p0), some (.ref p1), none], [.int x9, .ref p0])) (jq qX5_canBeTaken 11 rfl) (jo_gf rfl (jr_I_inv e10))) ?_
      refine Eq.trans (jb_nx (i := .iconst 1) (n := 1) (q := (23, [some (.ref p0), some (.ref p1), none], [.int 1, .int x9, .ref p0])) (jq qX5_canBeTaken 12 rfl) rfl) ?_
      refine Eq.trans (jb_nx (i := .iadd) (n := 1) (q := (24, [some (.ref p0), some (.ref p1), none], [.int (x9 + 1), .ref p0])) (jq qX5_canBeTaken 13 rfl) rfl) ?_
      obtain ⟨h11, e12, H⟩ := jbd H
      refine Eq.trans (jb_nx (i := .putfield 49) (n := 3) (q := (27, [some (.ref p0), some (.ref p1), none], [])) (jq qX5_canBeTaken 14 rfl) (jo_pf rfl (Or.inl rfl) e12)) ?_
      refine Eq.trans (jb_nx (i := .aload_n 0) (n := 1) (q := (28, [some (.ref p0), some (.ref p1), none], [.ref p0])) (jq qX5_canBeTaken 15 rfl) rfl) ?_
      refine Eq.trans (jb_nx (i := .aload_n 1) (n := 1) (q := (29, [some (.ref p0), some (.ref p1), none], [.ref p1, .ref p0])) (jq qX5_canBeTaken 16 rfl) rfl) ?_
      refine Eq.trans (jb_nx (i := .aload_n 0) (n := 1) (q := (30, [some (.ref p0), some (.ref p1), none], [.ref p0, .ref p1, .ref p0])) (jq qX5_canBeTaken 17 rfl) rfl) ?_
      obtain ⟨x13, e14, H⟩ := jbd H
      refine Eq.trans (jb_nx (i := .getfield 49) (n := 3) (q := (33, [some (.ref p0), some (.ref p1), none], [.int x13, .ref p1, .ref p0])) (jq qX5_canBeTaken 18 rfl) (jo_gf rfl (jr_I_inv e14))) ?_
      obtain ⟨b46, H⟩ := jm_O_inv H
      rcases jcI H with ⟨x17, h15, r16, H⟩ | ⟨w47, h48, r16, H⟩
      · refine Eq.trans (jb_nx (i := .invokevirtual 52) (n := 3) (q := (36, [some (.ref p0), some (.ref p1), none], [.int x17, .ref p0])) (jq qX5_canBeTaken 19 rfl) (jo_cv (y := mX3_endAt) rfl (Nat.le_of_ble_eq_true rfl) rfl (Nat.le_of_ble_eq_true rfl) b46 rfl r16 jo_ret)) ?_
        obtain ⟨h18, e19, H⟩ := jbd H
        refine Eq.trans (jb_nx (i := .putfield 56) (n := 3) (q := (39, [some (.ref p0), some (.ref p1), none], [])) (jq qX5_canBeTaken 20 rfl) (jo_pf rfl (Or.inl rfl) e19)) ?_
        refine Eq.trans (jb_nx (i := .aload_n 0) (n := 1) (q := (40, [some (.ref p0), some (.ref p1), none], [.ref p0])) (jq qX5_canBeTaken 21 rfl) rfl) ?_
        refine Eq.trans (jb_nx (i := .aload_n 1) (n := 1) (q := (41, [some (.ref p0), some (.ref p1), none], [.ref p1, .ref p0])) (jq qX5_canBeTaken 22 rfl) rfl) ?_
        refine Eq.trans (jb_nx (i := .aload_n 0) (n := 1) (q := (42, [some (.ref p0), some (.ref p1), none], [.ref p0, .ref p1, .ref p0])) (jq qX5_canBeTaken 23 rfl) rfl) ?_
        obtain ⟨x20, e21, H⟩ := jbd H
        refine Eq.trans (jb_nx (i := .getfield 45) (n := 3) (q := (45, [some (.ref p0), some (.ref p1), none], [.int x20, .ref p1, .ref p0])) (jq qX5_canBeTaken 24 rfl) (jo_gf rfl (jr_I_inv e21))) ?_
        obtain ⟨b43, H⟩ := jm_O_inv H
        rcases jcI H with ⟨x24, h22, r23, H⟩ | ⟨w44, h45, r23, H⟩
        · refine Eq.trans (jb_nx (i := .invokevirtual 52) (n := 3) (q := (48, [some (.ref p0), some (.ref p1), none], [.int x24, .ref p0])) (jq qX5_canBeTaken 25 rfl) (jo_cv (y := mX3_endAt) rfl (Nat.le_of_ble_eq_true rfl) rfl (Nat.le_of_ble_eq_true rfl) b43 rfl r23 jo_ret)) ?_
          obtain ⟨h25, e26, H⟩ := jbd H
          refine Eq.trans (jb_nx (i := .putfield 59) (n := 3) (q := (51, [some (.ref p0), some (.ref p1), none], [])) (jq qX5_canBeTaken 26 rfl) (jo_pf rfl (Or.inl rfl) e26)) ?_
          refine Eq.trans (jb_nx (i := .aload_n 0) (n := 1) (q := (52, [some (.ref p0), some (.ref p1), none], [.ref p0])) (jq qX5_canBeTaken 27 rfl) rfl) ?_
          refine Eq.trans (jb_nx (i := .aload_n 1) (n := 1) (q := (53, [some (.ref p0), some (.ref p1), none], [.ref p1, .ref p0])) (jq qX5_canBeTaken 28 rfl) rfl) ?_
          obtain ⟨b40, H⟩ := jm_O_inv H
          rcases jcV H with ⟨h27, r28, H⟩ | ⟨w41, h42, r28, H⟩
          · refine Eq.trans (jb_nx (i := .invokevirtual 62) (n := 3) (q := (56, [some (.ref p0), some (.ref p1), none], [])) (jq qX5_canBeTaken 29 rfl) (jo_cv (y := mX5_findUses) rfl (Nat.le_of_ble_eq_true rfl) rfl (Nat.le_of_ble_eq_true rfl) b40 rfl r28 jo_ret)) ?_
            refine Eq.trans (jb_nx (i := .aload_n 0) (n := 1) (q := (57, [some (.ref p0), some (.ref p1), none], [.ref p0])) (jq qX5_canBeTaken 30 rfl) rfl) ?_
            obtain ⟨x29, e30, H⟩ := jbd H
            refine Eq.trans (jb_nx (i := .getfield 59) (n := 3) (q := (60, [some (.ref p0), some (.ref p1), none], [.int x29])) (jq qX5_canBeTaken 31 rfl) (jo_gf rfl (jr_I_inv e30))) ?_
            refine Eq.trans (jb_nx (i := .aload_n 0) (n := 1) (q := (61, [some (.ref p0), some (.ref p1), none], [.ref p0, .int x29])) (jq qX5_canBeTaken 32 rfl) rfl) ?_
            obtain ⟨x31, e32, H⟩ := jbd H
            refine Eq.trans (jb_nx (i := .getfield 56) (n := 3) (q := (64, [some (.ref p0), some (.ref p1), none], [.int x31, .int x29])) (jq qX5_canBeTaken 33 rfl) (jo_gf rfl (jr_I_inv e32))) ?_
            refine Eq.trans (jb_nx (i := .isub) (n := 1) (q := (65, [some (.ref p0), some (.ref p1), none], [.int (x29 - x31)])) (jq qX5_canBeTaken 34 rfl) rfl) ?_
            refine Eq.trans (jb_nx (i := .istore_n 2) (n := 1) (q := (66, [some (.ref p0), some (.ref p1), some (.int (x29 - x31))], [])) (jq qX5_canBeTaken 35 rfl) rfl) ?_
            refine Eq.trans (jb_nx (i := .aload_n 1) (n := 1) (q := (67, [some (.ref p0), some (.ref p1), some (.int (x29 - x31))], [.ref p1])) (jq qX5_canBeTaken 36 rfl) rfl) ?_
            obtain ⟨x33, e34, H⟩ := jbd H
            refine Eq.trans (jb_nx (i := .getfield 66) (n := 3) (q := (70, [some (.ref p0), some (.ref p1), some (.int (x29 - x31))], [.int x33])) (jq qX5_canBeTaken 37 rfl) (jo_gf rfl (jr_I_inv e34))) ?_
            refine Eq.trans (jb_nx (i := .iconst 2) (n := 1) (q := (71, [some (.ref p0), some (.ref p1), some (.int (x29 - x31))], [.int 2, .int x33])) (jq qX5_canBeTaken 38 rfl) rfl) ?_
            refine Eq.trans (jb_nx (i := .isub) (n := 1) (q := (72, [some (.ref p0), some (.ref p1), some (.int (x29 - x31))], [.int (x33 - 2)])) (jq qX5_canBeTaken 39 rfl) rfl) ?_
            refine Eq.trans (jb_nx (i := .iload_n 2) (n := 1) (q := (73, [some (.ref p0), some (.ref p1), some (.int (x29 - x31))], [.int (x29 - x31), .int (x33 - 2)])) (jq qX5_canBeTaken 40 rfl) rfl) ?_
            refine Eq.trans (jb_nx (i := .isub) (n := 1) (q := (74, [some (.ref p0), some (.ref p1), some (.int (x29 - x31))], [.int ((x33 - 2) - (x29 - x31))])) (jq qX5_canBeTaken 41 rfl) rfl) ?_
            refine Eq.trans (jb_nx (i := .aload_n 0) (n := 1) (q := (75, [some (.ref p0), some (.ref p1), some (.int (x29 - x31))], [.ref p0, .int ((x33 - 2) - (x29 - x31))])) (jq qX5_canBeTaken 42 rfl) rfl) ?_
            obtain ⟨x35, e36, H⟩ := jbd H
            refine Eq.trans (jb_nx (i := .getfield 69) (n := 3) (q := (78, [some (.ref p0), some (.ref p1), some (.int (x29 - x31))], [.int x35, .int ((x33 - 2) - (x29 - x31))])) (jq qX5_canBeTaken 43 rfl) (jo_gf rfl (jr_I_inv e36))) ?_
            refine Eq.trans (jb_nx (i := .isub) (n := 1) (q := (79, [some (.ref p0), some (.ref p1), some (.int (x29 - x31))], [.int (((x33 - 2) - (x29 - x31)) - x35)])) (jq qX5_canBeTaken 44 rfl) rfl) ?_
            refine Eq.trans (jb_nx (i := .aload_n 0) (n := 1) (q := (80, [some (.ref p0), some (.ref p1), some (.int (x29 - x31))], [.ref p0, .int (((x33 - 2) - (x29 - x31)) - x35)])) (jq qX5_canBeTaken 45 rfl) rfl) ?_
            obtain ⟨x37, e38, H⟩ := jbd H
            refine Eq.trans (jb_nx (i := .getfield 69) (n := 3) (q := (83, [some (.ref p0), some (.ref p1), some (.int (x29 - x31))], [.int x37, .int (((x33 - 2) - (x29 - x31)) - x35)])) (jq qX5_canBeTaken 46 rfl) (jo_gf rfl (jr_I_inv e38))) ?_
            refine Eq.trans (jb_nx (i := .iload_n 2) (n := 1) (q := (84, [some (.ref p0), some (.ref p1), some (.int (x29 - x31))], [.int (x29 - x31), .int x37, .int (((x33 - 2) - (x29 - x31)) - x35)])) (jq qX5_canBeTaken 47 rfl) rfl) ?_
            refine Eq.trans (jb_nx (i := .imul) (n := 1) (q := (85, [some (.ref p0), some (.ref p1), some (.int (x29 - x31))], [.int (x37 * (x29 - x31)), .int (((x33 - 2) - (x29 - x31)) - x35)])) (jq qX5_canBeTaken 48 rfl) rfl) ?_
            refine Eq.trans (jb_nx (i := .iadd) (n := 1) (q := (86, [some (.ref p0), some (.ref p1), some (.int (x29 - x31))], [.int ((((x33 - 2) - (x29 - x31)) - x35) + (x37 * (x29 - x31)))])) (jq qX5_canBeTaken 49 rfl) rfl) ?_
            refine Eq.trans (jb_nx (i := .sipush 150) (n := 3) (q := (89, [some (.ref p0), some (.ref p1), some (.int (x29 - x31))], [.int 150, .int ((((x33 - 2) - (x29 - x31)) - x35) + (x37 * (x29 - x31)))])) (jq qX5_canBeTaken 50 rfl) rfl) ?_
            by_cases c39 : 150 < ((((x33 - 2) - (x29 - x31)) - x35) + (x37 * (x29 - x31)))
            · rw [if_pos c39] at H
              refine Eq.trans (jb_nx (i := .if_icmp .gt 7) (n := 3) (q := (96, [some (.ref p0), some (.ref p1), some (.int (x29 - x31))], [])) (jq qX5_canBeTaken 51 rfl) (jo_icT (jz_gtT c39) rfl)) ?_
              refine Eq.trans (jb_nx (i := .iconst 0) (n := 1) (q := (97, [some (.ref p0), some (.ref p1), some (.int (x29 - x31))], [.int 0])) (jq qX5_canBeTaken 54 rfl) rfl) ?_
              exact Eq.trans (jb_rt (i := .ireturn) (n := 1) (jq qX5_canBeTaken 55 rfl) (jo_iret rfl (by decide))) H
            · rw [if_neg c39] at H
              refine Eq.trans (jb_nx (i := .if_icmp .gt 7) (n := 3) (q := (92, [some (.ref p0), some (.ref p1), some (.int (x29 - x31))], [])) (jq qX5_canBeTaken 51 rfl) (jo_icF (jz_gtF c39))) ?_
              refine Eq.trans (jb_nx (i := .iconst 1) (n := 1) (q := (93, [some (.ref p0), some (.ref p1), some (.int (x29 - x31))], [.int 1])) (jq qX5_canBeTaken 52 rfl) rfl) ?_
              refine Eq.trans (jb_nx (i := .goto 4) (n := 3) (q := (97, [some (.ref p0), some (.ref p1), some (.int (x29 - x31))], [.int 1])) (jq qX5_canBeTaken 53 rfl) rfl) ?_
              exact Eq.trans (jb_rt (i := .ireturn) (n := 1) (jq qX5_canBeTaken 55 rfl) (jo_iret rfl (by decide))) H
          · exact Eq.trans (jb_rt (i := .invokevirtual 62) (n := 3) (jq qX5_canBeTaken 29 rfl) (jo_cv (y := mX5_findUses) rfl (Nat.le_of_ble_eq_true rfl) rfl (Nat.le_of_ble_eq_true rfl) b40 rfl r28 (jo_exn rfl))) H
        · exact Eq.trans (jb_rt (i := .invokevirtual 52) (n := 3) (jq qX5_canBeTaken 25 rfl) (jo_cv (y := mX3_endAt) rfl (Nat.le_of_ble_eq_true rfl) rfl (Nat.le_of_ble_eq_true rfl) b43 rfl r23 (jo_exn rfl))) H
      · exact Eq.trans (jb_rt (i := .invokevirtual 52) (n := 3) (jq qX5_canBeTaken 19 rfl) (jo_cv (y := mX3_endAt) rfl (Nat.le_of_ble_eq_true rfl) rfl (Nat.le_of_ble_eq_true rfl) b46 rfl r16 (jo_exn rfl))) H
  · exact Eq.trans (jb_rt (i := .invokevirtual 41) (n := 3) (jq qX5_canBeTaken 2 rfl) (jo_cv (y := mX3_readyScene) rfl (Nat.le_of_ble_eq_true rfl) rfl (Nat.le_of_ble_eq_true rfl) b49 rfl r2 (jo_exn rfl))) H
/-! MaskPlays$Step findUses (LMaskPlays$Part;)V -/
def tX5_findUses : List (Nat × Instr × Nat) := [(0, .aload_n 0, 1), (1, .iconst 0, 1), (2, .putfield 69, 3), (5, .aload_n 1, 1), (6, .aload_n 0, 1), (7, .getfield 49, 3), (10, .invokevirtual 104, 3), (13, .lstore_n 2, 1), (14, .iconst 0, 1), (15, .istore 4, 2), (17, .iload 4, 2), (19, .aload_n 0, 1), (20, .getfield 21, 3), (23, .arraylength, 1), (24, .if_icmp .ge 92, 3), (27, .aload_n 0, 1), (28, .getfield 21, 3), (31, .iload 4, 2), (33, .iload 4, 2), (35, .aload_n 0, 1), (36, .getfield 49, 3), (39, .if_icmp .le 49, 3), (42, .iload 4, 2), (44, .aload_n 0, 1), (45, .getfield 56, 3), (48, .if_icmp .ge 40, 3), (51, .aload_n 1, 1), (52, .iload 4, 2), (54, .invokevirtual 107, 3), (57, .ifCond .ne 31, 3), (60, .aload_n 1, 1), (61, .iload 4, 2), (63, .invokevirtual 104, 3), (66, .lload_n 2, 1), (67, .lcmp, 1), (68, .ifCond .ne 20, 3), (71, .aload_n 1, 1), (72, .iload 4, 2), (74, .invokevirtual 110, 3), (77, .aload_n 0, 1), (78, .getfield 49, 3), (81, .if_icmp .ne 7, 3), (84, .iconst 1, 1), (85, .goto 4, 3), (88, .iconst 0, 1), (89, .bastore, 1), (90, .aload_n 0, 1), (91, .getfield 21, 3), (94, .iload 4, 2), (96, .baload, 1), (97, .ifCond .eq 13, 3), (100, .aload_n 0, 1), (101, .dup, 1), (102, .getfield 69, 3), (105, .iconst 1, 1), (106, .iadd, 1), (107, .putfield 69, 3), (110, .iinc 4 1, 3), (113, .goto (-96), 3), (116, .return_, 1)]
set_option maxRecDepth 100000 in
theorem qX5_findUses : ∀ q ∈ tX5_findUses, decode cX5_findUses q.1 = .ok (q.2.1, q.2.2) := by decide +kernel
noncomputable def kX5_findUses_17 (d : Nat) (p0 : Nat) (p1 : Nat) (j2 : Int64) (i4 : Int32) (h : jm_H) : Option jm_R := jm_B d mX5_findUses (17, [some (.ref p0), some (.ref p1), some (.long j2), none, some (.int i4)], []) h
noncomputable def kX5_findUses_89 (d : Nat) (p0 : Nat) (p1 : Nat) (j2 : Int64) (i4 : Int32) (si0 : Int32) (si1 : Int32) (sp2 : Nat) (h : jm_H) : Option jm_R := jm_B d mX5_findUses (89, [some (.ref p0), some (.ref p1), some (.long j2), none, some (.int i4)], [.int si0, .int si1, .ref sp2]) h
theorem gX5_findUses_17 {d : Nat} {p0 : Nat} {p1 : Nat} {j2 : Int64} {i4 : Int32} {h : jm_H} {r : jm_R} (H : ((jr_R h p0 5 4 2).bind fun a11 => (jm_len h a11).bind fun n13 => (if i4 < (Int32.ofNat n13) then (jr_R h p0 5 4 2).bind fun a16 => (jr_I h p0 5 10 0).bind fun x18 => (if x18 < i4 then (jr_I h p0 5 11 0).bind fun x21 => (if i4 < x21 then jm_O h p1 3 (jc_I (jm_D d mX3_kindAt [.ref p1, .int i4] h) (fun x26 h24 => (if x26 = 0 then jm_O h24 p1 3 (jc_L (jm_D d mX3_nameAt [.ref p1, .int i4] h24) (fun y30 h28 => (if (lg_cmp y30 j2) = 0 then jm_O h28 p1 3 (jc_I (jm_D d mX3_maskOf [.ref p1, .int i4] h28) (fun x34 h32 => (jr_I h32 p0 5 10 0).bind fun x35 => (if x34 = x35 then kX5_findUses_89 d p0 p1 j2 i4 1 i4 a16 h32 else kX5_findUses_89 d p0 p1 j2 i4 0 i4 a16 h32)) jx) else kX5_findUses_89 d p0 p1 j2 i4 0 i4 a16 h28)) jx) else kX5_findUses_89 d p0 p1 j2 i4 0 i4 a16 h24)) jx) else kX5_findUses_89 d p0 p1 j2 i4 0 i4 a16 h) else kX5_findUses_89 d p0 p1 j2 i4 0 i4 a16 h) else some (.inl none, h))) = some r) : kX5_findUses_17 d p0 p1 j2 i4 h = some r := by
  show jm_B d mX5_findUses (17, [some (.ref p0), some (.ref p1), some (.long j2), none, some (.int i4)], []) h = some r
  refine Eq.trans (jb_nx (i := .iload 4) (n := 2) (q := (19, [some (.ref p0), some (.ref p1), some (.long j2), none, some (.int i4)], [.int i4])) (jq qX5_findUses 10 rfl) rfl) ?_
  refine Eq.trans (jb_nx (i := .aload_n 0) (n := 1) (q := (20, [some (.ref p0), some (.ref p1), some (.long j2), none, some (.int i4)], [.ref p0, .int i4])) (jq qX5_findUses 11 rfl) rfl) ?_
  obtain ⟨a11, e12, H⟩ := jbd H
  refine Eq.trans (jb_nx (i := .getfield 21) (n := 3) (q := (23, [some (.ref p0), some (.ref p1), some (.long j2), none, some (.int i4)], [.ref a11, .int i4])) (jq qX5_findUses 12 rfl) (jo_gf rfl (jr_R_inv e12))) ?_
  obtain ⟨n13, e14, H⟩ := jbd H
  refine Eq.trans (jb_nx (i := .arraylength) (n := 1) (q := (24, [some (.ref p0), some (.ref p1), some (.long j2), none, some (.int i4)], [.int (Int32.ofNat n13), .int i4])) (jq qX5_findUses 13 rfl) (jo_len e14)) ?_
  by_cases c15 : i4 < (Int32.ofNat n13)
  · rw [if_pos c15] at H
    refine Eq.trans (jb_nx (i := .if_icmp .ge 92) (n := 3) (q := (27, [some (.ref p0), some (.ref p1), some (.long j2), none, some (.int i4)], [])) (jq qX5_findUses 14 rfl) (jo_icF (jz_geF c15))) ?_
    refine Eq.trans (jb_nx (i := .aload_n 0) (n := 1) (q := (28, [some (.ref p0), some (.ref p1), some (.long j2), none, some (.int i4)], [.ref p0])) (jq qX5_findUses 15 rfl) rfl) ?_
    obtain ⟨a16, e17, H⟩ := jbd H
    refine Eq.trans (jb_nx (i := .getfield 21) (n := 3) (q := (31, [some (.ref p0), some (.ref p1), some (.long j2), none, some (.int i4)], [.ref a16])) (jq qX5_findUses 16 rfl) (jo_gf rfl (jr_R_inv e17))) ?_
    refine Eq.trans (jb_nx (i := .iload 4) (n := 2) (q := (33, [some (.ref p0), some (.ref p1), some (.long j2), none, some (.int i4)], [.int i4, .ref a16])) (jq qX5_findUses 17 rfl) rfl) ?_
    refine Eq.trans (jb_nx (i := .iload 4) (n := 2) (q := (35, [some (.ref p0), some (.ref p1), some (.long j2), none, some (.int i4)], [.int i4, .int i4, .ref a16])) (jq qX5_findUses 18 rfl) rfl) ?_
    refine Eq.trans (jb_nx (i := .aload_n 0) (n := 1) (q := (36, [some (.ref p0), some (.ref p1), some (.long j2), none, some (.int i4)], [.ref p0, .int i4, .int i4, .ref a16])) (jq qX5_findUses 19 rfl) rfl) ?_
    obtain ⟨x18, e19, H⟩ := jbd H
    refine Eq.trans (jb_nx (i := .getfield 49) (n := 3) (q := (39, [some (.ref p0), some (.ref p1), some (.long j2), none, some (.int i4)], [.int x18, .int i4, .int i4, .ref a16])) (jq qX5_findUses 20 rfl) (jo_gf rfl (jr_I_inv e19))) ?_
    by_cases c20 : x18 < i4
    · rw [if_pos c20] at H
      refine Eq.trans (jb_nx (i := .if_icmp .le 49) (n := 3) (q := (42, [some (.ref p0), some (.ref p1), some (.long j2), none, some (.int i4)], [.int i4, .ref a16])) (jq qX5_findUses 21 rfl) (jo_icF (jz_leF c20))) ?_
      refine Eq.trans (jb_nx (i := .iload 4) (n := 2) (q := (44, [some (.ref p0), some (.ref p1), some (.long j2), none, some (.int i4)], [.int i4, .int i4, .ref a16])) (jq qX5_findUses 22 rfl) rfl) ?_
      refine Eq.trans (jb_nx (i := .aload_n 0) (n := 1) (q := (45, [some (.ref p0), some (.ref p1), some (.long j2), none, some (.int i4)], [.ref p0, .int i4, .int i4, .ref a16])) (jq qX5_findUses 23 rfl) rfl) ?_
      obtain ⟨x21, e22, H⟩ := jbd H
      refine Eq.trans (jb_nx (i := .getfield 56) (n := 3) (q := (48, [some (.ref p0), some (.ref p1), some (.long j2), none, some (.int i4)], [.int x21, .int i4, .int i4, .ref a16])) (jq qX5_findUses 24 rfl) (jo_gf rfl (jr_I_inv e22))) ?_
      by_cases c23 : i4 < x21
      · rw [if_pos c23] at H
        refine Eq.trans (jb_nx (i := .if_icmp .ge 40) (n := 3) (q := (51, [some (.ref p0), some (.ref p1), some (.long j2), none, some (.int i4)], [.int i4, .ref a16])) (jq qX5_findUses 25 rfl) (jo_icF (jz_geF c23))) ?_
        refine Eq.trans (jb_nx (i := .aload_n 1) (n := 1) (q := (52, [some (.ref p0), some (.ref p1), some (.long j2), none, some (.int i4)], [.ref p1, .int i4, .ref a16])) (jq qX5_findUses 26 rfl) rfl) ?_
        refine Eq.trans (jb_nx (i := .iload 4) (n := 2) (q := (54, [some (.ref p0), some (.ref p1), some (.long j2), none, some (.int i4)], [.int i4, .ref p1, .int i4, .ref a16])) (jq qX5_findUses 27 rfl) rfl) ?_
        obtain ⟨b44, H⟩ := jm_O_inv H
        rcases jcI H with ⟨x26, h24, r25, H⟩ | ⟨w45, h46, r25, H⟩
        · refine Eq.trans (jb_nx (i := .invokevirtual 107) (n := 3) (q := (57, [some (.ref p0), some (.ref p1), some (.long j2), none, some (.int i4)], [.int x26, .int i4, .ref a16])) (jq qX5_findUses 28 rfl) (jo_cv (y := mX3_kindAt) rfl (Nat.le_of_ble_eq_true rfl) rfl (Nat.le_of_ble_eq_true rfl) b44 rfl r25 jo_ret)) ?_
          by_cases c27 : x26 = 0
          · rw [if_pos c27] at H
            refine Eq.trans (jb_nx (i := .ifCond .ne 31) (n := 3) (q := (60, [some (.ref p0), some (.ref p1), some (.long j2), none, some (.int i4)], [.int i4, .ref a16])) (jq qX5_findUses 29 rfl) (jo_ifF (jz_neF c27))) ?_
            refine Eq.trans (jb_nx (i := .aload_n 1) (n := 1) (q := (61, [some (.ref p0), some (.ref p1), some (.long j2), none, some (.int i4)], [.ref p1, .int i4, .ref a16])) (jq qX5_findUses 30 rfl) rfl) ?_
            refine Eq.trans (jb_nx (i := .iload 4) (n := 2) (q := (63, [some (.ref p0), some (.ref p1), some (.long j2), none, some (.int i4)], [.int i4, .ref p1, .int i4, .ref a16])) (jq qX5_findUses 31 rfl) rfl) ?_
            obtain ⟨b41, H⟩ := jm_O_inv H
            rcases jcL H with ⟨y30, h28, r29, H⟩ | ⟨w42, h43, r29, H⟩
            · refine Eq.trans (jb_nx (i := .invokevirtual 104) (n := 3) (q := (66, [some (.ref p0), some (.ref p1), some (.long j2), none, some (.int i4)], [.long y30, .int i4, .ref a16])) (jq qX5_findUses 32 rfl) (jo_cv (y := mX3_nameAt) rfl (Nat.le_of_ble_eq_true rfl) rfl (Nat.le_of_ble_eq_true rfl) b41 rfl r29 jo_ret)) ?_
              refine Eq.trans (jb_nx (i := .lload_n 2) (n := 1) (q := (67, [some (.ref p0), some (.ref p1), some (.long j2), none, some (.int i4)], [.long j2, .long y30, .int i4, .ref a16])) (jq qX5_findUses 33 rfl) rfl) ?_
              refine Eq.trans (jb_nx (i := .lcmp) (n := 1) (q := (68, [some (.ref p0), some (.ref p1), some (.long j2), none, some (.int i4)], [.int (lg_cmp y30 j2), .int i4, .ref a16])) (jq qX5_findUses 34 rfl) rfl) ?_
              by_cases c31 : (lg_cmp y30 j2) = 0
              · rw [if_pos c31] at H
                refine Eq.trans (jb_nx (i := .ifCond .ne 20) (n := 3) (q := (71, [some (.ref p0), some (.ref p1), some (.long j2), none, some (.int i4)], [.int i4, .ref a16])) (jq qX5_findUses 35 rfl) (jo_ifF (jz_neF c31))) ?_
                refine Eq.trans (jb_nx (i := .aload_n 1) (n := 1) (q := (72, [some (.ref p0), some (.ref p1), some (.long j2), none, some (.int i4)], [.ref p1, .int i4, .ref a16])) (jq qX5_findUses 36 rfl) rfl) ?_
                refine Eq.trans (jb_nx (i := .iload 4) (n := 2) (q := (74, [some (.ref p0), some (.ref p1), some (.long j2), none, some (.int i4)], [.int i4, .ref p1, .int i4, .ref a16])) (jq qX5_findUses 37 rfl) rfl) ?_
                obtain ⟨b38, H⟩ := jm_O_inv H
                rcases jcI H with ⟨x34, h32, r33, H⟩ | ⟨w39, h40, r33, H⟩
                · refine Eq.trans (jb_nx (i := .invokevirtual 110) (n := 3) (q := (77, [some (.ref p0), some (.ref p1), some (.long j2), none, some (.int i4)], [.int x34, .int i4, .ref a16])) (jq qX5_findUses 38 rfl) (jo_cv (y := mX3_maskOf) rfl (Nat.le_of_ble_eq_true rfl) rfl (Nat.le_of_ble_eq_true rfl) b38 rfl r33 jo_ret)) ?_
                  refine Eq.trans (jb_nx (i := .aload_n 0) (n := 1) (q := (78, [some (.ref p0), some (.ref p1), some (.long j2), none, some (.int i4)], [.ref p0, .int x34, .int i4, .ref a16])) (jq qX5_findUses 39 rfl) rfl) ?_
                  obtain ⟨x35, e36, H⟩ := jbd H
                  refine Eq.trans (jb_nx (i := .getfield 49) (n := 3) (q := (81, [some (.ref p0), some (.ref p1), some (.long j2), none, some (.int i4)], [.int x35, .int x34, .int i4, .ref a16])) (jq qX5_findUses 40 rfl) (jo_gf rfl (jr_I_inv e36))) ?_
                  by_cases c37 : x34 = x35
                  · rw [if_pos c37] at H
                    refine Eq.trans (jb_nx (i := .if_icmp .ne 7) (n := 3) (q := (84, [some (.ref p0), some (.ref p1), some (.long j2), none, some (.int i4)], [.int i4, .ref a16])) (jq qX5_findUses 41 rfl) (jo_icF (jz_neF c37))) ?_
                    refine Eq.trans (jb_nx (i := .iconst 1) (n := 1) (q := (85, [some (.ref p0), some (.ref p1), some (.long j2), none, some (.int i4)], [.int 1, .int i4, .ref a16])) (jq qX5_findUses 42 rfl) rfl) ?_
                    refine Eq.trans (jb_nx (i := .goto 4) (n := 3) (q := (89, [some (.ref p0), some (.ref p1), some (.long j2), none, some (.int i4)], [.int 1, .int i4, .ref a16])) (jq qX5_findUses 43 rfl) rfl) ?_
                    exact H
                  · rw [if_neg c37] at H
                    refine Eq.trans (jb_nx (i := .if_icmp .ne 7) (n := 3) (q := (88, [some (.ref p0), some (.ref p1), some (.long j2), none, some (.int i4)], [.int i4, .ref a16])) (jq qX5_findUses 41 rfl) (jo_icT (jz_neT c37) rfl)) ?_
                    refine Eq.trans (jb_nx (i := .iconst 0) (n := 1) (q := (89, [some (.ref p0), some (.ref p1), some (.long j2), none, some (.int i4)], [.int 0, .int i4, .ref a16])) (jq qX5_findUses 44 rfl) rfl) ?_
                    exact H
                · exact Eq.trans (jb_rt (i := .invokevirtual 110) (n := 3) (jq qX5_findUses 38 rfl) (jo_cv (y := mX3_maskOf) rfl (Nat.le_of_ble_eq_true rfl) rfl (Nat.le_of_ble_eq_true rfl) b38 rfl r33 (jo_exn rfl))) H
              · rw [if_neg c31] at H
                refine Eq.trans (jb_nx (i := .ifCond .ne 20) (n := 3) (q := (88, [some (.ref p0), some (.ref p1), some (.long j2), none, some (.int i4)], [.int i4, .ref a16])) (jq qX5_findUses 35 rfl) (jo_ifT (jz_neT c31) rfl)) ?_
                refine Eq.trans (jb_nx (i := .iconst 0) (n := 1) (q := (89, [some (.ref p0), some (.ref p1), some (.long j2), none, some (.int i4)], [.int 0, .int i4, .ref a16])) (jq qX5_findUses 44 rfl) rfl) ?_
                exact H
            · exact Eq.trans (jb_rt (i := .invokevirtual 104) (n := 3) (jq qX5_findUses 32 rfl) (jo_cv (y := mX3_nameAt) rfl (Nat.le_of_ble_eq_true rfl) rfl (Nat.le_of_ble_eq_true rfl) b41 rfl r29 (jo_exn rfl))) H
          · rw [if_neg c27] at H
            refine Eq.trans (jb_nx (i := .ifCond .ne 31) (n := 3) (q := (88, [some (.ref p0), some (.ref p1), some (.long j2), none, some (.int i4)], [.int i4, .ref a16])) (jq qX5_findUses 29 rfl) (jo_ifT (jz_neT c27) rfl)) ?_
            refine Eq.trans (jb_nx (i := .iconst 0) (n := 1) (q := (89, [some (.ref p0), some (.ref p1), some (.long j2), none, some (.int i4)], [.int 0, .int i4, .ref a16])) (jq qX5_findUses 44 rfl) rfl) ?_
            exact H
        · exact Eq.trans (jb_rt (i := .invokevirtual 107) (n := 3) (jq qX5_findUses 28 rfl) (jo_cv (y := mX3_kindAt) rfl (Nat.le_of_ble_eq_true rfl) rfl (Nat.le_of_ble_eq_true rfl) b44 rfl r25 (jo_exn rfl))) H
      · rw [if_neg c23] at H
        refine Eq.trans (jb_nx (i := .if_icmp .ge 40) (n := 3) (q := (88, [some (.ref p0), some (.ref p1), some (.long j2), none, some (.int i4)], [.int i4, .ref a16])) (jq qX5_findUses 25 rfl) (jo_icT (jz_geT c23) rfl)) ?_
        refine Eq.trans (jb_nx (i := .iconst 0) (n := 1) (q := (89, [some (.ref p0), some (.ref p1), some (.long j2), none, some (.int i4)], [.int 0, .int i4, .ref a16])) (jq qX5_findUses 44 rfl) rfl) ?_
        exact H
    · rw [if_neg c20] at H
      refine Eq.trans (jb_nx (i := .if_icmp .le 49) (n := 3) (q := (88, [some (.ref p0), some (.ref p1), some (.long j2), none, some (.int i4)], [.int i4, .ref a16])) (jq qX5_findUses 21 rfl) (jo_icT (jz_leT c20) rfl)) ?_
      refine Eq.trans (jb_nx (i := .iconst 0) (n := 1) (q := (89, [some (.ref p0), some (.ref p1), some (.long j2), none, some (.int i4)], [.int 0, .int i4, .ref a16])) (jq qX5_findUses 44 rfl) rfl) ?_
      exact H
  · rw [if_neg c15] at H
    refine Eq.trans (jb_nx (i := .if_icmp .ge 92) (n := 3) (q := (116, [some (.ref p0), some (.ref p1), some (.long j2), none, some (.int i4)], [])) (jq qX5_findUses 14 rfl) (jo_icT (jz_geT c15) rfl)) ?_
    exact Eq.trans (jb_rt (i := .return_) (n := 1) (jq qX5_findUses 59 rfl) rfl) H
theorem gX5_findUses_89 {d : Nat} {p0 : Nat} {p1 : Nat} {j2 : Int64} {i4 : Int32} {si0 : Int32} {si1 : Int32} {sp2 : Nat} {h : jm_H} {r : jm_R} (H : ((jm_asi h sp2 3 si1 si0).bind fun h47 => (jr_R h47 p0 5 4 2).bind fun a49 => (jm_ali h47 a49 3 i4).bind fun x51 => (if x51 = 0 then kX5_findUses_17 d p0 p1 j2 (i4 + 1) h47 else (jr_I h47 p0 5 13 0).bind fun x54 => (jm_pf h47 p0 5 13 0 (.int (x54 + 1))).bind fun h56 => kX5_findUses_17 d p0 p1 j2 (i4 + 1) h56)) = some r) : kX5_findUses_89 d p0 p1 j2 i4 si0 si1 sp2 h = some r := by
  show jm_B d mX5_findUses (89, [some (.ref p0), some (.ref p1), some (.long j2), none, some (.int i4)], [.int si0, .int si1, .ref sp2]) h = some r
  obtain ⟨h47, e48, H⟩ := jbd H
  refine Eq.trans (jb_nx (i := .bastore) (n := 1) (q := (90, [some (.ref p0), some (.ref p1), some (.long j2), none, some (.int i4)], [])) (jq qX5_findUses 45 rfl) (jo_zas e48)) ?_
  refine Eq.trans (jb_nx (i := .aload_n 0) (n := 1) (q := (91, [some (.ref p0), some (.ref p1), some (.long j2), none, some (.int i4)], [.ref p0])) (jq qX5_findUses 46 rfl) rfl) ?_
  obtain ⟨a49, e50, H⟩ := jbd H
  refine Eq.trans (jb_nx (i := .getfield 21) (n := 3) (q := (94, [some (.ref p0), some (.ref p1), some (.long j2), none, some (.int i4)], [.ref a49])) (jq qX5_findUses 47 rfl) (jo_gf rfl (jr_R_inv e50))) ?_
  refine Eq.trans (jb_nx (i := .iload 4) (n := 2) (q := (96, [some (.ref p0), some (.ref p1), some (.long j2), none, some (.int i4)], [.int i4, .ref a49])) (jq qX5_findUses 48 rfl) rfl) ?_
  obtain ⟨x51, e52, H⟩ := jbd H
  refine Eq.trans (jb_nx (i := .baload) (n := 1) (q := (97, [some (.ref p0), some (.ref p1), some (.long j2), none, some (.int i4)], [.int x51])) (jq qX5_findUses 49 rfl) (jo_zal e52)) ?_
  by_cases c53 : x51 = 0
  · rw [if_pos c53] at H
    refine Eq.trans (jb_nx (i := .ifCond .eq 13) (n := 3) (q := (110, [some (.ref p0), some (.ref p1), some (.long j2), none, some (.int i4)], [])) (jq qX5_findUses 50 rfl) (jo_ifT (jz_eqT c53) rfl)) ?_
    refine Eq.trans (jb_nx (i := .iinc 4 1) (n := 3) (q := (113, [some (.ref p0), some (.ref p1), some (.long j2), none, some (.int (i4 + 1))], [])) (jq qX5_findUses 57 rfl) rfl) ?_
    refine Eq.trans (jb_nx (i := .goto (-96)) (n := 3) (q := (17, [some (.ref p0), some (.ref p1), some (.long j2), none, some (.int (i4 + 1))], [])) (jq qX5_findUses 58 rfl) rfl) ?_
    exact H
  · rw [if_neg c53] at H
    refine Eq.trans (jb_nx (i := .ifCond .eq 13) (n := 3) (q := (100, [some (.ref p0), some (.ref p1), some (.long j2), none, some (.int i4)], [])) (jq qX5_findUses 50 rfl) (jo_ifF (jz_eqF c53))) ?_
    refine Eq.trans (jb_nx (i := .aload_n 0) (n := 1) (q := (101, [some (.ref p0), some (.ref p1), some (.long j2), none, some (.int i4)], [.ref p0])) (jq qX5_findUses 51 rfl) rfl) ?_
    refine Eq.trans (jb_nx (i := .dup) (n := 1) (q := (102, [some (.ref p0), some (.ref p1), some (.long j2), none, some (.int i4)], [.ref p0, .ref p0])) (jq qX5_findUses 52 rfl) rfl) ?_
    obtain ⟨x54, e55, H⟩ := jbd H
    refine Eq.trans (jb_nx (i := .getfield 69) (n := 3) (q := (105, [some (.ref p0), some (.ref p1), some (.long j2), none, some (.int i4)], [.int x54, .ref p0])) (jq qX5_findUses 53 rfl) (jo_gf rfl (jr_I_inv e55))) ?_
    refine Eq.trans (jb_nx (i := .iconst 1) (n := 1) (q := (106, [some (.ref p0), some (.ref p1), some (.long j2), none, some (.int i4)], [.int 1, .int x54, .ref p0])) (jq qX5_findUses 54 rfl) rfl) ?_
    refine Eq.trans (jb_nx (i := .iadd) (n := 1) (q := (107, [some (.ref p0), some (.ref p1), some (.long j2), none, some (.int i4)], [.int (x54 + 1), .ref p0])) (jq qX5_findUses 55 rfl) rfl) ?_
    obtain ⟨h56, e57, H⟩ := jbd H
    refine Eq.trans (jb_nx (i := .putfield 69) (n := 3) (q := (110, [some (.ref p0), some (.ref p1), some (.long j2), none, some (.int i4)], [])) (jq qX5_findUses 56 rfl) (jo_pf rfl (Or.inl rfl) e57)) ?_
    refine Eq.trans (jb_nx (i := .iinc 4 1) (n := 3) (q := (113, [some (.ref p0), some (.ref p1), some (.long j2), none, some (.int (i4 + 1))], [])) (jq qX5_findUses 57 rfl) rfl) ?_
    refine Eq.trans (jb_nx (i := .goto (-96)) (n := 3) (q := (17, [some (.ref p0), some (.ref p1), some (.long j2), none, some (.int (i4 + 1))], [])) (jq qX5_findUses 58 rfl) rfl) ?_
    exact H
theorem gX5_findUses {d : Nat} {p0 : Nat} {p1 : Nat} {h : jm_H} {r : jm_R} (H : ((jm_pf h p0 5 13 0 (.int 0)).bind fun h1 => (jr_I h1 p0 5 10 0).bind fun x3 => jm_O h1 p1 3 (jc_L (jm_D d mX3_nameAt [.ref p1, .int x3] h1) (fun y7 h5 => kX5_findUses_17 d p0 p1 y7 0 h5) jx)) = some r) : jm_D (d + 1) mX5_findUses [.ref p0, .ref p1] h = some r := by
  rw [jm_D_body (Nat.le_of_ble_eq_true rfl)]
  show jm_B d mX5_findUses (0, [some (.ref p0), some (.ref p1), none, none, none], []) h = some r
  refine Eq.trans (jb_nx (i := .aload_n 0) (n := 1) (q := (1, [some (.ref p0), some (.ref p1), none, none, none], [.ref p0])) (jq qX5_findUses 0 rfl) rfl) ?_
  refine Eq.trans (jb_nx (i := .iconst 0) (n := 1) (q := (2, [some (.ref p0), some (.ref p1), none, none, none], [.int 0, .ref p0])) (jq qX5_findUses 1 rfl) rfl) ?_
  obtain ⟨h1, e2, H⟩ := jbd H
  refine Eq.trans (jb_nx (i := .putfield 69) (n := 3) (q := (5, [some (.ref p0), some (.ref p1), none, none, none], [])) (jq qX5_findUses 2 rfl) (jo_pf rfl (Or.inl rfl) e2)) ?_
  refine Eq.trans (jb_nx (i := .aload_n 1) (n := 1) (q := (6, [some (.ref p0), some (.ref p1), none, none, none], [.ref p1])) (jq qX5_findUses 3 rfl) rfl) ?_
  refine Eq.trans (jb_nx (i := .aload_n 0) (n := 1) (q := (7, [some (.ref p0), some (.ref p1), none, none, none], [.ref p0, .ref p1])) (jq qX5_findUses 4 rfl) rfl) ?_
  obtain ⟨x3, e4, H⟩ := jbd H
  refine Eq.trans (jb_nx (i := .getfield 49) (n := 3) (q := (10, [some (.ref p0), some (.ref p1), none, none, none], [.int x3, .ref p1])) (jq qX5_findUses 5 rfl) (jo_gf rfl (jr_I_inv e4))) ?_
  obtain ⟨b8, H⟩ := jm_O_inv H
  rcases jcL H with ⟨y7, h5, r6, H⟩ | ⟨w9, h10, r6, H⟩
  · refine Eq.trans (jb_nx (i := .invokevirtual 104) (n := 3) (q := (13, [some (.ref p0), some (.ref p1), none, none, none], [.long y7])) (jq qX5_findUses 6 rfl) (jo_cv (y := mX3_nameAt) rfl (Nat.le_of_ble_eq_true rfl) rfl (Nat.le_of_ble_eq_true rfl) b8 rfl r6 jo_ret)) ?_
    refine Eq.trans (jb_nx (i := .lstore_n 2) (n := 1) (q := (14, [some (.ref p0), some (.ref p1), some (.long y7), none, none], [])) (jq qX5_findUses 7 rfl) rfl) ?_
    refine Eq.trans (jb_nx (i := .iconst 0) (n := 1) (q := (15, [some (.ref p0), some (.ref p1), some (.long y7), none, none], [.int 0])) (jq qX5_findUses 8 rfl) rfl) ?_
    refine Eq.trans (jb_nx (i := .istore 4) (n := 2) (q := (17, [some (.ref p0), some (.ref p1), some (.long y7), none, some (.int 0)], [])) (jq qX5_findUses 9 rfl) rfl) ?_
    exact H
  · exact Eq.trans (jb_rt (i := .invokevirtual 104) (n := 3) (jq qX5_findUses 6 rfl) (jo_cv (y := mX3_nameAt) rfl (Nat.le_of_ble_eq_true rfl) rfl (Nat.le_of_ble_eq_true rfl) b8 rfl r6 (jo_exn rfl))) H
/-! MaskPlays$Step take (LMaskPlays$Part;)Z -/
def tX5_take : List (Nat × Instr × Nat) := [(0, .aload_n 0, 1), (1, .aload_n 1, 1), (2, .invokevirtual 72, 3), (5, .ifCond .ne 5, 3), (8, .iconst 0, 1), (9, .ireturn, 1), (10, .aload_n 0, 1), (11, .iconst 0, 1), (12, .putfield 76, 3), (15, .aload_n 0, 1), (16, .getfield 12, 3), (19, .aload_n 1, 1), (20, .invokevirtual 79, 3), (23, .aload_n 0, 1), (24, .invokevirtual 82, 3), (27, .aload_n 0, 1), (28, .invokevirtual 85, 3), (31, .aload_n 0, 1), (32, .invokevirtual 88, 3), (35, .aload_n 0, 1), (36, .invokevirtual 91, 3), (39, .aload_n 0, 1), (40, .aload_n 0, 1), (41, .getfield 18, 3), (44, .aload_n 1, 1), (45, .invokevirtual 94, 3), (48, .ifCond .ne 7, 3), (51, .iconst 1, 1), (52, .goto 4, 3), (55, .iconst 0, 1), (56, .putfield 97, 3), (59, .aload_n 1, 1), (60, .aload_n 0, 1), (61, .getfield 18, 3), (64, .invokevirtual 79, 3), (67, .iconst 1, 1), (68, .ireturn, 1)]
set_option maxRecDepth 100000 in
theorem qX5_take : ∀ q ∈ tX5_take, decode cX5_take q.1 = .ok (q.2.1, q.2.2) := by decide +kernel
theorem gX5_take {d : Nat} {p0 : Nat} {p1 : Nat} {h : jm_H} {r : jm_R} (H : (jm_O h p0 5 (jc_I (jm_D d mX5_canBeTaken [.ref p0, .ref p1] h) (fun x3 h1 => (if x3 = 0 then some (.inl (some (.int 0)), h1) else (jm_pf h1 p0 5 0 0 (.int 0)).bind fun h5 => (jr_R h5 p0 5 2 2).bind fun a7 => jm_O h5 a7 3 (jc_V (jm_D d mX3_setTo [.ref a7, .ref p1] h5) (fun h9 => jm_O h9 p0 5 (jc_V (jm_D d mX5_findOpenNames [.ref p0] h9) (fun h11 => jm_O h11 p0 5 (jc_V (jm_D d mX5_findMasksAround [.ref p0] h11) (fun h13 => jm_O h13 p0 5 (jc_V (jm_D d mX5_renameMasks [.ref p0] h13) (fun h15 => jm_O h15 p0 5 (jc_V (jm_D d mX5_build [.ref p0] h15) (fun h17 => (jr_R h17 p0 5 3 2).bind fun a19 => jm_O h17 a19 3 (jc_I (jm_D d mX3_hasTextOf [.ref a19, .ref p1] h17) (fun x23 h21 => (if x23 = 0 then (jm_pf h21 p0 5 1 4 (.int 1)).bind fun h34 => (jr_R h34 p0 5 3 2).bind fun a36 => jm_O h34 p1 3 (jc_V (jm_D d mX3_setTo [.ref p1, .ref a36] h34) (fun h38 => some (.inl (some (.int 1)), h38)) jx) else (jm_pf h21 p0 5 1 4 (.int 0)).bind fun h25 => (jr_R h25 p0 5 3 2).bind fun a27 => jm_O h25 p1 3 (jc_V (jm_D d mX3_setTo [.ref p1, .ref a27] h25) (fun h29 => some (.inl (some (.int 1)), h29)) jx))) jx)) jx)) jx)) jx)) jx)) jx))) jx)) = some r) : jm_D (d + 1) mX5_take [.ref p0, .ref p1] h = some r := by
  rw [jm_D_body (Nat.le_of_ble_eq_true rfl)]
  show jm_B d mX5_take (0, [some (.ref p0), some (.ref p1)], []) h = some r
  refine Eq.trans (jb_nx (i := .aload_n 0) (n := 1) (q := (1, [some (.ref p0), some (.ref p1)], [.ref p0])) (jq qX5_take 0 rfl) rfl) ?_
  refine Eq.trans (jb_nx (i := .aload_n 1) (n := 1) (q := (2, [some (.ref p0), some (.ref p1)], [.ref p1, .ref p0])) (jq qX5_take 1 rfl) rfl) ?_
  obtain ⟨b61, H⟩ := jm_O_inv H
  rcases jcI H with ⟨x3, h1, r2, H⟩ | ⟨w62, h63, r2, H⟩
  · refine Eq.trans (jb_nx (i := .invokevirtual 72) (n := 3) (q := (5, [some (.ref p0), some (.ref p1)], [.int x3])) (jq qX5_take 2 rfl) (jo_cv (y := mX5_canBeTaken) rfl (Nat.le_of_ble_eq_true rfl) rfl (Nat.le_of_ble_eq_true rfl) b61 rfl r2 jo_ret)) ?_
    by_cases c4 : x3 = 0
    · rw [if_pos c4] at H
      refine Eq.trans (jb_nx (i := .ifCond .ne 5) (n := 3) (q := (8, [some (.ref p0), some (.ref p1)], [])) (jq qX5_take 3 rfl) (jo_ifF (jz_neF c4))) ?_
      refine Eq.trans (jb_nx (i := .iconst 0) (n := 1) (q := (9, [some (.ref p0), some (.ref p1)], [.int 0])) (jq qX5_take 4 rfl) rfl) ?_
      exact Eq.trans (jb_rt (i := .ireturn) (n := 1) (jq qX5_take 5 rfl) (jo_iret rfl (by decide))) H
    · rw [if_neg c4] at H
      refine Eq.trans (jb_nx (i := .ifCond .ne 5) (n := 3) (q := (10, [some (.ref p0), some (.ref p1)], [])) (jq qX5_take 3 rfl) (jo_ifT (jz_neT c4) rfl)) ?_
      refine Eq.trans (jb_nx (i := .aload_n 0) (n := 1) (q := (11, [some (.ref p0), some (.ref p1)], [.ref p0])) (jq qX5_take 6 rfl) rfl) ?_
      refine Eq.trans (jb_nx (i := .iconst 0) (n := 1) (q := (12, [some (.ref p0), some (.ref p1)], [.int 0, .ref p0])) (jq qX5_take 7 rfl) rfl) ?_
      obtain ⟨h5, e6, H⟩ := jbd H
      refine Eq.trans (jb_nx (i := .putfield 76) (n := 3) (q := (15, [some (.ref p0), some (.ref p1)], [])) (jq qX5_take 8 rfl) (jo_pf rfl (Or.inl rfl) e6)) ?_
      refine Eq.trans (jb_nx (i := .aload_n 0) (n := 1) (q := (16, [some (.ref p0), some (.ref p1)], [.ref p0])) (jq qX5_take 9 rfl) rfl) ?_
      obtain ⟨a7, e8, H⟩ := jbd H
      refine Eq.trans (jb_nx (i := .getfield 12) (n := 3) (q := (19, [some (.ref p0), some (.ref p1)], [.ref a7])) (jq qX5_take 10 rfl) (jo_gf rfl (jr_R_inv e8))) ?_
      refine Eq.trans (jb_nx (i := .aload_n 1) (n := 1) (q := (20, [some (.ref p0), some (.ref p1)], [.ref p1, .ref a7])) (jq qX5_take 11 rfl) rfl) ?_
      obtain ⟨b58, H⟩ := jm_O_inv H
      rcases jcV H with ⟨h9, r10, H⟩ | ⟨w59, h60, r10, H⟩
      · refine Eq.trans (jb_nx (i := .invokevirtual 79) (n := 3) (q := (23, [some (.ref p0), some (.ref p1)], [])) (jq qX5_take 12 rfl) (jo_cv (y := mX3_setTo) rfl (Nat.le_of_ble_eq_true rfl) rfl (Nat.le_of_ble_eq_true rfl) b58 rfl r10 jo_ret)) ?_
        refine Eq.trans (jb_nx (i := .aload_n 0) (n := 1) (q := (24, [some (.ref p0), some (.ref p1)], [.ref p0])) (jq qX5_take 13 rfl) rfl) ?_
        obtain ⟨b55, H⟩ := jm_O_inv H
        rcases jcV H with ⟨h11, r12, H⟩ | ⟨w56, h57, r12, H⟩
        · refine Eq.trans (jb_nx (i := .invokevirtual 82) (n := 3) (q := (27, [some (.ref p0), some (.ref p1)], [])) (jq qX5_take 14 rfl) (jo_cv (y := mX5_findOpenNames) rfl (Nat.le_of_ble_eq_true rfl) rfl (Nat.le_of_ble_eq_true rfl) b55 rfl r12 jo_ret)) ?_
          refine Eq.trans (jb_nx (i := .aload_n 0) (n := 1) (q := (28, [some (.ref p0), some (.ref p1)], [.ref p0])) (jq qX5_take 15 rfl) rfl) ?_
          obtain ⟨b52, H⟩ := jm_O_inv H
          rcases jcV H with ⟨h13, r14, H⟩ | ⟨w53, h54, r14, H⟩
          · refine Eq.trans (jb_nx (i := .invokevirtual 85) (n := 3) (q := (31, [some (.ref p0), some (.ref p1)], [])) (jq qX5_take 16 rfl) (jo_cv (y := mX5_findMasksAround) rfl (Nat.le_of_ble_eq_true rfl) rfl (Nat.le_of_ble_eq_true rfl) b52 rfl r14 jo_ret)) ?_
            refine Eq.trans (jb_nx (i := .aload_n 0) (n := 1) (q := (32, [some (.ref p0), some (.ref p1)], [.ref p0])) (jq qX5_take 17 rfl) rfl) ?_
            obtain ⟨b49, H⟩ := jm_O_inv H
            rcases jcV H with ⟨h15, r16, H⟩ | ⟨w50, h51, r16, H⟩
            · refine Eq.trans (jb_nx (i := .invokevirtual 88) (n := 3) (q := (35, [some (.ref p0), some (.ref p1)], [])) (jq qX5_take 18 rfl) (jo_cv (y := mX5_renameMasks) rfl (Nat.le_of_ble_eq_true rfl) rfl (Nat.le_of_ble_eq_true rfl) b49 rfl r16 jo_ret)) ?_
              refine Eq.trans (jb_nx (i := .aload_n 0) (n := 1) (q := (36, [some (.ref p0), some (.ref p1)], [.ref p0])) (jq qX5_take 19 rfl) rfl) ?_
              obtain ⟨b46, H⟩ := jm_O_inv H
              rcases jcV H with ⟨h17, r18, H⟩ | ⟨w47, h48, r18, H⟩
              · refine Eq.trans (jb_nx (i := .invokevirtual 91) (n := 3) (q := (39, [some (.ref p0), some (.ref p1)], [])) (jq qX5_take 20 rfl) (jo_cv (y := mX5_build) rfl (Nat.le_of_ble_eq_true rfl) rfl (Nat.le_of_ble_eq_true rfl) b46 rfl r18 jo_ret)) ?_
                refine Eq.trans (jb_nx (i := .aload_n 0) (n := 1) (q := (40, [some (.ref p0), some (.ref p1)], [.ref p0])) (jq qX5_take 21 rfl) rfl) ?_
                refine Eq.trans (jb_nx (i := .aload_n 0) (n := 1) (q := (41, [some (.ref p0), some (.ref p1)], [.ref p0, .ref p0])) (jq qX5_take 22 rfl) rfl) ?_
                obtain ⟨a19, e20, H⟩ := jbd H
                refine Eq.trans (jb_nx (i := .getfield 18) (n := 3) (q := (44, [some (.ref p0), some (.ref p1)], [.ref a19, .ref p0])) (jq qX5_take 23 rfl) (jo_gf rfl (jr_R_inv e20))) ?_
                refine Eq.trans (jb_nx (i := .aload_n 1) (n := 1) (q := (45, [some (.ref p0), some (.ref p1)], [.ref p1, .ref a19, .ref p0])) (jq qX5_take 24 rfl) rfl) ?_
                obtain ⟨b43, H⟩ := jm_O_inv H
                rcases jcI H with ⟨x23, h21, r22, H⟩ | ⟨w44, h45, r22, H⟩
                · refine Eq.trans (jb_nx (i := .invokevirtual 94) (n := 3) (q := (48, [some (.ref p0), some (.ref p1)], [.int x23, .ref p0])) (jq qX5_take 25 rfl) (jo_cv (y := mX3_hasTextOf) rfl (Nat.le_of_ble_eq_true rfl) rfl (Nat.le_of_ble_eq_true rfl) b43 rfl r22 jo_ret)) ?_
                  by_cases c24 : x23 = 0
                  · rw [if_pos c24] at H
                    refine Eq.trans (jb_nx (i := .ifCond .ne 7) (n := 3) (q := (51, [some (.ref p0), some (.ref p1)], [.ref p0])) (jq qX5_take 26 rfl) (jo_ifF (jz_neF c24))) ?_
                    refine Eq.trans (jb_nx (i := .iconst 1) (n := 1) (q := (52, [some (.ref p0), some (.ref p1)], [.int 1, .ref p0])) (jq qX5_take 27 rfl) rfl) ?_
                    refine Eq.trans (jb_nx (i := .goto 4) (n := 3) (q := (56, [some (.ref p0), some (.ref p1)], [.int 1, .ref p0])) (jq qX5_take 28 rfl) rfl) ?_
                    obtain ⟨h34, e35, H⟩ := jbd H
                    refine Eq.trans (jb_nx (i := .putfield 97) (n := 3) (q := (59, [some (.ref p0), some (.ref p1)], [])) (jq qX5_take 30 rfl) (jo_pf rfl (Or.inl rfl) e35)) ?_
                    refine Eq.trans (jb_nx (i := .aload_n 1) (n := 1) (q := (60, [some (.ref p0), some (.ref p1)], [.ref p1])) (jq qX5_take 31 rfl) rfl) ?_
                    refine Eq.trans (jb_nx (i := .aload_n 0) (n := 1) (q := (61, [some (.ref p0), some (.ref p1)], [.ref p0, .ref p1])) (jq qX5_take 32 rfl) rfl) ?_
                    obtain ⟨a36, e37, H⟩ := jbd H
                    refine Eq.trans (jb_nx (i := .getfield 18) (n := 3) (q := (64, [some (.ref p0), some (.ref p1)], [.ref a36, .ref p1])) (jq qX5_take 33 rfl) (jo_gf rfl (jr_R_inv e37))) ?_
                    obtain ⟨b40, H⟩ := jm_O_inv H
                    rcases jcV H with ⟨h38, r39, H⟩ | ⟨w41, h42, r39, H⟩
                    · refine Eq.trans (jb_nx (i := .invokevirtual 79) (n := 3) (q := (67, [some (.ref p0), some (.ref p1)], [])) (jq qX5_take 34 rfl) (jo_cv (y := mX3_setTo) rfl (Nat.le_of_ble_eq_true rfl) rfl (Nat.le_of_ble_eq_true rfl) b40 rfl r39 jo_ret)) ?_
                      refine Eq.trans (jb_nx (i := .iconst 1) (n := 1) (q := (68, [some (.ref p0), some (.ref p1)], [.int 1])) (jq qX5_take 35 rfl) rfl) ?_
                      exact Eq.trans (jb_rt (i := .ireturn) (n := 1) (jq qX5_take 36 rfl) (jo_iret rfl (by decide))) H
                    · exact Eq.trans (jb_rt (i := .invokevirtual 79) (n := 3) (jq qX5_take 34 rfl) (jo_cv (y := mX3_setTo) rfl (Nat.le_of_ble_eq_true rfl) rfl (Nat.le_of_ble_eq_true rfl) b40 rfl r39 (jo_exn rfl))) H
                  · rw [if_neg c24] at H
                    refine Eq.trans (jb_nx (i := .ifCond .ne 7) (n := 3) (q := (55, [some (.ref p0), some (.ref p1)], [.ref p0])) (jq qX5_take 26 rfl) (jo_ifT (jz_neT c24) rfl)) ?_
                    refine Eq.trans (jb_nx (i := .iconst 0) (n := 1) (q := (56, [some (.ref p0), some (.ref p1)], [.int 0, .ref p0])) (jq qX5_take 29 rfl) rfl) ?_
                    obtain ⟨h25, e26, H⟩ := jbd H
                    refine Eq.trans (jb_nx (i := .putfield 97) (n := 3) (q := (59, [some (.ref p0), some (.ref p1)], [])) (jq qX5_take 30 rfl) (jo_pf rfl (Or.inl rfl) e26)) ?_
                    refine Eq.trans (jb_nx (i := .aload_n 1) (n := 1) (q := (60, [some (.ref p0), some (.ref p1)], [.ref p1])) (jq qX5_take 31 rfl) rfl) ?_
                    refine Eq.trans (jb_nx (i := .aload_n 0) (n := 1) (q := (61, [some (.ref p0), some (.ref p1)], [.ref p0, .ref p1])) (jq qX5_take 32 rfl) rfl) ?_
                    obtain ⟨a27, e28, H⟩ := jbd H
                    refine Eq.trans (jb_nx (i := .getfield 18) (n := 3) (q := (64, [some (.ref p0), some (.ref p1)], [.ref a27, .ref p1])) (jq qX5_take 33 rfl) (jo_gf rfl (jr_R_inv e28))) ?_
                    obtain ⟨b31, H⟩ := jm_O_inv H
                    rcases jcV H with ⟨h29, r30, H⟩ | ⟨w32, h33, r30, H⟩
                    · refine Eq.trans (jb_nx (i := .invokevirtual 79) (n := 3) (q := (67, [some (.ref p0), some (.ref p1)], [])) (jq qX5_take 34 rfl) (jo_cv (y := mX3_setTo) rfl (Nat.le_of_ble_eq_true rfl) rfl (Nat.le_of_ble_eq_true rfl) b31 rfl r30 jo_ret)) ?_
                      refine Eq.trans (jb_nx (i := .iconst 1) (n := 1) (q := (68, [some (.ref p0), some (.ref p1)], [.int 1])) (jq qX5_take 35 rfl) rfl) ?_
                      exact Eq.trans (jb_rt (i := .ireturn) (n := 1) (jq qX5_take 36 rfl) (jo_iret rfl (by decide))) H
                    · exact Eq.trans (jb_rt (i := .invokevirtual 79) (n := 3) (jq qX5_take 34 rfl) (jo_cv (y := mX3_setTo) rfl (Nat.le_of_ble_eq_true rfl) rfl (Nat.le_of_ble_eq_true rfl) b31 rfl r30 (jo_exn rfl))) H
                · exact Eq.trans (jb_rt (i := .invokevirtual 94) (n := 3) (jq qX5_take 25 rfl) (jo_cv (y := mX3_hasTextOf) rfl (Nat.le_of_ble_eq_true rfl) rfl (Nat.le_of_ble_eq_true rfl) b43 rfl r22 (jo_exn rfl))) H
              · exact Eq.trans (jb_rt (i := .invokevirtual 91) (n := 3) (jq qX5_take 20 rfl) (jo_cv (y := mX5_build) rfl (Nat.le_of_ble_eq_true rfl) rfl (Nat.le_of_ble_eq_true rfl) b46 rfl r18 (jo_exn rfl))) H
            · exact Eq.trans (jb_rt (i := .invokevirtual 88) (n := 3) (jq qX5_take 18 rfl) (jo_cv (y := mX5_renameMasks) rfl (Nat.le_of_ble_eq_true rfl) rfl (Nat.le_of_ble_eq_true rfl) b49 rfl r16 (jo_exn rfl))) H
          · exact Eq.trans (jb_rt (i := .invokevirtual 85) (n := 3) (jq qX5_take 16 rfl) (jo_cv (y := mX5_findMasksAround) rfl (Nat.le_of_ble_eq_true rfl) rfl (Nat.le_of_ble_eq_true rfl) b52 rfl r14 (jo_exn rfl))) H
        · exact Eq.trans (jb_rt (i := .invokevirtual 82) (n := 3) (jq qX5_take 14 rfl) (jo_cv (y := mX5_findOpenNames) rfl (Nat.le_of_ble_eq_true rfl) rfl (Nat.le_of_ble_eq_true rfl) b55 rfl r12 (jo_exn rfl))) H
      · exact Eq.trans (jb_rt (i := .invokevirtual 79) (n := 3) (jq qX5_take 12 rfl) (jo_cv (y := mX3_setTo) rfl (Nat.le_of_ble_eq_true rfl) rfl (Nat.le_of_ble_eq_true rfl) b58 rfl r10 (jo_exn rfl))) H
  · exact Eq.trans (jb_rt (i := .invokevirtual 72) (n := 3) (jq qX5_take 2 rfl) (jo_cv (y := mX5_canBeTaken) rfl (Nat.le_of_ble_eq_true rfl) rfl (Nat.le_of_ble_eq_true rfl) b61 rfl r2 (jo_exn rfl))) H
/-! MaskPlays$Step findOpenNames ()V -/
def tX5_findOpenNames : List (Nat × Instr × Nat) := [(0, .aload_n 0, 1), (1, .iconst 0, 1), (2, .putfield 113, 3), (5, .aload_n 0, 1), (6, .getfield 56, 3), (9, .istore_n 1, 1), (10, .iload_n 1, 1), (11, .aload_n 0, 1), (12, .getfield 59, 3), (15, .if_icmp .ge 72, 3), (18, .aload_n 0, 1), (19, .getfield 12, 3), (22, .iload_n 1, 1), (23, .invokevirtual 107, 3), (26, .ifCond .ne 22, 3), (29, .aload_n 0, 1), (30, .getfield 12, 3), (33, .iload_n 1, 1), (34, .invokevirtual 110, 3), (37, .aload_n 0, 1), (38, .getfield 56, 3), (41, .if_icmp .ge 7, 3), (44, .iconst 1, 1), (45, .goto 4, 3), (48, .iconst 0, 1), (49, .istore_n 2, 1), (50, .iload_n 2, 1), (51, .ifCond .eq 30, 3), (54, .aload_n 0, 1), (55, .aload_n 0, 1), (56, .getfield 12, 3), (59, .iload_n 1, 1), (60, .invokevirtual 104, 3), (63, .invokevirtual 116, 3), (66, .ifCond .ne 15, 3), (69, .aload_n 0, 1), (70, .aload_n 0, 1), (71, .getfield 12, 3), (74, .iload_n 1, 1), (75, .invokevirtual 104, 3), (78, .invokevirtual 120, 3), (81, .iinc 1 1, 3), (84, .goto (-74), 3), (87, .return_, 1)]
set_option maxRecDepth 100000 in
theorem qX5_findOpenNames : ∀ q ∈ tX5_findOpenNames, decode cX5_findOpenNames q.1 = .ok (q.2.1, q.2.2) := by decide +kernel
noncomputable def kX5_findOpenNames_10 (d : Nat) (p0 : Nat) (i1 : Int32) (o2 : Option Value) (h : jm_H) : Option jm_R := jm_B d mX5_findOpenNames (10, [some (.ref p0), some (.int i1), o2], []) h
noncomputable def kX5_findOpenNames_49 (d : Nat) (p0 : Nat) (i1 : Int32) (o2 : Option Value) (si0 : Int32) (h : jm_H) : Option jm_R := jm_B d mX5_findOpenNames (49, [some (.ref p0), some (.int i1), o2], [.int si0]) h
theorem gX5_findOpenNames_10 {d : Nat} {p0 : Nat} {i1 : Int32} {o2 : Option Value} {h : jm_H} {r : jm_R} (H : ((jr_I h p0 5 12 0).bind fun x5 => (if i1 < x5 then (jr_R h p0 5 2 2).bind fun a8 => jm_O h a8 3 (jc_I (jm_D d mX3_kindAt [.ref a8, .int i1] h) (fun x12 h10 => (if x12 = 0 then (jr_R h10 p0 5 2 2).bind fun a14 => jm_O h10 a14 3 (jc_I (jm_D d mX3_maskOf [.ref a14, .int i1] h10) (fun x18 h16 => (jr_I h16 p0 5 11 0).bind fun x19 => (if x18 < x19 then kX5_findOpenNames_49 d p0 i1 o2 1 h16 else kX5_findOpenNames_49 d p0 i1 o2 0 h16)) jx) else kX5_findOpenNames_49 d p0 i1 o2 0 h10)) jx) else some (.inl none, h))) = some r) : kX5_findOpenNames_10 d p0 i1 o2 h = some r := by
  show jm_B d mX5_findOpenNames (10, [some (.ref p0), some (.int i1), o2], []) h = some r
  refine Eq.trans (jb_nx (i := .iload_n 1) (n := 1) (q := (11, [some (.ref p0), some (.int i1), o2], [.int i1])) (jq qX5_findOpenNames 6 rfl) rfl) ?_
  refine Eq.trans (jb_nx (i := .aload_n 0) (n := 1) (q := (12, [some (.ref p0), some (.int i1), o2], [.ref p0, .int i1])) (jq qX5_findOpenNames 7 rfl) rfl) ?_
  obtain ⟨x5, e6, H⟩ := jbd H
  refine Eq.trans (jb_nx (i := .getfield 59) (n := 3) (q := (15, [some (.ref p0), some (.int i1), o2], [.int x5, .int i1])) (jq qX5_findOpenNames 8 rfl) (jo_gf rfl (jr_I_inv e6))) ?_
  by_cases c7 : i1 < x5
  · rw [if_pos c7] at H
    refine Eq.trans (jb_nx (i := .if_icmp .ge 72) (n := 3) (q := (18, [some (.ref p0), some (.int i1), o2], [])) (jq qX5_findOpenNames 9 rfl) (jo_icF (jz_geF c7))) ?_
    refine Eq.trans (jb_nx (i := .aload_n 0) (n := 1) (q := (19, [some (.ref p0), some (.int i1), o2], [.ref p0])) (jq qX5_findOpenNames 10 rfl) rfl) ?_
    obtain ⟨a8, e9, H⟩ := jbd H
    refine Eq.trans (jb_nx (i := .getfield 12) (n := 3) (q := (22, [some (.ref p0), some (.int i1), o2], [.ref a8])) (jq qX5_findOpenNames 11 rfl) (jo_gf rfl (jr_R_inv e9))) ?_
    refine Eq.trans (jb_nx (i := .iload_n 1) (n := 1) (q := (23, [some (.ref p0), some (.int i1), o2], [.int i1, .ref a8])) (jq qX5_findOpenNames 12 rfl) rfl) ?_
    obtain ⟨b25, H⟩ := jm_O_inv H
    rcases jcI H with ⟨x12, h10, r11, H⟩ | ⟨w26, h27, r11, H⟩
    · refine Eq.trans (jb_nx (i := .invokevirtual 107) (n := 3) (q := (26, [some (.ref p0), some (.int i1), o2], [.int x12])) (jq qX5_findOpenNames 13 rfl) (jo_cv (y := mX3_kindAt) rfl (Nat.le_of_ble_eq_true rfl) rfl (Nat.le_of_ble_eq_true rfl) b25 rfl r11 jo_ret)) ?_
      by_cases c13 : x12 = 0
      · rw [if_pos c13] at H
        refine Eq.trans (jb_nx (i := .ifCond .ne 22) (n := 3) (q := (29, [some (.ref p0), some (.int i1), o2], [])) (jq qX5_findOpenNames 14 rfl) (jo_ifF (jz_neF c13))) ?_
        refine Eq.trans (jb_nx (i := .aload_n 0) (n := 1) (q := (30, [some (.ref p0), some (.int i1), o2], [.ref p0])) (jq qX5_findOpenNames 15 rfl) rfl) ?_
        obtain ⟨a14, e15, H⟩ := jbd H
        refine Eq.trans (jb_nx (i := .getfield 12) (n := 3) (q := (33, [some (.ref p0), some (.int i1), o2], [.ref a14])) (jq qX5_findOpenNames 16 rfl) (jo_gf rfl (jr_R_inv e15))) ?_
        refine Eq.trans (jb_nx (i := .iload_n 1) (n := 1) (q := (34, [some (.ref p0), some (.int i1), o2], [.int i1, .ref a14])) (jq qX5_findOpenNames 17 rfl) rfl) ?_
        obtain ⟨b22, H⟩ := jm_O_inv H
        rcases jcI H with ⟨x18, h16, r17, H⟩ | ⟨w23, h24, r17, H⟩
        · refine Eq.trans (jb_nx (i := .invokevirtual 110) (n := 3) (q := (37, [some (.ref p0), some (.int i1), o2], [.int x18])) (jq qX5_findOpenNames 18 rfl) (jo_cv (y := mX3_maskOf) rfl (Nat.le_of_ble_eq_true rfl) rfl (Nat.le_of_ble_eq_true rfl) b22 rfl r17 jo_ret)) ?_
          refine Eq.trans (jb_nx (i := .aload_n 0) (n := 1) (q := (38, [some (.ref p0), some (.int i1), o2], [.ref p0, .int x18])) (jq qX5_findOpenNames 19 rfl) rfl) ?_
          obtain ⟨x19, e20, H⟩ := jbd H
          refine Eq.trans (jb_nx (i := .getfield 56) (n := 3) (q := (41, [some (.ref p0), some (.int i1), o2], [.int x19, .int x18])) (jq qX5_findOpenNames 20 rfl) (jo_gf rfl (jr_I_inv e20))) ?_
          by_cases c21 : x18 < x19
          · rw [if_pos c21] at H
            refine Eq.trans (jb_nx (i := .if_icmp .ge 7) (n := 3) (q := (44, [some (.ref p0), some (.int i1), o2], [])) (jq qX5_findOpenNames 21 rfl) (jo_icF (jz_geF c21))) ?_
            refine Eq.trans (jb_nx (i := .iconst 1) (n := 1) (q := (45, [some (.ref p0), some (.int i1), o2], [.int 1])) (jq qX5_findOpenNames 22 rfl) rfl) ?_
            refine Eq.trans (jb_nx (i := .goto 4) (n := 3) (q := (49, [some (.ref p0), some (.int i1), o2], [.int 1])) (jq qX5_findOpenNames 23 rfl) rfl) ?_
            exact H
          · rw [if_neg c21] at H
            refine Eq.trans (jb_nx (i := .if_icmp .ge 7) (n := 3) (q := (48, [some (.ref p0), some (.int i1), o2], [])) (jq qX5_findOpenNames 21 rfl) (jo_icT (jz_geT c21) rfl)) ?_
            refine Eq.trans (jb_nx (i := .iconst 0) (n := 1) (q := (49, [some (.ref p0), some (.int i1), o2], [.int 0])) (jq qX5_findOpenNames 24 rfl) rfl) ?_
            exact H
        · exact Eq.trans (jb_rt (i := .invokevirtual 110) (n := 3) (jq qX5_findOpenNames 18 rfl) (jo_cv (y := mX3_maskOf) rfl (Nat.le_of_ble_eq_true rfl) rfl (Nat.le_of_ble_eq_true rfl) b22 rfl r17 (jo_exn rfl))) H
      · rw [if_neg c13] at H
        refine Eq.trans (jb_nx (i := .ifCond .ne 22) (n := 3) (q := (48, [some (.ref p0), some (.int i1), o2], [])) (jq qX5_findOpenNames 14 rfl) (jo_ifT (jz_neT c13) rfl)) ?_
        refine Eq.trans (jb_nx (i := .iconst 0) (n := 1) (q := (49, [some (.ref p0), some (.int i1), o2], [.int 0])) (jq qX5_findOpenNames 24 rfl) rfl) ?_
        exact H
    · exact Eq.trans (jb_rt (i := .invokevirtual 107) (n := 3) (jq qX5_findOpenNames 13 rfl) (jo_cv (y := mX3_kindAt) rfl (Nat.le_of_ble_eq_true rfl) rfl (Nat.le_of_ble_eq_true rfl) b25 rfl r11 (jo_exn rfl))) H
  · rw [if_neg c7] at H
    refine Eq.trans (jb_nx (i := .if_icmp .ge 72) (n := 3) (q := (87, [some (.ref p0), some (.int i1), o2], [])) (jq qX5_findOpenNames 9 rfl) (jo_icT (jz_geT c7) rfl)) ?_
    exact Eq.trans (jb_rt (i := .return_) (n := 1) (jq qX5_findOpenNames 43 rfl) rfl) H
theorem gX5_findOpenNames_49 {d : Nat} {p0 : Nat} {i1 : Int32} {o2 : Option Value} {si0 : Int32} {h : jm_H} {r : jm_R} (H : ((if si0 = 0 then kX5_findOpenNames_10 d p0 (i1 + 1) (some (.int si0)) h else (jr_R h p0 5 2 2).bind fun a29 => jm_O h a29 3 (jc_L (jm_D d mX3_nameAt [.ref a29, .int i1] h) (fun y33 h31 => jm_O h31 p0 5 (jc_I (jm_D d mX5_isOpenName [.ref p0, .long y33] h31) (fun x36 h34 => (if x36 = 0 then (jr_R h34 p0 5 2 2).bind fun a38 => jm_O h34 a38 3 (jc_L (jm_D d mX3_nameAt [.ref a38, .int i1] h34) (fun y42 h40 => jm_O h40 p0 5 (jc_V (jm_D d mX5_addOpenName [.ref p0, .long y42] h40) (fun h43 => kX5_findOpenNames_10 d p0 (i1 + 1) (some (.int si0)) h43) jx)) jx) else kX5_findOpenNames_10 d p0 (i1 + 1) (some (.int si0)) h34)) jx)) jx))) = some r) : kX5_findOpenNames_49 d p0 i1 o2 si0 h = some r := by
  show jm_B d mX5_findOpenNames (49, [some (.ref p0), some (.int i1), o2], [.int si0]) h = some r
  refine Eq.trans (jb_nx (i := .istore_n 2) (n := 1) (q := (50, [some (.ref p0), some (.int i1), some (.int si0)], [])) (jq qX5_findOpenNames 25 rfl) rfl) ?_
  refine Eq.trans (jb_nx (i := .iload_n 2) (n := 1) (q := (51, [some (.ref p0), some (.int i1), some (.int si0)], [.int si0])) (jq qX5_findOpenNames 26 rfl) rfl) ?_
  by_cases c28 : si0 = 0
  · rw [if_pos c28] at H
    refine Eq.trans (jb_nx (i := .ifCond .eq 30) (n := 3) (q := (81, [some (.ref p0), some (.int i1), some (.int si0)], [])) (jq qX5_findOpenNames 27 rfl) (jo_ifT (jz_eqT c28) rfl)) ?_
    refine Eq.trans (jb_nx (i := .iinc 1 1) (n := 3) (q := (84, [some (.ref p0), some (.int (i1 + 1)), some (.int si0)], [])) (jq qX5_findOpenNames 41 rfl) rfl) ?_
    refine Eq.trans (jb_nx (i := .goto (-74)) (n := 3) (q := (10, [some (.ref p0), some (.int (i1 + 1)), some (.int si0)], [])) (jq qX5_findOpenNames 42 rfl) rfl) ?_
    exact H
  · rw [if_neg c28] at H
    refine Eq.trans (jb_nx (i := .ifCond .eq 30) (n := 3) (q := (54, [some (.ref p0), some (.int i1), some (.int si0)], [])) (jq qX5_findOpenNames 27 rfl) (jo_ifF (jz_eqF c28))) ?_
    refine Eq.trans (jb_nx (i := .aload_n 0) (n := 1) (q := (55, [some (.ref p0), some (.int i1), some (.int si0)], [.ref p0])) (jq qX5_findOpenNames 28 rfl) rfl) ?_
    refine Eq.trans (jb_nx (i := .aload_n 0) (n := 1) (q := (56, [some (.ref p0), some (.int i1), some (.int si0)], [.ref p0, .ref p0])) (jq qX5_findOpenNames 29 rfl) rfl) ?_
    obtain ⟨a29, e30, H⟩ := jbd H
    refine Eq.trans (jb_nx (i := .getfield 12) (n := 3) (q := (59, [some (.ref p0), some (.int i1), some (.int si0)], [.ref a29, .ref p0])) (jq qX5_findOpenNames 30 rfl) (jo_gf rfl (jr_R_inv e30))) ?_
    refine Eq.trans (jb_nx (i := .iload_n 1) (n := 1) (q := (60, [some (.ref p0), some (.int i1), some (.int si0)], [.int i1, .ref a29, .ref p0])) (jq qX5_findOpenNames 31 rfl) rfl) ?_
    obtain ⟨b54, H⟩ := jm_O_inv H
    rcases jcL H with ⟨y33, h31, r32, H⟩ | ⟨w55, h56, r32, H⟩
    · refine Eq.trans (jb_nx (i := .invokevirtual 104) (n := 3) (q := (63, [some (.ref p0), some (.int i1), some (.int si0)], [.long y33, .ref p0])) (jq qX5_findOpenNames 32 rfl) (jo_cv (y := mX3_nameAt) rfl (Nat.le_of_ble_eq_true rfl) rfl (Nat.le_of_ble_eq_true rfl) b54 rfl r32 jo_ret)) ?_
      obtain ⟨b51, H⟩ := jm_O_inv H
      rcases jcI H with ⟨x36, h34, r35, H⟩ | ⟨w52, h53, r35, H⟩
      · refine Eq.trans (jb_nx (i := .invokevirtual 116) (n := 3) (q := (66, [some (.ref p0), some (.int i1), some (.int si0)], [.int x36])) (jq qX5_findOpenNames 33 rfl) (jo_cv (y := mX5_isOpenName) rfl (Nat.le_of_ble_eq_true rfl) rfl (Nat.le_of_ble_eq_true rfl) b51 rfl r35 jo_ret)) ?_
        by_cases c37 : x36 = 0
        · rw [if_pos c37] at H
          refine Eq.trans (jb_nx (i := .ifCond .ne 15) (n := 3) (q := (69, [some (.ref p0), some (.int i1), some (.int si0)], [])) (jq qX5_findOpenNames 34 rfl) (jo_ifF (jz_neF c37))) ?_
          refine Eq.trans (jb_nx (i := .aload_n 0) (n := 1) (q := (70, [some (.ref p0), some (.int i1), some (.int si0)], [.ref p0])) (jq qX5_findOpenNames 35 rfl) rfl) ?_
          refine Eq.trans (jb_nx (i := .aload_n 0) (n := 1) (q := (71, [some (.ref p0), some (.int i1), some (.int si0)], [.ref p0, .ref p0])) (jq qX5_findOpenNames 36 rfl) rfl) ?_
          obtain ⟨a38, e39, H⟩ := jbd H
          refine Eq.trans (jb_nx (i := .getfield 12) (n := 3) (q := (74, [some (.ref p0), some (.int i1), some (.int si0)], [.ref a38, .ref p0])) (jq qX5_findOpenNames 37 rfl) (jo_gf rfl (jr_R_inv e39))) ?_
          refine Eq.trans (jb_nx (i := .iload_n 1) (n := 1) (q := (75, [some (.ref p0), some (.int i1), some (.int si0)], [.int i1, .ref a38, .ref p0])) (jq qX5_findOpenNames 38 rfl) rfl) ?_
          obtain ⟨b48, H⟩ := jm_O_inv H
          rcases jcL H with ⟨y42, h40, r41, H⟩ | ⟨w49, h50, r41, H⟩
          · refine Eq.trans (jb_nx (i := .invokevirtual 104) (n := 3) (q := (78, [some (.ref p0), some (.int i1), some (.int si0)], [.long y42, .ref p0])) (jq qX5_findOpenNames 39 rfl) (jo_cv (y := mX3_nameAt) rfl (Nat.le_of_ble_eq_true rfl) rfl (Nat.le_of_ble_eq_true rfl) b48 rfl r41 jo_ret)) ?_
            obtain ⟨b45, H⟩ := jm_O_inv H
            rcases jcV H with ⟨h43, r44, H⟩ | ⟨w46, h47, r44, H⟩
            · refine Eq.trans (jb_nx (i := .invokevirtual 120) (n := 3) (q := (81, [some (.ref p0), some (.int i1), some (.int si0)], [])) (jq qX5_findOpenNames 40 rfl) (jo_cv (y := mX5_addOpenName) rfl (Nat.le_of_ble_eq_true rfl) rfl (Nat.le_of_ble_eq_true rfl) b45 rfl r44 jo_ret)) ?_
              refine Eq.trans (jb_nx (i := .iinc 1 1) (n := 3) (q := (84, [some (.ref p0), some (.int (i1 + 1)), some (.int si0)], [])) (jq qX5_findOpenNames 41 rfl) rfl) ?_
              refine Eq.trans (jb_nx (i := .goto (-74)) (n := 3) (q := (10, [some (.ref p0), some (.int (i1 + 1)), some (.int si0)], [])) (jq qX5_findOpenNames 42 rfl) rfl) ?_
              exact H
            · exact Eq.trans (jb_rt (i := .invokevirtual 120) (n := 3) (jq qX5_findOpenNames 40 rfl) (jo_cv (y := mX5_addOpenName) rfl (Nat.le_of_ble_eq_true rfl) rfl (Nat.le_of_ble_eq_true rfl) b45 rfl r44 (jo_exn rfl))) H
          · exact Eq.trans (jb_rt (i := .invokevirtual 104) (n := 3) (jq qX5_findOpenNames 39 rfl) (jo_cv (y := mX3_nameAt) rfl (Nat.le_of_ble_eq_true rfl) rfl (Nat.le_of_ble_eq_true rfl) b48 rfl r41 (jo_exn rfl))) H
        · rw [if_neg c37] at H
          refine Eq.trans (jb_nx (i := .ifCond .ne 15) (n := 3) (q := (81, [some (.ref p0), some (.int i1), some (.int si0)], [])) (jq qX5_findOpenNames 34 rfl) (jo_ifT (jz_neT c37) rfl)) ?_
          refine Eq.trans (jb_nx (i := .iinc 1 1) (n := 3) (q := (84, [some (.ref p0), some (.int (i1 + 1)), some (.int si0)], [])) (jq qX5_findOpenNames 41 rfl) rfl) ?_
          refine Eq.trans (jb_nx (i := .goto (-74)) (n := 3) (q := (10, [some (.ref p0), some (.int (i1 + 1)), some (.int si0)], [])) (jq qX5_findOpenNames 42 rfl) rfl) ?_
          exact H
      · exact Eq.trans (jb_rt (i := .invokevirtual 116) (n := 3) (jq qX5_findOpenNames 33 rfl) (jo_cv (y := mX5_isOpenName) rfl (Nat.le_of_ble_eq_true rfl) rfl (Nat.le_of_ble_eq_true rfl) b51 rfl r35 (jo_exn rfl))) H
    · exact Eq.trans (jb_rt (i := .invokevirtual 104) (n := 3) (jq qX5_findOpenNames 32 rfl) (jo_cv (y := mX3_nameAt) rfl (Nat.le_of_ble_eq_true rfl) rfl (Nat.le_of_ble_eq_true rfl) b54 rfl r32 (jo_exn rfl))) H
theorem gX5_findOpenNames {d : Nat} {p0 : Nat} {h : jm_H} {r : jm_R} (H : ((jm_pf h p0 5 7 0 (.int 0)).bind fun h1 => (jr_I h1 p0 5 11 0).bind fun x3 => kX5_findOpenNames_10 d p0 x3 none h1) = some r) : jm_D (d + 1) mX5_findOpenNames [.ref p0] h = some r := by
  rw [jm_D_body (Nat.le_of_ble_eq_true rfl)]
  show jm_B d mX5_findOpenNames (0, [some (.ref p0), none, none], []) h = some r
  refine Eq.trans (jb_nx (i := .aload_n 0) (n := 1) (q := (1, [some (.ref p0), none, none], [.ref p0])) (jq qX5_findOpenNames 0 rfl) rfl) ?_
  refine Eq.trans (jb_nx (i := .iconst 0) (n := 1) (q := (2, [some (.ref p0), none, none], [.int 0, .ref p0])) (jq qX5_findOpenNames 1 rfl) rfl) ?_
  obtain ⟨h1, e2, H⟩ := jbd H
  refine Eq.trans (jb_nx (i := .putfield 113) (n := 3) (q := (5, [some (.ref p0), none, none], [])) (jq qX5_findOpenNames 2 rfl) (jo_pf rfl (Or.inl rfl) e2)) ?_
  refine Eq.trans (jb_nx (i := .aload_n 0) (n := 1) (q := (6, [some (.ref p0), none, none], [.ref p0])) (jq qX5_findOpenNames 3 rfl) rfl) ?_
  obtain ⟨x3, e4, H⟩ := jbd H
  refine Eq.trans (jb_nx (i := .getfield 56) (n := 3) (q := (9, [some (.ref p0), none, none], [.int x3])) (jq qX5_findOpenNames 4 rfl) (jo_gf rfl (jr_I_inv e4))) ?_
  refine Eq.trans (jb_nx (i := .istore_n 1) (n := 1) (q := (10, [some (.ref p0), some (.int x3), none], [])) (jq qX5_findOpenNames 5 rfl) rfl) ?_
  exact H
/-! MaskPlays$Step isOpenName (J)Z -/
def tX5_isOpenName : List (Nat × Instr × Nat) := [(0, .iconst 0, 1), (1, .istore_n 3, 1), (2, .iload_n 3, 1), (3, .aload_n 0, 1), (4, .getfield 113, 3), (7, .if_icmp .ge 31, 3), (10, .iload_n 3, 1), (11, .aload_n 0, 1), (12, .getfield 28, 3), (15, .arraylength, 1), (16, .if_icmp .ge 22, 3), (19, .aload_n 0, 1), (20, .getfield 28, 3), (23, .iload_n 3, 1), (24, .laload, 1), (25, .lload_n 1, 1), (26, .lcmp, 1), (27, .ifCond .ne 5, 3), (30, .iconst 1, 1), (31, .ireturn, 1), (32, .iinc 3 1, 3), (35, .goto (-33), 3), (38, .iconst 0, 1), (39, .ireturn, 1)]
set_option maxRecDepth 100000 in
theorem qX5_isOpenName : ∀ q ∈ tX5_isOpenName, decode cX5_isOpenName q.1 = .ok (q.2.1, q.2.2) := by decide +kernel
noncomputable def kX5_isOpenName_2 (d : Nat) (p0 : Nat) (j1 : Int64) (i3 : Int32) (h : jm_H) : Option jm_R := jm_B d mX5_isOpenName (2, [some (.ref p0), some (.long j1), none, some (.int i3)], []) h
theorem gX5_isOpenName_2 {d : Nat} {p0 : Nat} {j1 : Int64} {i3 : Int32} {h : jm_H} {r : jm_R} (H : ((jr_I h p0 5 7 0).bind fun x1 => (if i3 < x1 then (jr_R h p0 5 6 2).bind fun a4 => (jm_len h a4).bind fun n6 => (if i3 < (Int32.ofNat n6) then (jr_R h p0 5 6 2).bind fun a9 => (jm_all h a9 i3).bind fun y11 => (if (lg_cmp y11 j1) = 0 then some (.inl (some (.int 1)), h) else kX5_isOpenName_2 d p0 j1 (i3 + 1) h) else some (.inl (some (.int 0)), h)) else some (.inl (some (.int 0)), h))) = some r) : kX5_isOpenName_2 d p0 j1 i3 h = some r := by
  show jm_B d mX5_isOpenName (2, [some (.ref p0), some (.long j1), none, some (.int i3)], []) h = some r
  refine Eq.trans (jb_nx (i := .iload_n 3) (n := 1) (q := (3, [some (.ref p0), some (.long j1), none, some (.int i3)], [.int i3])) (jq qX5_isOpenName 2 rfl) rfl) ?_
  refine Eq.trans (jb_nx (i := .aload_n 0) (n := 1) (q := (4, [some (.ref p0), some (.long j1), none, some (.int i3)], [.ref p0, .int i3])) (jq qX5_isOpenName 3 rfl) rfl) ?_
  obtain ⟨x1, e2, H⟩ := jbd H
  refine Eq.trans (jb_nx (i := .getfield 113) (n := 3) (q := (7, [some (.ref p0), some (.long j1), none, some (.int i3)], [.int x1, .int i3])) (jq qX5_isOpenName 4 rfl) (jo_gf rfl (jr_I_inv e2))) ?_
  by_cases c3 : i3 < x1
  · rw [if_pos c3] at H
    refine Eq.trans (jb_nx (i := .if_icmp .ge 31) (n := 3) (q := (10, [some (.ref p0), some (.long j1), none, some (.int i3)], [])) (jq qX5_isOpenName 5 rfl) (jo_icF (jz_geF c3))) ?_
    refine Eq.trans (jb_nx (i := .iload_n 3) (n := 1) (q := (11, [some (.ref p0), some (.long j1), none, some (.int i3)], [.int i3])) (jq qX5_isOpenName 6 rfl) rfl) ?_
    refine Eq.trans (jb_nx (i := .aload_n 0) (n := 1) (q := (12, [some (.ref p0), some (.long j1), none, some (.int i3)], [.ref p0, .int i3])) (jq qX5_isOpenName 7 rfl) rfl) ?_
    obtain ⟨a4, e5, H⟩ := jbd H
    refine Eq.trans (jb_nx (i := .getfield 28) (n := 3) (q := (15, [some (.ref p0), some (.long j1), none, some (.int i3)], [.ref a4, .int i3])) (jq qX5_isOpenName 8 rfl) (jo_gf rfl (jr_R_inv e5))) ?_
    obtain ⟨n6, e7, H⟩ := jbd H
    refine Eq.trans (jb_nx (i := .arraylength) (n := 1) (q := (16, [some (.ref p0), some (.long j1), none, some (.int i3)], [.int (Int32.ofNat n6), .int i3])) (jq qX5_isOpenName 9 rfl) (jo_len e7)) ?_
    by_cases c8 : i3 < (Int32.ofNat n6)
    · rw [if_pos c8] at H
      refine Eq.trans (jb_nx (i := .if_icmp .ge 22) (n := 3) (q := (19, [some (.ref p0), some (.long j1), none, some (.int i3)], [])) (jq qX5_isOpenName 10 rfl) (jo_icF (jz_geF c8))) ?_
      refine Eq.trans (jb_nx (i := .aload_n 0) (n := 1) (q := (20, [some (.ref p0), some (.long j1), none, some (.int i3)], [.ref p0])) (jq qX5_isOpenName 11 rfl) rfl) ?_
      obtain ⟨a9, e10, H⟩ := jbd H
      refine Eq.trans (jb_nx (i := .getfield 28) (n := 3) (q := (23, [some (.ref p0), some (.long j1), none, some (.int i3)], [.ref a9])) (jq qX5_isOpenName 12 rfl) (jo_gf rfl (jr_R_inv e10))) ?_
      refine Eq.trans (jb_nx (i := .iload_n 3) (n := 1) (q := (24, [some (.ref p0), some (.long j1), none, some (.int i3)], [.int i3, .ref a9])) (jq qX5_isOpenName 13 rfl) rfl) ?_
      obtain ⟨y11, e12, H⟩ := jbd H
      refine Eq.trans (jb_nx (i := .laload) (n := 1) (q := (25, [some (.ref p0), some (.long j1), none, some (.int i3)], [.long y11])) (jq qX5_isOpenName 14 rfl) (jo_lal e12)) ?_
      refine Eq.trans (jb_nx (i := .lload_n 1) (n := 1) (q := (26, [some (.ref p0), some (.long j1), none, some (.int i3)], [.long j1, .long y11])) (jq qX5_isOpenName 15 rfl) rfl) ?_
      refine Eq.trans (jb_nx (i := .lcmp) (n := 1) (q := (27, [some (.ref p0), some (.long j1), none, some (.int i3)], [.int (lg_cmp y11 j1)])) (jq qX5_isOpenName 16 rfl) rfl) ?_
      by_cases c13 : (lg_cmp y11 j1) = 0
      · rw [if_pos c13] at H
        refine Eq.trans (jb_nx (i := .ifCond .ne 5) (n := 3) (q := (30, [some (.ref p0), some (.long j1), none, some (.int i3)], [])) (jq qX5_isOpenName 17 rfl) (jo_ifF (jz_neF c13))) ?_
        refine Eq.trans (jb_nx (i := .iconst 1) (n := 1) (q := (31, [some (.ref p0), some (.long j1), none, some (.int i3)], [.int 1])) (jq qX5_isOpenName 18 rfl) rfl) ?_
        exact Eq.trans (jb_rt (i := .ireturn) (n := 1) (jq qX5_isOpenName 19 rfl) (jo_iret rfl (by decide))) H
      · rw [if_neg c13] at H
        refine Eq.trans (jb_nx (i := .ifCond .ne 5) (n := 3) (q := (32, [some (.ref p0), some (.long j1), none, some (.int i3)], [])) (jq qX5_isOpenName 17 rfl) (jo_ifT (jz_neT c13) rfl)) ?_
        refine Eq.trans (jb_nx (i := .iinc 3 1) (n := 3) (q := (35, [some (.ref p0), some (.long j1), none, some (.int (i3 + 1))], [])) (jq qX5_isOpenName 20 rfl) rfl) ?_
        refine Eq.trans (jb_nx (i := .goto (-33)) (n := 3) (q := (2, [some (.ref p0), some (.long j1), none, some (.int (i3 + 1))], [])) (jq qX5_isOpenName 21 rfl) rfl) ?_
        exact H
    · rw [if_neg c8] at H
      refine Eq.trans (jb_nx (i := .if_icmp .ge 22) (n := 3) (q := (38, [some (.ref p0), some (.long j1), none, some (.int i3)], [])) (jq qX5_isOpenName 10 rfl) (jo_icT (jz_geT c8) rfl)) ?_
      refine Eq.trans (jb_nx (i := .iconst 0) (n := 1) (q := (39, [some (.ref p0), some (.long j1), none, some (.int i3)], [.int 0])) (jq qX5_isOpenName 22 rfl) rfl) ?_
      exact Eq.trans (jb_rt (i := .ireturn) (n := 1) (jq qX5_isOpenName 23 rfl) (jo_iret rfl (by decide))) H
  · rw [if_neg c3] at H
    refine Eq.trans (jb_nx (i := .if_icmp .ge 31) (n := 3) (q := (38, [some (.ref p0), some (.long j1), none, some (.int i3)], [])) (jq qX5_isOpenName 5 rfl) (jo_icT (jz_geT c3) rfl)) ?_
    refine Eq.trans (jb_nx (i := .iconst 0) (n := 1) (q := (39, [some (.ref p0), some (.long j1), none, some (.int i3)], [.int 0])) (jq qX5_isOpenName 22 rfl) rfl) ?_
    exact Eq.trans (jb_rt (i := .ireturn) (n := 1) (jq qX5_isOpenName 23 rfl) (jo_iret rfl (by decide))) H
theorem gX5_isOpenName {d : Nat} {p0 : Nat} {j1 : Int64} {h : jm_H} {r : jm_R} (H : (kX5_isOpenName_2 d p0 j1 0 h) = some r) : jm_D (d + 1) mX5_isOpenName [.ref p0, .long j1] h = some r := by
  rw [jm_D_body (Nat.le_of_ble_eq_true rfl)]
  show jm_B d mX5_isOpenName (0, [some (.ref p0), some (.long j1), none, none], []) h = some r
  refine Eq.trans (jb_nx (i := .iconst 0) (n := 1) (q := (1, [some (.ref p0), some (.long j1), none, none], [.int 0])) (jq qX5_isOpenName 0 rfl) rfl) ?_
  refine Eq.trans (jb_nx (i := .istore_n 3) (n := 1) (q := (2, [some (.ref p0), some (.long j1), none, some (.int 0)], [])) (jq qX5_isOpenName 1 rfl) rfl) ?_
  exact H
/-! MaskPlays$Step addOpenName (J)V -/
def tX5_addOpenName : List (Nat × Instr × Nat) := [(0, .aload_n 0, 1), (1, .getfield 113, 3), (4, .ifCond .lt 35, 3), (7, .aload_n 0, 1), (8, .getfield 113, 3), (11, .aload_n 0, 1), (12, .getfield 28, 3), (15, .arraylength, 1), (16, .if_icmp .ge 23, 3), (19, .aload_n 0, 1), (20, .getfield 28, 3), (23, .aload_n 0, 1), (24, .getfield 113, 3), (27, .lload_n 1, 1), (28, .lastore, 1), (29, .aload_n 0, 1), (30, .dup, 1), (31, .getfield 113, 3), (34, .iconst 1, 1), (35, .iadd, 1), (36, .putfield 113, 3), (39, .return_, 1)]
set_option maxRecDepth 100000 in
theorem qX5_addOpenName : ∀ q ∈ tX5_addOpenName, decode cX5_addOpenName q.1 = .ok (q.2.1, q.2.2) := by decide +kernel
theorem gX5_addOpenName {d : Nat} {p0 : Nat} {j1 : Int64} {h : jm_H} {r : jm_R} (H : ((jr_I h p0 5 7 0).bind fun x1 => (if x1 < 0 then some (.inl none, h) else (jr_I h p0 5 7 0).bind fun x4 => (jr_R h p0 5 6 2).bind fun a6 => (jm_len h a6).bind fun n8 => (if x4 < (Int32.ofNat n8) then (jr_R h p0 5 6 2).bind fun a11 => (jr_I h p0 5 7 0).bind fun x13 => (jm_asl h a11 x13 j1).bind fun h15 => (jr_I h15 p0 5 7 0).bind fun x17 => (jm_pf h15 p0 5 7 0 (.int (x17 + 1))).bind fun h19 => some (.inl none, h19) else some (.inl none, h)))) = some r) : jm_D (d + 1) mX5_addOpenName [.ref p0, .long j1] h = some r := by
  rw [jm_D_body (Nat.le_of_ble_eq_true rfl)]
  show jm_B d mX5_addOpenName (0, [some (.ref p0), some (.long j1), none], []) h = some r
  refine Eq.trans (jb_nx (i := .aload_n 0) (n := 1) (q := (1, [some (.ref p0), some (.long j1), none], [.ref p0])) (jq qX5_addOpenName 0 rfl) rfl) ?_
  obtain ⟨x1, e2, H⟩ := jbd H
  refine Eq.trans (jb_nx (i := .getfield 113) (n := 3) (q := (4, [some (.ref p0), some (.long j1), none], [.int x1])) (jq qX5_addOpenName 1 rfl) (jo_gf rfl (jr_I_inv e2))) ?_
  by_cases c3 : x1 < 0
  · rw [if_pos c3] at H
    refine Eq.trans (jb_nx (i := .ifCond .lt 35) (n := 3) (q := (39, [some (.ref p0), some (.long j1), none], [])) (jq qX5_addOpenName 2 rfl) (jo_ifT (jz_ltT c3) rfl)) ?_
    exact Eq.trans (jb_rt (i := .return_) (n := 1) (jq qX5_addOpenName 21 rfl) rfl) H
  · rw [if_neg c3] at H
    refine Eq.trans (jb_nx (i := .ifCond .lt 35) (n := 3) (q := (7, [some (.ref p0), some (.long j1), none], [])) (jq qX5_addOpenName 2 rfl) (jo_ifF (jz_ltF c3))) ?_
    refine Eq.trans (jb_nx (i := .aload_n 0) (n := 1) (q := (8, [some (.ref p0), some (.long j1), none], [.ref p0])) (jq qX5_addOpenName 3 rfl) rfl) ?_
    obtain ⟨x4, e5, H⟩ := jbd H
    refine Eq.trans (jb_nx (i := .getfield 113) (n := 3) (q := (11, [some (.ref p0), some (.long j1), none], [.int x4])) (jq qX5_addOpenName 4 rfl) (jo_gf rfl (jr_I_inv e5))) ?_
    refine Eq.trans (jb_nx (i := .aload_n 0) (n := 1) (q := (12, [some (.ref p0), some (.long j1), none], [.ref p0, .int x4])) (jq qX5_addOpenName 5 rfl) rfl) ?_
    obtain ⟨a6, e7, H⟩ := jbd H
    refine Eq.trans (jb_nx (i := .getfield 28) (n := 3) (q := (15, [some (.ref p0), some (.long j1), none], [.ref a6, .int x4])) (jq qX5_addOpenName 6 rfl) (jo_gf rfl (jr_R_inv e7))) ?_
    obtain ⟨n8, e9, H⟩ := jbd H
    refine Eq.trans (jb_nx (i := .arraylength) (n := 1) (q := (16, [some (.ref p0), some (.long j1), none], [.int (Int32.ofNat n8), .int x4])) (jq qX5_addOpenName 7 rfl) (jo_len e9)) ?_
    by_cases c10 : x4 < (Int32.ofNat n8)
    · rw [if_pos c10] at H
      refine Eq.trans (jb_nx (i := .if_icmp .ge 23) (n := 3) (q := (19, [some (.ref p0), some (.long j1), none], [])) (jq qX5_addOpenName 8 rfl) (jo_icF (jz_geF c10))) ?_
      refine Eq.trans (jb_nx (i := .aload_n 0) (n := 1) (q := (20, [some (.ref p0), some (.long j1), none], [.ref p0])) (jq qX5_addOpenName 9 rfl) rfl) ?_
      obtain ⟨a11, e12, H⟩ := jbd H
      refine Eq.trans (jb_nx (i := .getfield 28) (n := 3) (q := (23, [some (.ref p0), some (.long j1), none], [.ref a11])) (jq qX5_addOpenName 10 rfl) (jo_gf rfl (jr_R_inv e12))) ?_
      refine Eq.trans (jb_nx (i := .aload_n 0) (n := 1) (q := (24, [some (.ref p0), some (.long j1), none], [.ref p0, .ref a11])) (jq qX5_addOpenName 11 rfl) rfl) ?_
      obtain ⟨x13, e14, H⟩ := jbd H
      refine Eq.trans (jb_nx (i := .getfield 113) (n := 3) (q := (27, [some (.ref p0), some (.long j1), none], [.int x13, .ref a11])) (jq qX5_addOpenName 12 rfl) (jo_gf rfl (jr_I_inv e14))) ?_
      refine Eq.trans (jb_nx (i := .lload_n 1) (n := 1) (q := (28, [some (.ref p0), some (.long j1), none], [.long j1, .int x13, .ref a11])) (jq qX5_addOpenName 13 rfl) rfl) ?_
      obtain ⟨h15, e16, H⟩ := jbd H
      refine Eq.trans (jb_nx (i := .lastore) (n := 1) (q := (29, [some (.ref p0), some (.long j1), none], [])) (jq qX5_addOpenName 14 rfl) (jo_las e16)) ?_
      refine Eq.trans (jb_nx (i := .aload_n 0) (n := 1) (q := (30, [some (.ref p0), some (.long j1), none], [.ref p0])) (jq qX5_addOpenName 15 rfl) rfl) ?_
      refine Eq.trans (jb_nx (i := .dup) (n := 1) (q := (31, [some (.ref p0), some (.long j1), none], [.ref p0, .ref p0])) (jq qX5_addOpenName 16 rfl) rfl) ?_
      obtain ⟨x17, e18, H⟩ := jbd H
      refine Eq.trans (jb_nx (i := .getfield 113) (n := 3) (q := (34, [some (.ref p0), some (.long j1), none], [.int x17, .ref p0])) (jq qX5_addOpenName 17 rfl) (jo_gf rfl (jr_I_inv e18))) ?_
      refine Eq.trans (jb_nx (i := .iconst 1) (n := 1) (q := (35, [some (.ref p0), some (.long j1), none], [.int 1, .int x17, .ref p0])) (jq qX5_addOpenName 18 rfl) rfl) ?_
      refine Eq.trans (jb_nx (i := .iadd) (n := 1) (q := (36, [some (.ref p0), some (.long j1), none], [.int (x17 + 1), .ref p0])) (jq qX5_addOpenName 19 rfl) rfl) ?_
      obtain ⟨h19, e20, H⟩ := jbd H
      refine Eq.trans (jb_nx (i := .putfield 113) (n := 3) (q := (39, [some (.ref p0), some (.long j1), none], [])) (jq qX5_addOpenName 20 rfl) (jo_pf rfl (Or.inl rfl) e20)) ?_
      exact Eq.trans (jb_rt (i := .return_) (n := 1) (jq qX5_addOpenName 21 rfl) rfl) H
    · rw [if_neg c10] at H
      refine Eq.trans (jb_nx (i := .if_icmp .ge 23) (n := 3) (q := (39, [some (.ref p0), some (.long j1), none], [])) (jq qX5_addOpenName 8 rfl) (jo_icT (jz_geT c10) rfl)) ?_
      exact Eq.trans (jb_rt (i := .return_) (n := 1) (jq qX5_addOpenName 21 rfl) rfl) H
/-! MaskPlays$Step findMasksAround ()V -/
def tX5_findMasksAround : List (Nat × Instr × Nat) := [(0, .iconst 0, 1), (1, .istore_n 1, 1), (2, .iload_n 1, 1), (3, .aload_n 0, 1), (4, .getfield 25, 3), (7, .arraylength, 1), (8, .if_icmp .ge 16, 3), (11, .aload_n 0, 1), (12, .getfield 25, 3), (15, .iload_n 1, 1), (16, .iconst 0, 1), (17, .bastore, 1), (18, .iinc 1 1, 3), (21, .goto (-19), 3), (24, .iconst 0, 1), (25, .istore_n 1, 1), (26, .iload_n 1, 1), (27, .aload_n 0, 1), (28, .getfield 21, 3), (31, .arraylength, 1), (32, .if_icmp .ge 23, 3), (35, .aload_n 0, 1), (36, .getfield 21, 3), (39, .iload_n 1, 1), (40, .baload, 1), (41, .ifCond .eq 8, 3), (44, .aload_n 0, 1), (45, .iload_n 1, 1), (46, .invokevirtual 124, 3), (49, .iinc 1 1, 3), (52, .goto (-26), 3), (55, .return_, 1)]
set_option maxRecDepth 100000 in
theorem qX5_findMasksAround : ∀ q ∈ tX5_findMasksAround, decode cX5_findMasksAround q.1 = .ok (q.2.1, q.2.2) := by decide +kernel
noncomputable def kX5_findMasksAround_2 (d : Nat) (p0 : Nat) (i1 : Int32) (h : jm_H) : Option jm_R := jm_B d mX5_findMasksAround (2, [some (.ref p0), some (.int i1)], []) h
noncomputable def kX5_findMasksAround_26 (d : Nat) (p0 : Nat) (i1 : Int32) (h : jm_H) : Option jm_R := jm_B d mX5_findMasksAround (26, [some (.ref p0), some (.int i1)], []) h
theorem gX5_findMasksAround_2 {d : Nat} {p0 : Nat} {i1 : Int32} {h : jm_H} {r : jm_R} (H : ((jr_R h p0 5 5 2).bind fun a1 => (jm_len h a1).bind fun n3 => (if i1 < (Int32.ofNat n3) then (jr_R h p0 5 5 2).bind fun a6 => (jm_asi h a6 3 i1 0).bind fun h8 => kX5_findMasksAround_2 d p0 (i1 + 1) h8 else kX5_findMasksAround_26 d p0 0 h)) = some r) : kX5_findMasksAround_2 d p0 i1 h = some r := by
  show jm_B d mX5_findMasksAround (2, [some (.ref p0), some (.int i1)], []) h = some r
  refine Eq.trans (jb_nx (i := .iload_n 1) (n := 1) (q := (3, [some (.ref p0), some (.int i1)], [.int i1])) (jq qX5_findMasksAround 2 rfl) rfl) ?_
  refine Eq.trans (jb_nx (i := .aload_n 0) (n := 1) (q := (4, [some (.ref p0), some (.int i1)], [.ref p0, .int i1])) (jq qX5_findMasksAround 3 rfl) rfl) ?_
  obtain ⟨a1, e2, H⟩ := jbd H
  refine Eq.trans (jb_nx (i := .getfield 25) (n := 3) (q := (7, [some (.ref p0), some (.int i1)], [.ref a1, .int i1])) (jq qX5_findMasksAround 4 rfl) (jo_gf rfl (jr_R_inv e2))) ?_
  obtain ⟨n3, e4, H⟩ := jbd H
  refine Eq.trans (jb_nx (i := .arraylength) (n := 1) (q := (8, [some (.ref p0), some (.int i1)], [.int (Int32.ofNat n3), .int i1])) (jq qX5_findMasksAround 5 rfl) (jo_len e4)) ?_
  by_cases c5 : i1 < (Int32.ofNat n3)
  · rw [if_pos c5] at H
    refine Eq.trans (jb_nx (i := .if_icmp .ge 16) (n := 3) (q := (11, [some (.ref p0), some (.int i1)], [])) (jq qX5_findMasksAround 6 rfl) (jo_icF (jz_geF c5))) ?_
    refine Eq.trans (jb_nx (i := .aload_n 0) (n := 1) (q := (12, [some (.ref p0), some (.int i1)], [.ref p0])) (jq qX5_findMasksAround 7 rfl) rfl) ?_
    obtain ⟨a6, e7, H⟩ := jbd H
    refine Eq.trans (jb_nx (i := .getfield 25) (n := 3) (q := (15, [some (.ref p0), some (.int i1)], [.ref a6])) (jq qX5_findMasksAround 8 rfl) (jo_gf rfl (jr_R_inv e7))) ?_
    refine Eq.trans (jb_nx (i := .iload_n 1) (n := 1) (q := (16, [some (.ref p0), some (.int i1)], [.int i1, .ref a6])) (jq qX5_findMasksAround 9 rfl) rfl) ?_
    refine Eq.trans (jb_nx (i := .iconst 0) (n := 1) (q := (17, [some (.ref p0), some (.int i1)], [.int 0, .int i1, .ref a6])) (jq qX5_findMasksAround 10 rfl) rfl) ?_
    obtain ⟨h8, e9, H⟩ := jbd H
    refine Eq.trans (jb_nx (i := .bastore) (n := 1) (q := (18, [some (.ref p0), some (.int i1)], [])) (jq qX5_findMasksAround 11 rfl) (jo_zas e9)) ?_
    refine Eq.trans (jb_nx (i := .iinc 1 1) (n := 3) (q := (21, [some (.ref p0), some (.int (i1 + 1))], [])) (jq qX5_findMasksAround 12 rfl) rfl) ?_
    refine Eq.trans (jb_nx (i := .goto (-19)) (n := 3) (q := (2, [some (.ref p0), some (.int (i1 + 1))], [])) (jq qX5_findMasksAround 13 rfl) rfl) ?_
    exact H
  · rw [if_neg c5] at H
    refine Eq.trans (jb_nx (i := .if_icmp .ge 16) (n := 3) (q := (24, [some (.ref p0), some (.int i1)], [])) (jq qX5_findMasksAround 6 rfl) (jo_icT (jz_geT c5) rfl)) ?_
    refine Eq.trans (jb_nx (i := .iconst 0) (n := 1) (q := (25, [some (.ref p0), some (.int i1)], [.int 0])) (jq qX5_findMasksAround 14 rfl) rfl) ?_
    refine Eq.trans (jb_nx (i := .istore_n 1) (n := 1) (q := (26, [some (.ref p0), some (.int 0)], [])) (jq qX5_findMasksAround 15 rfl) rfl) ?_
    exact H
theorem gX5_findMasksAround_26 {d : Nat} {p0 : Nat} {i1 : Int32} {h : jm_H} {r : jm_R} (H : ((jr_R h p0 5 4 2).bind fun a10 => (jm_len h a10).bind fun n12 => (if i1 < (Int32.ofNat n12) then (jr_R h p0 5 4 2).bind fun a15 => (jm_ali h a15 3 i1).bind fun x17 => (if x17 = 0 then kX5_findMasksAround_26 d p0 (i1 + 1) h else jm_O h p0 5 (jc_V (jm_D d mX5_markMasksAround [.ref p0, .int i1] h) (fun h20 => kX5_findMasksAround_26 d p0 (i1 + 1) h20) jx)) else some (.inl none, h))) = some r) : kX5_findMasksAround_26 d p0 i1 h = some r := by
  show jm_B d mX5_findMasksAround (26, [some (.ref p0), some (.int i1)], []) h = some r
  refine Eq.trans (jb_nx (i := .iload_n 1) (n := 1) (q := (27, [some (.ref p0), some (.int i1)], [.int i1])) (jq qX5_findMasksAround 16 rfl) rfl) ?_
  refine Eq.trans (jb_nx (i := .aload_n 0) (n := 1) (q := (28, [some (.ref p0), some (.int i1)], [.ref p0, .int i1])) (jq qX5_findMasksAround 17 rfl) rfl) ?_
  obtain ⟨a10, e11, H⟩ := jbd H
  refine Eq.trans (jb_nx (i := .getfield 21) (n := 3) (q := (31, [some (.ref p0), some (.int i1)], [.ref a10, .int i1])) (jq qX5_findMasksAround 18 rfl) (jo_gf rfl (jr_R_inv e11))) ?_
  obtain ⟨n12, e13, H⟩ := jbd H
  refine Eq.trans (jb_nx (i := .arraylength) (n := 1) (q := (32, [some (.ref p0), some (.int i1)], [.int (Int32.ofNat n12), .int i1])) (jq qX5_findMasksAround 19 rfl) (jo_len e13)) ?_
  by_cases c14 : i1 < (Int32.ofNat n12)
  · rw [if_pos c14] at H
    refine Eq.trans (jb_nx (i := .if_icmp .ge 23) (n := 3) (q := (35, [some (.ref p0), some (.int i1)], [])) (jq qX5_findMasksAround 20 rfl) (jo_icF (jz_geF c14))) ?_
    refine Eq.trans (jb_nx (i := .aload_n 0) (n := 1) (q := (36, [some (.ref p0), some (.int i1)], [.ref p0])) (jq qX5_findMasksAround 21 rfl) rfl) ?_
    obtain ⟨a15, e16, H⟩ := jbd H
    refine Eq.trans (jb_nx (i := .getfield 21) (n := 3) (q := (39, [some (.ref p0), some (.int i1)], [.ref a15])) (jq qX5_findMasksAround 22 rfl) (jo_gf rfl (jr_R_inv e16))) ?_
    refine Eq.trans (jb_nx (i := .iload_n 1) (n := 1) (q := (40, [some (.ref p0), some (.int i1)], [.int i1, .ref a15])) (jq qX5_findMasksAround 23 rfl) rfl) ?_
    obtain ⟨x17, e18, H⟩ := jbd H
    refine Eq.trans (jb_nx (i := .baload) (n := 1) (q := (41, [some (.ref p0), some (.int i1)], [.int x17])) (jq qX5_findMasksAround 24 rfl) (jo_zal e18)) ?_
    by_cases c19 : x17 = 0
    · rw [if_pos c19] at H
      refine Eq.trans (jb_nx (i := .ifCond .eq 8) (n := 3) (q := (49, [some (.ref p0), some (.int i1)], [])) (jq qX5_findMasksAround 25 rfl) (jo_ifT (jz_eqT c19) rfl)) ?_
      refine Eq.trans (jb_nx (i := .iinc 1 1) (n := 3) (q := (52, [some (.ref p0), some (.int (i1 + 1))], [])) (jq qX5_findMasksAround 29 rfl) rfl) ?_
      refine Eq.trans (jb_nx (i := .goto (-26)) (n := 3) (q := (26, [some (.ref p0), some (.int (i1 + 1))], [])) (jq qX5_findMasksAround 30 rfl) rfl) ?_
      exact H
    · rw [if_neg c19] at H
      refine Eq.trans (jb_nx (i := .ifCond .eq 8) (n := 3) (q := (44, [some (.ref p0), some (.int i1)], [])) (jq qX5_findMasksAround 25 rfl) (jo_ifF (jz_eqF c19))) ?_
      refine Eq.trans (jb_nx (i := .aload_n 0) (n := 1) (q := (45, [some (.ref p0), some (.int i1)], [.ref p0])) (jq qX5_findMasksAround 26 rfl) rfl) ?_
      refine Eq.trans (jb_nx (i := .iload_n 1) (n := 1) (q := (46, [some (.ref p0), some (.int i1)], [.int i1, .ref p0])) (jq qX5_findMasksAround 27 rfl) rfl) ?_
      obtain ⟨b22, H⟩ := jm_O_inv H
      rcases jcV H with ⟨h20, r21, H⟩ | ⟨w23, h24, r21, H⟩
      · refine Eq.trans (jb_nx (i := .invokevirtual 124) (n := 3) (q := (49, [some (.ref p0), some (.int i1)], [])) (jq qX5_findMasksAround 28 rfl) (jo_cv (y := mX5_markMasksAround) rfl (Nat.le_of_ble_eq_true rfl) rfl (Nat.le_of_ble_eq_true rfl) b22 rfl r21 jo_ret)) ?_
        refine Eq.trans (jb_nx (i := .iinc 1 1) (n := 3) (q := (52, [some (.ref p0), some (.int (i1 + 1))], [])) (jq qX5_findMasksAround 29 rfl) rfl) ?_
        refine Eq.trans (jb_nx (i := .goto (-26)) (n := 3) (q := (26, [some (.ref p0), some (.int (i1 + 1))], [])) (jq qX5_findMasksAround 30 rfl) rfl) ?_
        exact H
      · exact Eq.trans (jb_rt (i := .invokevirtual 124) (n := 3) (jq qX5_findMasksAround 28 rfl) (jo_cv (y := mX5_markMasksAround) rfl (Nat.le_of_ble_eq_true rfl) rfl (Nat.le_of_ble_eq_true rfl) b22 rfl r21 (jo_exn rfl))) H
  · rw [if_neg c14] at H
    refine Eq.trans (jb_nx (i := .if_icmp .ge 23) (n := 3) (q := (55, [some (.ref p0), some (.int i1)], [])) (jq qX5_findMasksAround 20 rfl) (jo_icT (jz_geT c14) rfl)) ?_
    exact Eq.trans (jb_rt (i := .return_) (n := 1) (jq qX5_findMasksAround 31 rfl) rfl) H
theorem gX5_findMasksAround {d : Nat} {p0 : Nat} {h : jm_H} {r : jm_R} (H : (kX5_findMasksAround_2 d p0 0 h) = some r) : jm_D (d + 1) mX5_findMasksAround [.ref p0] h = some r := by
  rw [jm_D_body (Nat.le_of_ble_eq_true rfl)]
  show jm_B d mX5_findMasksAround (0, [some (.ref p0), none], []) h = some r
  refine Eq.trans (jb_nx (i := .iconst 0) (n := 1) (q := (1, [some (.ref p0), none], [.int 0])) (jq qX5_findMasksAround 0 rfl) rfl) ?_
  refine Eq.trans (jb_nx (i := .istore_n 1) (n := 1) (q := (2, [some (.ref p0), some (.int 0)], [])) (jq qX5_findMasksAround 1 rfl) rfl) ?_
  exact H
/-! MaskPlays$Step markMasksAround (I)V -/
def tX5_markMasksAround : List (Nat × Instr × Nat) := [(0, .aload_n 0, 1), (1, .getfield 12, 3), (4, .iload_n 1, 1), (5, .invokevirtual 128, 3), (8, .istore_n 2, 1), (9, .iconst 0, 1), (10, .istore_n 3, 1), (11, .iload_n 3, 1), (12, .sipush 150, 3), (15, .if_icmp .ge 46, 3), (18, .iload_n 2, 1), (19, .aload_n 0, 1), (20, .getfield 49, 3), (23, .if_icmp .le 38, 3), (26, .iload_n 2, 1), (27, .ifCond .lt 19, 3), (30, .iload_n 2, 1), (31, .aload_n 0, 1), (32, .getfield 25, 3), (35, .arraylength, 1), (36, .if_icmp .ge 10, 3), (39, .aload_n 0, 1), (40, .getfield 25, 3), (43, .iload_n 2, 1), (44, .iconst 1, 1), (45, .bastore, 1), (46, .aload_n 0, 1), (47, .getfield 12, 3), (50, .iload_n 2, 1), (51, .invokevirtual 128, 3), (54, .istore_n 2, 1), (55, .iinc 3 1, 3), (58, .goto (-47), 3), (61, .return_, 1)]
set_option maxRecDepth 100000 in
theorem qX5_markMasksAround : ∀ q ∈ tX5_markMasksAround, decode cX5_markMasksAround q.1 = .ok (q.2.1, q.2.2) := by decide +kernel
noncomputable def kX5_markMasksAround_11 (d : Nat) (p0 : Nat) (o1 : Option Value) (i2 : Int32) (i3 : Int32) (h : jm_H) : Option jm_R := jm_B d mX5_markMasksAround (11, [some (.ref p0), o1, some (.int i2), some (.int i3)], []) h
noncomputable def kX5_markMasksAround_46 (d : Nat) (p0 : Nat) (o1 : Option Value) (i2 : Int32) (i3 : Int32) (h : jm_H) : Option jm_R := jm_B d mX5_markMasksAround (46, [some (.ref p0), o1, some (.int i2), some (.int i3)], []) h
theorem gX5_markMasksAround_11 {d : Nat} {p0 : Nat} {o1 : Option Value} {i2 : Int32} {i3 : Int32} {h : jm_H} {r : jm_R} (H : ((if i3 < 150 then (jr_I h p0 5 10 0).bind fun x10 => (if x10 < i2 then (if i2 < 0 then kX5_markMasksAround_46 d p0 o1 i2 i3 h else (jr_R h p0 5 5 2).bind fun a14 => (jm_len h a14).bind fun n16 => (if i2 < (Int32.ofNat n16) then (jr_R h p0 5 5 2).bind fun a19 => (jm_asi h a19 3 i2 1).bind fun h21 => kX5_markMasksAround_46 d p0 o1 i2 i3 h21 else kX5_markMasksAround_46 d p0 o1 i2 i3 h)) else some (.inl none, h)) else some (.inl none, h))) = some r) : kX5_markMasksAround_11 d p0 o1 i2 i3 h = some r := by
  show jm_B d mX5_markMasksAround (11, [some (.ref p0), o1, some (.int i2), some (.int i3)], []) h = some r
  refine Eq.trans (jb_nx (i := .iload_n 3) (n := 1) (q := (12, [some (.ref p0), o1, some (.int i2), some (.int i3)], [.int i3])) (jq qX5_markMasksAround 7 rfl) rfl) ?_
  refine Eq.trans (jb_nx (i := .sipush 150) (n := 3) (q := (15, [some (.ref p0), o1, some (.int i2), some (.int i3)], [.int 150, .int i3])) (jq qX5_markMasksAround 8 rfl) rfl) ?_
  by_cases c9 : i3 < 150
  · rw [if_pos c9] at H
    refine Eq.trans (jb_nx (i := .if_icmp .ge 46) (n := 3) (q := (18, [some (.ref p0), o1, some (.int i2), some (.int i3)], [])) (jq qX5_markMasksAround 9 rfl) (jo_icF (jz_geF c9))) ?_
    refine Eq.trans (jb_nx (i := .iload_n 2) (n := 1) (q := (19, [some (.ref p0), o1, some (.int i2), some (.int i3)], [.int i2])) (jq qX5_markMasksAround 10 rfl) rfl) ?_
    refine Eq.trans (jb_nx (i := .aload_n 0) (n := 1) (q := (20, [some (.ref p0), o1, some (.int i2), some (.int i3)], [.ref p0, .int i2])) (jq qX5_markMasksAround 11 rfl) rfl) ?_
    obtain ⟨x10, e11, H⟩ := jbd H
    refine Eq.trans (jb_nx (i := .getfield 49) (n := 3) (q := (23, [some (.ref p0), o1, some (.int i2), some (.int i3)], [.int x10, .int i2])) (jq qX5_markMasksAround 12 rfl) (jo_gf rfl (jr_I_inv e11))) ?_
    by_cases c12 : x10 < i2
    · rw [if_pos c12] at H
      refine Eq.trans (jb_nx (i := .if_icmp .le 38) (n := 3) (q := (26, [some (.ref p0), o1, some (.int i2), some (.int i3)], [])) (jq qX5_markMasksAround 13 rfl) (jo_icF (jz_leF c12))) ?_
      refine Eq.trans (jb_nx (i := .iload_n 2) (n := 1) (q := (27, [some (.ref p0), o1, some (.int i2), some (.int i3)], [.int i2])) (jq qX5_markMasksAround 14 rfl) rfl) ?_
      by_cases c13 : i2 < 0
      · rw [if_pos c13] at H
        refine Eq.trans (jb_nx (i := .ifCond .lt 19) (n := 3) (q := (46, [some (.ref p0), o1, some (.int i2), some (.int i3)], [])) (jq qX5_markMasksAround 15 rfl) (jo_ifT (jz_ltT c13) rfl)) ?_
        exact H
      · rw [if_neg c13] at H
        refine Eq.trans (jb_nx (i := .ifCond .lt 19) (n := 3) (q := (30, [some (.ref p0), o1, some (.int i2), some (.int i3)], [])) (jq qX5_markMasksAround 15 rfl) (jo_ifF (jz_ltF c13))) ?_
        refine Eq.trans (jb_nx (i := .iload_n 2) (n := 1) (q := (31, [some (.ref p0), o1, some (.int i2), some (.int i3)], [.int i2])) (jq qX5_markMasksAround 16 rfl) rfl) ?_
        refine Eq.trans (jb_nx (i := .aload_n 0) (n := 1) (q := (32, [some (.ref p0), o1, some (.int i2), some (.int i3)], [.ref p0, .int i2])) (jq qX5_markMasksAround 17 rfl) rfl) ?_
        obtain ⟨a14, e15, H⟩ := jbd H
        refine Eq.trans (jb_nx (i := .getfield 25) (n := 3) (q := (35, [some (.ref p0), o1, some (.int i2), some (.int i3)], [.ref a14, .int i2])) (jq qX5_markMasksAround 18 rfl) (jo_gf rfl (jr_R_inv e15))) ?_
        obtain ⟨n16, e17, H⟩ := jbd H
        refine Eq.trans (jb_nx (i := .arraylength) (n := 1) (q := (36, [some (.ref p0), o1, some (.int i2), some (.int i3)], [.int (Int32.ofNat n16), .int i2])) (jq qX5_markMasksAround 19 rfl) (jo_len e17)) ?_
        by_cases c18 : i2 < (Int32.ofNat n16)
        · rw [if_pos c18] at H
          refine Eq.trans (jb_nx (i := .if_icmp .ge 10) (n := 3) (q := (39, [some (.ref p0), o1, some (.int i2), some (.int i3)], [])) (jq qX5_markMasksAround 20 rfl) (jo_icF (jz_geF c18))) ?_
          refine Eq.trans (jb_nx (i := .aload_n 0) (n := 1) (q := (40, [some (.ref p0), o1, some (.int i2), some (.int i3)], [.ref p0])) (jq qX5_markMasksAround 21 rfl) rfl) ?_
          obtain ⟨a19, e20, H⟩ := jbd H
          refine Eq.trans (jb_nx (i := .getfield 25) (n := 3) (q := (43, [some (.ref p0), o1, some (.int i2), some (.int i3)], [.ref a19])) (jq qX5_markMasksAround 22 rfl) (jo_gf rfl (jr_R_inv e20))) ?_
          refine Eq.trans (jb_nx (i := .iload_n 2) (n := 1) (q := (44, [some (.ref p0), o1, some (.int i2), some (.int i3)], [.int i2, .ref a19])) (jq qX5_markMasksAround 23 rfl) rfl) ?_
          refine Eq.trans (jb_nx (i := .iconst 1) (n := 1) (q := (45, [some (.ref p0), o1, some (.int i2), some (.int i3)], [.int 1, .int i2, .ref a19])) (jq qX5_markMasksAround 24 rfl) rfl) ?_
          obtain ⟨h21, e22, H⟩ := jbd H
          refine Eq.trans (jb_nx (i := .bastore) (n := 1) (q := (46, [some (.ref p0), o1, some (.int i2), some (.int i3)], [])) (jq qX5_markMasksAround 25 rfl) (jo_zas e22)) ?_
          exact H
        · rw [if_neg c18] at H
          refine Eq.trans (jb_nx (i := .if_icmp .ge 10) (n := 3) (q := (46, [some (.ref p0), o1, some (.int i2), some (.int i3)], [])) (jq qX5_markMasksAround 20 rfl) (jo_icT (jz_geT c18) rfl)) ?_
          exact H
    · rw [if_neg c12] at H
      refine Eq.trans (jb_nx (i := .if_icmp .le 38) (n := 3) (q := (61, [some (.ref p0), o1, some (.int i2), some (.int i3)], [])) (jq qX5_markMasksAround 13 rfl) (jo_icT (jz_leT c12) rfl)) ?_
      exact Eq.trans (jb_rt (i := .return_) (n := 1) (jq qX5_markMasksAround 33 rfl) rfl) H
  · rw [if_neg c9] at H
    refine Eq.trans (jb_nx (i := .if_icmp .ge 46) (n := 3) (q := (61, [some (.ref p0), o1, some (.int i2), some (.int i3)], [])) (jq qX5_markMasksAround 9 rfl) (jo_icT (jz_geT c9) rfl)) ?_
    exact Eq.trans (jb_rt (i := .return_) (n := 1) (jq qX5_markMasksAround 33 rfl) rfl) H
theorem gX5_markMasksAround_46 {d : Nat} {p0 : Nat} {o1 : Option Value} {i2 : Int32} {i3 : Int32} {h : jm_H} {r : jm_R} (H : ((jr_R h p0 5 2 2).bind fun a23 => jm_O h a23 3 (jc_I (jm_D d mX3_outerAt [.ref a23, .int i2] h) (fun x27 h25 => kX5_markMasksAround_11 d p0 (jm_dm o1) x27 (i3 + 1) h25) jx)) = some r) : kX5_markMasksAround_46 d p0 o1 i2 i3 h = some r := by
  show jm_B d mX5_markMasksAround (46, [some (.ref p0), o1, some (.int i2), some (.int i3)], []) h = some r
  refine Eq.trans (jb_nx (i := .aload_n 0) (n := 1) (q := (47, [some (.ref p0), o1, some (.int i2), some (.int i3)], [.ref p0])) (jq qX5_markMasksAround 26 rfl) rfl) ?_
  obtain ⟨a23, e24, H⟩ := jbd H
  refine Eq.trans (jb_nx (i := .getfield 12) (n := 3) (q := (50, [some (.ref p0), o1, some (.int i2), some (.int i3)], [.ref a23])) (jq qX5_markMasksAround 27 rfl) (jo_gf rfl (jr_R_inv e24))) ?_
  refine Eq.trans (jb_nx (i := .iload_n 2) (n := 1) (q := (51, [some (.ref p0), o1, some (.int i2), some (.int i3)], [.int i2, .ref a23])) (jq qX5_markMasksAround 28 rfl) rfl) ?_
  obtain ⟨b28, H⟩ := jm_O_inv H
  rcases jcI H with ⟨x27, h25, r26, H⟩ | ⟨w29, h30, r26, H⟩
  · refine Eq.trans (jb_nx (i := .invokevirtual 128) (n := 3) (q := (54, [some (.ref p0), o1, some (.int i2), some (.int i3)], [.int x27])) (jq qX5_markMasksAround 29 rfl) (jo_cv (y := mX3_outerAt) rfl (Nat.le_of_ble_eq_true rfl) rfl (Nat.le_of_ble_eq_true rfl) b28 rfl r26 jo_ret)) ?_
    refine Eq.trans (jb_nx (i := .istore_n 2) (n := 1) (q := (55, [some (.ref p0), (jm_dm o1), some (.int x27), some (.int i3)], [])) (jq qX5_markMasksAround 30 rfl) rfl) ?_
    refine Eq.trans (jb_nx (i := .iinc 3 1) (n := 3) (q := (58, [some (.ref p0), (jm_dm o1), some (.int x27), some (.int (i3 + 1))], [])) (jq qX5_markMasksAround 31 rfl) rfl) ?_
    refine Eq.trans (jb_nx (i := .goto (-47)) (n := 3) (q := (11, [some (.ref p0), (jm_dm o1), some (.int x27), some (.int (i3 + 1))], [])) (jq qX5_markMasksAround 32 rfl) rfl) ?_
    exact H
  · exact Eq.trans (jb_rt (i := .invokevirtual 128) (n := 3) (jq qX5_markMasksAround 29 rfl) (jo_cv (y := mX3_outerAt) rfl (Nat.le_of_ble_eq_true rfl) rfl (Nat.le_of_ble_eq_true rfl) b28 rfl r26 (jo_exn rfl))) H
theorem gX5_markMasksAround {d : Nat} {p0 : Nat} {i1 : Int32} {h : jm_H} {r : jm_R} (H : ((jr_R h p0 5 2 2).bind fun a1 => jm_O h a1 3 (jc_I (jm_D d mX3_outerAt [.ref a1, .int i1] h) (fun x5 h3 => kX5_markMasksAround_11 d p0 (some (.int i1)) x5 0 h3) jx)) = some r) : jm_D (d + 1) mX5_markMasksAround [.ref p0, .int i1] h = some r := by
  rw [jm_D_body (Nat.le_of_ble_eq_true rfl)]
  show jm_B d mX5_markMasksAround (0, [some (.ref p0), some (.int i1), none, none], []) h = some r
  refine Eq.trans (jb_nx (i := .aload_n 0) (n := 1) (q := (1, [some (.ref p0), some (.int i1), none, none], [.ref p0])) (jq qX5_markMasksAround 0 rfl) rfl) ?_
  obtain ⟨a1, e2, H⟩ := jbd H
  refine Eq.trans (jb_nx (i := .getfield 12) (n := 3) (q := (4, [some (.ref p0), some (.int i1), none, none], [.ref a1])) (jq qX5_markMasksAround 1 rfl) (jo_gf rfl (jr_R_inv e2))) ?_
  refine Eq.trans (jb_nx (i := .iload_n 1) (n := 1) (q := (5, [some (.ref p0), some (.int i1), none, none], [.int i1, .ref a1])) (jq qX5_markMasksAround 2 rfl) rfl) ?_
  obtain ⟨b6, H⟩ := jm_O_inv H
  rcases jcI H with ⟨x5, h3, r4, H⟩ | ⟨w7, h8, r4, H⟩
  · refine Eq.trans (jb_nx (i := .invokevirtual 128) (n := 3) (q := (8, [some (.ref p0), some (.int i1), none, none], [.int x5])) (jq qX5_markMasksAround 3 rfl) (jo_cv (y := mX3_outerAt) rfl (Nat.le_of_ble_eq_true rfl) rfl (Nat.le_of_ble_eq_true rfl) b6 rfl r4 jo_ret)) ?_
    refine Eq.trans (jb_nx (i := .istore_n 2) (n := 1) (q := (9, [some (.ref p0), some (.int i1), some (.int x5), none], [])) (jq qX5_markMasksAround 4 rfl) rfl) ?_
    refine Eq.trans (jb_nx (i := .iconst 0) (n := 1) (q := (10, [some (.ref p0), some (.int i1), some (.int x5), none], [.int 0])) (jq qX5_markMasksAround 5 rfl) rfl) ?_
    refine Eq.trans (jb_nx (i := .istore_n 3) (n := 1) (q := (11, [some (.ref p0), some (.int i1), some (.int x5), some (.int 0)], [])) (jq qX5_markMasksAround 6 rfl) rfl) ?_
    exact H
  · exact Eq.trans (jb_rt (i := .invokevirtual 128) (n := 3) (jq qX5_markMasksAround 3 rfl) (jo_cv (y := mX3_outerAt) rfl (Nat.le_of_ble_eq_true rfl) rfl (Nat.le_of_ble_eq_true rfl) b6 rfl r4 (jo_exn rfl))) H
/-! MaskPlays$Step renameMasks ()V -/
def tX5_renameMasks : List (Nat × Instr × Nat) := [(0, .iconst 0, 1), (1, .istore_n 1, 1), (2, .iload_n 1, 1), (3, .aload_n 0, 1), (4, .getfield 25, 3), (7, .arraylength, 1), (8, .if_icmp .ge 56, 3), (11, .aload_n 0, 1), (12, .getfield 25, 3), (15, .iload_n 1, 1), (16, .baload, 1), (17, .ifCond .eq 41, 3), (20, .aload_n 0, 1), (21, .aload_n 0, 1), (22, .getfield 12, 3), (25, .iload_n 1, 1), (26, .invokevirtual 104, 3), (29, .invokevirtual 116, 3), (32, .ifCond .eq 26, 3), (35, .aload_n 0, 1), (36, .getfield 12, 3), (39, .iload_n 1, 1), (40, .aload_n 0, 1), (41, .iload_n 1, 1), (42, .invokevirtual 131, 3), (45, .invokevirtual 134, 3), (48, .aload_n 0, 1), (49, .dup, 1), (50, .getfield 76, 3), (53, .iconst 1, 1), (54, .iadd, 1), (55, .putfield 76, 3), (58, .iinc 1 1, 3), (61, .goto (-59), 3), (64, .return_, 1)]
set_option maxRecDepth 100000 in
theorem qX5_renameMasks : ∀ q ∈ tX5_renameMasks, decode cX5_renameMasks q.1 = .ok (q.2.1, q.2.2) := by decide +kernel
noncomputable def kX5_renameMasks_2 (d : Nat) (p0 : Nat) (i1 : Int32) (h : jm_H) : Option jm_R := jm_B d mX5_renameMasks (2, [some (.ref p0), some (.int i1)], []) h
theorem gX5_renameMasks_2 {d : Nat} {p0 : Nat} {i1 : Int32} {h : jm_H} {r : jm_R} (H : ((jr_R h p0 5 5 2).bind fun a1 => (jm_len h a1).bind fun n3 => (if i1 < (Int32.ofNat n3) then (jr_R h p0 5 5 2).bind fun a6 => (jm_ali h a6 3 i1).bind fun x8 => (if x8 = 0 then kX5_renameMasks_2 d p0 (i1 + 1) h else (jr_R h p0 5 2 2).bind fun a11 => jm_O h a11 3 (jc_L (jm_D d mX3_nameAt [.ref a11, .int i1] h) (fun y15 h13 => jm_O h13 p0 5 (jc_I (jm_D d mX5_isOpenName [.ref p0, .long y15] h13) (fun x18 h16 => (if x18 = 0 then kX5_renameMasks_2 d p0 (i1 + 1) h16 else (jr_R h16 p0 5 2 2).bind fun a20 => jm_O h16 p0 5 (jc_L (jm_D d mX5_freshNameBelow [.ref p0, .int i1] h16) (fun y24 h22 => jm_O h22 a20 3 (jc_V (jm_D d mX3_renameMask [.ref a20, .int i1, .long y24] h22) (fun h25 => (jr_I h25 p0 5 0 0).bind fun x27 => (jm_pf h25 p0 5 0 0 (.int (x27 + 1))).bind fun h29 => kX5_renameMasks_2 d p0 (i1 + 1) h29) jx)) jx))) jx)) jx)) else some (.inl none, h))) = some r) : kX5_renameMasks_2 d p0 i1 h = some r := by
  show jm_B d mX5_renameMasks (2, [some (.ref p0), some (.int i1)], []) h = some r
  refine Eq.trans (jb_nx (i := .iload_n 1) (n := 1) (q := (3, [some (.ref p0), some (.int i1)], [.int i1])) (jq qX5_renameMasks 2 rfl) rfl) ?_
  refine Eq.trans (jb_nx (i := .aload_n 0) (n := 1) (q := (4, [some (.ref p0), some (.int i1)], [.ref p0, .int i1])) (jq qX5_renameMasks 3 rfl) rfl) ?_
  obtain ⟨a1, e2, H⟩ := jbd H
  refine Eq.trans (jb_nx (i := .getfield 25) (n := 3) (q := (7, [some (.ref p0), some (.int i1)], [.ref a1, .int i1])) (jq qX5_renameMasks 4 rfl) (jo_gf rfl (jr_R_inv e2))) ?_
  obtain ⟨n3, e4, H⟩ := jbd H
  refine Eq.trans (jb_nx (i := .arraylength) (n := 1) (q := (8, [some (.ref p0), some (.int i1)], [.int (Int32.ofNat n3), .int i1])) (jq qX5_renameMasks 5 rfl) (jo_len e4)) ?_
  by_cases c5 : i1 < (Int32.ofNat n3)
  · rw [if_pos c5] at H
    refine Eq.trans (jb_nx (i := .if_icmp .ge 56) (n := 3) (q := (11, [some (.ref p0), some (.int i1)], [])) (jq qX5_renameMasks 6 rfl) (jo_icF (jz_geF c5))) ?_
    refine Eq.trans (jb_nx (i := .aload_n 0) (n := 1) (q := (12, [some (.ref p0), some (.int i1)], [.ref p0])) (jq qX5_renameMasks 7 rfl) rfl) ?_
    obtain ⟨a6, e7, H⟩ := jbd H
    refine Eq.trans (jb_nx (i := .getfield 25) (n := 3) (q := (15, [some (.ref p0), some (.int i1)], [.ref a6])) (jq qX5_renameMasks 8 rfl) (jo_gf rfl (jr_R_inv e7))) ?_
    refine Eq.trans (jb_nx (i := .iload_n 1) (n := 1) (q := (16, [some (.ref p0), some (.int i1)], [.int i1, .ref a6])) (jq qX5_renameMasks 9 rfl) rfl) ?_
    obtain ⟨x8, e9, H⟩ := jbd H
    refine Eq.trans (jb_nx (i := .baload) (n := 1) (q := (17, [some (.ref p0), some (.int i1)], [.int x8])) (jq qX5_renameMasks 10 rfl) (jo_zal e9)) ?_
    by_cases c10 : x8 = 0
    · rw [if_pos c10] at H
      refine Eq.trans (jb_nx (i := .ifCond .eq 41) (n := 3) (q := (58, [some (.ref p0), some (.int i1)], [])) (jq qX5_renameMasks 11 rfl) (jo_ifT (jz_eqT c10) rfl)) ?_
      refine Eq.trans (jb_nx (i := .iinc 1 1) (n := 3) (q := (61, [some (.ref p0), some (.int (i1 + 1))], [])) (jq qX5_renameMasks 32 rfl) rfl) ?_
      refine Eq.trans (jb_nx (i := .goto (-59)) (n := 3) (q := (2, [some (.ref p0), some (.int (i1 + 1))], [])) (jq qX5_renameMasks 33 rfl) rfl) ?_
      exact H
    · rw [if_neg c10] at H
      refine Eq.trans (jb_nx (i := .ifCond .eq 41) (n := 3) (q := (20, [some (.ref p0), some (.int i1)], [])) (jq qX5_renameMasks 11 rfl) (jo_ifF (jz_eqF c10))) ?_
      refine Eq.trans (jb_nx (i := .aload_n 0) (n := 1) (q := (21, [some (.ref p0), some (.int i1)], [.ref p0])) (jq qX5_renameMasks 12 rfl) rfl) ?_
      refine Eq.trans (jb_nx (i := .aload_n 0) (n := 1) (q := (22, [some (.ref p0), some (.int i1)], [.ref p0, .ref p0])) (jq qX5_renameMasks 13 rfl) rfl) ?_
      obtain ⟨a11, e12, H⟩ := jbd H
      refine Eq.trans (jb_nx (i := .getfield 12) (n := 3) (q := (25, [some (.ref p0), some (.int i1)], [.ref a11, .ref p0])) (jq qX5_renameMasks 14 rfl) (jo_gf rfl (jr_R_inv e12))) ?_
      refine Eq.trans (jb_nx (i := .iload_n 1) (n := 1) (q := (26, [some (.ref p0), some (.int i1)], [.int i1, .ref a11, .ref p0])) (jq qX5_renameMasks 15 rfl) rfl) ?_
      obtain ⟨b40, H⟩ := jm_O_inv H
      rcases jcL H with ⟨y15, h13, r14, H⟩ | ⟨w41, h42, r14, H⟩
      · refine Eq.trans (jb_nx (i := .invokevirtual 104) (n := 3) (q := (29, [some (.ref p0), some (.int i1)], [.long y15, .ref p0])) (jq qX5_renameMasks 16 rfl) (jo_cv (y := mX3_nameAt) rfl (Nat.le_of_ble_eq_true rfl) rfl (Nat.le_of_ble_eq_true rfl) b40 rfl r14 jo_ret)) ?_
        obtain ⟨b37, H⟩ := jm_O_inv H
        rcases jcI H with ⟨x18, h16, r17, H⟩ | ⟨w38, h39, r17, H⟩
        · refine Eq.trans (jb_nx (i := .invokevirtual 116) (n := 3) (q := (32, [some (.ref p0), some (.int i1)], [.int x18])) (jq qX5_renameMasks 17 rfl) (jo_cv (y := mX5_isOpenName) rfl (Nat.le_of_ble_eq_true rfl) rfl (Nat.le_of_ble_eq_true rfl) b37 rfl r17 jo_ret)) ?_
          by_cases c19 : x18 = 0
          · rw [if_pos c19] at H
            refine Eq.trans (jb_nx (i := .ifCond .eq 26) (n := 3) (q := (58, [some (.ref p0), some (.int i1)], [])) (jq qX5_renameMasks 18 rfl) (jo_ifT (jz_eqT c19) rfl)) ?_
            refine Eq.trans (jb_nx (i := .iinc 1 1) (n := 3) (q := (61, [some (.ref p0), some (.int (i1 + 1))], [])) (jq qX5_renameMasks 32 rfl) rfl) ?_
            refine Eq.trans (jb_nx (i := .goto (-59)) (n := 3) (q := (2, [some (.ref p0), some (.int (i1 + 1))], [])) (jq qX5_renameMasks 33 rfl) rfl) ?_
            exact H
          · rw [if_neg c19] at H
            refine Eq.trans (jb_nx (i := .ifCond .eq 26) (n := 3) (q := (35, [some (.ref p0), some (.int i1)], [])) (jq qX5_renameMasks 18 rfl) (jo_ifF (jz_eqF c19))) ?_
            refine Eq.trans (jb_nx (i := .aload_n 0) (n := 1) (q := (36, [some (.ref p0), some (.int i1)], [.ref p0])) (jq qX5_renameMasks 19 rfl) rfl) ?_
            obtain ⟨a20, e21, H⟩ := jbd H
            refine Eq.trans (jb_nx (i := .getfield 12) (n := 3) (q := (39, [some (.ref p0), some (.int i1)], [.ref a20])) (jq qX5_renameMasks 20 rfl) (jo_gf rfl (jr_R_inv e21))) ?_
            refine Eq.trans (jb_nx (i := .iload_n 1) (n := 1) (q := (40, [some (.ref p0), some (.int i1)], [.int i1, .ref a20])) (jq qX5_renameMasks 21 rfl) rfl) ?_
            refine Eq.trans (jb_nx (i := .aload_n 0) (n := 1) (q := (41, [some (.ref p0), some (.int i1)], [.ref p0, .int i1, .ref a20])) (jq qX5_renameMasks 22 rfl) rfl) ?_
            refine Eq.trans (jb_nx (i := .iload_n 1) (n := 1) (q := (42, [some (.ref p0), some (.int i1)], [.int i1, .ref p0, .int i1, .ref a20])) (jq qX5_renameMasks 23 rfl) rfl) ?_
            obtain ⟨b34, H⟩ := jm_O_inv H
            rcases jcL H with ⟨y24, h22, r23, H⟩ | ⟨w35, h36, r23, H⟩
            · refine Eq.trans (jb_nx (i := .invokevirtual 131) (n := 3) (q := (45, [some (.ref p0), some (.int i1)], [.long y24, .int i1, .ref a20])) (jq qX5_renameMasks 24 rfl) (jo_cv (y := mX5_freshNameBelow) rfl (Nat.le_of_ble_eq_true rfl) rfl (Nat.le_of_ble_eq_true rfl) b34 rfl r23 jo_ret)) ?_
              obtain ⟨b31, H⟩ := jm_O_inv H
              rcases jcV H with ⟨h25, r26, H⟩ | ⟨w32, h33, r26, H⟩
              · refine Eq.trans (jb_nx (i := .invokevirtual 134) (n := 3) (q := (48, [some (.ref p0), some (.int i1)], [])) (jq qX5_renameMasks 25 rfl) (jo_cv (y := mX3_renameMask) rfl (Nat.le_of_ble_eq_true rfl) rfl (Nat.le_of_ble_eq_true rfl) b31 rfl r26 jo_ret)) ?_
                refine Eq.trans (jb_nx (i := .aload_n 0) (n := 1) (q := (49, [some (.ref p0), some (.int i1)], [.ref p0])) (jq qX5_renameMasks 26 rfl) rfl) ?_
                refine Eq.trans (jb_nx (i := .dup) (n := 1) (q := (50, [some (.ref p0), some (.int i1)], [.ref p0, .ref p0])) (jq qX5_renameMasks 27 rfl) rfl) ?_
                obtain ⟨x27, e28, H⟩ := jbd H
                refine Eq.trans (jb_nx (i := .getfield 76) (n := 3) (q := (53, [some (.ref p0), some (.int i1)], [.int x27, .ref p0])) (jq qX5_renameMasks 28 rfl) (jo_gf rfl (jr_I_inv e28))) ?_
                refine Eq.trans (jb_nx (i := .iconst 1) (n := 1) (q := (54, [some (.ref p0), some (.int i1)], [.int 1, .int x27, .ref p0])) (jq qX5_renameMasks 29 rfl) rfl) ?_
                refine Eq.trans (jb_nx (i := .iadd) (n := 1) (q := (55, [some (.ref p0), some (.int i1)], [.int (x27 + 1), .ref p0])) (jq qX5_renameMasks 30 rfl) rfl) ?_
                obtain ⟨h29, e30, H⟩ := jbd H
                refine Eq.trans (jb_nx (i := .putfield 76) (n := 3) (q := (58, [some (.ref p0), some (.int i1)], [])) (jq qX5_renameMasks 31 rfl) (jo_pf rfl (Or.inl rfl) e30)) ?_
                refine Eq.trans (jb_nx (i := .iinc 1 1) (n := 3) (q := (61, [some (.ref p0), some (.int (i1 + 1))], [])) (jq qX5_renameMasks 32 rfl) rfl) ?_
                refine Eq.trans (jb_nx (i := .goto (-59)) (n := 3) (q := (2, [some (.ref p0), some (.int (i1 + 1))], [])) (jq qX5_renameMasks 33 rfl) rfl) ?_
                exact H
              · exact Eq.trans (jb_rt (i := .invokevirtual 134) (n := 3) (jq qX5_renameMasks 25 rfl) (jo_cv (y := mX3_renameMask) rfl (Nat.le_of_ble_eq_true rfl) rfl (Nat.le_of_ble_eq_true rfl) b31 rfl r26 (jo_exn rfl))) H
            · exact Eq.trans (jb_rt (i := .invokevirtual 131) (n := 3) (jq qX5_renameMasks 24 rfl) (jo_cv (y := mX5_freshNameBelow) rfl (Nat.le_of_ble_eq_true rfl) rfl (Nat.le_of_ble_eq_true rfl) b34 rfl r23 (jo_exn rfl))) H
        · exact Eq.trans (jb_rt (i := .invokevirtual 116) (n := 3) (jq qX5_renameMasks 17 rfl) (jo_cv (y := mX5_isOpenName) rfl (Nat.le_of_ble_eq_true rfl) rfl (Nat.le_of_ble_eq_true rfl) b37 rfl r17 (jo_exn rfl))) H
      · exact Eq.trans (jb_rt (i := .invokevirtual 104) (n := 3) (jq qX5_renameMasks 16 rfl) (jo_cv (y := mX3_nameAt) rfl (Nat.le_of_ble_eq_true rfl) rfl (Nat.le_of_ble_eq_true rfl) b40 rfl r14 (jo_exn rfl))) H
  · rw [if_neg c5] at H
    refine Eq.trans (jb_nx (i := .if_icmp .ge 56) (n := 3) (q := (64, [some (.ref p0), some (.int i1)], [])) (jq qX5_renameMasks 6 rfl) (jo_icT (jz_geT c5) rfl)) ?_
    exact Eq.trans (jb_rt (i := .return_) (n := 1) (jq qX5_renameMasks 34 rfl) rfl) H
theorem gX5_renameMasks {d : Nat} {p0 : Nat} {h : jm_H} {r : jm_R} (H : (kX5_renameMasks_2 d p0 0 h) = some r) : jm_D (d + 1) mX5_renameMasks [.ref p0] h = some r := by
  rw [jm_D_body (Nat.le_of_ble_eq_true rfl)]
  show jm_B d mX5_renameMasks (0, [some (.ref p0), none], []) h = some r
  refine Eq.trans (jb_nx (i := .iconst 0) (n := 1) (q := (1, [some (.ref p0), none], [.int 0])) (jq qX5_renameMasks 0 rfl) rfl) ?_
  refine Eq.trans (jb_nx (i := .istore_n 1) (n := 1) (q := (2, [some (.ref p0), some (.int 0)], [])) (jq qX5_renameMasks 1 rfl) rfl) ?_
  exact H
/-! MaskPlays$Step freshNameBelow (I)J -/
def tX5_freshNameBelow : List (Nat × Instr × Nat) := [(0, .aload_n 0, 1), (1, .getfield 12, 3), (4, .iload_n 1, 1), (5, .invokevirtual 52, 3), (8, .istore_n 2, 1), (9, .iconst 0, 1), (10, .istore_n 3, 1), (11, .iload_n 3, 1), (12, .aload_n 0, 1), (13, .getfield 32, 3), (16, .arraylength, 1), (17, .if_icmp .ge 45, 3), (20, .aload_n 0, 1), (21, .getfield 32, 3), (24, .iload_n 3, 1), (25, .laload, 1), (26, .lstore 4, 2), (28, .aload_n 0, 1), (29, .lload 4, 2), (31, .invokevirtual 116, 3), (34, .ifCond .ne 22, 3), (37, .aload_n 0, 1), (38, .getfield 12, 3), (41, .lload 4, 2), (43, .iload_n 1, 1), (44, .iconst 1, 1), (45, .iadd, 1), (46, .iload_n 2, 1), (47, .invokevirtual 138, 3), (50, .ifCond .ne 6, 3), (53, .lload 4, 2), (55, .lreturn, 1), (56, .iinc 3 1, 3), (59, .goto (-48), 3), (62, .aload_n 0, 1), (63, .getfield 12, 3), (66, .iload_n 1, 1), (67, .invokevirtual 104, 3), (70, .lreturn, 1)]
set_option maxRecDepth 100000 in
theorem qX5_freshNameBelow : ∀ q ∈ tX5_freshNameBelow, decode cX5_freshNameBelow q.1 = .ok (q.2.1, q.2.2) := by decide +kernel
noncomputable def kX5_freshNameBelow_11 (d : Nat) (p0 : Nat) (i1 : Int32) (i2 : Int32) (i3 : Int32) (o4 : Option Value) (o5 : Option Value) (h : jm_H) : Option jm_R := jm_B d mX5_freshNameBelow (11, [some (.ref p0), some (.int i1), some (.int i2), some (.int i3), o4, o5], []) h
theorem gX5_freshNameBelow_11 {d : Nat} {p0 : Nat} {i1 : Int32} {i2 : Int32} {i3 : Int32} {o4 : Option Value} {o5 : Option Value} {h : jm_H} {r : jm_R} (H : ((jr_R h p0 5 8 2).bind fun a9 => (jm_len h a9).bind fun n11 => (if i3 < (Int32.ofNat n11) then (jr_R h p0 5 8 2).bind fun a22 => (jm_all h a22 i3).bind fun y24 => jm_O h p0 5 (jc_I (jm_D d mX5_isOpenName [.ref p0, .long y24] h) (fun x28 h26 => (if x28 = 0 then (jr_R h26 p0 5 2 2).bind fun a30 => jm_O h26 a30 3 (jc_I (jm_D d mX3_holdsName [.ref a30, .long y24, .int (i1 + 1), .int i2] h26) (fun x34 h32 => (if x34 = 0 then some (.inl (some (.long y24)), h32) else kX5_freshNameBelow_11 d p0 i1 i2 (i3 + 1) (some (.long y24)) none h32)) jx) else kX5_freshNameBelow_11 d p0 i1 i2 (i3 + 1) (some (.long y24)) none h26)) jx) else (jr_R h p0 5 2 2).bind fun a14 => jm_O h a14 3 (jc_L (jm_D d mX3_nameAt [.ref a14, .int i1] h) (fun y18 h16 => some (.inl (some (.long y18)), h16)) jx))) = some r) : kX5_freshNameBelow_11 d p0 i1 i2 i3 o4 o5 h = some r := by
  show jm_B d mX5_freshNameBelow (11, [some (.ref p0), some (.int i1), some (.int i2), some (.int i3), o4, o5], []) h = some r
  refine Eq.trans (jb_nx (i := .iload_n 3) (n := 1) (q := (12, [some (.ref p0), some (.int i1), some (.int i2), some (.int i3), o4, o5], [.int i3])) (jq qX5_freshNameBelow 7 rfl) rfl) ?_
  refine Eq.trans (jb_nx (i := .aload_n 0) (n := 1) (q := (13, [some (.ref p0), some (.int i1), some (.int i2), some (.int i3), o4, o5], [.ref p0, .int i3])) (jq qX5_freshNameBelow 8 rfl) rfl) ?_
  obtain ⟨a9, e10, H⟩ := jbd H
  refine Eq.trans (jb_nx (i := .getfield 32) (n := 3) (q := (16, [some (.ref p0), some (.int i1), some (.int i2), some (.int i3), o4, o5], [.ref a9, .int i3])) (jq qX5_freshNameBelow 9 rfl) (jo_gf rfl (jr_R_inv e10))) ?_
  obtain ⟨n11, e12, H⟩ := jbd H
  refine Eq.trans (jb_nx (i := .arraylength) (n := 1) (q := (17, [some (.ref p0), some (.int i1), some (.int i2), some (.int i3), o4, o5], [.int (Int32.ofNat n11), .int i3])) (jq qX5_freshNameBelow 10 rfl) (jo_len e12)) ?_
  by_cases c13 : i3 < (Int32.ofNat n11)
  · rw [if_pos c13] at H
    refine Eq.trans (jb_nx (i := .if_icmp .ge 45) (n := 3) (q := (20, [some (.ref p0), some (.int i1), some (.int i2), some (.int i3), o4, o5], [])) (jq qX5_freshNameBelow 11 rfl) (jo_icF (jz_geF c13))) ?_
    refine Eq.trans (jb_nx (i := .aload_n 0) (n := 1) (q := (21, [some (.ref p0), some (.int i1), some (.int i2), some (.int i3), o4, o5], [.ref p0])) (jq qX5_freshNameBelow 12 rfl) rfl) ?_
    obtain ⟨a22, e23, H⟩ := jbd H
    refine Eq.trans (jb_nx (i := .getfield 32) (n := 3) (q := (24, [some (.ref p0), some (.int i1), some (.int i2), some (.int i3), o4, o5], [.ref a22])) (jq qX5_freshNameBelow 13 rfl) (jo_gf rfl (jr_R_inv e23))) ?_
    refine Eq.trans (jb_nx (i := .iload_n 3) (n := 1) (q := (25, [some (.ref p0), some (.int i1), some (.int i2), some (.int i3), o4, o5], [.int i3, .ref a22])) (jq qX5_freshNameBelow 14 rfl) rfl) ?_
    obtain ⟨y24, e25, H⟩ := jbd H
    refine Eq.trans (jb_nx (i := .laload) (n := 1) (q := (26, [some (.ref p0), some (.int i1), some (.int i2), some (.int i3), o4, o5], [.long y24])) (jq qX5_freshNameBelow 15 rfl) (jo_lal e25)) ?_
    refine Eq.trans (jb_nx (i := .lstore 4) (n := 2) (q := (28, [some (.ref p0), some (.int i1), some (.int i2), some (.int i3), some (.long y24), none], [])) (jq qX5_freshNameBelow 16 rfl) rfl) ?_
    refine Eq.trans (jb_nx (i := .aload_n 0) (n := 1) (q := (29, [some (.ref p0), some (.int i1), some (.int i2), some (.int i3), some (.long y24), none], [.ref p0])) (jq qX5_freshNameBelow 17 rfl) rfl) ?_
    refine Eq.trans (jb_nx (i := .lload 4) (n := 2) (q := (31, [some (.ref p0), some (.int i1), some (.int i2), some (.int i3), some (.long y24), none], [.long y24, .ref p0])) (jq qX5_freshNameBelow 18 rfl) rfl) ?_
    obtain ⟨b39, H⟩ := jm_O_inv H
    rcases jcI H with ⟨x28, h26, r27, H⟩ | ⟨w40, h41, r27, H⟩
    · refine Eq.trans (jb_nx (i := .invokevirtual 116) (n := 3) (q := (34, [some (.ref p0), some (.int i1), some (.int i2), some (.int i3), some (.long y24), none], [.int x28])) (jq qX5_freshNameBelow 19 rfl) (jo_cv (y := mX5_isOpenName) rfl (Nat.le_of_ble_eq_true rfl) rfl (Nat.le_of_ble_eq_true rfl) b39 rfl r27 jo_ret)) ?_
      by_cases c29 : x28 = 0
      · rw [if_pos c29] at H
        refine Eq.trans (jb_nx (i := .ifCond .ne 22) (n := 3) (q := (37, [some (.ref p0), some (.int i1), some (.int i2), some (.int i3), some (.long y24), none], [])) (jq qX5_freshNameBelow 20 rfl) (jo_ifF (jz_neF c29))) ?_
        refine Eq.trans (jb_nx (i := .aload_n 0) (n := 1) (q := (38, [some (.ref p0), some (.int i1), some (.int i2), some (.int i3), some (.long y24), none], [.ref p0])) (jq qX5_freshNameBelow 21 rfl) rfl) ?_
        obtain ⟨a30, e31, H⟩ := jbd H
        refine Eq.trans (jb_nx (i := .getfield 12) (n := 3) (q := (41, [some (.ref p0), some (.int i1), some (.int i2), some (.int i3), some (.long y24), none], [.ref a30])) (jq qX5_freshNameBelow 22 rfl) (jo_gf rfl (jr_R_inv e31))) ?_
        refine Eq.trans (jb_nx (i := .lload 4) (n := 2) (q := (43, [some (.ref p0), some (.int i1), some (.int i2), some (.int i3), some (.long y24), none], [.long y24, .ref a30])) (jq qX5_freshNameBelow 23 rfl) rfl) ?_
        refine Eq.trans (jb_nx (i := .iload_n 1) (n := 1) (q := (44, [some (.ref p0), some (.int i1), some (.int i2), some (.int i3), some (.long y24), none], [.int i1, .long y24, .ref a30])) (jq qX5_freshNameBelow 24 rfl) rfl) ?_
        refine Eq.trans (jb_nx (i := .iconst 1) (n := 1) (q := (45, [some (.ref p0), some (.int i1), some (.int i2), some (.int i3), some (.long y24), none], [.int 1, .int i1, .long y24, .ref a30])) (jq qX5_freshNameBelow 25 rfl) rfl) ?_
        refine Eq.trans (jb_nx (i := .iadd) (n := 1) (q := (46, [some (.ref p0), some (.int i1), some (.int i2), some (.int i3), some (.long y24), none], [.int (i1 + 1), .long y24, .ref a30])) (jq qX5_freshNameBelow 26 rfl) rfl) ?_
        refine Eq.trans (jb_nx (i := .iload_n 2) (n := 1) (q := (47, [some (.ref p0), some (.int i1), some (.int i2), some (.int i3), some (.long y24), none], [.int i2, .int (i1 + 1), .long y24, .ref a30])) (jq qX5_freshNameBelow 27 rfl) rfl) ?_
        obtain ⟨b36, H⟩ := jm_O_inv H
        rcases jcI H with ⟨x34, h32, r33, H⟩ | ⟨w37, h38, r33, H⟩
        · refine Eq.trans (jb_nx (i := .invokevirtual 138) (n := 3) (q := (50, [some (.ref p0), some (.int i1), some (.int i2), some (.int i3), some (.long y24), none], [.int x34])) (jq qX5_freshNameBelow 28 rfl) (jo_cv (y := mX3_holdsName) rfl (Nat.le_of_ble_eq_true rfl) rfl (Nat.le_of_ble_eq_true rfl) b36 rfl r33 jo_ret)) ?_
          by_cases c35 : x34 = 0
          · rw [if_pos c35] at H
            refine Eq.trans (jb_nx (i := .ifCond .ne 6) (n := 3) (q := (53, [some (.ref p0), some (.int i1), some (.int i2), some (.int i3), some (.long y24), none], [])) (jq qX5_freshNameBelow 29 rfl) (jo_ifF (jz_neF c35))) ?_
            refine Eq.trans (jb_nx (i := .lload 4) (n := 2) (q := (55, [some (.ref p0), some (.int i1), some (.int i2), some (.int i3), some (.long y24), none], [.long y24])) (jq qX5_freshNameBelow 30 rfl) rfl) ?_
            exact Eq.trans (jb_rt (i := .lreturn) (n := 1) (jq qX5_freshNameBelow 31 rfl) rfl) H
          · rw [if_neg c35] at H
            refine Eq.trans (jb_nx (i := .ifCond .ne 6) (n := 3) (q := (56, [some (.ref p0), some (.int i1), some (.int i2), some (.int i3), some (.long y24), none], [])) (jq qX5_freshNameBelow 29 rfl) (jo_ifT (jz_neT c35) rfl)) ?_
            refine Eq.trans (jb_nx (i := .iinc 3 1) (n := 3) (q := (59, [some (.ref p0), some (.int i1), some (.int i2), some (.int (i3 + 1)), some (.long y24), none], [])) (jq qX5_freshNameBelow 32 rfl) rfl) ?_
            refine Eq.trans (jb_nx (i := .goto (-48)) (n := 3) (q := (11, [some (.ref p0), some (.int i1), some (.int i2), some (.int (i3 + 1)), some (.long y24), none], [])) (jq qX5_freshNameBelow 33 rfl) rfl) ?_
            exact H
        · exact Eq.trans (jb_rt (i := .invokevirtual 138) (n := 3) (jq qX5_freshNameBelow 28 rfl) (jo_cv (y := mX3_holdsName) rfl (Nat.le_of_ble_eq_true rfl) rfl (Nat.le_of_ble_eq_true rfl) b36 rfl r33 (jo_exn rfl))) H
      · rw [if_neg c29] at H
        refine Eq.trans (jb_nx (i := .ifCond .ne 22) (n := 3) (q := (56, [some (.ref p0), some (.int i1), some (.int i2), some (.int i3), some (.long y24), none], [])) (jq qX5_freshNameBelow 20 rfl) (jo_ifT (jz_neT c29) rfl)) ?_
        refine Eq.trans (jb_nx (i := .iinc 3 1) (n := 3) (q := (59, [some (.ref p0), some (.int i1), some (.int i2), some (.int (i3 + 1)), some (.long y24), none], [])) (jq qX5_freshNameBelow 32 rfl) rfl) ?_
        refine Eq.trans (jb_nx (i := .goto (-48)) (n := 3) (q := (11, [some (.ref p0), some (.int i1), some (.int i2), some (.int (i3 + 1)), some (.long y24), none], [])) (jq qX5_freshNameBelow 33 rfl) rfl) ?_
        exact H
    · exact Eq.trans (jb_rt (i := .invokevirtual 116) (n := 3) (jq qX5_freshNameBelow 19 rfl) (jo_cv (y := mX5_isOpenName) rfl (Nat.le_of_ble_eq_true rfl) rfl (Nat.le_of_ble_eq_true rfl) b39 rfl r27 (jo_exn rfl))) H
  · rw [if_neg c13] at H
    refine Eq.trans (jb_nx (i := .if_icmp .ge 45) (n := 3) (q := (62, [some (.ref p0), some (.int i1), some (.int i2), some (.int i3), o4, o5], [])) (jq qX5_freshNameBelow 11 rfl) (jo_icT (jz_geT c13) rfl)) ?_
    refine Eq.trans (jb_nx (i := .aload_n 0) (n := 1) (q := (63, [some (.ref p0), some (.int i1), some (.int i2), some (.int i3), o4, o5], [.ref p0])) (jq qX5_freshNameBelow 34 rfl) rfl) ?_
    obtain ⟨a14, e15, H⟩ := jbd H
    refine Eq.trans (jb_nx (i := .getfield 12) (n := 3) (q := (66, [some (.ref p0), some (.int i1), some (.int i2), some (.int i3), o4, o5], [.ref a14])) (jq qX5_freshNameBelow 35 rfl) (jo_gf rfl (jr_R_inv e15))) ?_
    refine Eq.trans (jb_nx (i := .iload_n 1) (n := 1) (q := (67, [some (.ref p0), some (.int i1), some (.int i2), some (.int i3), o4, o5], [.int i1, .ref a14])) (jq qX5_freshNameBelow 36 rfl) rfl) ?_
    obtain ⟨b19, H⟩ := jm_O_inv H
    rcases jcL H with ⟨y18, h16, r17, H⟩ | ⟨w20, h21, r17, H⟩
    · refine Eq.trans (jb_nx (i := .invokevirtual 104) (n := 3) (q := (70, [some (.ref p0), some (.int i1), some (.int i2), some (.int i3), o4, o5], [.long y18])) (jq qX5_freshNameBelow 37 rfl) (jo_cv (y := mX3_nameAt) rfl (Nat.le_of_ble_eq_true rfl) rfl (Nat.le_of_ble_eq_true rfl) b19 rfl r17 jo_ret)) ?_
      exact Eq.trans (jb_rt (i := .lreturn) (n := 1) (jq qX5_freshNameBelow 38 rfl) rfl) H
    · exact Eq.trans (jb_rt (i := .invokevirtual 104) (n := 3) (jq qX5_freshNameBelow 37 rfl) (jo_cv (y := mX3_nameAt) rfl (Nat.le_of_ble_eq_true rfl) rfl (Nat.le_of_ble_eq_true rfl) b19 rfl r17 (jo_exn rfl))) H
theorem gX5_freshNameBelow {d : Nat} {p0 : Nat} {i1 : Int32} {h : jm_H} {r : jm_R} (H : ((jr_R h p0 5 2 2).bind fun a1 => jm_O h a1 3 (jc_I (jm_D d mX3_endAt [.ref a1, .int i1] h) (fun x5 h3 => kX5_freshNameBelow_11 d p0 i1 x5 0 none none h3) jx)) = some r) : jm_D (d + 1) mX5_freshNameBelow [.ref p0, .int i1] h = some r := by
  rw [jm_D_body (Nat.le_of_ble_eq_true rfl)]
  show jm_B d mX5_freshNameBelow (0, [some (.ref p0), some (.int i1), none, none, none, none], []) h = some r
  refine Eq.trans (jb_nx (i := .aload_n 0) (n := 1) (q := (1, [some (.ref p0), some (.int i1), none, none, none, none], [.ref p0])) (jq qX5_freshNameBelow 0 rfl) rfl) ?_
  obtain ⟨a1, e2, H⟩ := jbd H
  refine Eq.trans (jb_nx (i := .getfield 12) (n := 3) (q := (4, [some (.ref p0), some (.int i1), none, none, none, none], [.ref a1])) (jq qX5_freshNameBelow 1 rfl) (jo_gf rfl (jr_R_inv e2))) ?_
  refine Eq.trans (jb_nx (i := .iload_n 1) (n := 1) (q := (5, [some (.ref p0), some (.int i1), none, none, none, none], [.int i1, .ref a1])) (jq qX5_freshNameBelow 2 rfl) rfl) ?_
  obtain ⟨b6, H⟩ := jm_O_inv H
  rcases jcI H with ⟨x5, h3, r4, H⟩ | ⟨w7, h8, r4, H⟩
  · refine Eq.trans (jb_nx (i := .invokevirtual 52) (n := 3) (q := (8, [some (.ref p0), some (.int i1), none, none, none, none], [.int x5])) (jq qX5_freshNameBelow 3 rfl) (jo_cv (y := mX3_endAt) rfl (Nat.le_of_ble_eq_true rfl) rfl (Nat.le_of_ble_eq_true rfl) b6 rfl r4 jo_ret)) ?_
    refine Eq.trans (jb_nx (i := .istore_n 2) (n := 1) (q := (9, [some (.ref p0), some (.int i1), some (.int x5), none, none, none], [])) (jq qX5_freshNameBelow 4 rfl) rfl) ?_
    refine Eq.trans (jb_nx (i := .iconst 0) (n := 1) (q := (10, [some (.ref p0), some (.int i1), some (.int x5), none, none, none], [.int 0])) (jq qX5_freshNameBelow 5 rfl) rfl) ?_
    refine Eq.trans (jb_nx (i := .istore_n 3) (n := 1) (q := (11, [some (.ref p0), some (.int i1), some (.int x5), some (.int 0), none, none], [])) (jq qX5_freshNameBelow 6 rfl) rfl) ?_
    exact H
  · exact Eq.trans (jb_rt (i := .invokevirtual 52) (n := 3) (jq qX5_freshNameBelow 3 rfl) (jo_cv (y := mX3_endAt) rfl (Nat.le_of_ble_eq_true rfl) rfl (Nat.le_of_ble_eq_true rfl) b6 rfl r4 (jo_exn rfl))) H
/-! MaskPlays$Step build ()V -/
def tX5_build : List (Nat × Instr × Nat) := [(0, .aload_n 0, 1), (1, .getfield 18, 3), (4, .invokevirtual 142, 3), (7, .iconst 0, 1), (8, .istore_n 1, 1), (9, .iload_n 1, 1), (10, .aload_n 0, 1), (11, .getfield 12, 3), (14, .getfield 66, 3), (17, .if_icmp .ge 114, 3), (20, .iload_n 1, 1), (21, .aload_n 0, 1), (22, .getfield 21, 3), (25, .arraylength, 1), (26, .if_icmp .ge 105, 3), (29, .iload_n 1, 1), (30, .aload_n 0, 1), (31, .getfield 45, 3), (34, .if_icmp .eq 27, 3), (37, .iload_n 1, 1), (38, .aload_n 0, 1), (39, .getfield 49, 3), (42, .if_icmp .eq 19, 3), (45, .iload_n 1, 1), (46, .aload_n 0, 1), (47, .getfield 56, 3), (50, .if_icmp .lt 15, 3), (53, .iload_n 1, 1), (54, .aload_n 0, 1), (55, .getfield 59, 3), (58, .if_icmp .ge 7, 3), (61, .iconst 1, 1), (62, .goto 4, 3), (65, .iconst 0, 1), (66, .istore_n 2, 1), (67, .aload_n 0, 1), (68, .getfield 21, 3), (71, .iload_n 1, 1), (72, .baload, 1), (73, .ifCond .eq 25, 3), (76, .aload_n 0, 1), (77, .getfield 18, 3), (80, .aload_n 0, 1), (81, .getfield 12, 3), (84, .aload_n 0, 1), (85, .getfield 56, 3), (88, .aload_n 0, 1), (89, .getfield 59, 3), (92, .invokevirtual 145, 3), (95, .goto 30, 3), (98, .iload_n 2, 1), (99, .ifCond .ne 26, 3), (102, .aload_n 0, 1), (103, .getfield 18, 3), (106, .aload_n 0, 1), (107, .getfield 12, 3), (110, .iload_n 1, 1), (111, .invokevirtual 107, 3), (114, .aload_n 0, 1), (115, .getfield 12, 3), (118, .iload_n 1, 1), (119, .invokevirtual 104, 3), (122, .invokevirtual 149, 3), (125, .iinc 1 1, 3), (128, .goto (-119), 3), (131, .aload_n 0, 1), (132, .getfield 18, 3), (135, .invokevirtual 152, 3), (138, .return_, 1)]
set_option maxRecDepth 100000 in
theorem qX5_build : ∀ q ∈ tX5_build, decode cX5_build q.1 = .ok (q.2.1, q.2.2) := by decide +kernel
noncomputable def kX5_build_9 (d : Nat) (p0 : Nat) (i1 : Int32) (o2 : Option Value) (h : jm_H) : Option jm_R := jm_B d mX5_build (9, [some (.ref p0), some (.int i1), o2], []) h
noncomputable def kX5_build_66 (d : Nat) (p0 : Nat) (i1 : Int32) (o2 : Option Value) (si0 : Int32) (h : jm_H) : Option jm_R := jm_B d mX5_build (66, [some (.ref p0), some (.int i1), o2], [.int si0]) h
theorem gX5_build_9 {d : Nat} {p0 : Nat} {i1 : Int32} {o2 : Option Value} {h : jm_H} {r : jm_R} (H : ((jr_R h p0 5 2 2).bind fun a8 => (jr_I h a8 3 0 0).bind fun x10 => (if i1 < x10 then (jr_R h p0 5 4 2).bind fun a20 => (jm_len h a20).bind fun n22 => (if i1 < (Int32.ofNat n22) then (jr_I h p0 5 9 0).bind fun x32 => (if i1 = x32 then kX5_build_66 d p0 i1 o2 1 h else (jr_I h p0 5 10 0).bind fun x35 => (if i1 = x35 then kX5_build_66 d p0 i1 o2 1 h else (jr_I h p0 5 11 0).bind fun x38 => (if i1 < x38 then kX5_build_66 d p0 i1 o2 0 h else (jr_I h p0 5 12 0).bind fun x41 => (if i1 < x41 then kX5_build_66 d p0 i1 o2 1 h else kX5_build_66 d p0 i1 o2 0 h)))) else (jr_R h p0 5 3 2).bind fun a25 => jm_O h a25 3 (jc_V (jm_D d mX3_link [.ref a25] h) (fun h27 => some (.inl none, h27)) jx)) else (jr_R h p0 5 3 2).bind fun a13 => jm_O h a13 3 (jc_V (jm_D d mX3_link [.ref a13] h) (fun h15 => some (.inl none, h15)) jx))) = some r) : kX5_build_9 d p0 i1 o2 h = some r := by
  show jm_B d mX5_build (9, [some (.ref p0), some (.int i1), o2], []) h = some r
  refine Eq.trans (jb_nx (i := .iload_n 1) (n := 1) (q := (10, [some (.ref p0), some (.int i1), o2], [.int i1])) (jq qX5_build 5 rfl) rfl) ?_
  refine Eq.trans (jb_nx (i := .aload_n 0) (n := 1) (q := (11, [some (.ref p0), some (.int i1), o2], [.ref p0, .int i1])) (jq qX5_build 6 rfl) rfl) ?_
  obtain ⟨a8, e9, H⟩ := jbd H
  refine Eq.trans (jb_nx (i := .getfield 12) (n := 3) (q := (14, [some (.ref p0), some (.int i1), o2], [.ref a8, .int i1])) (jq qX5_build 7 rfl) (jo_gf rfl (jr_R_inv e9))) ?_
  obtain ⟨x10, e11, H⟩ := jbd H
  refine Eq.trans (jb_nx (i := .getfield 66) (n := 3) (q := (17, [some (.ref p0), some (.int i1), o2], [.int x10, .int i1])) (jq qX5_build 8 rfl) (jo_gf rfl (jr_I_inv e11))) ?_
  by_cases c12 : i1 < x10
  · rw [if_pos c12] at H
    refine Eq.trans (jb_nx (i := .if_icmp .ge 114) (n := 3) (q := (20, [some (.ref p0), some (.int i1), o2], [])) (jq qX5_build 9 rfl) (jo_icF (jz_geF c12))) ?_
    refine Eq.trans (jb_nx (i := .iload_n 1) (n := 1) (q := (21, [some (.ref p0), some (.int i1), o2], [.int i1])) (jq qX5_build 10 rfl) rfl) ?_
    refine Eq.trans (jb_nx (i := .aload_n 0) (n := 1) (q := (22, [some (.ref p0), some (.int i1), o2], [.ref p0, .int i1])) (jq qX5_build 11 rfl) rfl) ?_
    obtain ⟨a20, e21, H⟩ := jbd H
    refine Eq.trans (jb_nx (i := .getfield 21) (n := 3) (q := (25, [some (.ref p0), some (.int i1), o2], [.ref a20, .int i1])) (jq qX5_build 12 rfl) (jo_gf rfl (jr_R_inv e21))) ?_
    obtain ⟨n22, e23, H⟩ := jbd H
    refine Eq.trans (jb_nx (i := .arraylength) (n := 1) (q := (26, [some (.ref p0), some (.int i1), o2], [.int (Int32.ofNat n22), .int i1])) (jq qX5_build 13 rfl) (jo_len e23)) ?_
    by_cases c24 : i1 < (Int32.ofNat n22)
    · rw [if_pos c24] at H
      refine Eq.trans (jb_nx (i := .if_icmp .ge 105) (n := 3) (q := (29, [some (.ref p0), some (.int i1), o2], [])) (jq qX5_build 14 rfl) (jo_icF (jz_geF c24))) ?_
      refine Eq.trans (jb_nx (i := .iload_n 1) (n := 1) (q := (30, [some (.ref p0), some (.int i1), o2], [.int i1])) (jq qX5_build 15 rfl) rfl) ?_
      refine Eq.trans (jb_nx (i := .aload_n 0) (n := 1) (q := (31, [some (.ref p0), some (.int i1), o2], [.ref p0, .int i1])) (jq qX5_build 16 rfl) rfl) ?_
      obtain ⟨x32, e33, H⟩ := jbd H
      refine Eq.trans (jb_nx (i := .getfield 45) (n := 3) (q := (34, [some (.ref p0), some (.int i1), o2], [.int x32, .int i1])) (jq qX5_build 17 rfl) (jo_gf rfl (jr_I_inv e33))) ?_
      by_cases c34 : i1 = x32
      · rw [if_pos c34] at H
        refine Eq.trans (jb_nx (i := .if_icmp .eq 27) (n := 3) (q := (61, [some (.ref p0), some (.int i1), o2], [])) (jq qX5_build 18 rfl) (jo_icT (jz_eqT c34) rfl)) ?_
        refine Eq.trans (jb_nx (i := .iconst 1) (n := 1) (q := (62, [some (.ref p0), some (.int i1), o2], [.int 1])) (jq qX5_build 31 rfl) rfl) ?_
        refine Eq.trans (jb_nx (i := .goto 4) (n := 3) (q := (66, [some (.ref p0), some (.int i1), o2], [.int 1])) (jq qX5_build 32 rfl) rfl) ?_
        exact H
      · rw [if_neg c34] at H
        refine Eq.trans (jb_nx (i := .if_icmp .eq 27) (n := 3) (q := (37, [some (.ref p0), some (.int i1), o2], [])) (jq qX5_build 18 rfl) (jo_icF (jz_eqF c34))) ?_
        refine Eq.trans (jb_nx (i := .iload_n 1) (n := 1) (q := (38, [some (.ref p0), some (.int i1), o2], [.int i1])) (jq qX5_build 19 rfl) rfl) ?_
        refine Eq.trans (jb_nx (i := .aload_n 0) (n := 1) (q := (39, [some (.ref p0), some (.int i1), o2], [.ref p0, .int i1])) (jq qX5_build 20 rfl) rfl) ?_
        obtain ⟨x35, e36, H⟩ := jbd H
        refine Eq.trans (jb_nx (i := .getfield 49) (n := 3) (q := (42, [some (.ref p0), some (.int i1), o2], [.int x35, .int i1])) (jq qX5_build 21 rfl) (jo_gf rfl (jr_I_inv e36))) ?_
        by_cases c37 : i1 = x35
        · rw [if_pos c37] at H
          refine Eq.trans (jb_nx (i := .if_icmp .eq 19) (n := 3) (q := (61, [some (.ref p0), some (.int i1), o2], [])) (jq qX5_build 22 rfl) (jo_icT (jz_eqT c37) rfl)) ?_
          refine Eq.trans (jb_nx (i := .iconst 1) (n := 1) (q := (62, [some (.ref p0), some (.int i1), o2], [.int 1])) (jq qX5_build 31 rfl) rfl) ?_
          refine Eq.trans (jb_nx (i := .goto 4) (n := 3) (q := (66, [some (.ref p0), some (.int i1), o2], [.int 1])) (jq qX5_build 32 rfl) rfl) ?_
          exact H
        · rw [if_neg c37] at H
          refine Eq.trans (jb_nx (i := .if_icmp .eq 19) (n := 3) (q := (45, [some (.ref p0), some (.int i1), o2], [])) (jq qX5_build 22 rfl) (jo_icF (jz_eqF c37))) ?_
          refine Eq.trans (jb_nx (i := .iload_n 1) (n := 1) (q := (46, [some (.ref p0), some (.int i1), o2], [.int i1])) (jq qX5_build 23 rfl) rfl) ?_
          refine Eq.trans (jb_nx (i := .aload_n 0) (n := 1) (q := (47, [some (.ref p0), some (.int i1), o2], [.ref p0, .int i1])) (jq qX5_build 24 rfl) rfl) ?_
          obtain ⟨x38, e39, H⟩ := jbd H
          refine Eq.trans (jb_nx (i := .getfield 56) (n := 3) (q := (50, [some (.ref p0), some (.int i1), o2], [.int x38, .int i1])) (jq qX5_build 25 rfl) (jo_gf rfl (jr_I_inv e39))) ?_
          by_cases c40 : i1 < x38
          · rw [if_pos c40] at H
            refine Eq.trans (jb_nx (i := .if_icmp .lt 15) (n := 3) (q := (65, [some (.ref p0), some (.int i1), o2], [])) (jq qX5_build 26 rfl) (jo_icT (jz_ltT c40) rfl)) ?_
            refine Eq.trans (jb_nx (i := .iconst 0) (n := 1) (q := (66, [some (.ref p0), some (.int i1), o2], [.int 0])) (jq qX5_build 33 rfl) rfl) ?_
            exact H
          · rw [if_neg c40] at H
            refine Eq.trans (jb_nx (i := .if_icmp .lt 15) (n := 3) (q := (53, [some (.ref p0), some (.int i1), o2], [])) (jq qX5_build 26 rfl) (jo_icF (jz_ltF c40))) ?_
            refine Eq.trans (jb_nx (i := .iload_n 1) (n := 1) (q := (54, [some (.ref p0), some (.int i1), o2], [.int i1])) (jq qX5_build 27 rfl) rfl) ?_
            refine Eq.trans (jb_nx (i := .aload_n 0) (n := 1) (q := (55, [some (.ref p0), some (.int i1), o2], [.ref p0, .int i1])) (jq qX5_build 28 rfl) rfl) ?_
            obtain ⟨x41, e42, H⟩ := jbd H
            refine Eq.trans (jb_nx (i := .getfield 59) (n := 3) (q := (58, [some (.ref p0), some (.int i1), o2], [.int x41, .int i1])) (jq qX5_build 29 rfl) (jo_gf rfl (jr_I_inv e42))) ?_
            by_cases c43 : i1 < x41
            · rw [if_pos c43] at H
              refine Eq.trans (jb_nx (i := .if_icmp .ge 7) (n := 3) (q := (61, [some (.ref p0), some (.int i1), o2], [])) (jq qX5_build 30 rfl) (jo_icF (jz_geF c43))) ?_
              refine Eq.trans (jb_nx (i := .iconst 1) (n := 1) (q := (62, [some (.ref p0), some (.int i1), o2], [.int 1])) (jq qX5_build 31 rfl) rfl) ?_
              refine Eq.trans (jb_nx (i := .goto 4) (n := 3) (q := (66, [some (.ref p0), some (.int i1), o2], [.int 1])) (jq qX5_build 32 rfl) rfl) ?_
              exact H
            · rw [if_neg c43] at H
              refine Eq.trans (jb_nx (i := .if_icmp .ge 7) (n := 3) (q := (65, [some (.ref p0), some (.int i1), o2], [])) (jq qX5_build 30 rfl) (jo_icT (jz_geT c43) rfl)) ?_
              refine Eq.trans (jb_nx (i := .iconst 0) (n := 1) (q := (66, [some (.ref p0), some (.int i1), o2], [.int 0])) (jq qX5_build 33 rfl) rfl) ?_
              exact H
    · rw [if_neg c24] at H
      refine Eq.trans (jb_nx (i := .if_icmp .ge 105) (n := 3) (q := (131, [some (.ref p0), some (.int i1), o2], [])) (jq qX5_build 14 rfl) (jo_icT (jz_geT c24) rfl)) ?_
      refine Eq.trans (jb_nx (i := .aload_n 0) (n := 1) (q := (132, [some (.ref p0), some (.int i1), o2], [.ref p0])) (jq qX5_build 65 rfl) rfl) ?_
      obtain ⟨a25, e26, H⟩ := jbd H
      refine Eq.trans (jb_nx (i := .getfield 18) (n := 3) (q := (135, [some (.ref p0), some (.int i1), o2], [.ref a25])) (jq qX5_build 66 rfl) (jo_gf rfl (jr_R_inv e26))) ?_
      obtain ⟨b29, H⟩ := jm_O_inv H
      rcases jcV H with ⟨h27, r28, H⟩ | ⟨w30, h31, r28, H⟩
      · refine Eq.trans (jb_nx (i := .invokevirtual 152) (n := 3) (q := (138, [some (.ref p0), some (.int i1), o2], [])) (jq qX5_build 67 rfl) (jo_cv (y := mX3_link) rfl (Nat.le_of_ble_eq_true rfl) rfl (Nat.le_of_ble_eq_true rfl) b29 rfl r28 jo_ret)) ?_
        exact Eq.trans (jb_rt (i := .return_) (n := 1) (jq qX5_build 68 rfl) rfl) H
      · exact Eq.trans (jb_rt (i := .invokevirtual 152) (n := 3) (jq qX5_build 67 rfl) (jo_cv (y := mX3_link) rfl (Nat.le_of_ble_eq_true rfl) rfl (Nat.le_of_ble_eq_true rfl) b29 rfl r28 (jo_exn rfl))) H
  · rw [if_neg c12] at H
    refine Eq.trans (jb_nx (i := .if_icmp .ge 114) (n := 3) (q := (131, [some (.ref p0), some (.int i1), o2], [])) (jq qX5_build 9 rfl) (jo_icT (jz_geT c12) rfl)) ?_
    refine Eq.trans (jb_nx (i := .aload_n 0) (n := 1) (q := (132, [some (.ref p0), some (.int i1), o2], [.ref p0])) (jq qX5_build 65 rfl) rfl) ?_
    obtain ⟨a13, e14, H⟩ := jbd H
    refine Eq.trans (jb_nx (i := .getfield 18) (n := 3) (q := (135, [some (.ref p0), some (.int i1), o2], [.ref a13])) (jq qX5_build 66 rfl) (jo_gf rfl (jr_R_inv e14))) ?_
    obtain ⟨b17, H⟩ := jm_O_inv H
    rcases jcV H with ⟨h15, r16, H⟩ | ⟨w18, h19, r16, H⟩
    · refine Eq.trans (jb_nx (i := .invokevirtual 152) (n := 3) (q := (138, [some (.ref p0), some (.int i1), o2], [])) (jq qX5_build 67 rfl) (jo_cv (y := mX3_link) rfl (Nat.le_of_ble_eq_true rfl) rfl (Nat.le_of_ble_eq_true rfl) b17 rfl r16 jo_ret)) ?_
      exact Eq.trans (jb_rt (i := .return_) (n := 1) (jq qX5_build 68 rfl) rfl) H
    · exact Eq.trans (jb_rt (i := .invokevirtual 152) (n := 3) (jq qX5_build 67 rfl) (jo_cv (y := mX3_link) rfl (Nat.le_of_ble_eq_true rfl) rfl (Nat.le_of_ble_eq_true rfl) b17 rfl r16 (jo_exn rfl))) H
theorem gX5_build_66 {d : Nat} {p0 : Nat} {i1 : Int32} {o2 : Option Value} {si0 : Int32} {h : jm_H} {r : jm_R} (H : ((jr_R h p0 5 4 2).bind fun a44 => (jm_ali h a44 3 i1).bind fun x46 => (if x46 = 0 then (if si0 = 0 then (jr_R h p0 5 3 2).bind fun a50 => (jr_R h p0 5 2 2).bind fun a52 => jm_O h a52 3 (jc_I (jm_D d mX3_kindAt [.ref a52, .int i1] h) (fun x56 h54 => (jr_R h54 p0 5 2 2).bind fun a57 => jm_O h54 a57 3 (jc_L (jm_D d mX3_nameAt [.ref a57, .int i1] h54) (fun y61 h59 => jm_O h59 a50 3 (jc_V (jm_D d mX3_add [.ref a50, .int x56, .long y61] h59) (fun h62 => kX5_build_9 d p0 (i1 + 1) (some (.int si0)) h62) jx)) jx)) jx) else kX5_build_9 d p0 (i1 + 1) (some (.int si0)) h) else (jr_R h p0 5 3 2).bind fun a73 => (jr_R h p0 5 2 2).bind fun a75 => (jr_I h p0 5 11 0).bind fun x77 => (jr_I h p0 5 12 0).bind fun x79 => jm_O h a73 3 (jc_V (jm_D d mX3_append [.ref a73, .ref a75, .int x77, .int x79] h) (fun h81 => kX5_build_9 d p0 (i1 + 1) (some (.int si0)) h81) jx))) = some r) : kX5_build_66 d p0 i1 o2 si0 h = some r := by
  show jm_B d mX5_build (66, [some (.ref p0), some (.int i1), o2], [.int si0]) h = some r
  refine Eq.trans (jb_nx (i := .istore_n 2) (n := 1) (q := (67, [some (.ref p0), some (.int i1), some (.int si0)], [])) (jq qX5_build 34 rfl) rfl) ?_
  refine Eq.trans (jb_nx (i := .aload_n 0) (n := 1) (q := (68, [some (.ref p0), some (.int i1), some (.int si0)], [.ref p0])) (jq qX5_build 35 rfl) rfl) ?_
  obtain ⟨a44, e45, H⟩ := jbd H
  refine Eq.trans (jb_nx (i := .getfield 21) (n := 3) (q := (71, [some (.ref p0), some (.int i1), some (.int si0)], [.ref a44])) (jq qX5_build 36 rfl) (jo_gf rfl (jr_R_inv e45))) ?_
  refine Eq.trans (jb_nx (i := .iload_n 1) (n := 1) (q := (72, [some (.ref p0), some (.int i1), some (.int si0)], [.int i1, .ref a44])) (jq qX5_build 37 rfl) rfl) ?_
  obtain ⟨x46, e47, H⟩ := jbd H
  refine Eq.trans (jb_nx (i := .baload) (n := 1) (q := (73, [some (.ref p0), some (.int i1), some (.int si0)], [.int x46])) (jq qX5_build 38 rfl) (jo_zal e47)) ?_
  by_cases c48 : x46 = 0
  · rw [if_pos c48] at H
    refine Eq.trans (jb_nx (i := .ifCond .eq 25) (n := 3) (q := (98, [some (.ref p0), some (.int i1), some (.int si0)], [])) (jq qX5_build 39 rfl) (jo_ifT (jz_eqT c48) rfl)) ?_
    refine Eq.trans (jb_nx (i := .iload_n 2) (n := 1) (q := (99, [some (.ref p0), some (.int i1), some (.int si0)], [.int si0])) (jq qX5_build 50 rfl) rfl) ?_
    by_cases c49 : si0 = 0
    · rw [if_pos c49] at H
      refine Eq.trans (jb_nx (i := .ifCond .ne 26) (n := 3) (q := (102, [some (.ref p0), some (.int i1), some (.int si0)], [])) (jq qX5_build 51 rfl) (jo_ifF (jz_neF c49))) ?_
      refine Eq.trans (jb_nx (i := .aload_n 0) (n := 1) (q := (103, [some (.ref p0), some (.int i1), some (.int si0)], [.ref p0])) (jq qX5_build 52 rfl) rfl) ?_
      obtain ⟨a50, e51, H⟩ := jbd H
      refine Eq.trans (jb_nx (i := .getfield 18) (n := 3) (q := (106, [some (.ref p0), some (.int i1), some (.int si0)], [.ref a50])) (jq qX5_build 53 rfl) (jo_gf rfl (jr_R_inv e51))) ?_
      refine Eq.trans (jb_nx (i := .aload_n 0) (n := 1) (q := (107, [some (.ref p0), some (.int i1), some (.int si0)], [.ref p0, .ref a50])) (jq qX5_build 54 rfl) rfl) ?_
      obtain ⟨a52, e53, H⟩ := jbd H
      refine Eq.trans (jb_nx (i := .getfield 12) (n := 3) (q := (110, [some (.ref p0), some (.int i1), some (.int si0)], [.ref a52, .ref a50])) (jq qX5_build 55 rfl) (jo_gf rfl (jr_R_inv e53))) ?_
      refine Eq.trans (jb_nx (i := .iload_n 1) (n := 1) (q := (111, [some (.ref p0), some (.int i1), some (.int si0)], [.int i1, .ref a52, .ref a50])) (jq qX5_build 56 rfl) rfl) ?_
      obtain ⟨b70, H⟩ := jm_O_inv H
      rcases jcI H with ⟨x56, h54, r55, H⟩ | ⟨w71, h72, r55, H⟩
      · refine Eq.trans (jb_nx (i := .invokevirtual 107) (n := 3) (q := (114, [some (.ref p0), some (.int i1), some (.int si0)], [.int x56, .ref a50])) (jq qX5_build 57 rfl) (jo_cv (y := mX3_kindAt) rfl (Nat.le_of_ble_eq_true rfl) rfl (Nat.le_of_ble_eq_true rfl) b70 rfl r55 jo_ret)) ?_
        refine Eq.trans (jb_nx (i := .aload_n 0) (n := 1) (q := (115, [some (.ref p0), some (.int i1), some (.int si0)], [.ref p0, .int x56, .ref a50])) (jq qX5_build 58 rfl) rfl) ?_
        obtain ⟨a57, e58, H⟩ := jbd H
        refine Eq.trans (jb_nx (i := .getfield 12) (n := 3) (q := (118, [some (.ref p0), some (.int i1), some (.int si0)], [.ref a57, .int x56, .ref a50])) (jq qX5_build 59 rfl) (jo_gf rfl (jr_R_inv e58))) ?_
        refine Eq.trans (jb_nx (i := .iload_n 1) (n := 1) (q := (119, [some (.ref p0), some (.int i1), some (.int si0)], [.int i1, .ref a57, .int x56, .ref a50])) (jq qX5_build 60 rfl) rfl) ?_
        obtain ⟨b67, H⟩ := jm_O_inv H
        rcases jcL H with ⟨y61, h59, r60, H⟩ | ⟨w68, h69, r60, H⟩
        · refine Eq.trans (jb_nx (i := .invokevirtual 104) (n := 3) (q := (122, [some (.ref p0), some (.int i1), some (.int si0)], [.long y61, .int x56, .ref a50])) (jq qX5_build 61 rfl) (jo_cv (y := mX3_nameAt) rfl (Nat.le_of_ble_eq_true rfl) rfl (Nat.le_of_ble_eq_true rfl) b67 rfl r60 jo_ret)) ?_
          obtain ⟨b64, H⟩ := jm_O_inv H
          rcases jcV H with ⟨h62, r63, H⟩ | ⟨w65, h66, r63, H⟩
          · refine Eq.trans (jb_nx (i := .invokevirtual 149) (n := 3) (q := (125, [some (.ref p0), some (.int i1), some (.int si0)], [])) (jq qX5_build 62 rfl) (jo_cv (y := mX3_add) rfl (Nat.le_of_ble_eq_true rfl) rfl (Nat.le_of_ble_eq_true rfl) b64 rfl r63 jo_ret)) ?_
            refine Eq.trans (jb_nx (i := .iinc 1 1) (n := 3) (q := (128, [some (.ref p0), some (.int (i1 + 1)), some (.int si0)], [])) (jq qX5_build 63 rfl) rfl) ?_
            refine Eq.trans (jb_nx (i := .goto (-119)) (n := 3) (q := (9, [some (.ref p0), some (.int (i1 + 1)), some (.int si0)], [])) (jq qX5_build 64 rfl) rfl) ?_
            exact H
          · exact Eq.trans (jb_rt (i := .invokevirtual 149) (n := 3) (jq qX5_build 62 rfl) (jo_cv (y := mX3_add) rfl (Nat.le_of_ble_eq_true rfl) rfl (Nat.le_of_ble_eq_true rfl) b64 rfl r63 (jo_exn rfl))) H
        · exact Eq.trans (jb_rt (i := .invokevirtual 104) (n := 3) (jq qX5_build 61 rfl) (jo_cv (y := mX3_nameAt) rfl (Nat.le_of_ble_eq_true rfl) rfl (Nat.le_of_ble_eq_true rfl) b67 rfl r60 (jo_exn rfl))) H
      · exact Eq.trans (jb_rt (i := .invokevirtual 107) (n := 3) (jq qX5_build 57 rfl) (jo_cv (y := mX3_kindAt) rfl (Nat.le_of_ble_eq_true rfl) rfl (Nat.le_of_ble_eq_true rfl) b70 rfl r55 (jo_exn rfl))) H
    · rw [if_neg c49] at H
      refine Eq.trans (jb_nx (i := .ifCond .ne 26) (n := 3) (q := (125, [some (.ref p0), some (.int i1), some (.int si0)], [])) (jq qX5_build 51 rfl) (jo_ifT (jz_neT c49) rfl)) ?_
      refine Eq.trans (jb_nx (i := .iinc 1 1) (n := 3) (q := (128, [some (.ref p0), some (.int (i1 + 1)), some (.int si0)], [])) (jq qX5_build 63 rfl) rfl) ?_
      refine Eq.trans (jb_nx (i := .goto (-119)) (n := 3) (q := (9, [some (.ref p0), some (.int (i1 + 1)), some (.int si0)], [])) (jq qX5_build 64 rfl) rfl) ?_
      exact H
  · rw [if_neg c48] at H
    refine Eq.trans (jb_nx (i := .ifCond .eq 25) (n := 3) (q := (76, [some (.ref p0), some (.int i1), some (.int si0)], [])) (jq qX5_build 39 rfl) (jo_ifF (jz_eqF c48))) ?_
    refine Eq.trans (jb_nx (i := .aload_n 0) (n := 1) (q := (77, [some (.ref p0), some (.int i1), some (.int si0)], [.ref p0])) (jq qX5_build 40 rfl) rfl) ?_
    obtain ⟨a73, e74, H⟩ := jbd H
    refine Eq.trans (jb_nx (i := .getfield 18) (n := 3) (q := (80, [some (.ref p0), some (.int i1), some (.int si0)], [.ref a73])) (jq qX5_build 41 rfl) (jo_gf rfl (jr_R_inv e74))) ?_
    refine Eq.trans (jb_nx (i := .aload_n 0) (n := 1) (q := (81, [some (.ref p0), some (.int i1), some (.int si0)], [.ref p0, .ref a73])) (jq qX5_build 42 rfl) rfl) ?_
    obtain ⟨a75, e76, H⟩ := jbd H
    refine Eq.trans (jb_nx (i := .getfield 12) (n := 3) (q := (84, [some (.ref p0), some (.int i1), some (.int si0)], [.ref a75, .ref a73])) (jq qX5_build 43 rfl) (jo_gf rfl (jr_R_inv e76))) ?_
    refine Eq.trans (jb_nx (i := .aload_n 0) (n := 1) (q := (85, [some (.ref p0), some (.int i1), some (.int si0)], [.ref p0, .ref a75, .ref a73])) (jq qX5_build 44 rfl) rfl) ?_
    obtain ⟨x77, e78, H⟩ := jbd H
    refine Eq.trans (jb_nx (i := .getfield 56) (n := 3) (q := (88, [some (.ref p0), some (.int i1), some (.int si0)], [.int x77, .ref a75, .ref a73])) (jq qX5_build 45 rfl) (jo_gf rfl (jr_I_inv e78))) ?_
    refine Eq.trans (jb_nx (i := .aload_n 0) (n := 1) (q := (89, [some (.ref p0), some (.int i1), some (.int si0)], [.ref p0, .int x77, .ref a75, .ref a73])) (jq qX5_build 46 rfl) rfl) ?_
    obtain ⟨x79, e80, H⟩ := jbd H
    refine Eq.trans (jb_nx (i := .getfield 59) (n := 3) (q := (92, [some (.ref p0), some (.int i1), some (.int si0)], [.int x79, .int x77, .ref a75, .ref a73])) (jq qX5_build 47 rfl) (jo_gf rfl (jr_I_inv e80))) ?_
    obtain ⟨b83, H⟩ := jm_O_inv H
    rcases jcV H with ⟨h81, r82, H⟩ | ⟨w84, h85, r82, H⟩
    · refine Eq.trans (jb_nx (i := .invokevirtual 145) (n := 3) (q := (95, [some (.ref p0), some (.int i1), some (.int si0)], [])) (jq qX5_build 48 rfl) (jo_cv (y := mX3_append) rfl (Nat.le_of_ble_eq_true rfl) rfl (Nat.le_of_ble_eq_true rfl) b83 rfl r82 jo_ret)) ?_
      refine Eq.trans (jb_nx (i := .goto 30) (n := 3) (q := (125, [some (.ref p0), some (.int i1), some (.int si0)], [])) (jq qX5_build 49 rfl) rfl) ?_
      refine Eq.trans (jb_nx (i := .iinc 1 1) (n := 3) (q := (128, [some (.ref p0), some (.int (i1 + 1)), some (.int si0)], [])) (jq qX5_build 63 rfl) rfl) ?_
      refine Eq.trans (jb_nx (i := .goto (-119)) (n := 3) (q := (9, [some (.ref p0), some (.int (i1 + 1)), some (.int si0)], [])) (jq qX5_build 64 rfl) rfl) ?_
      exact H
    · exact Eq.trans (jb_rt (i := .invokevirtual 145) (n := 3) (jq qX5_build 48 rfl) (jo_cv (y := mX3_append) rfl (Nat.le_of_ble_eq_true rfl) rfl (Nat.le_of_ble_eq_true rfl) b83 rfl r82 (jo_exn rfl))) H
theorem gX5_build {d : Nat} {p0 : Nat} {h : jm_H} {r : jm_R} (H : ((jr_R h p0 5 3 2).bind fun a1 => jm_O h a1 3 (jc_V (jm_D d mX3_clear [.ref a1] h) (fun h3 => kX5_build_9 d p0 0 none h3) jx)) = some r) : jm_D (d + 1) mX5_build [.ref p0] h = some r := by
  rw [jm_D_body (Nat.le_of_ble_eq_true rfl)]
  show jm_B d mX5_build (0, [some (.ref p0), none, none], []) h = some r
  refine Eq.trans (jb_nx (i := .aload_n 0) (n := 1) (q := (1, [some (.ref p0), none, none], [.ref p0])) (jq qX5_build 0 rfl) rfl) ?_
  obtain ⟨a1, e2, H⟩ := jbd H
  refine Eq.trans (jb_nx (i := .getfield 18) (n := 3) (q := (4, [some (.ref p0), none, none], [.ref a1])) (jq qX5_build 1 rfl) (jo_gf rfl (jr_R_inv e2))) ?_
  obtain ⟨b5, H⟩ := jm_O_inv H
  rcases jcV H with ⟨h3, r4, H⟩ | ⟨w6, h7, r4, H⟩
  · refine Eq.trans (jb_nx (i := .invokevirtual 142) (n := 3) (q := (7, [some (.ref p0), none, none], [])) (jq qX5_build 2 rfl) (jo_cv (y := mX3_clear) rfl (Nat.le_of_ble_eq_true rfl) rfl (Nat.le_of_ble_eq_true rfl) b5 rfl r4 jo_ret)) ?_
    refine Eq.trans (jb_nx (i := .iconst 0) (n := 1) (q := (8, [some (.ref p0), none, none], [.int 0])) (jq qX5_build 3 rfl) rfl) ?_
    refine Eq.trans (jb_nx (i := .istore_n 1) (n := 1) (q := (9, [some (.ref p0), some (.int 0), none], [])) (jq qX5_build 4 rfl) rfl) ?_
    exact H
  · exact Eq.trans (jb_rt (i := .invokevirtual 142) (n := 3) (jq qX5_build 2 rfl) (jo_cv (y := mX3_clear) rfl (Nat.le_of_ble_eq_true rfl) rfl (Nat.le_of_ble_eq_true rfl) b5 rfl r4 (jo_exn rfl))) H
/-! MaskPlays$Step takeUntilFinished (LMaskPlays$Part;I)I -/
def tX5_takeUntilFinished : List (Nat × Instr × Nat) := [(0, .iconst 0, 1), (1, .istore_n 3, 1), (2, .iload_n 3, 1), (3, .iload_n 2, 1), (4, .if_icmp .gt 33, 3), (7, .aload_n 1, 1), (8, .invokevirtual 41, 3), (11, .ifCond .ge 5, 3), (14, .iload_n 3, 1), (15, .ireturn, 1), (16, .iload_n 3, 1), (17, .iload_n 2, 1), (18, .if_icmp .eq 11, 3), (21, .aload_n 0, 1), (22, .aload_n 1, 1), (23, .invokevirtual 101, 3), (26, .ifCond .ne 5, 3), (29, .iconst (-1), 1), (30, .ireturn, 1), (31, .iinc 3 1, 3), (34, .goto (-32), 3), (37, .iconst (-1), 1), (38, .ireturn, 1)]
set_option maxRecDepth 100000 in
theorem qX5_takeUntilFinished : ∀ q ∈ tX5_takeUntilFinished, decode cX5_takeUntilFinished q.1 = .ok (q.2.1, q.2.2) := by decide +kernel
noncomputable def kX5_takeUntilFinished_2 (d : Nat) (p0 : Nat) (p1 : Nat) (i2 : Int32) (i3 : Int32) (h : jm_H) : Option jm_R := jm_B d mX5_takeUntilFinished (2, [some (.ref p0), some (.ref p1), some (.int i2), some (.int i3)], []) h
theorem gX5_takeUntilFinished_2 {d : Nat} {p0 : Nat} {p1 : Nat} {i2 : Int32} {i3 : Int32} {h : jm_H} {r : jm_R} (H : ((if i2 < i3 then some (.inl (some (.int (-1))), h) else jm_O h p1 3 (jc_I (jm_D d mX3_readyScene [.ref p1] h) (fun x4 h2 => (if x4 < 0 then some (.inl (some (.int i3)), h2) else (if i3 = i2 then some (.inl (some (.int (-1))), h2) else jm_O h2 p0 5 (jc_I (jm_D d mX5_take [.ref p0, .ref p1] h2) (fun x9 h7 => (if x9 = 0 then some (.inl (some (.int (-1))), h7) else kX5_takeUntilFinished_2 d p0 p1 i2 (i3 + 1) h7)) jx)))) jx))) = some r) : kX5_takeUntilFinished_2 d p0 p1 i2 i3 h = some r := by
  show jm_B d mX5_takeUntilFinished (2, [some (.ref p0), some (.ref p1), some (.int i2), some (.int i3)], []) h = some r
  refine Eq.trans (jb_nx (i := .iload_n 3) (n := 1) (q := (3, [some (.ref p0), some (.ref p1), some (.int i2), some (.int i3)], [.int i3])) (jq qX5_takeUntilFinished 2 rfl) rfl) ?_
  refine Eq.trans (jb_nx (i := .iload_n 2) (n := 1) (q := (4, [some (.ref p0), some (.ref p1), some (.int i2), some (.int i3)], [.int i2, .int i3])) (jq qX5_takeUntilFinished 3 rfl) rfl) ?_
  by_cases c1 : i2 < i3
  · rw [if_pos c1] at H
    refine Eq.trans (jb_nx (i := .if_icmp .gt 33) (n := 3) (q := (37, [some (.ref p0), some (.ref p1), some (.int i2), some (.int i3)], [])) (jq qX5_takeUntilFinished 4 rfl) (jo_icT (jz_gtT c1) rfl)) ?_
    refine Eq.trans (jb_nx (i := .iconst (-1)) (n := 1) (q := (38, [some (.ref p0), some (.ref p1), some (.int i2), some (.int i3)], [.int (-1)])) (jq qX5_takeUntilFinished 21 rfl) rfl) ?_
    exact Eq.trans (jb_rt (i := .ireturn) (n := 1) (jq qX5_takeUntilFinished 22 rfl) (jo_iret rfl rfl)) H
  · rw [if_neg c1] at H
    refine Eq.trans (jb_nx (i := .if_icmp .gt 33) (n := 3) (q := (7, [some (.ref p0), some (.ref p1), some (.int i2), some (.int i3)], [])) (jq qX5_takeUntilFinished 4 rfl) (jo_icF (jz_gtF c1))) ?_
    refine Eq.trans (jb_nx (i := .aload_n 1) (n := 1) (q := (8, [some (.ref p0), some (.ref p1), some (.int i2), some (.int i3)], [.ref p1])) (jq qX5_takeUntilFinished 5 rfl) rfl) ?_
    obtain ⟨b14, H⟩ := jm_O_inv H
    rcases jcI H with ⟨x4, h2, r3, H⟩ | ⟨w15, h16, r3, H⟩
    · refine Eq.trans (jb_nx (i := .invokevirtual 41) (n := 3) (q := (11, [some (.ref p0), some (.ref p1), some (.int i2), some (.int i3)], [.int x4])) (jq qX5_takeUntilFinished 6 rfl) (jo_cv (y := mX3_readyScene) rfl (Nat.le_of_ble_eq_true rfl) rfl (Nat.le_of_ble_eq_true rfl) b14 rfl r3 jo_ret)) ?_
      by_cases c5 : x4 < 0
      · rw [if_pos c5] at H
        refine Eq.trans (jb_nx (i := .ifCond .ge 5) (n := 3) (q := (14, [some (.ref p0), some (.ref p1), some (.int i2), some (.int i3)], [])) (jq qX5_takeUntilFinished 7 rfl) (jo_ifF (jz_geF c5))) ?_
        refine Eq.trans (jb_nx (i := .iload_n 3) (n := 1) (q := (15, [some (.ref p0), some (.ref p1), some (.int i2), some (.int i3)], [.int i3])) (jq qX5_takeUntilFinished 8 rfl) rfl) ?_
        exact Eq.trans (jb_rt (i := .ireturn) (n := 1) (jq qX5_takeUntilFinished 9 rfl) (jo_iret rfl rfl)) H
      · rw [if_neg c5] at H
        refine Eq.trans (jb_nx (i := .ifCond .ge 5) (n := 3) (q := (16, [some (.ref p0), some (.ref p1), some (.int i2), some (.int i3)], [])) (jq qX5_takeUntilFinished 7 rfl) (jo_ifT (jz_geT c5) rfl)) ?_
        refine Eq.trans (jb_nx (i := .iload_n 3) (n := 1) (q := (17, [some (.ref p0), some (.ref p1), some (.int i2), some (.int i3)], [.int i3])) (jq qX5_takeUntilFinished 10 rfl) rfl) ?_
        refine Eq.trans (jb_nx (i := .iload_n 2) (n := 1) (q := (18, [some (.ref p0), some (.ref p1), some (.int i2), some (.int i3)], [.int i2, .int i3])) (jq qX5_takeUntilFinished 11 rfl) rfl) ?_
        by_cases c6 : i3 = i2
        · rw [if_pos c6] at H
          refine Eq.trans (jb_nx (i := .if_icmp .eq 11) (n := 3) (q := (29, [some (.ref p0), some (.ref p1), some (.int i2), some (.int i3)], [])) (jq qX5_takeUntilFinished 12 rfl) (jo_icT (jz_eqT c6) rfl)) ?_
          refine Eq.trans (jb_nx (i := .iconst (-1)) (n := 1) (q := (30, [some (.ref p0), some (.ref p1), some (.int i2), some (.int i3)], [.int (-1)])) (jq qX5_takeUntilFinished 17 rfl) rfl) ?_
          exact Eq.trans (jb_rt (i := .ireturn) (n := 1) (jq qX5_takeUntilFinished 18 rfl) (jo_iret rfl rfl)) H
        · rw [if_neg c6] at H
          refine Eq.trans (jb_nx (i := .if_icmp .eq 11) (n := 3) (q := (21, [some (.ref p0), some (.ref p1), some (.int i2), some (.int i3)], [])) (jq qX5_takeUntilFinished 12 rfl) (jo_icF (jz_eqF c6))) ?_
          refine Eq.trans (jb_nx (i := .aload_n 0) (n := 1) (q := (22, [some (.ref p0), some (.ref p1), some (.int i2), some (.int i3)], [.ref p0])) (jq qX5_takeUntilFinished 13 rfl) rfl) ?_
          refine Eq.trans (jb_nx (i := .aload_n 1) (n := 1) (q := (23, [some (.ref p0), some (.ref p1), some (.int i2), some (.int i3)], [.ref p1, .ref p0])) (jq qX5_takeUntilFinished 14 rfl) rfl) ?_
          obtain ⟨b11, H⟩ := jm_O_inv H
          rcases jcI H with ⟨x9, h7, r8, H⟩ | ⟨w12, h13, r8, H⟩
          · refine Eq.trans (jb_nx (i := .invokevirtual 101) (n := 3) (q := (26, [some (.ref p0), some (.ref p1), some (.int i2), some (.int i3)], [.int x9])) (jq qX5_takeUntilFinished 15 rfl) (jo_cv (y := mX5_take) rfl (Nat.le_of_ble_eq_true rfl) rfl (Nat.le_of_ble_eq_true rfl) b11 rfl r8 jo_ret)) ?_
            by_cases c10 : x9 = 0
            · rw [if_pos c10] at H
              refine Eq.trans (jb_nx (i := .ifCond .ne 5) (n := 3) (q := (29, [some (.ref p0), some (.ref p1), some (.int i2), some (.int i3)], [])) (jq qX5_takeUntilFinished 16 rfl) (jo_ifF (jz_neF c10))) ?_
              refine Eq.trans (jb_nx (i := .iconst (-1)) (n := 1) (q := (30, [some (.ref p0), some (.ref p1), some (.int i2), some (.int i3)], [.int (-1)])) (jq qX5_takeUntilFinished 17 rfl) rfl) ?_
              exact Eq.trans (jb_rt (i := .ireturn) (n := 1) (jq qX5_takeUntilFinished 18 rfl) (jo_iret rfl rfl)) H
            · rw [if_neg c10] at H
              refine Eq.trans (jb_nx (i := .ifCond .ne 5) (n := 3) (q := (31, [some (.ref p0), some (.ref p1), some (.int i2), some (.int i3)], [])) (jq qX5_takeUntilFinished 16 rfl) (jo_ifT (jz_neT c10) rfl)) ?_
              refine Eq.trans (jb_nx (i := .iinc 3 1) (n := 3) (q := (34, [some (.ref p0), some (.ref p1), some (.int i2), some (.int (i3 + 1))], [])) (jq qX5_takeUntilFinished 19 rfl) rfl) ?_
              refine Eq.trans (jb_nx (i := .goto (-32)) (n := 3) (q := (2, [some (.ref p0), some (.ref p1), some (.int i2), some (.int (i3 + 1))], [])) (jq qX5_takeUntilFinished 20 rfl) rfl) ?_
              exact H
          · exact Eq.trans (jb_rt (i := .invokevirtual 101) (n := 3) (jq qX5_takeUntilFinished 15 rfl) (jo_cv (y := mX5_take) rfl (Nat.le_of_ble_eq_true rfl) rfl (Nat.le_of_ble_eq_true rfl) b11 rfl r8 (jo_exn rfl))) H
    · exact Eq.trans (jb_rt (i := .invokevirtual 41) (n := 3) (jq qX5_takeUntilFinished 6 rfl) (jo_cv (y := mX3_readyScene) rfl (Nat.le_of_ble_eq_true rfl) rfl (Nat.le_of_ble_eq_true rfl) b14 rfl r3 (jo_exn rfl))) H
theorem gX5_takeUntilFinished {d : Nat} {p0 : Nat} {p1 : Nat} {i2 : Int32} {h : jm_H} {r : jm_R} (H : (kX5_takeUntilFinished_2 d p0 p1 i2 0 h) = some r) : jm_D (d + 1) mX5_takeUntilFinished [.ref p0, .ref p1, .int i2] h = some r := by
  rw [jm_D_body (Nat.le_of_ble_eq_true rfl)]
  show jm_B d mX5_takeUntilFinished (0, [some (.ref p0), some (.ref p1), some (.int i2), none], []) h = some r
  refine Eq.trans (jb_nx (i := .iconst 0) (n := 1) (q := (1, [some (.ref p0), some (.ref p1), some (.int i2), none], [.int 0])) (jq qX5_takeUntilFinished 0 rfl) rfl) ?_
  refine Eq.trans (jb_nx (i := .istore_n 3) (n := 1) (q := (2, [some (.ref p0), some (.ref p1), some (.int i2), some (.int 0)], [])) (jq qX5_takeUntilFinished 1 rfl) rfl) ?_
  exact H
/-! MaskPlays$Step takeUpTo (LMaskPlays$Part;I)V -/
def tX5_takeUpTo : List (Nat × Instr × Nat) := [(0, .iconst 0, 1), (1, .istore_n 3, 1), (2, .iload_n 3, 1), (3, .iload_n 2, 1), (4, .if_icmp .ge 18, 3), (7, .aload_n 0, 1), (8, .aload_n 1, 1), (9, .invokevirtual 101, 3), (12, .ifCond .ne 4, 3), (15, .return_, 1), (16, .iinc 3 1, 3), (19, .goto (-17), 3), (22, .return_, 1)]
set_option maxRecDepth 100000 in
theorem qX5_takeUpTo : ∀ q ∈ tX5_takeUpTo, decode cX5_takeUpTo q.1 = .ok (q.2.1, q.2.2) := by decide +kernel
noncomputable def kX5_takeUpTo_2 (d : Nat) (p0 : Nat) (p1 : Nat) (i2 : Int32) (i3 : Int32) (h : jm_H) : Option jm_R := jm_B d mX5_takeUpTo (2, [some (.ref p0), some (.ref p1), some (.int i2), some (.int i3)], []) h
theorem gX5_takeUpTo_2 {d : Nat} {p0 : Nat} {p1 : Nat} {i2 : Int32} {i3 : Int32} {h : jm_H} {r : jm_R} (H : ((if i3 < i2 then jm_O h p0 5 (jc_I (jm_D d mX5_take [.ref p0, .ref p1] h) (fun x4 h2 => (if x4 = 0 then some (.inl none, h2) else kX5_takeUpTo_2 d p0 p1 i2 (i3 + 1) h2)) jx) else some (.inl none, h))) = some r) : kX5_takeUpTo_2 d p0 p1 i2 i3 h = some r := by
  show jm_B d mX5_takeUpTo (2, [some (.ref p0), some (.ref p1), some (.int i2), some (.int i3)], []) h = some r
  refine Eq.trans (jb_nx (i := .iload_n 3) (n := 1) (q := (3, [some (.ref p0), some (.ref p1), some (.int i2), some (.int i3)], [.int i3])) (jq qX5_takeUpTo 2 rfl) rfl) ?_
  refine Eq.trans (jb_nx (i := .iload_n 2) (n := 1) (q := (4, [some (.ref p0), some (.ref p1), some (.int i2), some (.int i3)], [.int i2, .int i3])) (jq qX5_takeUpTo 3 rfl) rfl) ?_
  by_cases c1 : i3 < i2
  · rw [if_pos c1] at H
    refine Eq.trans (jb_nx (i := .if_icmp .ge 18) (n := 3) (q := (7, [some (.ref p0), some (.ref p1), some (.int i2), some (.int i3)], [])) (jq qX5_takeUpTo 4 rfl) (jo_icF (jz_geF c1))) ?_
    refine Eq.trans (jb_nx (i := .aload_n 0) (n := 1) (q := (8, [some (.ref p0), some (.ref p1), some (.int i2), some (.int i3)], [.ref p0])) (jq qX5_takeUpTo 5 rfl) rfl) ?_
    refine Eq.trans (jb_nx (i := .aload_n 1) (n := 1) (q := (9, [some (.ref p0), some (.ref p1), some (.int i2), some (.int i3)], [.ref p1, .ref p0])) (jq qX5_takeUpTo 6 rfl) rfl) ?_
    obtain ⟨b6, H⟩ := jm_O_inv H
    rcases jcI H with ⟨x4, h2, r3, H⟩ | ⟨w7, h8, r3, H⟩
    · refine Eq.trans (jb_nx (i := .invokevirtual 101) (n := 3) (q := (12, [some (.ref p0), some (.ref p1), some (.int i2), some (.int i3)], [.int x4])) (jq qX5_takeUpTo 7 rfl) (jo_cv (y := mX5_take) rfl (Nat.le_of_ble_eq_true rfl) rfl (Nat.le_of_ble_eq_true rfl) b6 rfl r3 jo_ret)) ?_
      by_cases c5 : x4 = 0
      · rw [if_pos c5] at H
        refine Eq.trans (jb_nx (i := .ifCond .ne 4) (n := 3) (q := (15, [some (.ref p0), some (.ref p1), some (.int i2), some (.int i3)], [])) (jq qX5_takeUpTo 8 rfl) (jo_ifF (jz_neF c5))) ?_
        exact Eq.trans (jb_rt (i := .return_) (n := 1) (jq qX5_takeUpTo 9 rfl) rfl) H
      · rw [if_neg c5] at H
        refine Eq.trans (jb_nx (i := .ifCond .ne 4) (n := 3) (q := (16, [some (.ref p0), some (.ref p1), some (.int i2), some (.int i3)], [])) (jq qX5_takeUpTo 8 rfl) (jo_ifT (jz_neT c5) rfl)) ?_
        refine Eq.trans (jb_nx (i := .iinc 3 1) (n := 3) (q := (19, [some (.ref p0), some (.ref p1), some (.int i2), some (.int (i3 + 1))], [])) (jq qX5_takeUpTo 10 rfl) rfl) ?_
        refine Eq.trans (jb_nx (i := .goto (-17)) (n := 3) (q := (2, [some (.ref p0), some (.ref p1), some (.int i2), some (.int (i3 + 1))], [])) (jq qX5_takeUpTo 11 rfl) rfl) ?_
        exact H
    · exact Eq.trans (jb_rt (i := .invokevirtual 101) (n := 3) (jq qX5_takeUpTo 7 rfl) (jo_cv (y := mX5_take) rfl (Nat.le_of_ble_eq_true rfl) rfl (Nat.le_of_ble_eq_true rfl) b6 rfl r3 (jo_exn rfl))) H
  · rw [if_neg c1] at H
    refine Eq.trans (jb_nx (i := .if_icmp .ge 18) (n := 3) (q := (22, [some (.ref p0), some (.ref p1), some (.int i2), some (.int i3)], [])) (jq qX5_takeUpTo 4 rfl) (jo_icT (jz_geT c1) rfl)) ?_
    exact Eq.trans (jb_rt (i := .return_) (n := 1) (jq qX5_takeUpTo 12 rfl) rfl) H
theorem gX5_takeUpTo {d : Nat} {p0 : Nat} {p1 : Nat} {i2 : Int32} {h : jm_H} {r : jm_R} (H : (kX5_takeUpTo_2 d p0 p1 i2 0 h) = some r) : jm_D (d + 1) mX5_takeUpTo [.ref p0, .ref p1, .int i2] h = some r := by
  rw [jm_D_body (Nat.le_of_ble_eq_true rfl)]
  show jm_B d mX5_takeUpTo (0, [some (.ref p0), some (.ref p1), some (.int i2), none], []) h = some r
  refine Eq.trans (jb_nx (i := .iconst 0) (n := 1) (q := (1, [some (.ref p0), some (.ref p1), some (.int i2), none], [.int 0])) (jq qX5_takeUpTo 0 rfl) rfl) ?_
  refine Eq.trans (jb_nx (i := .istore_n 3) (n := 1) (q := (2, [some (.ref p0), some (.ref p1), some (.int i2), some (.int 0)], [])) (jq qX5_takeUpTo 1 rfl) rfl) ?_
  exact H
