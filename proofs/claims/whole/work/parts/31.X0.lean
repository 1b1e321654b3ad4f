/-! ===== LEVEL 2: X0 ===== -/
/-! MaskPlays$Book <init> ()V -/
def tX0_init : List (Nat × Instr × Nat) := [(0, .aload_n 0, 1), (1, .invokespecial 3, 3), (4, .aload_n 0, 1), (5, .bipush 8, 2), (7, .newarray .long, 2), (9, .putfield 9, 3), (12, .aload_n 0, 1), (13, .bipush 12, 2), (15, .newarray .long, 2), (17, .putfield 15, 3), (20, .aload_n 0, 1), (21, .bipush 12, 2), (23, .anewarray 18, 3), (26, .putfield 20, 3), (29, .aload_n 0, 1), (30, .bipush 16, 2), (32, .anewarray 24, 3), (35, .putfield 26, 3), (38, .aload_n 0, 1), (39, .sipush 400, 3), (42, .newarray .int, 2), (44, .putfield 30, 3), (47, .aload_n 0, 1), (48, .sipush 400, 3), (51, .newarray .int, 2), (53, .putfield 34, 3), (56, .aload_n 0, 1), (57, .new 18, 3), (60, .dup, 1), (61, .invokespecial 37, 3), (64, .putfield 38, 3), (67, .aload_n 0, 1), (68, .new 24, 3), (71, .dup, 1), (72, .invokespecial 42, 3), (75, .putfield 43, 3), (78, .iconst 0, 1), (79, .istore_n 1, 1), (80, .iload_n 1, 1), (81, .aload_n 0, 1), (82, .getfield 20, 3), (85, .arraylength, 1), (86, .if_icmp .ge 22, 3), (89, .aload_n 0, 1), (90, .getfield 20, 3), (93, .iload_n 1, 1), (94, .new 18, 3), (97, .dup, 1), (98, .invokespecial 37, 3), (101, .aastore, 1), (102, .iinc 1 1, 3), (105, .goto (-25), 3), (108, .iconst 0, 1), (109, .istore_n 1, 1), (110, .iload_n 1, 1), (111, .aload_n 0, 1), (112, .getfield 26, 3), (115, .arraylength, 1), (116, .if_icmp .ge 22, 3), (119, .aload_n 0, 1), (120, .getfield 26, 3), (123, .iload_n 1, 1), (124, .new 24, 3), (127, .dup, 1), (128, .invokespecial 42, 3), (131, .aastore, 1), (132, .iinc 1 1, 3), (135, .goto (-25), 3), (138, .return_, 1)]
set_option maxRecDepth 100000 in
theorem qX0_init : ∀ q ∈ tX0_init, decode cX0_init q.1 = .ok (q.2.1, q.2.2) := by decide +kernel
noncomputable def kX0_init_80 (d : Nat) (p0 : Nat) (i1 : Int32) (h : jm_H) : Option jm_R := jm_B d mX0_init (80, [some (.ref p0), some (.int i1)], []) h
noncomputable def kX0_init_110 (d : Nat) (p0 : Nat) (i1 : Int32) (h : jm_H) : Option jm_R := jm_B d mX0_init (110, [some (.ref p0), some (.int i1)], []) h
theorem gX0_init_80 {d : Nat} {p0 : Nat} {i1 : Int32} {h : jm_H} {r : jm_R} (H : ((jr_R h p0 0 6 2).bind fun a56 => (jm_len h a56).bind fun n58 => (if i1 < (Int32.ofNat n58) then (jr_R h p0 0 6 2).bind fun a61 => jl_new h 3 [.int 0, .null, .null, .null, .null] 5 fun a63 h64 => jm_U a63 (jc_V (jm_D d mX3_init [.ref a63] h64) (fun h67 => (jm_asr h67 a61 i1 a63).bind fun h69 => kX0_init_80 d p0 (i1 + 1) h69) (fun _ _ => none)) else kX0_init_110 d p0 0 h)) = some r) : kX0_init_80 d p0 i1 h = some r := by
  show jm_B d mX0_init (80, [some (.ref p0), some (.int i1)], []) h = some r
  refine Eq.trans (jb_nx (i := .iload_n 1) (n := 1) (q := (81, [some (.ref p0), some (.int i1)], [.int i1])) (jq qX0_init 38 rfl) rfl) ?_
  refine Eq.trans (jb_nx (i := .aload_n 0) (n := 1) (q := (82, [some (.ref p0), some (.int i1)], [.ref p0, .int i1])) (jq qX0_init 39 rfl) rfl) ?_
  obtain ⟨a56, e57, H⟩ := jbd H
  refine Eq.trans (jb_nx (i := .getfield 20) (n := 3) (q := (85, [some (.ref p0), some (.int i1)], [.ref a56, .int i1])) (jq qX0_init 40 rfl) (jo_gf rfl (jr_R_inv e57))) ?_
  obtain ⟨n58, e59, H⟩ := jbd H
  refine Eq.trans (jb_nx (i := .arraylength) (n := 1) (q := (86, [some (.ref p0), some (.int i1)], [.int (Int32.ofNat n58), .int i1])) (jq qX0_init 41 rfl) (jo_len e59)) ?_
  by_cases c60 : i1 < (Int32.ofNat n58)
  · rw [if_pos c60] at H
    refine Eq.trans (jb_nx (i := .if_icmp .ge 22) (n := 3) (q := (89, [some (.ref p0), some (.int i1)], [])) (jq qX0_init 42 rfl) (jo_icF (jz_geF c60))) ?_
    refine Eq.trans (jb_nx (i := .aload_n 0) (n := 1) (q := (90, [some (.ref p0), some (.int i1)], [.ref p0])) (jq qX0_init 43 rfl) rfl) ?_
    obtain ⟨a61, e62, H⟩ := jbd H
    refine Eq.trans (jb_nx (i := .getfield 20) (n := 3) (q := (93, [some (.ref p0), some (.int i1)], [.ref a61])) (jq qX0_init 44 rfl) (jo_gf rfl (jr_R_inv e62))) ?_
    refine Eq.trans (jb_nx (i := .iload_n 1) (n := 1) (q := (94, [some (.ref p0), some (.int i1)], [.int i1, .ref a61])) (jq qX0_init 45 rfl) rfl) ?_
    obtain ⟨a63, h64, e65, e66, H⟩ := jl_new_inv H
    refine Eq.trans (jb_nx (i := .new 18) (n := 3) (q := (97, [some (.ref p0), some (.int i1)], [.ref a63, .int i1, .ref a61])) (jq qX0_init 46 rfl) (jo_newo rfl (by decide) rfl rfl e65 e66)) ?_
    refine Eq.trans (jb_nx (i := .dup) (n := 1) (q := (98, [some (.ref p0), some (.int i1)], [.ref a63, .ref a63, .int i1, .ref a61])) (jq qX0_init 47 rfl) rfl) ?_
    obtain ⟨u71, H⟩ := jm_U_inv H
    rcases jcV H with ⟨h67, r68, H⟩ | ⟨_, _, _, H⟩
    · refine Eq.trans (jb_nx (i := .invokespecial 37) (n := 3) (q := (101, [some (.ref p0), some (.int i1)], [.ref a63, .int i1, .ref a61])) (jq qX0_init 48 rfl) (jo_ci (y := mX3_init) (w := 2) (by decide) rfl (Nat.le_of_ble_eq_true rfl) rfl (Nat.le_of_ble_eq_true rfl) u71 rfl r68)) ?_
      obtain ⟨h69, e70, H⟩ := jbd H
      refine Eq.trans (jb_nx (i := .aastore) (n := 1) (q := (102, [some (.ref p0), some (.int i1)], [])) (jq qX0_init 49 rfl) (jo_ras e70)) ?_
      refine Eq.trans (jb_nx (i := .iinc 1 1) (n := 3) (q := (105, [some (.ref p0), some (.int (i1 + 1))], [])) (jq qX0_init 50 rfl) rfl) ?_
      refine Eq.trans (jb_nx (i := .goto (-25)) (n := 3) (q := (80, [some (.ref p0), some (.int (i1 + 1))], [])) (jq qX0_init 51 rfl) rfl) ?_
      exact H
    · cases H
  · rw [if_neg c60] at H
    refine Eq.trans (jb_nx (i := .if_icmp .ge 22) (n := 3) (q := (108, [some (.ref p0), some (.int i1)], [])) (jq qX0_init 42 rfl) (jo_icT (jz_geT c60) rfl)) ?_
    refine Eq.trans (jb_nx (i := .iconst 0) (n := 1) (q := (109, [some (.ref p0), some (.int i1)], [.int 0])) (jq qX0_init 52 rfl) rfl) ?_
    refine Eq.trans (jb_nx (i := .istore_n 1) (n := 1) (q := (110, [some (.ref p0), some (.int 0)], [])) (jq qX0_init 53 rfl) rfl) ?_
    exact H
theorem gX0_init_110 {d : Nat} {p0 : Nat} {i1 : Int32} {h : jm_H} {r : jm_R} (H : ((jr_R h p0 0 7 2).bind fun a72 => (jm_len h a72).bind fun n74 => (if i1 < (Int32.ofNat n74) then (jr_R h p0 0 7 2).bind fun a77 => jl_new h 2 [.int 0, .int 0, .int 0, .int 0] 4 fun a79 h80 => jm_U a79 (jc_V (jm_D d mX2_init [.ref a79] h80) (fun h83 => (jm_asr h83 a77 i1 a79).bind fun h85 => kX0_init_110 d p0 (i1 + 1) h85) (fun _ _ => none)) else some (.inl none, h))) = some r) : kX0_init_110 d p0 i1 h = some r := by
  show jm_B d mX0_init (110, [some (.ref p0), some (.int i1)], []) h = some r
  refine Eq.trans (jb_nx (i := .iload_n 1) (n := 1) (q := (111, [some (.ref p0), some (.int i1)], [.int i1])) (jq qX0_init 54 rfl) rfl) ?_
  refine Eq.trans (jb_nx (i := .aload_n 0) (n := 1) (q := (112, [some (.ref p0), some (.int i1)], [.ref p0, .int i1])) (jq qX0_init 55 rfl) rfl) ?_
  obtain ⟨a72, e73, H⟩ := jbd H
  refine Eq.trans (jb_nx (i := .getfield 26) (n := 3) (q := (115, [some (.ref p0), some (.int i1)], [.ref a72, .int i1])) (jq qX0_init 56 rfl) (jo_gf rfl (jr_R_inv e73))) ?_
  obtain ⟨n74, e75, H⟩ := jbd H
  refine Eq.trans (jb_nx (i := .arraylength) (n := 1) (q := (116, [some (.ref p0), some (.int i1)], [.int (Int32.ofNat n74), .int i1])) (jq qX0_init 57 rfl) (jo_len e75)) ?_
  by_cases c76 : i1 < (Int32.ofNat n74)
  · rw [if_pos c76] at H
    refine Eq.trans (jb_nx (i := .if_icmp .ge 22) (n := 3) (q := (119, [some (.ref p0), some (.int i1)], [])) (jq qX0_init 58 rfl) (jo_icF (jz_geF c76))) ?_
    refine Eq.trans (jb_nx (i := .aload_n 0) (n := 1) (q := (120, [some (.ref p0), some (.int i1)], [.ref p0])) (jq qX0_init 59 rfl) rfl) ?_
    obtain ⟨a77, e78, H⟩ := jbd H
    refine Eq.trans (jb_nx (i := .getfield 26) (n := 3) (q := (123, [some (.ref p0), some (.int i1)], [.ref a77])) (jq qX0_init 60 rfl) (jo_gf rfl (jr_R_inv e78))) ?_
    refine Eq.trans (jb_nx (i := .iload_n 1) (n := 1) (q := (124, [some (.ref p0), some (.int i1)], [.int i1, .ref a77])) (jq qX0_init 61 rfl) rfl) ?_
    obtain ⟨a79, h80, e81, e82, H⟩ := jl_new_inv H
    refine Eq.trans (jb_nx (i := .new 24) (n := 3) (q := (127, [some (.ref p0), some (.int i1)], [.ref a79, .int i1, .ref a77])) (jq qX0_init 62 rfl) (jo_newo rfl (by decide) rfl rfl e81 e82)) ?_
    refine Eq.trans (jb_nx (i := .dup) (n := 1) (q := (128, [some (.ref p0), some (.int i1)], [.ref a79, .ref a79, .int i1, .ref a77])) (jq qX0_init 63 rfl) rfl) ?_
    obtain ⟨u87, H⟩ := jm_U_inv H
    rcases jcV H with ⟨h83, r84, H⟩ | ⟨_, _, _, H⟩
    · refine Eq.trans (jb_nx (i := .invokespecial 42) (n := 3) (q := (131, [some (.ref p0), some (.int i1)], [.ref a79, .int i1, .ref a77])) (jq qX0_init 64 rfl) (jo_ci (y := mX2_init) (w := 2) (by decide) rfl (Nat.le_of_ble_eq_true rfl) rfl (Nat.le_of_ble_eq_true rfl) u87 rfl r84)) ?_
      obtain ⟨h85, e86, H⟩ := jbd H
      refine Eq.trans (jb_nx (i := .aastore) (n := 1) (q := (132, [some (.ref p0), some (.int i1)], [])) (jq qX0_init 65 rfl) (jo_ras e86)) ?_
      refine Eq.trans (jb_nx (i := .iinc 1 1) (n := 3) (q := (135, [some (.ref p0), some (.int (i1 + 1))], [])) (jq qX0_init 66 rfl) rfl) ?_
      refine Eq.trans (jb_nx (i := .goto (-25)) (n := 3) (q := (110, [some (.ref p0), some (.int (i1 + 1))], [])) (jq qX0_init 67 rfl) rfl) ?_
      exact H
    · cases H
  · rw [if_neg c76] at H
    refine Eq.trans (jb_nx (i := .if_icmp .ge 22) (n := 3) (q := (138, [some (.ref p0), some (.int i1)], [])) (jq qX0_init 58 rfl) (jo_icT (jz_geT c76) rfl)) ?_
    exact Eq.trans (jb_rt (i := .return_) (n := 1) (jq qX0_init 68 rfl) rfl) H
theorem gX0_init {d : Nat} {p0 : Nat} {h : jm_H} {r : jm_R} (H : (jm_U p0 (jl_newa h 1 8 fun a2 h3 => (jm_pf h3 p0 0 4 2 (.ref a2)).bind fun h6 => jl_newa h6 1 12 fun a8 h9 => (jm_pf h9 p0 0 5 2 (.ref a8)).bind fun h12 => jl_newa h12 5 12 fun a14 h15 => (jm_pf h15 p0 0 6 2 (.ref a14)).bind fun h18 => jl_newa h18 6 16 fun a20 h21 => (jm_pf h21 p0 0 7 2 (.ref a20)).bind fun h24 => jl_newa h24 0 400 fun a26 h27 => (jm_pf h27 p0 0 8 2 (.ref a26)).bind fun h30 => jl_newa h30 0 400 fun a32 h33 => (jm_pf h33 p0 0 9 2 (.ref a32)).bind fun h36 => jl_new h36 3 [.int 0, .null, .null, .null, .null] 5 fun a38 h39 => jm_U a38 (jc_V (jm_D d mX3_init [.ref a38] h39) (fun h42 => (jm_pf h42 p0 0 10 2 (.ref a38)).bind fun h44 => jl_new h44 2 [.int 0, .int 0, .int 0, .int 0] 4 fun a46 h47 => jm_U a46 (jc_V (jm_D d mX2_init [.ref a46] h47) (fun h50 => (jm_pf h50 p0 0 11 2 (.ref a46)).bind fun h52 => kX0_init_80 d p0 0 h52) (fun _ _ => none))) (fun _ _ => none)))) = some r) : jm_D (d + 1) mX0_init [.ref p0] h = some r := by
  rw [jm_D_body (Nat.le_of_ble_eq_true rfl)]
  show jm_B d mX0_init (0, [some (.ref p0), none], []) h = some r
  refine Eq.trans (jb_nx (i := .aload_n 0) (n := 1) (q := (1, [some (.ref p0), none], [.ref p0])) (jq qX0_init 0 rfl) rfl) ?_
  obtain ⟨u1, H⟩ := jm_U_inv H
  refine Eq.trans (jb_nx (i := .invokespecial 3) (n := 3) (q := (4, [some (.ref p0), none], [])) (jq qX0_init 1 rfl) (jo_oi (z := mX3_clear) rfl (Nat.le_of_ble_eq_true rfl) u1)) ?_
  refine Eq.trans (jb_nx (i := .aload_n 0) (n := 1) (q := (5, [some (.ref p0), none], [.ref p0])) (jq qX0_init 2 rfl) rfl) ?_
  refine Eq.trans (jb_nx (i := .bipush 8) (n := 2) (q := (7, [some (.ref p0), none], [.int 8, .ref p0])) (jq qX0_init 3 rfl) rfl) ?_
  obtain ⟨a2, h3, e4, e5, H⟩ := jl_newa_inv H
  refine Eq.trans (jb_nx (i := .newarray .long) (n := 2) (q := (9, [some (.ref p0), none], [.ref a2, .ref p0])) (jq qX0_init 4 rfl) (jo_newb rfl e4 e5)) ?_
  obtain ⟨h6, e7, H⟩ := jbd H
  refine Eq.trans (jb_nx (i := .putfield 9) (n := 3) (q := (12, [some (.ref p0), none], [])) (jq qX0_init 5 rfl) (jo_pf rfl (Or.inr ⟨rfl, rfl⟩) e7)) ?_
  refine Eq.trans (jb_nx (i := .aload_n 0) (n := 1) (q := (13, [some (.ref p0), none], [.ref p0])) (jq qX0_init 6 rfl) rfl) ?_
  refine Eq.trans (jb_nx (i := .bipush 12) (n := 2) (q := (15, [some (.ref p0), none], [.int 12, .ref p0])) (jq qX0_init 7 rfl) rfl) ?_
  obtain ⟨a8, h9, e10, e11, H⟩ := jl_newa_inv H
  refine Eq.trans (jb_nx (i := .newarray .long) (n := 2) (q := (17, [some (.ref p0), none], [.ref a8, .ref p0])) (jq qX0_init 8 rfl) (jo_newb rfl e10 e11)) ?_
  obtain ⟨h12, e13, H⟩ := jbd H
  refine Eq.trans (jb_nx (i := .putfield 15) (n := 3) (q := (20, [some (.ref p0), none], [])) (jq qX0_init 9 rfl) (jo_pf rfl (Or.inr ⟨rfl, rfl⟩) e13)) ?_
  refine Eq.trans (jb_nx (i := .aload_n 0) (n := 1) (q := (21, [some (.ref p0), none], [.ref p0])) (jq qX0_init 10 rfl) rfl) ?_
  refine Eq.trans (jb_nx (i := .bipush 12) (n := 2) (q := (23, [some (.ref p0), none], [.int 12, .ref p0])) (jq qX0_init 11 rfl) rfl) ?_
  obtain ⟨a14, h15, e16, e17, H⟩ := jl_newa_inv H
  refine Eq.trans (jb_nx (i := .anewarray 18) (n := 3) (q := (26, [some (.ref p0), none], [.ref a14, .ref p0])) (jq qX0_init 12 rfl) (jo_anewb rfl (by decide) e16 e17)) ?_
  obtain ⟨h18, e19, H⟩ := jbd H
  refine Eq.trans (jb_nx (i := .putfield 20) (n := 3) (q := (29, [some (.ref p0), none], [])) (jq qX0_init 13 rfl) (jo_pf rfl (Or.inr ⟨rfl, rfl⟩) e19)) ?_
  refine Eq.trans (jb_nx (i := .aload_n 0) (n := 1) (q := (30, [some (.ref p0), none], [.ref p0])) (jq qX0_init 14 rfl) rfl) ?_
  refine Eq.trans (jb_nx (i := .bipush 16) (n := 2) (q := (32, [some (.ref p0), none], [.int 16, .ref p0])) (jq qX0_init 15 rfl) rfl) ?_
  obtain ⟨a20, h21, e22, e23, H⟩ := jl_newa_inv H
  refine Eq.trans (jb_nx (i := .anewarray 24) (n := 3) (q := (35, [some (.ref p0), none], [.ref a20, .ref p0])) (jq qX0_init 16 rfl) (jo_anewb rfl (by decide) e22 e23)) ?_
  obtain ⟨h24, e25, H⟩ := jbd H
  refine Eq.trans (jb_nx (i := .putfield 26) (n := 3) (q := (38, [some (.ref p0), none], [])) (jq qX0_init 17 rfl) (jo_pf rfl (Or.inr ⟨rfl, rfl⟩) e25)) ?_
  refine Eq.trans (jb_nx (i := .aload_n 0) (n := 1) (q := (39, [some (.ref p0), none], [.ref p0])) (jq qX0_init 18 rfl) rfl) ?_
  refine Eq.trans (jb_nx (i := .sipush 400) (n := 3) (q := (42, [some (.ref p0), none], [.int 400, .ref p0])) (jq qX0_init 19 rfl) rfl) ?_
  obtain ⟨a26, h27, e28, e29, H⟩ := jl_newa_inv H
  refine Eq.trans (jb_nx (i := .newarray .int) (n := 2) (q := (44, [some (.ref p0), none], [.ref a26, .ref p0])) (jq qX0_init 20 rfl) (jo_newb rfl e28 e29)) ?_
  obtain ⟨h30, e31, H⟩ := jbd H
  refine Eq.trans (jb_nx (i := .putfield 30) (n := 3) (q := (47, [some (.ref p0), none], [])) (jq qX0_init 21 rfl) (jo_pf rfl (Or.inr ⟨rfl, rfl⟩) e31)) ?_
  refine Eq.trans (jb_nx (i := .aload_n 0) (n := 1) (q := (48, [some (.ref p0), none], [.ref p0])) (jq qX0_init 22 rfl) rfl) ?_
  refine Eq.trans (jb_nx (i := .sipush 400) (n := 3) (q := (51, [some (.ref p0), none], [.int 400, .ref p0])) (jq qX0_init 23 rfl) rfl) ?_
  obtain ⟨a32, h33, e34, e35, H⟩ := jl_newa_inv H
  refine Eq.trans (jb_nx (i := .newarray .int) (n := 2) (q := (53, [some (.ref p0), none], [.ref a32, .ref p0])) (jq qX0_init 24 rfl) (jo_newb rfl e34 e35)) ?_
  obtain ⟨h36, e37, H⟩ := jbd H
  refine Eq.trans (jb_nx (i := .putfield 34) (n := 3) (q := (56, [some (.ref p0), none], [])) (jq qX0_init 25 rfl) (jo_pf rfl (Or.inr ⟨rfl, rfl⟩) e37)) ?_
  refine Eq.trans (jb_nx (i := .aload_n 0) (n := 1) (q := (57, [some (.ref p0), none], [.ref p0])) (jq qX0_init 26 rfl) rfl) ?_
  obtain ⟨a38, h39, e40, e41, H⟩ := jl_new_inv H
  refine Eq.trans (jb_nx (i := .new 18) (n := 3) (q := (60, [some (.ref p0), none], [.ref a38, .ref p0])) (jq qX0_init 27 rfl) (jo_newo rfl (by decide) rfl rfl e40 e41)) ?_
  refine Eq.trans (jb_nx (i := .dup) (n := 1) (q := (61, [some (.ref p0), none], [.ref a38, .ref a38, .ref p0])) (jq qX0_init 28 rfl) rfl) ?_
  obtain ⟨u55, H⟩ := jm_U_inv H
  rcases jcV H with ⟨h42, r43, H⟩ | ⟨_, _, _, H⟩
  · refine Eq.trans (jb_nx (i := .invokespecial 37) (n := 3) (q := (64, [some (.ref p0), none], [.ref a38, .ref p0])) (jq qX0_init 29 rfl) (jo_ci (y := mX3_init) (w := 2) (by decide) rfl (Nat.le_of_ble_eq_true rfl) rfl (Nat.le_of_ble_eq_true rfl) u55 rfl r43)) ?_
    obtain ⟨h44, e45, H⟩ := jbd H
    refine Eq.trans (jb_nx (i := .putfield 38) (n := 3) (q := (67, [some (.ref p0), none], [])) (jq qX0_init 30 rfl) (jo_pf rfl (Or.inr ⟨rfl, rfl⟩) e45)) ?_
    refine Eq.trans (jb_nx (i := .aload_n 0) (n := 1) (q := (68, [some (.ref p0), none], [.ref p0])) (jq qX0_init 31 rfl) rfl) ?_
    obtain ⟨a46, h47, e48, e49, H⟩ := jl_new_inv H
    refine Eq.trans (jb_nx (i := .new 24) (n := 3) (q := (71, [some (.ref p0), none], [.ref a46, .ref p0])) (jq qX0_init 32 rfl) (jo_newo rfl (by decide) rfl rfl e48 e49)) ?_
    refine Eq.trans (jb_nx (i := .dup) (n := 1) (q := (72, [some (.ref p0), none], [.ref a46, .ref a46, .ref p0])) (jq qX0_init 33 rfl) rfl) ?_
    obtain ⟨u54, H⟩ := jm_U_inv H
    rcases jcV H with ⟨h50, r51, H⟩ | ⟨_, _, _, H⟩
    · refine Eq.trans (jb_nx (i := .invokespecial 42) (n := 3) (q := (75, [some (.ref p0), none], [.ref a46, .ref p0])) (jq qX0_init 34 rfl) (jo_ci (y := mX2_init) (w := 2) (by decide) rfl (Nat.le_of_ble_eq_true rfl) rfl (Nat.le_of_ble_eq_true rfl) u54 rfl r51)) ?_
      obtain ⟨h52, e53, H⟩ := jbd H
      refine Eq.trans (jb_nx (i := .putfield 43) (n := 3) (q := (78, [some (.ref p0), none], [])) (jq qX0_init 35 rfl) (jo_pf rfl (Or.inr ⟨rfl, rfl⟩) e53)) ?_
      refine Eq.trans (jb_nx (i := .iconst 0) (n := 1) (q := (79, [some (.ref p0), none], [.int 0])) (jq qX0_init 36 rfl) rfl) ?_
      refine Eq.trans (jb_nx (i := .istore_n 1) (n := 1) (q := (80, [some (.ref p0), some (.int 0)], [])) (jq qX0_init 37 rfl) rfl) ?_
      exact H
    · cases H
  · cases H
/-! MaskPlays$Book clear ()V -/
def tX0_clear : List (Nat × Instr × Nat) := [(0, .aload_n 0, 1), (1, .iconst 0, 1), (2, .putfield 47, 3), (5, .aload_n 0, 1), (6, .iconst 0, 1), (7, .putfield 51, 3), (10, .aload_n 0, 1), (11, .iconst 0, 1), (12, .putfield 54, 3), (15, .aload_n 0, 1), (16, .iconst 0, 1), (17, .putfield 57, 3), (20, .return_, 1)]
set_option maxRecDepth 100000 in
theorem qX0_clear : ∀ q ∈ tX0_clear, decode cX0_clear q.1 = .ok (q.2.1, q.2.2) := by decide +kernel
theorem gX0_clear {d : Nat} {p0 : Nat} {h : jm_H} {r : jm_R} (H : ((jm_pf h p0 0 0 0 (.int 0)).bind fun h1 => (jm_pf h1 p0 0 1 0 (.int 0)).bind fun h3 => (jm_pf h3 p0 0 2 0 (.int 0)).bind fun h5 => (jm_pf h5 p0 0 3 0 (.int 0)).bind fun h7 => some (.inl none, h7)) = some r) : jm_D (d + 1) mX0_clear [.ref p0] h = some r := by
  rw [jm_D_body (Nat.le_of_ble_eq_true rfl)]
  show jm_B d mX0_clear (0, [some (.ref p0)], []) h = some r
  refine Eq.trans (jb_nx (i := .aload_n 0) (n := 1) (q := (1, [some (.ref p0)], [.ref p0])) (jq qX0_clear 0 rfl) rfl) ?_
  refine Eq.trans (jb_nx (i := .iconst 0) (n := 1) (q := (2, [some (.ref p0)], [.int 0, .ref p0])) (jq qX0_clear 1 rfl) rfl) ?_
  obtain ⟨h1, e2, H⟩ := jbd H
  refine Eq.trans (jb_nx (i := .putfield 47) (n := 3) (q := (5, [some (.ref p0)], [])) (jq qX0_clear 2 rfl) (jo_pf rfl (Or.inl rfl) e2)) ?_
  refine Eq.trans (jb_nx (i := .aload_n 0) (n := 1) (q := (6, [some (.ref p0)], [.ref p0])) (jq qX0_clear 3 rfl) rfl) ?_
  refine Eq.trans (jb_nx (i := .iconst 0) (n := 1) (q := (7, [some (.ref p0)], [.int 0, .ref p0])) (jq qX0_clear 4 rfl) rfl) ?_
  obtain ⟨h3, e4, H⟩ := jbd H
  refine Eq.trans (jb_nx (i := .putfield 51) (n := 3) (q := (10, [some (.ref p0)], [])) (jq qX0_clear 5 rfl) (jo_pf rfl (Or.inl rfl) e4)) ?_
  refine Eq.trans (jb_nx (i := .aload_n 0) (n := 1) (q := (11, [some (.ref p0)], [.ref p0])) (jq qX0_clear 6 rfl) rfl) ?_
  refine Eq.trans (jb_nx (i := .iconst 0) (n := 1) (q := (12, [some (.ref p0)], [.int 0, .ref p0])) (jq qX0_clear 7 rfl) rfl) ?_
  obtain ⟨h5, e6, H⟩ := jbd H
  refine Eq.trans (jb_nx (i := .putfield 54) (n := 3) (q := (15, [some (.ref p0)], [])) (jq qX0_clear 8 rfl) (jo_pf rfl (Or.inl rfl) e6)) ?_
  refine Eq.trans (jb_nx (i := .aload_n 0) (n := 1) (q := (16, [some (.ref p0)], [.ref p0])) (jq qX0_clear 9 rfl) rfl) ?_
  refine Eq.trans (jb_nx (i := .iconst 0) (n := 1) (q := (17, [some (.ref p0)], [.int 0, .ref p0])) (jq qX0_clear 10 rfl) rfl) ?_
  obtain ⟨h7, e8, H⟩ := jbd H
  refine Eq.trans (jb_nx (i := .putfield 57) (n := 3) (q := (20, [some (.ref p0)], [])) (jq qX0_clear 11 rfl) (jo_pf rfl (Or.inl rfl) e8)) ?_
  exact Eq.trans (jb_rt (i := .return_) (n := 1) (jq qX0_clear 12 rfl) rfl) H
/-! MaskPlays$Book addCode (II)V -/
def tX0_addCode : List (Nat × Instr × Nat) := [(0, .aload_n 0, 1), (1, .getfield 57, 3), (4, .ifCond .lt 45, 3), (7, .aload_n 0, 1), (8, .getfield 57, 3), (11, .aload_n 0, 1), (12, .getfield 30, 3), (15, .arraylength, 1), (16, .if_icmp .ge 33, 3), (19, .aload_n 0, 1), (20, .getfield 30, 3), (23, .aload_n 0, 1), (24, .getfield 57, 3), (27, .iload_n 1, 1), (28, .iastore, 1), (29, .aload_n 0, 1), (30, .getfield 34, 3), (33, .aload_n 0, 1), (34, .getfield 57, 3), (37, .iload_n 2, 1), (38, .iastore, 1), (39, .aload_n 0, 1), (40, .dup, 1), (41, .getfield 57, 3), (44, .iconst 1, 1), (45, .iadd, 1), (46, .putfield 57, 3), (49, .return_, 1)]
set_option maxRecDepth 100000 in
theorem qX0_addCode : ∀ q ∈ tX0_addCode, decode cX0_addCode q.1 = .ok (q.2.1, q.2.2) := by decide +kernel
theorem gX0_addCode {d : Nat} {p0 : Nat} {i1 : Int32} {i2 : Int32} {h : jm_H} {r : jm_R} (H : ((jr_I h p0 0 3 0).bind fun x1 => (if x1 < 0 then some (.inl none, h) else (jr_I h p0 0 3 0).bind fun x4 => (jr_R h p0 0 8 2).bind fun a6 => (jm_len h a6).bind fun n8 => (if x4 < (Int32.ofNat n8) then (jr_R h p0 0 8 2).bind fun a11 => (jr_I h p0 0 3 0).bind fun x13 => (jm_asi h a11 0 x13 i1).bind fun h15 => (jr_R h15 p0 0 9 2).bind fun a17 => (jr_I h15 p0 0 3 0).bind fun x19 => (jm_asi h15 a17 0 x19 i2).bind fun h21 => (jr_I h21 p0 0 3 0).bind fun x23 => (jm_pf h21 p0 0 3 0 (.int (x23 + 1))).bind fun h25 => some (.inl none, h25) else some (.inl none, h)))) = some r) : jm_D (d + 1) mX0_addCode [.ref p0, .int i1, .int i2] h = some r := by
  rw [jm_D_body (Nat.le_of_ble_eq_true rfl)]
  show jm_B d mX0_addCode (0, [some (.ref p0), some (.int i1), some (.int i2)], []) h = some r
  refine Eq.trans (jb_nx (i := .aload_n 0) (n := 1) (q := (1, [some (.ref p0), some (.int i1), some (.int i2)], [.ref p0])) (jq qX0_addCode 0 rfl) rfl) ?_
  obtain ⟨x1, e2, H⟩ := jbd H
  refine Eq.trans (jb_nx (i := .getfield 57) (n := 3) (q := (4, [some (.ref p0), some (.int i1), some (.int i2)], [.int x1])) (jq qX0_addCode 1 rfl) (jo_gf rfl (jr_I_inv e2))) ?_
  by_cases c3 : x1 < 0
  · rw [if_pos c3] at H
    refine Eq.trans (jb_nx (i := .ifCond .lt 45) (n := 3) (q := (49, [some (.ref p0), some (.int i1), some (.int i2)], [])) (jq qX0_addCode 2 rfl) (jo_ifT (jz_ltT c3) rfl)) ?_
    exact Eq.trans (jb_rt (i := .return_) (n := 1) (jq qX0_addCode 27 rfl) rfl) H
  · rw [if_neg c3] at H
    refine Eq.trans (jb_nx (i := .ifCond .lt 45) (n := 3) (q := (7, [some (.ref p0), some (.int i1), some (.int i2)], [])) (jq qX0_addCode 2 rfl) (jo_ifF (jz_ltF c3))) ?_
    refine Eq.trans (jb_nx (i := .aload_n 0) (n := 1) (q := (8, [some (.ref p0), some (.int i1), some (.int i2)], [.ref p0])) (jq qX0_addCode 3 rfl) rfl) ?_
    obtain ⟨x4, e5, H⟩ := jbd H
    refine Eq.trans (jb_nx (i := .getfield 57) (n := 3) (q := (11, [some (.ref p0), some (.int i1), some (.int i2)], [.int x4])) (jq qX0_addCode 4 rfl) (jo_gf rfl (jr_I_inv e5))) ?_
    refine Eq.trans (jb_nx (i := .aload_n 0) (n := 1) (q := (12, [some (.ref p0), some (.int i1), some (.int i2)], [.ref p0, .int x4])) (jq qX0_addCode 5 rfl) rfl) ?_
    obtain ⟨a6, e7, H⟩ := jbd H
    refine Eq.trans (jb_nx (i := .getfield 30) (n := 3) (q := (15, [some (.ref p0), some (.int i1), some (.int i2)], [.ref a6, .int x4])) (jq qX0_addCode 6 rfl) (jo_gf rfl (jr_R_inv e7))) ?_
    obtain ⟨n8, e9, H⟩ := jbd H
    refine Eq.trans (jb_nx (i := .arraylength) (n := 1) (q := (16, [some (.ref p0), some (.int i1), some (.int i2)], [.int (Int32.ofNat n8), .int x4])) (jq qX0_addCode 7 rfl) (jo_len e9)) ?_
    by_cases c10 : x4 < (Int32.ofNat n8)
    · rw [if_pos c10] at H
      refine Eq.trans (jb_nx (i := .if_icmp .ge 33) (n := 3) (q := (19, [some (.ref p0), some (.int i1), some (.int i2)], [])) (jq qX0_addCode 8 rfl) (jo_icF (jz_geF c10))) ?_
      refine Eq.trans (jb_nx (i := .aload_n 0) (n := 1) (q := (20, [some (.ref p0), some (.int i1), some (.int i2)], [.ref p0])) (jq qX0_addCode 9 rfl) rfl) ?_
      obtain ⟨a11, e12, H⟩ := jbd H
      refine Eq.trans (jb_nx (i := .getfield 30) (n := 3) (q := (23, [some (.ref p0), some (.int i1), some (.int i2)], [.ref a11])) (jq qX0_addCode 10 rfl) (jo_gf rfl (jr_R_inv e12))) ?_
      refine Eq.trans (jb_nx (i := .aload_n 0) (n := 1) (q := (24, [some (.ref p0), some (.int i1), some (.int i2)], [.ref p0, .ref a11])) (jq qX0_addCode 11 rfl) rfl) ?_
      obtain ⟨x13, e14, H⟩ := jbd H
      refine Eq.trans (jb_nx (i := .getfield 57) (n := 3) (q := (27, [some (.ref p0), some (.int i1), some (.int i2)], [.int x13, .ref a11])) (jq qX0_addCode 12 rfl) (jo_gf rfl (jr_I_inv e14))) ?_
      refine Eq.trans (jb_nx (i := .iload_n 1) (n := 1) (q := (28, [some (.ref p0), some (.int i1), some (.int i2)], [.int i1, .int x13, .ref a11])) (jq qX0_addCode 13 rfl) rfl) ?_
      obtain ⟨h15, e16, H⟩ := jbd H
      refine Eq.trans (jb_nx (i := .iastore) (n := 1) (q := (29, [some (.ref p0), some (.int i1), some (.int i2)], [])) (jq qX0_addCode 14 rfl) (jo_ias e16)) ?_
      refine Eq.trans (jb_nx (i := .aload_n 0) (n := 1) (q := (30, [some (.ref p0), some (.int i1), some (.int i2)], [.ref p0])) (jq qX0_addCode 15 rfl) rfl) ?_
      obtain ⟨a17, e18, H⟩ := jbd H
      refine Eq.trans (jb_nx (i := .getfield 34) (n := 3) (q := (33, [some (.ref p0), some (.int i1), some (.int i2)], [.ref a17])) (jq qX0_addCode 16 rfl) (jo_gf rfl (jr_R_inv e18))) ?_
      refine Eq.trans (jb_nx (i := .aload_n 0) (n := 1) (q := (34, [some (.ref p0), some (.int i1), some (.int i2)], [.ref p0, .ref a17])) (jq qX0_addCode 17 rfl) rfl) ?_
      obtain ⟨x19, e20, H⟩ := jbd H
      refine Eq.trans (jb_nx (i := .getfield 57) (n := 3) (q := (37, [some (.ref p0), some (.int i1), some (.int i2)], [.int x19, .ref a17])) (jq qX0_addCode 18 rfl) (jo_gf rfl (jr_I_inv e20))) ?_
      refine Eq.trans (jb_nx (i := .iload_n 2) (n := 1) (q := (38, [some (.ref p0), some (.int i1), some (.int i2)], [.int i2, .int x19, .ref a17])) (jq qX0_addCode 19 rfl) rfl) ?_
      obtain ⟨h21, e22, H⟩ := jbd H
      refine Eq.trans (jb_nx (i := .iastore) (n := 1) (q := (39, [some (.ref p0), some (.int i1), some (.int i2)], [])) (jq qX0_addCode 20 rfl) (jo_ias e22)) ?_
      refine Eq.trans (jb_nx (i := .aload_n 0) (n := 1) (q := (40, [some (.ref p0), some (.int i1), some (.int i2)], [.ref p0])) (jq qX0_addCode 21 rfl) rfl) ?_
      refine Eq.trans (jb_nx (i := .dup) (n := 1) (q := (41, [some (.ref p0), some (.int i1), some (.int i2)], [.ref p0, .ref p0])) (jq qX0_addCode 22 rfl) rfl) ?_
      obtain ⟨x23, e24, H⟩ := jbd H
      refine Eq.trans (jb_nx (i := .getfield 57) (n := 3) (q := (44, [some (.ref p0), some (.int i1), some (.int i2)], [.int x23, .ref p0])) (jq qX0_addCode 23 rfl) (jo_gf rfl (jr_I_inv e24))) ?_
      refine Eq.trans (jb_nx (i := .iconst 1) (n := 1) (q := (45, [some (.ref p0), some (.int i1), some (.int i2)], [.int 1, .int x23, .ref p0])) (jq qX0_addCode 24 rfl) rfl) ?_
      refine Eq.trans (jb_nx (i := .iadd) (n := 1) (q := (46, [some (.ref p0), some (.int i1), some (.int i2)], [.int (x23 + 1), .ref p0])) (jq qX0_addCode 25 rfl) rfl) ?_
      obtain ⟨h25, e26, H⟩ := jbd H
      refine Eq.trans (jb_nx (i := .putfield 57) (n := 3) (q := (49, [some (.ref p0), some (.int i1), some (.int i2)], [])) (jq qX0_addCode 26 rfl) (jo_pf rfl (Or.inl rfl) e26)) ?_
      exact Eq.trans (jb_rt (i := .return_) (n := 1) (jq qX0_addCode 27 rfl) rfl) H
    · rw [if_neg c10] at H
      refine Eq.trans (jb_nx (i := .if_icmp .ge 33) (n := 3) (q := (49, [some (.ref p0), some (.int i1), some (.int i2)], [])) (jq qX0_addCode 8 rfl) (jo_icT (jz_geT c10) rfl)) ?_
      exact Eq.trans (jb_rt (i := .return_) (n := 1) (jq qX0_addCode 27 rfl) rfl) H
/-! MaskPlays$Book knows (J)Z -/
def tX0_knows : List (Nat × Instr × Nat) := [(0, .aload_n 0, 1), (1, .lload_n 1, 1), (2, .invokevirtual 76, 3), (5, .ifCond .ge 11, 3), (8, .aload_n 0, 1), (9, .lload_n 1, 1), (10, .invokevirtual 80, 3), (13, .ifCond .lt 7, 3), (16, .iconst 1, 1), (17, .goto 4, 3), (20, .iconst 0, 1), (21, .ireturn, 1)]
set_option maxRecDepth 100000 in
theorem qX0_knows : ∀ q ∈ tX0_knows, decode cX0_knows q.1 = .ok (q.2.1, q.2.2) := by decide +kernel
theorem gX0_knows {d : Nat} {p0 : Nat} {j1 : Int64} {h : jm_H} {r : jm_R} (H : (jm_O h p0 0 (jc_I (jm_D d mX0_actorOf [.ref p0, .long j1] h) (fun x3 h1 => (if x3 < 0 then jm_O h1 p0 0 (jc_I (jm_D d mX0_playOf [.ref p0, .long j1] h1) (fun x7 h5 => (if x7 < 0 then some (.inl (some (.int 0)), h5) else some (.inl (some (.int 1)), h5))) jx) else some (.inl (some (.int 1)), h1))) jx)) = some r) : jm_D (d + 1) mX0_knows [.ref p0, .long j1] h = some r := by
  rw [jm_D_body (Nat.le_of_ble_eq_true rfl)]
  show jm_B d mX0_knows (0, [some (.ref p0), some (.long j1), none], []) h = some r
  refine Eq.trans (jb_nx (i := .aload_n 0) (n := 1) (q := (1, [some (.ref p0), some (.long j1), none], [.ref p0])) (jq qX0_knows 0 rfl) rfl) ?_
  refine Eq.trans (jb_nx (i := .lload_n 1) (n := 1) (q := (2, [some (.ref p0), some (.long j1), none], [.long j1, .ref p0])) (jq qX0_knows 1 rfl) rfl) ?_
  obtain ⟨b12, H⟩ := jm_O_inv H
  rcases jcI H with ⟨x3, h1, r2, H⟩ | ⟨w13, h14, r2, H⟩
  · refine Eq.trans (jb_nx (i := .invokevirtual 76) (n := 3) (q := (5, [some (.ref p0), some (.long j1), none], [.int x3])) (jq qX0_knows 2 rfl) (jo_cv (y := mX0_actorOf) rfl (Nat.le_of_ble_eq_true rfl) rfl (Nat.le_of_ble_eq_true rfl) b12 rfl r2 jo_ret)) ?_
    by_cases c4 : x3 < 0
    · rw [if_pos c4] at H
      refine Eq.trans (jb_nx (i := .ifCond .ge 11) (n := 3) (q := (8, [some (.ref p0), some (.long j1), none], [])) (jq qX0_knows 3 rfl) (jo_ifF (jz_geF c4))) ?_
      refine Eq.trans (jb_nx (i := .aload_n 0) (n := 1) (q := (9, [some (.ref p0), some (.long j1), none], [.ref p0])) (jq qX0_knows 4 rfl) rfl) ?_
      refine Eq.trans (jb_nx (i := .lload_n 1) (n := 1) (q := (10, [some (.ref p0), some (.long j1), none], [.long j1, .ref p0])) (jq qX0_knows 5 rfl) rfl) ?_
      obtain ⟨b9, H⟩ := jm_O_inv H
      rcases jcI H with ⟨x7, h5, r6, H⟩ | ⟨w10, h11, r6, H⟩
      · refine Eq.trans (jb_nx (i := .invokevirtual 80) (n := 3) (q := (13, [some (.ref p0), some (.long j1), none], [.int x7])) (jq qX0_knows 6 rfl) (jo_cv (y := mX0_playOf) rfl (Nat.le_of_ble_eq_true rfl) rfl (Nat.le_of_ble_eq_true rfl) b9 rfl r6 jo_ret)) ?_
        by_cases c8 : x7 < 0
        · rw [if_pos c8] at H
          refine Eq.trans (jb_nx (i := .ifCond .lt 7) (n := 3) (q := (20, [some (.ref p0), some (.long j1), none], [])) (jq qX0_knows 7 rfl) (jo_ifT (jz_ltT c8) rfl)) ?_
          refine Eq.trans (jb_nx (i := .iconst 0) (n := 1) (q := (21, [some (.ref p0), some (.long j1), none], [.int 0])) (jq qX0_knows 10 rfl) rfl) ?_
          exact Eq.trans (jb_rt (i := .ireturn) (n := 1) (jq qX0_knows 11 rfl) (jo_iret rfl (by decide))) H
        · rw [if_neg c8] at H
          refine Eq.trans (jb_nx (i := .ifCond .lt 7) (n := 3) (q := (16, [some (.ref p0), some (.long j1), none], [])) (jq qX0_knows 7 rfl) (jo_ifF (jz_ltF c8))) ?_
          refine Eq.trans (jb_nx (i := .iconst 1) (n := 1) (q := (17, [some (.ref p0), some (.long j1), none], [.int 1])) (jq qX0_knows 8 rfl) rfl) ?_
          refine Eq.trans (jb_nx (i := .goto 4) (n := 3) (q := (21, [some (.ref p0), some (.long j1), none], [.int 1])) (jq qX0_knows 9 rfl) rfl) ?_
          exact Eq.trans (jb_rt (i := .ireturn) (n := 1) (jq qX0_knows 11 rfl) (jo_iret rfl (by decide))) H
      · exact Eq.trans (jb_rt (i := .invokevirtual 80) (n := 3) (jq qX0_knows 6 rfl) (jo_cv (y := mX0_playOf) rfl (Nat.le_of_ble_eq_true rfl) rfl (Nat.le_of_ble_eq_true rfl) b9 rfl r6 (jo_exn rfl))) H
    · rw [if_neg c4] at H
      refine Eq.trans (jb_nx (i := .ifCond .ge 11) (n := 3) (q := (16, [some (.ref p0), some (.long j1), none], [])) (jq qX0_knows 3 rfl) (jo_ifT (jz_geT c4) rfl)) ?_
      refine Eq.trans (jb_nx (i := .iconst 1) (n := 1) (q := (17, [some (.ref p0), some (.long j1), none], [.int 1])) (jq qX0_knows 8 rfl) rfl) ?_
      refine Eq.trans (jb_nx (i := .goto 4) (n := 3) (q := (21, [some (.ref p0), some (.long j1), none], [.int 1])) (jq qX0_knows 9 rfl) rfl) ?_
      exact Eq.trans (jb_rt (i := .ireturn) (n := 1) (jq qX0_knows 11 rfl) (jo_iret rfl (by decide))) H
  · exact Eq.trans (jb_rt (i := .invokevirtual 76) (n := 3) (jq qX0_knows 2 rfl) (jo_cv (y := mX0_actorOf) rfl (Nat.le_of_ble_eq_true rfl) rfl (Nat.le_of_ble_eq_true rfl) b12 rfl r2 (jo_exn rfl))) H
/-! MaskPlays$Book actorOf (J)I -/
def tX0_actorOf : List (Nat × Instr × Nat) := [(0, .iconst 0, 1), (1, .istore_n 3, 1), (2, .iload_n 3, 1), (3, .aload_n 0, 1), (4, .getfield 47, 3), (7, .if_icmp .ge 31, 3), (10, .iload_n 3, 1), (11, .aload_n 0, 1), (12, .getfield 9, 3), (15, .arraylength, 1), (16, .if_icmp .ge 22, 3), (19, .aload_n 0, 1), (20, .getfield 9, 3), (23, .iload_n 3, 1), (24, .laload, 1), (25, .lload_n 1, 1), (26, .lcmp, 1), (27, .ifCond .ne 5, 3), (30, .iload_n 3, 1), (31, .ireturn, 1), (32, .iinc 3 1, 3), (35, .goto (-33), 3), (38, .iconst (-1), 1), (39, .ireturn, 1)]
set_option maxRecDepth 100000 in
theorem qX0_actorOf : ∀ q ∈ tX0_actorOf, decode cX0_actorOf q.1 = .ok (q.2.1, q.2.2) := by decide +kernel
noncomputable def kX0_actorOf_2 (d : Nat) (p0 : Nat) (j1 : Int64) (i3 : Int32) (h : jm_H) : Option jm_R := jm_B d mX0_actorOf (2, [some (.ref p0), some (.long j1), none, some (.int i3)], []) h
theorem gX0_actorOf_2 {d : Nat} {p0 : Nat} {j1 : Int64} {i3 : Int32} {h : jm_H} {r : jm_R} (H : ((jr_I h p0 0 0 0).bind fun x1 => (if i3 < x1 then (jr_R h p0 0 4 2).bind fun a4 => (jm_len h a4).bind fun n6 => (if i3 < (Int32.ofNat n6) then (jr_R h p0 0 4 2).bind fun a9 => (jm_all h a9 i3).bind fun y11 => (if (lg_cmp y11 j1) = 0 then some (.inl (some (.int i3)), h) else kX0_actorOf_2 d p0 j1 (i3 + 1) h) else some (.inl (some (.int (-1))), h)) else some (.inl (some (.int (-1))), h))) = some r) : kX0_actorOf_2 d p0 j1 i3 h = some r := by
  show jm_B d mX0_actorOf (2, [some (.ref p0), some (.long j1), none, some (.int i3)], []) h = some r
  refine Eq.trans (jb_nx (i := .iload_n 3) (n := 1) (q := (3, [some (.ref p0), some (.long j1), none, some (.int i3)], [.int i3])) (jq qX0_actorOf 2 rfl) rfl) ?_
  refine Eq.trans (jb_nx (i := .aload_n 0) (n := 1) (q := (4, [some (.ref p0), some (.long j1), none, some (.int i3)], [.ref p0, .int i3])) (jq qX0_actorOf 3 rfl) rfl) ?_
  obtain ⟨x1, e2, H⟩ := jbd H
  refine Eq.trans (jb_nx (i := .getfield 47) (n := 3) (q := (7, [some (.ref p0), some (.long j1), none, some (.int i3)], [.int x1, .int i3])) (jq qX0_actorOf 4 rfl) (jo_gf rfl (jr_I_inv e2))) ?_
  by_cases c3 : i3 < x1
  · rw [if_pos c3] at H
    refine Eq.trans (jb_nx (i := .if_icmp .ge 31) (n := 3) (q := (10, [some (.ref p0), some (.long j1), none, some (.int i3)], [])) (jq qX0_actorOf 5 rfl) (jo_icF (jz_geF c3))) ?_
    refine Eq.trans (jb_nx (i := .iload_n 3) (n := 1) (q := (11, [some (.ref p0), some (.long j1), none, some (.int i3)], [.int i3])) (jq qX0_actorOf 6 rfl) rfl) ?_
    refine Eq.trans (jb_nx (i := .aload_n 0) (n := 1) (q := (12, [some (.ref p0), some (.long j1), none, some (.int i3)], [.ref p0, .int i3])) (jq qX0_actorOf 7 rfl) rfl) ?_
    obtain ⟨a4, e5, H⟩ := jbd H
    refine Eq.trans (jb_nx (i := .getfield 9) (n := 3) (q := (15, [some (.ref p0), some (.long j1), none, some (.int i3)], [.ref a4, .int i3])) (jq qX0_actorOf 8 rfl) (jo_gf rfl (jr_R_inv e5))) ?_
    obtain ⟨n6, e7, H⟩ := jbd H
    refine Eq.trans (jb_nx (i := .arraylength) (n := 1) (q := (16, [some (.ref p0), some (.long j1), none, some (.int i3)], [.int (Int32.ofNat n6), .int i3])) (jq qX0_actorOf 9 rfl) (jo_len e7)) ?_
    by_cases c8 : i3 < (Int32.ofNat n6)
    · rw [if_pos c8] at H
      refine Eq.trans (jb_nx (i := .if_icmp .ge 22) (n := 3) (q := (19, [some (.ref p0), some (.long j1), none, some (.int i3)], [])) (jq qX0_actorOf 10 rfl) (jo_icF (jz_geF c8))) ?_
      refine Eq.trans (jb_nx (i := .aload_n 0) (n := 1) (q := (20, [some (.ref p0), some (.long j1), none, some (.int i3)], [.ref p0])) (jq qX0_actorOf 11 rfl) rfl) ?_
      obtain ⟨a9, e10, H⟩ := jbd H
      refine Eq.trans (jb_nx (i := .getfield 9) (n := 3) (q := (23, [some (.ref p0), some (.long j1), none, some (.int i3)], [.ref a9])) (jq qX0_actorOf 12 rfl) (jo_gf rfl (jr_R_inv e10))) ?_
      refine Eq.trans (jb_nx (i := .iload_n 3) (n := 1) (q := (24, [some (.ref p0), some (.long j1), none, some (.int i3)], [.int i3, .ref a9])) (jq qX0_actorOf 13 rfl) rfl) ?_
      obtain ⟨y11, e12, H⟩ := jbd H
      refine Eq.trans (jb_nx (i := .laload) (n := 1) (q := (25, [some (.ref p0), some (.long j1), none, some (.int i3)], [.long y11])) (jq qX0_actorOf 14 rfl) (jo_lal e12)) ?_
      refine Eq.trans (jb_nx (i := .lload_n 1) (n := 1) (q := (26, [some (.ref p0), some (.long j1), none, some (.int i3)], [.long j1, .long y11])) (jq qX0_actorOf 15 rfl) rfl) ?_
      refine Eq.trans (jb_nx (i := .lcmp) (n := 1) (q := (27, [some (.ref p0), some (.long j1), none, some (.int i3)], [.int (lg_cmp y11 j1)])) (jq qX0_actorOf 16 rfl) rfl) ?_
      by_cases c13 : (lg_cmp y11 j1) = 0
      · rw [if_pos c13] at H
        refine Eq.trans (jb_nx (i := .ifCond .ne 5) (n := 3) (q := (30, [some (.ref p0), some (.long j1), none, some (.int i3)], [])) (jq qX0_actorOf 17 rfl) (jo_ifF (jz_neF c13))) ?_
        refine Eq.trans (jb_nx (i := .iload_n 3) (n := 1) (q := (31, [some (.ref p0), some (.long j1), none, some (.int i3)], [.int i3])) (jq qX0_actorOf 18 rfl) rfl) ?_
        exact Eq.trans (jb_rt (i := .ireturn) (n := 1) (jq qX0_actorOf 19 rfl) (jo_iret rfl rfl)) H
      · rw [if_neg c13] at H
        refine Eq.trans (jb_nx (i := .ifCond .ne 5) (n := 3) (q := (32, [some (.ref p0), some (.long j1), none, some (.int i3)], [])) (jq qX0_actorOf 17 rfl) (jo_ifT (jz_neT c13) rfl)) ?_
        refine Eq.trans (jb_nx (i := .iinc 3 1) (n := 3) (q := (35, [some (.ref p0), some (.long j1), none, some (.int (i3 + 1))], [])) (jq qX0_actorOf 20 rfl) rfl) ?_
        refine Eq.trans (jb_nx (i := .goto (-33)) (n := 3) (q := (2, [some (.ref p0), some (.long j1), none, some (.int (i3 + 1))], [])) (jq qX0_actorOf 21 rfl) rfl) ?_
        exact H
    · rw [if_neg c8] at H
      refine Eq.trans (jb_nx (i := .if_icmp .ge 22) (n := 3) (q := (38, [some (.ref p0), some (.long j1), none, some (.int i3)], [])) (jq qX0_actorOf 10 rfl) (jo_icT (jz_geT c8) rfl)) ?_
      refine Eq.trans (jb_nx (i := .iconst (-1)) (n := 1) (q := (39, [some (.ref p0), some (.long j1), none, some (.int i3)], [.int (-1)])) (jq qX0_actorOf 22 rfl) rfl) ?_
      exact Eq.trans (jb_rt (i := .ireturn) (n := 1) (jq qX0_actorOf 23 rfl) (jo_iret rfl rfl)) H
  · rw [if_neg c3] at H
    refine Eq.trans (jb_nx (i := .if_icmp .ge 31) (n := 3) (q := (38, [some (.ref p0), some (.long j1), none, some (.int i3)], [])) (jq qX0_actorOf 5 rfl) (jo_icT (jz_geT c3) rfl)) ?_
    refine Eq.trans (jb_nx (i := .iconst (-1)) (n := 1) (q := (39, [some (.ref p0), some (.long j1), none, some (.int i3)], [.int (-1)])) (jq qX0_actorOf 22 rfl) rfl) ?_
    exact Eq.trans (jb_rt (i := .ireturn) (n := 1) (jq qX0_actorOf 23 rfl) (jo_iret rfl rfl)) H
theorem gX0_actorOf {d : Nat} {p0 : Nat} {j1 : Int64} {h : jm_H} {r : jm_R} (H : (kX0_actorOf_2 d p0 j1 0 h) = some r) : jm_D (d + 1) mX0_actorOf [.ref p0, .long j1] h = some r := by
  rw [jm_D_body (Nat.le_of_ble_eq_true rfl)]
  show jm_B d mX0_actorOf (0, [some (.ref p0), some (.long j1), none, none], []) h = some r
  refine Eq.trans (jb_nx (i := .iconst 0) (n := 1) (q := (1, [some (.ref p0), some (.long j1), none, none], [.int 0])) (jq qX0_actorOf 0 rfl) rfl) ?_
  refine Eq.trans (jb_nx (i := .istore_n 3) (n := 1) (q := (2, [some (.ref p0), some (.long j1), none, some (.int 0)], [])) (jq qX0_actorOf 1 rfl) rfl) ?_
  exact H
/-! MaskPlays$Book playOf (J)I -/
def tX0_playOf : List (Nat × Instr × Nat) := [(0, .iconst 0, 1), (1, .istore_n 3, 1), (2, .iload_n 3, 1), (3, .aload_n 0, 1), (4, .getfield 51, 3), (7, .if_icmp .ge 31, 3), (10, .iload_n 3, 1), (11, .aload_n 0, 1), (12, .getfield 15, 3), (15, .arraylength, 1), (16, .if_icmp .ge 22, 3), (19, .aload_n 0, 1), (20, .getfield 15, 3), (23, .iload_n 3, 1), (24, .laload, 1), (25, .lload_n 1, 1), (26, .lcmp, 1), (27, .ifCond .ne 5, 3), (30, .iload_n 3, 1), (31, .ireturn, 1), (32, .iinc 3 1, 3), (35, .goto (-33), 3), (38, .iconst (-1), 1), (39, .ireturn, 1)]
set_option maxRecDepth 100000 in
theorem qX0_playOf : ∀ q ∈ tX0_playOf, decode cX0_playOf q.1 = .ok (q.2.1, q.2.2) := by decide +kernel
noncomputable def kX0_playOf_2 (d : Nat) (p0 : Nat) (j1 : Int64) (i3 : Int32) (h : jm_H) : Option jm_R := jm_B d mX0_playOf (2, [some (.ref p0), some (.long j1), none, some (.int i3)], []) h
theorem gX0_playOf_2 {d : Nat} {p0 : Nat} {j1 : Int64} {i3 : Int32} {h : jm_H} {r : jm_R} (H : ((jr_I h p0 0 1 0).bind fun x1 => (if i3 < x1 then (jr_R h p0 0 5 2).bind fun a4 => (jm_len h a4).bind fun n6 => (if i3 < (Int32.ofNat n6) then (jr_R h p0 0 5 2).bind fun a9 => (jm_all h a9 i3).bind fun y11 => (if (lg_cmp y11 j1) = 0 then some (.inl (some (.int i3)), h) else kX0_playOf_2 d p0 j1 (i3 + 1) h) else some (.inl (some (.int (-1))), h)) else some (.inl (some (.int (-1))), h))) = some r) : kX0_playOf_2 d p0 j1 i3 h = some r := by
  show jm_B d mX0_playOf (2, [some (.ref p0), some (.long j1), none, some (.int i3)], []) h = some r
  refine Eq.trans (jb_nx (i := .iload_n 3) (n := 1) (q := (3, [some (.ref p0), some (.long j1), none, some (.int i3)], [.int i3])) (jq qX0_playOf 2 rfl) rfl) ?_
  refine Eq.trans (jb_nx (i := .aload_n 0) (n := 1) (q := (4, [some (.ref p0), some (.long j1), none, some (.int i3)], [.ref p0, .int i3])) (jq qX0_playOf 3 rfl) rfl) ?_
  obtain ⟨x1, e2, H⟩ := jbd H
  refine Eq.trans (jb_nx (i := .getfield 51) (n := 3) (q := (7, [some (.ref p0), some (.long j1), none, some (.int i3)], [.int x1, .int i3])) (jq qX0_playOf 4 rfl) (jo_gf rfl (jr_I_inv e2))) ?_
  by_cases c3 : i3 < x1
  · rw [if_pos c3] at H
    refine Eq.trans (jb_nx (i := .if_icmp .ge 31) (n := 3) (q := (10, [some (.ref p0), some (.long j1), none, some (.int i3)], [])) (jq qX0_playOf 5 rfl) (jo_icF (jz_geF c3))) ?_
    refine Eq.trans (jb_nx (i := .iload_n 3) (n := 1) (q := (11, [some (.ref p0), some (.long j1), none, some (.int i3)], [.int i3])) (jq qX0_playOf 6 rfl) rfl) ?_
    refine Eq.trans (jb_nx (i := .aload_n 0) (n := 1) (q := (12, [some (.ref p0), some (.long j1), none, some (.int i3)], [.ref p0, .int i3])) (jq qX0_playOf 7 rfl) rfl) ?_
    obtain ⟨a4, e5, H⟩ := jbd H
    refine Eq.trans (jb_nx (i := .getfield 15) (n := 3) (q := (15, [some (.ref p0), some (.long j1), none, some (.int i3)], [.ref a4, .int i3])) (jq qX0_playOf 8 rfl) (jo_gf rfl (jr_R_inv e5))) ?_
    obtain ⟨n6, e7, H⟩ := jbd H
    refine Eq.trans (jb_nx (i := .arraylength) (n := 1) (q := (16, [some (.ref p0), some (.long j1), none, some (.int i3)], [.int (Int32.ofNat n6), .int i3])) (jq qX0_playOf 9 rfl) (jo_len e7)) ?_
    by_cases c8 : i3 < (Int32.ofNat n6)
    · rw [if_pos c8] at H
      refine Eq.trans (jb_nx (i := .if_icmp .ge 22) (n := 3) (q := (19, [some (.ref p0), some (.long j1), none, some (.int i3)], [])) (jq qX0_playOf 10 rfl) (jo_icF (jz_geF c8))) ?_
      refine Eq.trans (jb_nx (i := .aload_n 0) (n := 1) (q := (20, [some (.ref p0), some (.long j1), none, some (.int i3)], [.ref p0])) (jq qX0_playOf 11 rfl) rfl) ?_
      obtain ⟨a9, e10, H⟩ := jbd H
      refine Eq.trans (jb_nx (i := .getfield 15) (n := 3) (q := (23, [some (.ref p0), some (.long j1), none, some (.int i3)], [.ref a9])) (jq qX0_playOf 12 rfl) (jo_gf rfl (jr_R_inv e10))) ?_
      refine Eq.trans (jb_nx (i := .iload_n 3) (n := 1) (q := (24, [some (.ref p0), some (.long j1), none, some (.int i3)], [.int i3, .ref a9])) (jq qX0_playOf 13 rfl) rfl) ?_
      obtain ⟨y11, e12, H⟩ := jbd H
      refine Eq.trans (jb_nx (i := .laload) (n := 1) (q := (25, [some (.ref p0), some (.long j1), none, some (.int i3)], [.long y11])) (jq qX0_playOf 14 rfl) (jo_lal e12)) ?_
      refine Eq.trans (jb_nx (i := .lload_n 1) (n := 1) (q := (26, [some (.ref p0), some (.long j1), none, some (.int i3)], [.long j1, .long y11])) (jq qX0_playOf 15 rfl) rfl) ?_
      refine Eq.trans (jb_nx (i := .lcmp) (n := 1) (q := (27, [some (.ref p0), some (.long j1), none, some (.int i3)], [.int (lg_cmp y11 j1)])) (jq qX0_playOf 16 rfl) rfl) ?_
      by_cases c13 : (lg_cmp y11 j1) = 0
      · rw [if_pos c13] at H
        refine Eq.trans (jb_nx (i := .ifCond .ne 5) (n := 3) (q := (30, [some (.ref p0), some (.long j1), none, some (.int i3)], [])) (jq qX0_playOf 17 rfl) (jo_ifF (jz_neF c13))) ?_
        refine Eq.trans (jb_nx (i := .iload_n 3) (n := 1) (q := (31, [some (.ref p0), some (.long j1), none, some (.int i3)], [.int i3])) (jq qX0_playOf 18 rfl) rfl) ?_
        exact Eq.trans (jb_rt (i := .ireturn) (n := 1) (jq qX0_playOf 19 rfl) (jo_iret rfl rfl)) H
      · rw [if_neg c13] at H
        refine Eq.trans (jb_nx (i := .ifCond .ne 5) (n := 3) (q := (32, [some (.ref p0), some (.long j1), none, some (.int i3)], [])) (jq qX0_playOf 17 rfl) (jo_ifT (jz_neT c13) rfl)) ?_
        refine Eq.trans (jb_nx (i := .iinc 3 1) (n := 3) (q := (35, [some (.ref p0), some (.long j1), none, some (.int (i3 + 1))], [])) (jq qX0_playOf 20 rfl) rfl) ?_
        refine Eq.trans (jb_nx (i := .goto (-33)) (n := 3) (q := (2, [some (.ref p0), some (.long j1), none, some (.int (i3 + 1))], [])) (jq qX0_playOf 21 rfl) rfl) ?_
        exact H
    · rw [if_neg c8] at H
      refine Eq.trans (jb_nx (i := .if_icmp .ge 22) (n := 3) (q := (38, [some (.ref p0), some (.long j1), none, some (.int i3)], [])) (jq qX0_playOf 10 rfl) (jo_icT (jz_geT c8) rfl)) ?_
      refine Eq.trans (jb_nx (i := .iconst (-1)) (n := 1) (q := (39, [some (.ref p0), some (.long j1), none, some (.int i3)], [.int (-1)])) (jq qX0_playOf 22 rfl) rfl) ?_
      exact Eq.trans (jb_rt (i := .ireturn) (n := 1) (jq qX0_playOf 23 rfl) (jo_iret rfl rfl)) H
  · rw [if_neg c3] at H
    refine Eq.trans (jb_nx (i := .if_icmp .ge 31) (n := 3) (q := (38, [some (.ref p0), some (.long j1), none, some (.int i3)], [])) (jq qX0_playOf 5 rfl) (jo_icT (jz_geT c3) rfl)) ?_
    refine Eq.trans (jb_nx (i := .iconst (-1)) (n := 1) (q := (39, [some (.ref p0), some (.long j1), none, some (.int i3)], [.int (-1)])) (jq qX0_playOf 22 rfl) rfl) ?_
    exact Eq.trans (jb_rt (i := .ireturn) (n := 1) (jq qX0_playOf 23 rfl) (jo_iret rfl rfl)) H
theorem gX0_playOf {d : Nat} {p0 : Nat} {j1 : Int64} {h : jm_H} {r : jm_R} (H : (kX0_playOf_2 d p0 j1 0 h) = some r) : jm_D (d + 1) mX0_playOf [.ref p0, .long j1] h = some r := by
  rw [jm_D_body (Nat.le_of_ble_eq_true rfl)]
  show jm_B d mX0_playOf (0, [some (.ref p0), some (.long j1), none, none], []) h = some r
  refine Eq.trans (jb_nx (i := .iconst 0) (n := 1) (q := (1, [some (.ref p0), some (.long j1), none, none], [.int 0])) (jq qX0_playOf 0 rfl) rfl) ?_
  refine Eq.trans (jb_nx (i := .istore_n 3) (n := 1) (q := (2, [some (.ref p0), some (.long j1), none, some (.int 0)], [])) (jq qX0_playOf 1 rfl) rfl) ?_
  exact H
/-! MaskPlays$Book addActor (J)V -/
def tX0_addActor : List (Nat × Instr × Nat) := [(0, .aload_n 0, 1), (1, .getfield 47, 3), (4, .ifCond .lt 35, 3), (7, .aload_n 0, 1), (8, .getfield 47, 3), (11, .aload_n 0, 1), (12, .getfield 9, 3), (15, .arraylength, 1), (16, .if_icmp .ge 23, 3), (19, .aload_n 0, 1), (20, .getfield 9, 3), (23, .aload_n 0, 1), (24, .getfield 47, 3), (27, .lload_n 1, 1), (28, .lastore, 1), (29, .aload_n 0, 1), (30, .dup, 1), (31, .getfield 47, 3), (34, .iconst 1, 1), (35, .iadd, 1), (36, .putfield 47, 3), (39, .return_, 1)]
set_option maxRecDepth 100000 in
theorem qX0_addActor : ∀ q ∈ tX0_addActor, decode cX0_addActor q.1 = .ok (q.2.1, q.2.2) := by decide +kernel
theorem gX0_addActor {d : Nat} {p0 : Nat} {j1 : Int64} {h : jm_H} {r : jm_R} (H : ((jr_I h p0 0 0 0).bind fun x1 => (if x1 < 0 then some (.inl none, h) else (jr_I h p0 0 0 0).bind fun x4 => (jr_R h p0 0 4 2).bind fun a6 => (jm_len h a6).bind fun n8 => (if x4 < (Int32.ofNat n8) then (jr_R h p0 0 4 2).bind fun a11 => (jr_I h p0 0 0 0).bind fun x13 => (jm_asl h a11 x13 j1).bind fun h15 => (jr_I h15 p0 0 0 0).bind fun x17 => (jm_pf h15 p0 0 0 0 (.int (x17 + 1))).bind fun h19 => some (.inl none, h19) else some (.inl none, h)))) = some r) : jm_D (d + 1) mX0_addActor [.ref p0, .long j1] h = some r := by
  rw [jm_D_body (Nat.le_of_ble_eq_true rfl)]
  show jm_B d mX0_addActor (0, [some (.ref p0), some (.long j1), none], []) h = some r
  refine Eq.trans (jb_nx (i := .aload_n 0) (n := 1) (q := (1, [some (.ref p0), some (.long j1), none], [.ref p0])) (jq qX0_addActor 0 rfl) rfl) ?_
  obtain ⟨x1, e2, H⟩ := jbd H
  refine Eq.trans (jb_nx (i := .getfield 47) (n := 3) (q := (4, [some (.ref p0), some (.long j1), none], [.int x1])) (jq qX0_addActor 1 rfl) (jo_gf rfl (jr_I_inv e2))) ?_
  by_cases c3 : x1 < 0
  · rw [if_pos c3] at H
    refine Eq.trans (jb_nx (i := .ifCond .lt 35) (n := 3) (q := (39, [some (.ref p0), some (.long j1), none], [])) (jq qX0_addActor 2 rfl) (jo_ifT (jz_ltT c3) rfl)) ?_
    exact Eq.trans (jb_rt (i := .return_) (n := 1) (jq qX0_addActor 21 rfl) rfl) H
  · rw [if_neg c3] at H
    refine Eq.trans (jb_nx (i := .ifCond .lt 35) (n := 3) (q := (7, [some (.ref p0), some (.long j1), none], [])) (jq qX0_addActor 2 rfl) (jo_ifF (jz_ltF c3))) ?_
    refine Eq.trans (jb_nx (i := .aload_n 0) (n := 1) (q := (8, [some (.ref p0), some (.long j1), none], [.ref p0])) (jq qX0_addActor 3 rfl) rfl) ?_
    obtain ⟨x4, e5, H⟩ := jbd H
    refine Eq.trans (jb_nx (i := .getfield 47) (n := 3) (q := (11, [some (.ref p0), some (.long j1), none], [.int x4])) (jq qX0_addActor 4 rfl) (jo_gf rfl (jr_I_inv e5))) ?_
    refine Eq.trans (jb_nx (i := .aload_n 0) (n := 1) (q := (12, [some (.ref p0), some (.long j1), none], [.ref p0, .int x4])) (jq qX0_addActor 5 rfl) rfl) ?_
    obtain ⟨a6, e7, H⟩ := jbd H
    refine Eq.trans (jb_nx (i := .getfield 9) (n := 3) (q := (15, [some (.ref p0), some (.long j1), none], [.ref a6, .int x4])) (jq qX0_addActor 6 rfl) (jo_gf rfl (jr_R_inv e7))) ?_
    obtain ⟨n8, e9, H⟩ := jbd H
    refine Eq.trans (jb_nx (i := .arraylength) (n := 1) (q := (16, [some (.ref p0), some (.long j1), none], [.int (Int32.ofNat n8), .int x4])) (jq qX0_addActor 7 rfl) (jo_len e9)) ?_
    by_cases c10 : x4 < (Int32.ofNat n8)
    · rw [if_pos c10] at H
      refine Eq.trans (jb_nx (i := .if_icmp .ge 23) (n := 3) (q := (19, [some (.ref p0), some (.long j1), none], [])) (jq qX0_addActor 8 rfl) (jo_icF (jz_geF c10))) ?_
      refine Eq.trans (jb_nx (i := .aload_n 0) (n := 1) (q := (20, [some (.ref p0), some (.long j1), none], [.ref p0])) (jq qX0_addActor 9 rfl) rfl) ?_
      obtain ⟨a11, e12, H⟩ := jbd H
      refine Eq.trans (jb_nx (i := .getfield 9) (n := 3) (q := (23, [some (.ref p0), some (.long j1), none], [.ref a11])) (jq qX0_addActor 10 rfl) (jo_gf rfl (jr_R_inv e12))) ?_
      refine Eq.trans (jb_nx (i := .aload_n 0) (n := 1) (q := (24, [some (.ref p0), some (.long j1), none], [.ref p0, .ref a11])) (jq qX0_addActor 11 rfl) rfl) ?_
      obtain ⟨x13, e14, H⟩ := jbd H
      refine Eq.trans (jb_nx (i := .getfield 47) (n := 3) (q := (27, [some (.ref p0), some (.long j1), none], [.int x13, .ref a11])) (jq qX0_addActor 12 rfl) (jo_gf rfl (jr_I_inv e14))) ?_
      refine Eq.trans (jb_nx (i := .lload_n 1) (n := 1) (q := (28, [some (.ref p0), some (.long j1), none], [.long j1, .int x13, .ref a11])) (jq qX0_addActor 13 rfl) rfl) ?_
      obtain ⟨h15, e16, H⟩ := jbd H
      refine Eq.trans (jb_nx (i := .lastore) (n := 1) (q := (29, [some (.ref p0), some (.long j1), none], [])) (jq qX0_addActor 14 rfl) (jo_las e16)) ?_
      refine Eq.trans (jb_nx (i := .aload_n 0) (n := 1) (q := (30, [some (.ref p0), some (.long j1), none], [.ref p0])) (jq qX0_addActor 15 rfl) rfl) ?_
      refine Eq.trans (jb_nx (i := .dup) (n := 1) (q := (31, [some (.ref p0), some (.long j1), none], [.ref p0, .ref p0])) (jq qX0_addActor 16 rfl) rfl) ?_
      obtain ⟨x17, e18, H⟩ := jbd H
      refine Eq.trans (jb_nx (i := .getfield 47) (n := 3) (q := (34, [some (.ref p0), some (.long j1), none], [.int x17, .ref p0])) (jq qX0_addActor 17 rfl) (jo_gf rfl (jr_I_inv e18))) ?_
      refine Eq.trans (jb_nx (i := .iconst 1) (n := 1) (q := (35, [some (.ref p0), some (.long j1), none], [.int 1, .int x17, .ref p0])) (jq qX0_addActor 18 rfl) rfl) ?_
      refine Eq.trans (jb_nx (i := .iadd) (n := 1) (q := (36, [some (.ref p0), some (.long j1), none], [.int (x17 + 1), .ref p0])) (jq qX0_addActor 19 rfl) rfl) ?_
      obtain ⟨h19, e20, H⟩ := jbd H
      refine Eq.trans (jb_nx (i := .putfield 47) (n := 3) (q := (39, [some (.ref p0), some (.long j1), none], [])) (jq qX0_addActor 20 rfl) (jo_pf rfl (Or.inl rfl) e20)) ?_
      exact Eq.trans (jb_rt (i := .return_) (n := 1) (jq qX0_addActor 21 rfl) rfl) H
    · rw [if_neg c10] at H
      refine Eq.trans (jb_nx (i := .if_icmp .ge 23) (n := 3) (q := (39, [some (.ref p0), some (.long j1), none], [])) (jq qX0_addActor 8 rfl) (jo_icT (jz_geT c10) rfl)) ?_
      exact Eq.trans (jb_rt (i := .return_) (n := 1) (jq qX0_addActor 21 rfl) rfl) H
/-! MaskPlays$Book toldAt (I)LMaskPlays$Part; -/
def tX0_toldAt : List (Nat × Instr × Nat) := [(0, .iload_n 1, 1), (1, .ifCond .lt 21, 3), (4, .iload_n 1, 1), (5, .aload_n 0, 1), (6, .getfield 20, 3), (9, .arraylength, 1), (10, .if_icmp .ge 12, 3), (13, .aload_n 0, 1), (14, .getfield 20, 3), (17, .iload_n 1, 1), (18, .aaload, 1), (19, .goto 7, 3), (22, .aload_n 0, 1), (23, .getfield 38, 3), (26, .areturn, 1)]
set_option maxRecDepth 100000 in
theorem qX0_toldAt : ∀ q ∈ tX0_toldAt, decode cX0_toldAt q.1 = .ok (q.2.1, q.2.2) := by decide +kernel
theorem gX0_toldAt {d : Nat} {p0 : Nat} {i1 : Int32} {h : jm_H} {r : jm_R} (H : ((if i1 < 0 then (jr_R h p0 0 10 2).bind fun a2 => some (.inl (some (.ref a2)), h) else (jr_R h p0 0 6 2).bind fun a4 => (jm_len h a4).bind fun n6 => (if i1 < (Int32.ofNat n6) then (jr_R h p0 0 6 2).bind fun a11 => (jm_alr h a11 i1).bind fun a13 => some (.inl (some (.ref a13)), h) else (jr_R h p0 0 10 2).bind fun a9 => some (.inl (some (.ref a9)), h)))) = some r) : jm_D (d + 1) mX0_toldAt [.ref p0, .int i1] h = some r := by
  rw [jm_D_body (Nat.le_of_ble_eq_true rfl)]
  show jm_B d mX0_toldAt (0, [some (.ref p0), some (.int i1)], []) h = some r
  refine Eq.trans (jb_nx (i := .iload_n 1) (n := 1) (q := (1, [some (.ref p0), some (.int i1)], [.int i1])) (jq qX0_toldAt 0 rfl) rfl) ?_
  by_cases c1 : i1 < 0
  · rw [if_pos c1] at H
    refine Eq.trans (jb_nx (i := .ifCond .lt 21) (n := 3) (q := (22, [some (.ref p0), some (.int i1)], [])) (jq qX0_toldAt 1 rfl) (jo_ifT (jz_ltT c1) rfl)) ?_
    refine Eq.trans (jb_nx (i := .aload_n 0) (n := 1) (q := (23, [some (.ref p0), some (.int i1)], [.ref p0])) (jq qX0_toldAt 12 rfl) rfl) ?_
    obtain ⟨a2, e3, H⟩ := jbd H
    refine Eq.trans (jb_nx (i := .getfield 38) (n := 3) (q := (26, [some (.ref p0), some (.int i1)], [.ref a2])) (jq qX0_toldAt 13 rfl) (jo_gf rfl (jr_R_inv e3))) ?_
    exact Eq.trans (jb_rt (i := .areturn) (n := 1) (jq qX0_toldAt 14 rfl) rfl) H
  · rw [if_neg c1] at H
    refine Eq.trans (jb_nx (i := .ifCond .lt 21) (n := 3) (q := (4, [some (.ref p0), some (.int i1)], [])) (jq qX0_toldAt 1 rfl) (jo_ifF (jz_ltF c1))) ?_
    refine Eq.trans (jb_nx (i := .iload_n 1) (n := 1) (q := (5, [some (.ref p0), some (.int i1)], [.int i1])) (jq qX0_toldAt 2 rfl) rfl) ?_
    refine Eq.trans (jb_nx (i := .aload_n 0) (n := 1) (q := (6, [some (.ref p0), some (.int i1)], [.ref p0, .int i1])) (jq qX0_toldAt 3 rfl) rfl) ?_
    obtain ⟨a4, e5, H⟩ := jbd H
    refine Eq.trans (jb_nx (i := .getfield 20) (n := 3) (q := (9, [some (.ref p0), some (.int i1)], [.ref a4, .int i1])) (jq qX0_toldAt 4 rfl) (jo_gf rfl (jr_R_inv e5))) ?_
    obtain ⟨n6, e7, H⟩ := jbd H
    refine Eq.trans (jb_nx (i := .arraylength) (n := 1) (q := (10, [some (.ref p0), some (.int i1)], [.int (Int32.ofNat n6), .int i1])) (jq qX0_toldAt 5 rfl) (jo_len e7)) ?_
    by_cases c8 : i1 < (Int32.ofNat n6)
    · rw [if_pos c8] at H
      refine Eq.trans (jb_nx (i := .if_icmp .ge 12) (n := 3) (q := (13, [some (.ref p0), some (.int i1)], [])) (jq qX0_toldAt 6 rfl) (jo_icF (jz_geF c8))) ?_
      refine Eq.trans (jb_nx (i := .aload_n 0) (n := 1) (q := (14, [some (.ref p0), some (.int i1)], [.ref p0])) (jq qX0_toldAt 7 rfl) rfl) ?_
      obtain ⟨a11, e12, H⟩ := jbd H
      refine Eq.trans (jb_nx (i := .getfield 20) (n := 3) (q := (17, [some (.ref p0), some (.int i1)], [.ref a11])) (jq qX0_toldAt 8 rfl) (jo_gf rfl (jr_R_inv e12))) ?_
      refine Eq.trans (jb_nx (i := .iload_n 1) (n := 1) (q := (18, [some (.ref p0), some (.int i1)], [.int i1, .ref a11])) (jq qX0_toldAt 9 rfl) rfl) ?_
      obtain ⟨a13, e14, H⟩ := jbd H
      refine Eq.trans (jb_nx (i := .aaload) (n := 1) (q := (19, [some (.ref p0), some (.int i1)], [.ref a13])) (jq qX0_toldAt 10 rfl) (jo_ral e14)) ?_
      refine Eq.trans (jb_nx (i := .goto 7) (n := 3) (q := (26, [some (.ref p0), some (.int i1)], [.ref a13])) (jq qX0_toldAt 11 rfl) rfl) ?_
      exact Eq.trans (jb_rt (i := .areturn) (n := 1) (jq qX0_toldAt 14 rfl) rfl) H
    · rw [if_neg c8] at H
      refine Eq.trans (jb_nx (i := .if_icmp .ge 12) (n := 3) (q := (22, [some (.ref p0), some (.int i1)], [])) (jq qX0_toldAt 6 rfl) (jo_icT (jz_geT c8) rfl)) ?_
      refine Eq.trans (jb_nx (i := .aload_n 0) (n := 1) (q := (23, [some (.ref p0), some (.int i1)], [.ref p0])) (jq qX0_toldAt 12 rfl) rfl) ?_
      obtain ⟨a9, e10, H⟩ := jbd H
      refine Eq.trans (jb_nx (i := .getfield 38) (n := 3) (q := (26, [some (.ref p0), some (.int i1)], [.ref a9])) (jq qX0_toldAt 13 rfl) (jo_gf rfl (jr_R_inv e10))) ?_
      exact Eq.trans (jb_rt (i := .areturn) (n := 1) (jq qX0_toldAt 14 rfl) rfl) H
/-! MaskPlays$Book addPlay (J)V -/
def tX0_addPlay : List (Nat × Instr × Nat) := [(0, .aload_n 0, 1), (1, .getfield 51, 3), (4, .ifCond .lt 35, 3), (7, .aload_n 0, 1), (8, .getfield 51, 3), (11, .aload_n 0, 1), (12, .getfield 15, 3), (15, .arraylength, 1), (16, .if_icmp .ge 23, 3), (19, .aload_n 0, 1), (20, .getfield 15, 3), (23, .aload_n 0, 1), (24, .getfield 51, 3), (27, .lload_n 1, 1), (28, .lastore, 1), (29, .aload_n 0, 1), (30, .dup, 1), (31, .getfield 51, 3), (34, .iconst 1, 1), (35, .iadd, 1), (36, .putfield 51, 3), (39, .return_, 1)]
set_option maxRecDepth 100000 in
theorem qX0_addPlay : ∀ q ∈ tX0_addPlay, decode cX0_addPlay q.1 = .ok (q.2.1, q.2.2) := by decide +kernel
theorem gX0_addPlay {d : Nat} {p0 : Nat} {j1 : Int64} {h : jm_H} {r : jm_R} (H : ((jr_I h p0 0 1 0).bind fun x1 => (if x1 < 0 then some (.inl none, h) else (jr_I h p0 0 1 0).bind fun x4 => (jr_R h p0 0 5 2).bind fun a6 => (jm_len h a6).bind fun n8 => (if x4 < (Int32.ofNat n8) then (jr_R h p0 0 5 2).bind fun a11 => (jr_I h p0 0 1 0).bind fun x13 => (jm_asl h a11 x13 j1).bind fun h15 => (jr_I h15 p0 0 1 0).bind fun x17 => (jm_pf h15 p0 0 1 0 (.int (x17 + 1))).bind fun h19 => some (.inl none, h19) else some (.inl none, h)))) = some r) : jm_D (d + 1) mX0_addPlay [.ref p0, .long j1] h = some r := by
  rw [jm_D_body (Nat.le_of_ble_eq_true rfl)]
  show jm_B d mX0_addPlay (0, [some (.ref p0), some (.long j1), none], []) h = some r
  refine Eq.trans (jb_nx (i := .aload_n 0) (n := 1) (q := (1, [some (.ref p0), some (.long j1), none], [.ref p0])) (jq qX0_addPlay 0 rfl) rfl) ?_
  obtain ⟨x1, e2, H⟩ := jbd H
  refine Eq.trans (jb_nx (i := .getfield 51) (n := 3) (q := (4, [some (.ref p0), some (.long j1), none], [.int x1])) (jq qX0_addPlay 1 rfl) (jo_gf rfl (jr_I_inv e2))) ?_
  by_cases c3 : x1 < 0
  · rw [if_pos c3] at H
    refine Eq.trans (jb_nx (i := .ifCond .lt 35) (n := 3) (q := (39, [some (.ref p0), some (.long j1), none], [])) (jq qX0_addPlay 2 rfl) (jo_ifT (jz_ltT c3) rfl)) ?_
    exact Eq.trans (jb_rt (i := .return_) (n := 1) (jq qX0_addPlay 21 rfl) rfl) H
  · rw [if_neg c3] at H
    refine Eq.trans (jb_nx (i := .ifCond .lt 35) (n := 3) (q := (7, [some (.ref p0), some (.long j1), none], [])) (jq qX0_addPlay 2 rfl) (jo_ifF (jz_ltF c3))) ?_
    refine Eq.trans (jb_nx (i := .aload_n 0) (n := 1) (q := (8, [some (.ref p0), some (.long j1), none], [.ref p0])) (jq qX0_addPlay 3 rfl) rfl) ?_
    obtain ⟨x4, e5, H⟩ := jbd H
    refine Eq.trans (jb_nx (i := .getfield 51) (n := 3) (q := (11, [some (.ref p0), some (.long j1), none], [.int x4])) (jq qX0_addPlay 4 rfl) (jo_gf rfl (jr_I_inv e5))) ?_
    refine Eq.trans (jb_nx (i := .aload_n 0) (n := 1) (q := (12, [some (.ref p0), some (.long j1), none], [.ref p0, .int x4])) (jq qX0_addPlay 5 rfl) rfl) ?_
    obtain ⟨a6, e7, H⟩ := jbd H
    refine Eq.trans (jb_nx (i := .getfield 15) (n := 3) (q := (15, [some (.ref p0), some (.long j1), none], [.ref a6, .int x4])) (jq qX0_addPlay 6 rfl) (jo_gf rfl (jr_R_inv e7))) ?_
    obtain ⟨n8, e9, H⟩ := jbd H
    refine Eq.trans (jb_nx (i := .arraylength) (n := 1) (q := (16, [some (.ref p0), some (.long j1), none], [.int (Int32.ofNat n8), .int x4])) (jq qX0_addPlay 7 rfl) (jo_len e9)) ?_
    by_cases c10 : x4 < (Int32.ofNat n8)
    · rw [if_pos c10] at H
      refine Eq.trans (jb_nx (i := .if_icmp .ge 23) (n := 3) (q := (19, [some (.ref p0), some (.long j1), none], [])) (jq qX0_addPlay 8 rfl) (jo_icF (jz_geF c10))) ?_
      refine Eq.trans (jb_nx (i := .aload_n 0) (n := 1) (q := (20, [some (.ref p0), some (.long j1), none], [.ref p0])) (jq qX0_addPlay 9 rfl) rfl) ?_
      obtain ⟨a11, e12, H⟩ := jbd H
      refine Eq.trans (jb_nx (i := .getfield 15) (n := 3) (q := (23, [some (.ref p0), some (.long j1), none], [.ref a11])) (jq qX0_addPlay 10 rfl) (jo_gf rfl (jr_R_inv e12))) ?_
      refine Eq.trans (jb_nx (i := .aload_n 0) (n := 1) (q := (24, [some (.ref p0), some (.long j1), none], [.ref p0, .ref a11])) (jq qX0_addPlay 11 rfl) rfl) ?_
      obtain ⟨x13, e14, H⟩ := jbd H
      refine Eq.trans (jb_nx (i := .getfield 51) (n := 3) (q := (27, [some (.ref p0), some (.long j1), none], [.int x13, .ref a11])) (jq qX0_addPlay 12 rfl) (jo_gf rfl (jr_I_inv e14))) ?_
      refine Eq.trans (jb_nx (i := .lload_n 1) (n := 1) (q := (28, [some (.ref p0), some (.long j1), none], [.long j1, .int x13, .ref a11])) (jq qX0_addPlay 13 rfl) rfl) ?_
      obtain ⟨h15, e16, H⟩ := jbd H
      refine Eq.trans (jb_nx (i := .lastore) (n := 1) (q := (29, [some (.ref p0), some (.long j1), none], [])) (jq qX0_addPlay 14 rfl) (jo_las e16)) ?_
      refine Eq.trans (jb_nx (i := .aload_n 0) (n := 1) (q := (30, [some (.ref p0), some (.long j1), none], [.ref p0])) (jq qX0_addPlay 15 rfl) rfl) ?_
      refine Eq.trans (jb_nx (i := .dup) (n := 1) (q := (31, [some (.ref p0), some (.long j1), none], [.ref p0, .ref p0])) (jq qX0_addPlay 16 rfl) rfl) ?_
      obtain ⟨x17, e18, H⟩ := jbd H
      refine Eq.trans (jb_nx (i := .getfield 51) (n := 3) (q := (34, [some (.ref p0), some (.long j1), none], [.int x17, .ref p0])) (jq qX0_addPlay 17 rfl) (jo_gf rfl (jr_I_inv e18))) ?_
      refine Eq.trans (jb_nx (i := .iconst 1) (n := 1) (q := (35, [some (.ref p0), some (.long j1), none], [.int 1, .int x17, .ref p0])) (jq qX0_addPlay 18 rfl) rfl) ?_
      refine Eq.trans (jb_nx (i := .iadd) (n := 1) (q := (36, [some (.ref p0), some (.long j1), none], [.int (x17 + 1), .ref p0])) (jq qX0_addPlay 19 rfl) rfl) ?_
      obtain ⟨h19, e20, H⟩ := jbd H
      refine Eq.trans (jb_nx (i := .putfield 51) (n := 3) (q := (39, [some (.ref p0), some (.long j1), none], [])) (jq qX0_addPlay 20 rfl) (jo_pf rfl (Or.inl rfl) e20)) ?_
      exact Eq.trans (jb_rt (i := .return_) (n := 1) (jq qX0_addPlay 21 rfl) rfl) H
    · rw [if_neg c10] at H
      refine Eq.trans (jb_nx (i := .if_icmp .ge 23) (n := 3) (q := (39, [some (.ref p0), some (.long j1), none], [])) (jq qX0_addPlay 8 rfl) (jo_icT (jz_geT c10) rfl)) ?_
      exact Eq.trans (jb_rt (i := .return_) (n := 1) (jq qX0_addPlay 21 rfl) rfl) H
/-! MaskPlays$Book addNote (IIII)V -/
def tX0_addNote : List (Nat × Instr × Nat) := [(0, .aload_n 0, 1), (1, .aload_n 0, 1), (2, .getfield 54, 3), (5, .invokevirtual 60, 3), (8, .astore 5, 2), (10, .aload 5, 2), (12, .iload_n 1, 1), (13, .putfield 64, 3), (16, .aload 5, 2), (18, .iload_n 2, 1), (19, .putfield 67, 3), (22, .aload 5, 2), (24, .iload_n 3, 1), (25, .putfield 70, 3), (28, .aload 5, 2), (30, .iload 4, 2), (32, .putfield 73, 3), (35, .aload_n 0, 1), (36, .dup, 1), (37, .getfield 54, 3), (40, .iconst 1, 1), (41, .iadd, 1), (42, .putfield 54, 3), (45, .return_, 1)]
set_option maxRecDepth 100000 in
theorem qX0_addNote : ∀ q ∈ tX0_addNote, decode cX0_addNote q.1 = .ok (q.2.1, q.2.2) := by decide +kernel
theorem gX0_addNote {d : Nat} {p0 : Nat} {i1 : Int32} {i2 : Int32} {i3 : Int32} {i4 : Int32} {h : jm_H} {r : jm_R} (H : ((jr_I h p0 0 2 0).bind fun x1 => jm_O h p0 0 (jc_R (jm_D d mX0_noteAt [.ref p0, .int x1] h) (fun a5 h3 => (jm_pf h3 a5 2 0 0 (.int i1)).bind fun h6 => (jm_pf h6 a5 2 1 0 (.int i2)).bind fun h8 => (jm_pf h8 a5 2 2 0 (.int i3)).bind fun h10 => (jm_pf h10 a5 2 3 0 (.int i4)).bind fun h12 => (jr_I h12 p0 0 2 0).bind fun x14 => (jm_pf h12 p0 0 2 0 (.int (x14 + 1))).bind fun h16 => some (.inl none, h16)) jx)) = some r) : jm_D (d + 1) mX0_addNote [.ref p0, .int i1, .int i2, .int i3, .int i4] h = some r := by
  rw [jm_D_body (Nat.le_of_ble_eq_true rfl)]
  show jm_B d mX0_addNote (0, [some (.ref p0), some (.int i1), some (.int i2), some (.int i3), some (.int i4), none], []) h = some r
  refine Eq.trans (jb_nx (i := .aload_n 0) (n := 1) (q := (1, [some (.ref p0), some (.int i1), some (.int i2), some (.int i3), some (.int i4), none], [.ref p0])) (jq qX0_addNote 0 rfl) rfl) ?_
  refine Eq.trans (jb_nx (i := .aload_n 0) (n := 1) (q := (2, [some (.ref p0), some (.int i1), some (.int i2), some (.int i3), some (.int i4), none], [.ref p0, .ref p0])) (jq qX0_addNote 1 rfl) rfl) ?_
  obtain ⟨x1, e2, H⟩ := jbd H
  refine Eq.trans (jb_nx (i := .getfield 54) (n := 3) (q := (5, [some (.ref p0), some (.int i1), some (.int i2), some (.int i3), some (.int i4), none], [.int x1, .ref p0])) (jq qX0_addNote 2 rfl) (jo_gf rfl (jr_I_inv e2))) ?_
  obtain ⟨b18, H⟩ := jm_O_inv H
  rcases jcR H with ⟨a5, h3, r4, H⟩ | ⟨w19, h20, r4, H⟩
  · refine Eq.trans (jb_nx (i := .invokevirtual 60) (n := 3) (q := (8, [some (.ref p0), some (.int i1), some (.int i2), some (.int i3), some (.int i4), none], [.ref a5])) (jq qX0_addNote 3 rfl) (jo_cv (y := mX0_noteAt) rfl (Nat.le_of_ble_eq_true rfl) rfl (Nat.le_of_ble_eq_true rfl) b18 rfl r4 jo_ret)) ?_
    refine Eq.trans (jb_nx (i := .astore 5) (n := 2) (q := (10, [some (.ref p0), some (.int i1), some (.int i2), some (.int i3), some (.int i4), some (.ref a5)], [])) (jq qX0_addNote 4 rfl) rfl) ?_
    refine Eq.trans (jb_nx (i := .aload 5) (n := 2) (q := (12, [some (.ref p0), some (.int i1), some (.int i2), some (.int i3), some (.int i4), some (.ref a5)], [.ref a5])) (jq qX0_addNote 5 rfl) rfl) ?_
    refine Eq.trans (jb_nx (i := .iload_n 1) (n := 1) (q := (13, [some (.ref p0), some (.int i1), some (.int i2), some (.int i3), some (.int i4), some (.ref a5)], [.int i1, .ref a5])) (jq qX0_addNote 6 rfl) rfl) ?_
    obtain ⟨h6, e7, H⟩ := jbd H
    refine Eq.trans (jb_nx (i := .putfield 64) (n := 3) (q := (16, [some (.ref p0), some (.int i1), some (.int i2), some (.int i3), some (.int i4), some (.ref a5)], [])) (jq qX0_addNote 7 rfl) (jo_pf rfl (Or.inl rfl) e7)) ?_
    refine Eq.trans (jb_nx (i := .aload 5) (n := 2) (q := (18, [some (.ref p0), some (.int i1), some (.int i2), some (.int i3), some (.int i4), some (.ref a5)], [.ref a5])) (jq qX0_addNote 8 rfl) rfl) ?_
    refine Eq.trans (jb_nx (i := .iload_n 2) (n := 1) (q := (19, [some (.ref p0), some (.int i1), some (.int i2), some (.int i3), some (.int i4), some (.ref a5)], [.int i2, .ref a5])) (jq qX0_addNote 9 rfl) rfl) ?_
    obtain ⟨h8, e9, H⟩ := jbd H
    refine Eq.trans (jb_nx (i := .putfield 67) (n := 3) (q := (22, [some (.ref p0), some (.int i1), some (.int i2), some (.int i3), some (.int i4), some (.ref a5)], [])) (jq qX0_addNote 10 rfl) (jo_pf rfl (Or.inl rfl) e9)) ?_
    refine Eq.trans (jb_nx (i := .aload 5) (n := 2) (q := (24, [some (.ref p0), some (.int i1), some (.int i2), some (.int i3), some (.int i4), some (.ref a5)], [.ref a5])) (jq qX0_addNote 11 rfl) rfl) ?_
    refine Eq.trans (jb_nx (i := .iload_n 3) (n := 1) (q := (25, [some (.ref p0), some (.int i1), some (.int i2), some (.int i3), some (.int i4), some (.ref a5)], [.int i3, .ref a5])) (jq qX0_addNote 12 rfl) rfl) ?_
    obtain ⟨h10, e11, H⟩ := jbd H
    refine Eq.trans (jb_nx (i := .putfield 70) (n := 3) (q := (28, [some (.ref p0), some (.int i1), some (.int i2), some (.int i3), some (.int i4), some (.ref a5)], [])) (jq qX0_addNote 13 rfl) (jo_pf rfl (Or.inl rfl) e11)) ?_
    refine Eq.trans (jb_nx (i := .aload 5) (n := 2) (q := (30, [some (.ref p0), some (.int i1), some (.int i2), some (.int i3), some (.int i4), some (.ref a5)], [.ref a5])) (jq qX0_addNote 14 rfl) rfl) ?_
    refine Eq.trans (jb_nx (i := .iload 4) (n := 2) (q := (32, [some (.ref p0), some (.int i1), some (.int i2), some (.int i3), some (.int i4), some (.ref a5)], [.int i4, .ref a5])) (jq qX0_addNote 15 rfl) rfl) ?_
    obtain ⟨h12, e13, H⟩ := jbd H
    refine Eq.trans (jb_nx (i := .putfield 73) (n := 3) (q := (35, [some (.ref p0), some (.int i1), some (.int i2), some (.int i3), some (.int i4), some (.ref a5)], [])) (jq qX0_addNote 16 rfl) (jo_pf rfl (Or.inl rfl) e13)) ?_
    refine Eq.trans (jb_nx (i := .aload_n 0) (n := 1) (q := (36, [some (.ref p0), some (.int i1), some (.int i2), some (.int i3), some (.int i4), some (.ref a5)], [.ref p0])) (jq qX0_addNote 17 rfl) rfl) ?_
    refine Eq.trans (jb_nx (i := .dup) (n := 1) (q := (37, [some (.ref p0), some (.int i1), some (.int i2), some (.int i3), some (.int i4), some (.ref a5)], [.ref p0, .ref p0])) (jq qX0_addNote 18 rfl) rfl) ?_
    obtain ⟨x14, e15, H⟩ := jbd H
    refine Eq.trans (jb_nx (i := .getfield 54) (n := 3) (q := (40, [some (.ref p0), some (.int i1), some (.int i2), some (.int i3), some (.int i4), some (.ref a5)], [.int x14, .ref p0])) (jq qX0_addNote 19 rfl) (jo_gf rfl (jr_I_inv e15))) ?_
    refine Eq.trans (jb_nx (i := .iconst 1) (n := 1) (q := (41, [some (.ref p0), some (.int i1), some (.int i2), some (.int i3), some (.int i4), some (.ref a5)], [.int 1, .int x14, .ref p0])) (jq qX0_addNote 20 rfl) rfl) ?_
    refine Eq.trans (jb_nx (i := .iadd) (n := 1) (q := (42, [some (.ref p0), some (.int i1), some (.int i2), some (.int i3), some (.int i4), some (.ref a5)], [.int (x14 + 1), .ref p0])) (jq qX0_addNote 21 rfl) rfl) ?_
    obtain ⟨h16, e17, H⟩ := jbd H
    refine Eq.trans (jb_nx (i := .putfield 54) (n := 3) (q := (45, [some (.ref p0), some (.int i1), some (.int i2), some (.int i3), some (.int i4), some (.ref a5)], [])) (jq qX0_addNote 22 rfl) (jo_pf rfl (Or.inl rfl) e17)) ?_
    exact Eq.trans (jb_rt (i := .return_) (n := 1) (jq qX0_addNote 23 rfl) rfl) H
  · exact Eq.trans (jb_rt (i := .invokevirtual 60) (n := 3) (jq qX0_addNote 3 rfl) (jo_cv (y := mX0_noteAt) rfl (Nat.le_of_ble_eq_true rfl) rfl (Nat.le_of_ble_eq_true rfl) b18 rfl r4 (jo_exn rfl))) H
/-! MaskPlays$Book noteAt (I)LMaskPlays$Note; -/
def tX0_noteAt : List (Nat × Instr × Nat) := [(0, .iload_n 1, 1), (1, .ifCond .lt 21, 3), (4, .iload_n 1, 1), (5, .aload_n 0, 1), (6, .getfield 26, 3), (9, .arraylength, 1), (10, .if_icmp .ge 12, 3), (13, .aload_n 0, 1), (14, .getfield 26, 3), (17, .iload_n 1, 1), (18, .aaload, 1), (19, .goto 7, 3), (22, .aload_n 0, 1), (23, .getfield 43, 3), (26, .areturn, 1)]
set_option maxRecDepth 100000 in
theorem qX0_noteAt : ∀ q ∈ tX0_noteAt, decode cX0_noteAt q.1 = .ok (q.2.1, q.2.2) := by decide +kernel
theorem gX0_noteAt {d : Nat} {p0 : Nat} {i1 : Int32} {h : jm_H} {r : jm_R} (H : ((if i1 < 0 then (jr_R h p0 0 11 2).bind fun a2 => some (.inl (some (.ref a2)), h) else (jr_R h p0 0 7 2).bind fun a4 => (jm_len h a4).bind fun n6 => (if i1 < (Int32.ofNat n6) then (jr_R h p0 0 7 2).bind fun a11 => (jm_alr h a11 i1).bind fun a13 => some (.inl (some (.ref a13)), h) else (jr_R h p0 0 11 2).bind fun a9 => some (.inl (some (.ref a9)), h)))) = some r) : jm_D (d + 1) mX0_noteAt [.ref p0, .int i1] h = some r := by
  rw [jm_D_body (Nat.le_of_ble_eq_true rfl)]
  show jm_B d mX0_noteAt (0, [some (.ref p0), some (.int i1)], []) h = some r
  refine Eq.trans (jb_nx (i := .iload_n 1) (n := 1) (q := (1, [some (.ref p0), some (.int i1)], [.int i1])) (jq qX0_noteAt 0 rfl) rfl) ?_
  by_cases c1 : i1 < 0
  · rw [if_pos c1] at H
    refine Eq.trans (jb_nx (i := .ifCond .lt 21) (n := 3) (q := (22, [some (.ref p0), some (.int i1)], [])) (jq qX0_noteAt 1 rfl) (jo_ifT (jz_ltT c1) rfl)) ?_
    refine Eq.trans (jb_nx (i := .aload_n 0) (n := 1) (q := (23, [some (.ref p0), some (.int i1)], [.ref p0])) (jq qX0_noteAt 12 rfl) rfl) ?_
    obtain ⟨a2, e3, H⟩ := jbd H
    refine Eq.trans (jb_nx (i := .getfield 43) (n := 3) (q := (26, [some (.ref p0), some (.int i1)], [.ref a2])) (jq qX0_noteAt 13 rfl) (jo_gf rfl (jr_R_inv e3))) ?_
    exact Eq.trans (jb_rt (i := .areturn) (n := 1) (jq qX0_noteAt 14 rfl) rfl) H
  · rw [if_neg c1] at H
    refine Eq.trans (jb_nx (i := .ifCond .lt 21) (n := 3) (q := (4, [some (.ref p0), some (.int i1)], [])) (jq qX0_noteAt 1 rfl) (jo_ifF (jz_ltF c1))) ?_
    refine Eq.trans (jb_nx (i := .iload_n 1) (n := 1) (q := (5, [some (.ref p0), some (.int i1)], [.int i1])) (jq qX0_noteAt 2 rfl) rfl) ?_
    refine Eq.trans (jb_nx (i := .aload_n 0) (n := 1) (q := (6, [some (.ref p0), some (.int i1)], [.ref p0, .int i1])) (jq qX0_noteAt 3 rfl) rfl) ?_
    obtain ⟨a4, e5, H⟩ := jbd H
    refine Eq.trans (jb_nx (i := .getfield 26) (n := 3) (q := (9, [some (.ref p0), some (.int i1)], [.ref a4, .int i1])) (jq qX0_noteAt 4 rfl) (jo_gf rfl (jr_R_inv e5))) ?_
    obtain ⟨n6, e7, H⟩ := jbd H
    refine Eq.trans (jb_nx (i := .arraylength) (n := 1) (q := (10, [some (.ref p0), some (.int i1)], [.int (Int32.ofNat n6), .int i1])) (jq qX0_noteAt 5 rfl) (jo_len e7)) ?_
    by_cases c8 : i1 < (Int32.ofNat n6)
    · rw [if_pos c8] at H
      refine Eq.trans (jb_nx (i := .if_icmp .ge 12) (n := 3) (q := (13, [some (.ref p0), some (.int i1)], [])) (jq qX0_noteAt 6 rfl) (jo_icF (jz_geF c8))) ?_
      refine Eq.trans (jb_nx (i := .aload_n 0) (n := 1) (q := (14, [some (.ref p0), some (.int i1)], [.ref p0])) (jq qX0_noteAt 7 rfl) rfl) ?_
      obtain ⟨a11, e12, H⟩ := jbd H
      refine Eq.trans (jb_nx (i := .getfield 26) (n := 3) (q := (17, [some (.ref p0), some (.int i1)], [.ref a11])) (jq qX0_noteAt 8 rfl) (jo_gf rfl (jr_R_inv e12))) ?_
      refine Eq.trans (jb_nx (i := .iload_n 1) (n := 1) (q := (18, [some (.ref p0), some (.int i1)], [.int i1, .ref a11])) (jq qX0_noteAt 9 rfl) rfl) ?_
      obtain ⟨a13, e14, H⟩ := jbd H
      refine Eq.trans (jb_nx (i := .aaload) (n := 1) (q := (19, [some (.ref p0), some (.int i1)], [.ref a13])) (jq qX0_noteAt 10 rfl) (jo_ral e14)) ?_
      refine Eq.trans (jb_nx (i := .goto 7) (n := 3) (q := (26, [some (.ref p0), some (.int i1)], [.ref a13])) (jq qX0_noteAt 11 rfl) rfl) ?_
      exact Eq.trans (jb_rt (i := .areturn) (n := 1) (jq qX0_noteAt 14 rfl) rfl) H
    · rw [if_neg c8] at H
      refine Eq.trans (jb_nx (i := .if_icmp .ge 12) (n := 3) (q := (22, [some (.ref p0), some (.int i1)], [])) (jq qX0_noteAt 6 rfl) (jo_icT (jz_geT c8) rfl)) ?_
      refine Eq.trans (jb_nx (i := .aload_n 0) (n := 1) (q := (23, [some (.ref p0), some (.int i1)], [.ref p0])) (jq qX0_noteAt 12 rfl) rfl) ?_
      obtain ⟨a9, e10, H⟩ := jbd H
      refine Eq.trans (jb_nx (i := .getfield 43) (n := 3) (q := (26, [some (.ref p0), some (.int i1)], [.ref a9])) (jq qX0_noteAt 13 rfl) (jo_gf rfl (jr_R_inv e10))) ?_
      exact Eq.trans (jb_rt (i := .areturn) (n := 1) (jq qX0_noteAt 14 rfl) rfl) H
/-! MaskPlays$Book lookUpPlays (LMaskPlays$Tokens;)V -/
def tX0_lookUpPlays : List (Nat × Instr × Nat) := [(0, .iconst 0, 1), (1, .istore_n 2, 1), (2, .iload_n 2, 1), (3, .aload_n 0, 1), (4, .getfield 57, 3), (7, .if_icmp .ge 44, 3), (10, .iload_n 2, 1), (11, .aload_n 0, 1), (12, .getfield 34, 3), (15, .arraylength, 1), (16, .if_icmp .ge 35, 3), (19, .aload_n 0, 1), (20, .iload_n 2, 1), (21, .invokevirtual 83, 3), (24, .bipush 35, 2), (26, .if_icmp .ne 19, 3), (29, .aload_n 0, 1), (30, .getfield 34, 3), (33, .iload_n 2, 1), (34, .aload_n 1, 1), (35, .aload_n 0, 1), (36, .getfield 34, 3), (39, .iload_n 2, 1), (40, .iaload, 1), (41, .invokevirtual 87, 3), (44, .iastore, 1), (45, .iinc 2 1, 3), (48, .goto (-46), 3), (51, .return_, 1)]
set_option maxRecDepth 100000 in
theorem qX0_lookUpPlays : ∀ q ∈ tX0_lookUpPlays, decode cX0_lookUpPlays q.1 = .ok (q.2.1, q.2.2) := by decide +kernel
noncomputable def kX0_lookUpPlays_2 (d : Nat) (p0 : Nat) (p1 : Nat) (i2 : Int32) (h : jm_H) : Option jm_R := jm_B d mX0_lookUpPlays (2, [some (.ref p0), some (.ref p1), some (.int i2)], []) h
theorem gX0_lookUpPlays_2 {d : Nat} {p0 : Nat} {p1 : Nat} {i2 : Int32} {h : jm_H} {r : jm_R} (H : ((jr_I h p0 0 3 0).bind fun x1 => (if i2 < x1 then (jr_R h p0 0 9 2).bind fun a4 => (jm_len h a4).bind fun n6 => (if i2 < (Int32.ofNat n6) then jm_O h p0 0 (jc_I (jm_D d mX0_codeKindAt [.ref p0, .int i2] h) (fun x11 h9 => (if x11 = 35 then (jr_R h9 p0 0 9 2).bind fun a13 => (jr_R h9 p0 0 9 2).bind fun a15 => (jm_ali h9 a15 0 i2).bind fun x17 => jm_O h9 p1 9 (jc_I (jm_D d mX9_markAt [.ref p1, .int x17] h9) (fun x21 h19 => (jm_asi h19 a13 0 i2 x21).bind fun h22 => kX0_lookUpPlays_2 d p0 p1 (i2 + 1) h22) jx) else kX0_lookUpPlays_2 d p0 p1 (i2 + 1) h9)) jx) else some (.inl none, h)) else some (.inl none, h))) = some r) : kX0_lookUpPlays_2 d p0 p1 i2 h = some r := by
  show jm_B d mX0_lookUpPlays (2, [some (.ref p0), some (.ref p1), some (.int i2)], []) h = some r
  refine Eq.trans (jb_nx (i := .iload_n 2) (n := 1) (q := (3, [some (.ref p0), some (.ref p1), some (.int i2)], [.int i2])) (jq qX0_lookUpPlays 2 rfl) rfl) ?_
  refine Eq.trans (jb_nx (i := .aload_n 0) (n := 1) (q := (4, [some (.ref p0), some (.ref p1), some (.int i2)], [.ref p0, .int i2])) (jq qX0_lookUpPlays 3 rfl) rfl) ?_
  obtain ⟨x1, e2, H⟩ := jbd H
  refine Eq.trans (jb_nx (i := .getfield 57) (n := 3) (q := (7, [some (.ref p0), some (.ref p1), some (.int i2)], [.int x1, .int i2])) (jq qX0_lookUpPlays 4 rfl) (jo_gf rfl (jr_I_inv e2))) ?_
  by_cases c3 : i2 < x1
  · rw [if_pos c3] at H
    refine Eq.trans (jb_nx (i := .if_icmp .ge 44) (n := 3) (q := (10, [some (.ref p0), some (.ref p1), some (.int i2)], [])) (jq qX0_lookUpPlays 5 rfl) (jo_icF (jz_geF c3))) ?_
    refine Eq.trans (jb_nx (i := .iload_n 2) (n := 1) (q := (11, [some (.ref p0), some (.ref p1), some (.int i2)], [.int i2])) (jq qX0_lookUpPlays 6 rfl) rfl) ?_
    refine Eq.trans (jb_nx (i := .aload_n 0) (n := 1) (q := (12, [some (.ref p0), some (.ref p1), some (.int i2)], [.ref p0, .int i2])) (jq qX0_lookUpPlays 7 rfl) rfl) ?_
    obtain ⟨a4, e5, H⟩ := jbd H
    refine Eq.trans (jb_nx (i := .getfield 34) (n := 3) (q := (15, [some (.ref p0), some (.ref p1), some (.int i2)], [.ref a4, .int i2])) (jq qX0_lookUpPlays 8 rfl) (jo_gf rfl (jr_R_inv e5))) ?_
    obtain ⟨n6, e7, H⟩ := jbd H
    refine Eq.trans (jb_nx (i := .arraylength) (n := 1) (q := (16, [some (.ref p0), some (.ref p1), some (.int i2)], [.int (Int32.ofNat n6), .int i2])) (jq qX0_lookUpPlays 9 rfl) (jo_len e7)) ?_
    by_cases c8 : i2 < (Int32.ofNat n6)
    · rw [if_pos c8] at H
      refine Eq.trans (jb_nx (i := .if_icmp .ge 35) (n := 3) (q := (19, [some (.ref p0), some (.ref p1), some (.int i2)], [])) (jq qX0_lookUpPlays 10 rfl) (jo_icF (jz_geF c8))) ?_
      refine Eq.trans (jb_nx (i := .aload_n 0) (n := 1) (q := (20, [some (.ref p0), some (.ref p1), some (.int i2)], [.ref p0])) (jq qX0_lookUpPlays 11 rfl) rfl) ?_
      refine Eq.trans (jb_nx (i := .iload_n 2) (n := 1) (q := (21, [some (.ref p0), some (.ref p1), some (.int i2)], [.int i2, .ref p0])) (jq qX0_lookUpPlays 12 rfl) rfl) ?_
      obtain ⟨b27, H⟩ := jm_O_inv H
      rcases jcI H with ⟨x11, h9, r10, H⟩ | ⟨w28, h29, r10, H⟩
      · refine Eq.trans (jb_nx (i := .invokevirtual 83) (n := 3) (q := (24, [some (.ref p0), some (.ref p1), some (.int i2)], [.int x11])) (jq qX0_lookUpPlays 13 rfl) (jo_cv (y := mX0_codeKindAt) rfl (Nat.le_of_ble_eq_true rfl) rfl (Nat.le_of_ble_eq_true rfl) b27 rfl r10 jo_ret)) ?_
        refine Eq.trans (jb_nx (i := .bipush 35) (n := 2) (q := (26, [some (.ref p0), some (.ref p1), some (.int i2)], [.int 35, .int x11])) (jq qX0_lookUpPlays 14 rfl) rfl) ?_
        by_cases c12 : x11 = 35
        · rw [if_pos c12] at H
          refine Eq.trans (jb_nx (i := .if_icmp .ne 19) (n := 3) (q := (29, [some (.ref p0), some (.ref p1), some (.int i2)], [])) (jq qX0_lookUpPlays 15 rfl) (jo_icF (jz_neF c12))) ?_
          refine Eq.trans (jb_nx (i := .aload_n 0) (n := 1) (q := (30, [some (.ref p0), some (.ref p1), some (.int i2)], [.ref p0])) (jq qX0_lookUpPlays 16 rfl) rfl) ?_
          obtain ⟨a13, e14, H⟩ := jbd H
          refine Eq.trans (jb_nx (i := .getfield 34) (n := 3) (q := (33, [some (.ref p0), some (.ref p1), some (.int i2)], [.ref a13])) (jq qX0_lookUpPlays 17 rfl) (jo_gf rfl (jr_R_inv e14))) ?_
          refine Eq.trans (jb_nx (i := .iload_n 2) (n := 1) (q := (34, [some (.ref p0), some (.ref p1), some (.int i2)], [.int i2, .ref a13])) (jq qX0_lookUpPlays 18 rfl) rfl) ?_
          refine Eq.trans (jb_nx (i := .aload_n 1) (n := 1) (q := (35, [some (.ref p0), some (.ref p1), some (.int i2)], [.ref p1, .int i2, .ref a13])) (jq qX0_lookUpPlays 19 rfl) rfl) ?_
          refine Eq.trans (jb_nx (i := .aload_n 0) (n := 1) (q := (36, [some (.ref p0), some (.ref p1), some (.int i2)], [.ref p0, .ref p1, .int i2, .ref a13])) (jq qX0_lookUpPlays 20 rfl) rfl) ?_
          obtain ⟨a15, e16, H⟩ := jbd H
          refine Eq.trans (jb_nx (i := .getfield 34) (n := 3) (q := (39, [some (.ref p0), some (.ref p1), some (.int i2)], [.ref a15, .ref p1, .int i2, .ref a13])) (jq qX0_lookUpPlays 21 rfl) (jo_gf rfl (jr_R_inv e16))) ?_
          refine Eq.trans (jb_nx (i := .iload_n 2) (n := 1) (q := (40, [some (.ref p0), some (.ref p1), some (.int i2)], [.int i2, .ref a15, .ref p1, .int i2, .ref a13])) (jq qX0_lookUpPlays 22 rfl) rfl) ?_
          obtain ⟨x17, e18, H⟩ := jbd H
          refine Eq.trans (jb_nx (i := .iaload) (n := 1) (q := (41, [some (.ref p0), some (.ref p1), some (.int i2)], [.int x17, .ref p1, .int i2, .ref a13])) (jq qX0_lookUpPlays 23 rfl) (jo_ial e18)) ?_
          obtain ⟨b24, H⟩ := jm_O_inv H
          rcases jcI H with ⟨x21, h19, r20, H⟩ | ⟨w25, h26, r20, H⟩
          · refine Eq.trans (jb_nx (i := .invokevirtual 87) (n := 3) (q := (44, [some (.ref p0), some (.ref p1), some (.int i2)], [.int x21, .int i2, .ref a13])) (jq qX0_lookUpPlays 24 rfl) (jo_cv (y := mX9_markAt) rfl (Nat.le_of_ble_eq_true rfl) rfl (Nat.le_of_ble_eq_true rfl) b24 rfl r20 jo_ret)) ?_
            obtain ⟨h22, e23, H⟩ := jbd H
            refine Eq.trans (jb_nx (i := .iastore) (n := 1) (q := (45, [some (.ref p0), some (.ref p1), some (.int i2)], [])) (jq qX0_lookUpPlays 25 rfl) (jo_ias e23)) ?_
            refine Eq.trans (jb_nx (i := .iinc 2 1) (n := 3) (q := (48, [some (.ref p0), some (.ref p1), some (.int (i2 + 1))], [])) (jq qX0_lookUpPlays 26 rfl) rfl) ?_
            refine Eq.trans (jb_nx (i := .goto (-46)) (n := 3) (q := (2, [some (.ref p0), some (.ref p1), some (.int (i2 + 1))], [])) (jq qX0_lookUpPlays 27 rfl) rfl) ?_
            exact H
          · exact Eq.trans (jb_rt (i := .invokevirtual 87) (n := 3) (jq qX0_lookUpPlays 24 rfl) (jo_cv (y := mX9_markAt) rfl (Nat.le_of_ble_eq_true rfl) rfl (Nat.le_of_ble_eq_true rfl) b24 rfl r20 (jo_exn rfl))) H
        · rw [if_neg c12] at H
          refine Eq.trans (jb_nx (i := .if_icmp .ne 19) (n := 3) (q := (45, [some (.ref p0), some (.ref p1), some (.int i2)], [])) (jq qX0_lookUpPlays 15 rfl) (jo_icT (jz_neT c12) rfl)) ?_
          refine Eq.trans (jb_nx (i := .iinc 2 1) (n := 3) (q := (48, [some (.ref p0), some (.ref p1), some (.int (i2 + 1))], [])) (jq qX0_lookUpPlays 26 rfl) rfl) ?_
          refine Eq.trans (jb_nx (i := .goto (-46)) (n := 3) (q := (2, [some (.ref p0), some (.ref p1), some (.int (i2 + 1))], [])) (jq qX0_lookUpPlays 27 rfl) rfl) ?_
          exact H
      · exact Eq.trans (jb_rt (i := .invokevirtual 83) (n := 3) (jq qX0_lookUpPlays 13 rfl) (jo_cv (y := mX0_codeKindAt) rfl (Nat.le_of_ble_eq_true rfl) rfl (Nat.le_of_ble_eq_true rfl) b27 rfl r10 (jo_exn rfl))) H
    · rw [if_neg c8] at H
      refine Eq.trans (jb_nx (i := .if_icmp .ge 35) (n := 3) (q := (51, [some (.ref p0), some (.ref p1), some (.int i2)], [])) (jq qX0_lookUpPlays 10 rfl) (jo_icT (jz_geT c8) rfl)) ?_
      exact Eq.trans (jb_rt (i := .return_) (n := 1) (jq qX0_lookUpPlays 28 rfl) rfl) H
  · rw [if_neg c3] at H
    refine Eq.trans (jb_nx (i := .if_icmp .ge 44) (n := 3) (q := (51, [some (.ref p0), some (.ref p1), some (.int i2)], [])) (jq qX0_lookUpPlays 5 rfl) (jo_icT (jz_geT c3) rfl)) ?_
    exact Eq.trans (jb_rt (i := .return_) (n := 1) (jq qX0_lookUpPlays 28 rfl) rfl) H
theorem gX0_lookUpPlays {d : Nat} {p0 : Nat} {p1 : Nat} {h : jm_H} {r : jm_R} (H : (kX0_lookUpPlays_2 d p0 p1 0 h) = some r) : jm_D (d + 1) mX0_lookUpPlays [.ref p0, .ref p1] h = some r := by
  rw [jm_D_body (Nat.le_of_ble_eq_true rfl)]
  show jm_B d mX0_lookUpPlays (0, [some (.ref p0), some (.ref p1), none], []) h = some r
  refine Eq.trans (jb_nx (i := .iconst 0) (n := 1) (q := (1, [some (.ref p0), some (.ref p1), none], [.int 0])) (jq qX0_lookUpPlays 0 rfl) rfl) ?_
  refine Eq.trans (jb_nx (i := .istore_n 2) (n := 1) (q := (2, [some (.ref p0), some (.ref p1), some (.int 0)], [])) (jq qX0_lookUpPlays 1 rfl) rfl) ?_
  exact H
/-! MaskPlays$Book codeKindAt (I)I -/
def tX0_codeKindAt : List (Nat × Instr × Nat) := [(0, .iload_n 1, 1), (1, .ifCond .lt 24, 3), (4, .iload_n 1, 1), (5, .aload_n 0, 1), (6, .getfield 57, 3), (9, .if_icmp .ge 16, 3), (12, .iload_n 1, 1), (13, .aload_n 0, 1), (14, .getfield 30, 3), (17, .arraylength, 1), (18, .if_icmp .ge 7, 3), (21, .iconst 1, 1), (22, .goto 4, 3), (25, .iconst 0, 1), (26, .istore_n 2, 1), (27, .iload_n 2, 1), (28, .ifCond .eq 12, 3), (31, .aload_n 0, 1), (32, .getfield 30, 3), (35, .iload_n 1, 1), (36, .iaload, 1), (37, .goto 5, 3), (40, .bipush 37, 2), (42, .ireturn, 1)]
set_option maxRecDepth 100000 in
theorem qX0_codeKindAt : ∀ q ∈ tX0_codeKindAt, decode cX0_codeKindAt q.1 = .ok (q.2.1, q.2.2) := by decide +kernel
noncomputable def kX0_codeKindAt_25 (d : Nat) (p0 : Nat) (i1 : Int32) (o2 : Option Value) (h : jm_H) : Option jm_R := jm_B d mX0_codeKindAt (25, [some (.ref p0), some (.int i1), o2], []) h
theorem gX0_codeKindAt_25 {d : Nat} {p0 : Nat} {i1 : Int32} {o2 : Option Value} {h : jm_H} {r : jm_R} (H : (some (.inl (some (.int 37)), h)) = some r) : kX0_codeKindAt_25 d p0 i1 o2 h = some r := by
  show jm_B d mX0_codeKindAt (25, [some (.ref p0), some (.int i1), o2], []) h = some r
  refine Eq.trans (jb_nx (i := .iconst 0) (n := 1) (q := (26, [some (.ref p0), some (.int i1), o2], [.int 0])) (jq qX0_codeKindAt 13 rfl) rfl) ?_
  refine Eq.trans (jb_nx (i := .istore_n 2) (n := 1) (q := (27, [some (.ref p0), some (.int i1), some (.int 0)], [])) (jq qX0_codeKindAt 14 rfl) rfl) ?_
  refine Eq.trans (jb_nx (i := .iload_n 2) (n := 1) (q := (28, [some (.ref p0), some (.int i1), some (.int 0)], [.int 0])) (jq qX0_codeKindAt 15 rfl) rfl) ?_
  refine Eq.trans (jb_nx (i := .ifCond .eq 12) (n := 3) (q := (40, [some (.ref p0), some (.int i1), some (.int 0)], [])) (jq qX0_codeKindAt 16 rfl) (jo_ifT (by decide) rfl)) ?_
  refine Eq.trans (jb_nx (i := .bipush 37) (n := 2) (q := (42, [some (.ref p0), some (.int i1), some (.int 0)], [.int 37])) (jq qX0_codeKindAt 22 rfl) rfl) ?_
  exact Eq.trans (jb_rt (i := .ireturn) (n := 1) (jq qX0_codeKindAt 23 rfl) (jo_iret rfl rfl)) H
theorem gX0_codeKindAt {d : Nat} {p0 : Nat} {i1 : Int32} {h : jm_H} {r : jm_R} (H : ((if i1 < 0 then kX0_codeKindAt_25 d p0 i1 none h else (jr_I h p0 0 3 0).bind fun x2 => (if i1 < x2 then (jr_R h p0 0 8 2).bind fun a5 => (jm_len h a5).bind fun n7 => (if i1 < (Int32.ofNat n7) then (jr_R h p0 0 8 2).bind fun a11 => (jm_ali h a11 0 i1).bind fun x13 => some (.inl (some (.int x13)), h) else kX0_codeKindAt_25 d p0 i1 none h) else kX0_codeKindAt_25 d p0 i1 none h))) = some r) : jm_D (d + 1) mX0_codeKindAt [.ref p0, .int i1] h = some r := by
  rw [jm_D_body (Nat.le_of_ble_eq_true rfl)]
  show jm_B d mX0_codeKindAt (0, [some (.ref p0), some (.int i1), none], []) h = some r
  refine Eq.trans (jb_nx (i := .iload_n 1) (n := 1) (q := (1, [some (.ref p0), some (.int i1), none], [.int i1])) (jq qX0_codeKindAt 0 rfl) rfl) ?_
  by_cases c1 : i1 < 0
  · rw [if_pos c1] at H
    refine Eq.trans (jb_nx (i := .ifCond .lt 24) (n := 3) (q := (25, [some (.ref p0), some (.int i1), none], [])) (jq qX0_codeKindAt 1 rfl) (jo_ifT (jz_ltT c1) rfl)) ?_
    exact H
  · rw [if_neg c1] at H
    refine Eq.trans (jb_nx (i := .ifCond .lt 24) (n := 3) (q := (4, [some (.ref p0), some (.int i1), none], [])) (jq qX0_codeKindAt 1 rfl) (jo_ifF (jz_ltF c1))) ?_
    refine Eq.trans (jb_nx (i := .iload_n 1) (n := 1) (q := (5, [some (.ref p0), some (.int i1), none], [.int i1])) (jq qX0_codeKindAt 2 rfl) rfl) ?_
    refine Eq.trans (jb_nx (i := .aload_n 0) (n := 1) (q := (6, [some (.ref p0), some (.int i1), none], [.ref p0, .int i1])) (jq qX0_codeKindAt 3 rfl) rfl) ?_
    obtain ⟨x2, e3, H⟩ := jbd H
    refine Eq.trans (jb_nx (i := .getfield 57) (n := 3) (q := (9, [some (.ref p0), some (.int i1), none], [.int x2, .int i1])) (jq qX0_codeKindAt 4 rfl) (jo_gf rfl (jr_I_inv e3))) ?_
    by_cases c4 : i1 < x2
    · rw [if_pos c4] at H
      refine Eq.trans (jb_nx (i := .if_icmp .ge 16) (n := 3) (q := (12, [some (.ref p0), some (.int i1), none], [])) (jq qX0_codeKindAt 5 rfl) (jo_icF (jz_geF c4))) ?_
      refine Eq.trans (jb_nx (i := .iload_n 1) (n := 1) (q := (13, [some (.ref p0), some (.int i1), none], [.int i1])) (jq qX0_codeKindAt 6 rfl) rfl) ?_
      refine Eq.trans (jb_nx (i := .aload_n 0) (n := 1) (q := (14, [some (.ref p0), some (.int i1), none], [.ref p0, .int i1])) (jq qX0_codeKindAt 7 rfl) rfl) ?_
      obtain ⟨a5, e6, H⟩ := jbd H
      refine Eq.trans (jb_nx (i := .getfield 30) (n := 3) (q := (17, [some (.ref p0), some (.int i1), none], [.ref a5, .int i1])) (jq qX0_codeKindAt 8 rfl) (jo_gf rfl (jr_R_inv e6))) ?_
      obtain ⟨n7, e8, H⟩ := jbd H
      refine Eq.trans (jb_nx (i := .arraylength) (n := 1) (q := (18, [some (.ref p0), some (.int i1), none], [.int (Int32.ofNat n7), .int i1])) (jq qX0_codeKindAt 9 rfl) (jo_len e8)) ?_
      by_cases c9 : i1 < (Int32.ofNat n7)
      · rw [if_pos c9] at H
        refine Eq.trans (jb_nx (i := .if_icmp .ge 7) (n := 3) (q := (21, [some (.ref p0), some (.int i1), none], [])) (jq qX0_codeKindAt 10 rfl) (jo_icF (jz_geF c9))) ?_
        refine Eq.trans (jb_nx (i := .iconst 1) (n := 1) (q := (22, [some (.ref p0), some (.int i1), none], [.int 1])) (jq qX0_codeKindAt 11 rfl) rfl) ?_
        refine Eq.trans (jb_nx (i := .goto 4) (n := 3) (q := (26, [some (.ref p0), some (.int i1), none], [.int 1])) (jq qX0_codeKindAt 12 rfl) rfl) ?_
        refine Eq.trans (jb_nx (i := .istore_n 2) (n := 1) (q := (27, [some (.ref p0), some (.int i1), some (.int 1)], [])) (jq qX0_codeKindAt 14 rfl) rfl) ?_
        refine Eq.trans (jb_nx (i := .iload_n 2) (n := 1) (q := (28, [some (.ref p0), some (.int i1), some (.int 1)], [.int 1])) (jq qX0_codeKindAt 15 rfl) rfl) ?_
        refine Eq.trans (jb_nx (i := .ifCond .eq 12) (n := 3) (q := (31, [some (.ref p0), some (.int i1), some (.int 1)], [])) (jq qX0_codeKindAt 16 rfl) (jo_ifF (by decide))) ?_
        refine Eq.trans (jb_nx (i := .aload_n 0) (n := 1) (q := (32, [some (.ref p0), some (.int i1), some (.int 1)], [.ref p0])) (jq qX0_codeKindAt 17 rfl) rfl) ?_
        obtain ⟨a11, e12, H⟩ := jbd H
        refine Eq.trans (jb_nx (i := .getfield 30) (n := 3) (q := (35, [some (.ref p0), some (.int i1), some (.int 1)], [.ref a11])) (jq qX0_codeKindAt 18 rfl) (jo_gf rfl (jr_R_inv e12))) ?_
        refine Eq.trans (jb_nx (i := .iload_n 1) (n := 1) (q := (36, [some (.ref p0), some (.int i1), some (.int 1)], [.int i1, .ref a11])) (jq qX0_codeKindAt 19 rfl) rfl) ?_
        obtain ⟨x13, e14, H⟩ := jbd H
        refine Eq.trans (jb_nx (i := .iaload) (n := 1) (q := (37, [some (.ref p0), some (.int i1), some (.int 1)], [.int x13])) (jq qX0_codeKindAt 20 rfl) (jo_ial e14)) ?_
        refine Eq.trans (jb_nx (i := .goto 5) (n := 3) (q := (42, [some (.ref p0), some (.int i1), some (.int 1)], [.int x13])) (jq qX0_codeKindAt 21 rfl) rfl) ?_
        exact Eq.trans (jb_rt (i := .ireturn) (n := 1) (jq qX0_codeKindAt 23 rfl) (jo_iret rfl rfl)) H
      · rw [if_neg c9] at H
        refine Eq.trans (jb_nx (i := .if_icmp .ge 7) (n := 3) (q := (25, [some (.ref p0), some (.int i1), none], [])) (jq qX0_codeKindAt 10 rfl) (jo_icT (jz_geT c9) rfl)) ?_
        exact H
    · rw [if_neg c4] at H
      refine Eq.trans (jb_nx (i := .if_icmp .ge 16) (n := 3) (q := (25, [some (.ref p0), some (.int i1), none], [])) (jq qX0_codeKindAt 5 rfl) (jo_icT (jz_geT c4) rfl)) ?_
      exact H
/-! MaskPlays$Book actorNameAt (I)J -/
def tX0_actorNameAt : List (Nat × Instr × Nat) := [(0, .iload_n 1, 1), (1, .ifCond .lt 21, 3), (4, .iload_n 1, 1), (5, .aload_n 0, 1), (6, .getfield 9, 3), (9, .arraylength, 1), (10, .if_icmp .ge 12, 3), (13, .aload_n 0, 1), (14, .getfield 9, 3), (17, .iload_n 1, 1), (18, .laload, 1), (19, .goto 4, 3), (22, .lconst 0, 1), (23, .lreturn, 1)]
set_option maxRecDepth 100000 in
theorem qX0_actorNameAt : ∀ q ∈ tX0_actorNameAt, decode cX0_actorNameAt q.1 = .ok (q.2.1, q.2.2) := by decide +kernel
theorem gX0_actorNameAt {d : Nat} {p0 : Nat} {i1 : Int32} {h : jm_H} {r : jm_R} (H : ((if i1 < 0 then some (.inl (some (.long 0)), h) else (jr_R h p0 0 4 2).bind fun a2 => (jm_len h a2).bind fun n4 => (if i1 < (Int32.ofNat n4) then (jr_R h p0 0 4 2).bind fun a7 => (jm_all h a7 i1).bind fun y9 => some (.inl (some (.long y9)), h) else some (.inl (some (.long 0)), h)))) = some r) : jm_D (d + 1) mX0_actorNameAt [.ref p0, .int i1] h = some r := by
  rw [jm_D_body (Nat.le_of_ble_eq_true rfl)]
  show jm_B d mX0_actorNameAt (0, [some (.ref p0), some (.int i1)], []) h = some r
  refine Eq.trans (jb_nx (i := .iload_n 1) (n := 1) (q := (1, [some (.ref p0), some (.int i1)], [.int i1])) (jq qX0_actorNameAt 0 rfl) rfl) ?_
  by_cases c1 : i1 < 0
  · rw [if_pos c1] at H
    refine Eq.trans (jb_nx (i := .ifCond .lt 21) (n := 3) (q := (22, [some (.ref p0), some (.int i1)], [])) (jq qX0_actorNameAt 1 rfl) (jo_ifT (jz_ltT c1) rfl)) ?_
    refine Eq.trans (jb_nx (i := .lconst 0) (n := 1) (q := (23, [some (.ref p0), some (.int i1)], [.long 0])) (jq qX0_actorNameAt 12 rfl) rfl) ?_
    exact Eq.trans (jb_rt (i := .lreturn) (n := 1) (jq qX0_actorNameAt 13 rfl) rfl) H
  · rw [if_neg c1] at H
    refine Eq.trans (jb_nx (i := .ifCond .lt 21) (n := 3) (q := (4, [some (.ref p0), some (.int i1)], [])) (jq qX0_actorNameAt 1 rfl) (jo_ifF (jz_ltF c1))) ?_
    refine Eq.trans (jb_nx (i := .iload_n 1) (n := 1) (q := (5, [some (.ref p0), some (.int i1)], [.int i1])) (jq qX0_actorNameAt 2 rfl) rfl) ?_
    refine Eq.trans (jb_nx (i := .aload_n 0) (n := 1) (q := (6, [some (.ref p0), some (.int i1)], [.ref p0, .int i1])) (jq qX0_actorNameAt 3 rfl) rfl) ?_
    obtain ⟨a2, e3, H⟩ := jbd H
    refine Eq.trans (jb_nx (i := .getfield 9) (n := 3) (q := (9, [some (.ref p0), some (.int i1)], [.ref a2, .int i1])) (jq qX0_actorNameAt 4 rfl) (jo_gf rfl (jr_R_inv e3))) ?_
    obtain ⟨n4, e5, H⟩ := jbd H
    refine Eq.trans (jb_nx (i := .arraylength) (n := 1) (q := (10, [some (.ref p0), some (.int i1)], [.int (Int32.ofNat n4), .int i1])) (jq qX0_actorNameAt 5 rfl) (jo_len e5)) ?_
    by_cases c6 : i1 < (Int32.ofNat n4)
    · rw [if_pos c6] at H
      refine Eq.trans (jb_nx (i := .if_icmp .ge 12) (n := 3) (q := (13, [some (.ref p0), some (.int i1)], [])) (jq qX0_actorNameAt 6 rfl) (jo_icF (jz_geF c6))) ?_
      refine Eq.trans (jb_nx (i := .aload_n 0) (n := 1) (q := (14, [some (.ref p0), some (.int i1)], [.ref p0])) (jq qX0_actorNameAt 7 rfl) rfl) ?_
      obtain ⟨a7, e8, H⟩ := jbd H
      refine Eq.trans (jb_nx (i := .getfield 9) (n := 3) (q := (17, [some (.ref p0), some (.int i1)], [.ref a7])) (jq qX0_actorNameAt 8 rfl) (jo_gf rfl (jr_R_inv e8))) ?_
      refine Eq.trans (jb_nx (i := .iload_n 1) (n := 1) (q := (18, [some (.ref p0), some (.int i1)], [.int i1, .ref a7])) (jq qX0_actorNameAt 9 rfl) rfl) ?_
      obtain ⟨y9, e10, H⟩ := jbd H
      refine Eq.trans (jb_nx (i := .laload) (n := 1) (q := (19, [some (.ref p0), some (.int i1)], [.long y9])) (jq qX0_actorNameAt 10 rfl) (jo_lal e10)) ?_
      refine Eq.trans (jb_nx (i := .goto 4) (n := 3) (q := (23, [some (.ref p0), some (.int i1)], [.long y9])) (jq qX0_actorNameAt 11 rfl) rfl) ?_
      exact Eq.trans (jb_rt (i := .lreturn) (n := 1) (jq qX0_actorNameAt 13 rfl) rfl) H
    · rw [if_neg c6] at H
      refine Eq.trans (jb_nx (i := .if_icmp .ge 12) (n := 3) (q := (22, [some (.ref p0), some (.int i1)], [])) (jq qX0_actorNameAt 6 rfl) (jo_icT (jz_geT c6) rfl)) ?_
      refine Eq.trans (jb_nx (i := .lconst 0) (n := 1) (q := (23, [some (.ref p0), some (.int i1)], [.long 0])) (jq qX0_actorNameAt 12 rfl) rfl) ?_
      exact Eq.trans (jb_rt (i := .lreturn) (n := 1) (jq qX0_actorNameAt 13 rfl) rfl) H
/-! MaskPlays$Book codeValueAt (I)I -/
def tX0_codeValueAt : List (Nat × Instr × Nat) := [(0, .iload_n 1, 1), (1, .ifCond .lt 24, 3), (4, .iload_n 1, 1), (5, .aload_n 0, 1), (6, .getfield 57, 3), (9, .if_icmp .ge 16, 3), (12, .iload_n 1, 1), (13, .aload_n 0, 1), (14, .getfield 34, 3), (17, .arraylength, 1), (18, .if_icmp .ge 7, 3), (21, .iconst 1, 1), (22, .goto 4, 3), (25, .iconst 0, 1), (26, .istore_n 2, 1), (27, .iload_n 2, 1), (28, .ifCond .eq 12, 3), (31, .aload_n 0, 1), (32, .getfield 34, 3), (35, .iload_n 1, 1), (36, .iaload, 1), (37, .goto 4, 3), (40, .iconst 0, 1), (41, .ireturn, 1)]
set_option maxRecDepth 100000 in
theorem qX0_codeValueAt : ∀ q ∈ tX0_codeValueAt, decode cX0_codeValueAt q.1 = .ok (q.2.1, q.2.2) := by decide +kernel
noncomputable def kX0_codeValueAt_25 (d : Nat) (p0 : Nat) (i1 : Int32) (o2 : Option Value) (h : jm_H) : Option jm_R := jm_B d mX0_codeValueAt (25, [some (.ref p0), some (.int i1), o2], []) h
theorem gX0_codeValueAt_25 {d : Nat} {p0 : Nat} {i1 : Int32} {o2 : Option Value} {h : jm_H} {r : jm_R} (H : (some (.inl (some (.int 0)), h)) = some r) : kX0_codeValueAt_25 d p0 i1 o2 h = some r := by
  show jm_B d mX0_codeValueAt (25, [some (.ref p0), some (.int i1), o2], []) h = some r
  refine Eq.trans (jb_nx (i := .iconst 0) (n := 1) (q := (26, [some (.ref p0), some (.int i1), o2], [.int 0])) (jq qX0_codeValueAt 13 rfl) rfl) ?_
  refine Eq.trans (jb_nx (i := .istore_n 2) (n := 1) (q := (27, [some (.ref p0), some (.int i1), some (.int 0)], [])) (jq qX0_codeValueAt 14 rfl) rfl) ?_
  refine Eq.trans (jb_nx (i := .iload_n 2) (n := 1) (q := (28, [some (.ref p0), some (.int i1), some (.int 0)], [.int 0])) (jq qX0_codeValueAt 15 rfl) rfl) ?_
  refine Eq.trans (jb_nx (i := .ifCond .eq 12) (n := 3) (q := (40, [some (.ref p0), some (.int i1), some (.int 0)], [])) (jq qX0_codeValueAt 16 rfl) (jo_ifT (by decide) rfl)) ?_
  refine Eq.trans (jb_nx (i := .iconst 0) (n := 1) (q := (41, [some (.ref p0), some (.int i1), some (.int 0)], [.int 0])) (jq qX0_codeValueAt 22 rfl) rfl) ?_
  exact Eq.trans (jb_rt (i := .ireturn) (n := 1) (jq qX0_codeValueAt 23 rfl) (jo_iret rfl rfl)) H
theorem gX0_codeValueAt {d : Nat} {p0 : Nat} {i1 : Int32} {h : jm_H} {r : jm_R} (H : ((if i1 < 0 then kX0_codeValueAt_25 d p0 i1 none h else (jr_I h p0 0 3 0).bind fun x2 => (if i1 < x2 then (jr_R h p0 0 9 2).bind fun a5 => (jm_len h a5).bind fun n7 => (if i1 < (Int32.ofNat n7) then (jr_R h p0 0 9 2).bind fun a11 => (jm_ali h a11 0 i1).bind fun x13 => some (.inl (some (.int x13)), h) else kX0_codeValueAt_25 d p0 i1 none h) else kX0_codeValueAt_25 d p0 i1 none h))) = some r) : jm_D (d + 1) mX0_codeValueAt [.ref p0, .int i1] h = some r := by
  rw [jm_D_body (Nat.le_of_ble_eq_true rfl)]
  show jm_B d mX0_codeValueAt (0, [some (.ref p0), some (.int i1), none], []) h = some r
  refine Eq.trans (jb_nx (i := .iload_n 1) (n := 1) (q := (1, [some (.ref p0), some (.int i1), none], [.int i1])) (jq qX0_codeValueAt 0 rfl) rfl) ?_
  by_cases c1 : i1 < 0
  · rw [if_pos c1] at H
    refine Eq.trans (jb_nx (i := .ifCond .lt 24) (n := 3) (q := (25, [some (.ref p0), some (.int i1), none], [])) (jq qX0_codeValueAt 1 rfl) (jo_ifT (jz_ltT c1) rfl)) ?_
    exact H
  · rw [if_neg c1] at H
    refine Eq.trans (jb_nx (i := .ifCond .lt 24) (n := 3) (q := (4, [some (.ref p0), some (.int i1), none], [])) (jq qX0_codeValueAt 1 rfl) (jo_ifF (jz_ltF c1))) ?_
    refine Eq.trans (jb_nx (i := .iload_n 1) (n := 1) (q := (5, [some (.ref p0), some (.int i1), none], [.int i1])) (jq qX0_codeValueAt 2 rfl) rfl) ?_
    refine Eq.trans (jb_nx (i := .aload_n 0) (n := 1) (q := (6, [some (.ref p0), some (.int i1), none], [.ref p0, .int i1])) (jq qX0_codeValueAt 3 rfl) rfl) ?_
    obtain ⟨x2, e3, H⟩ := jbd H
    refine Eq.trans (jb_nx (i := .getfield 57) (n := 3) (q := (9, [some (.ref p0), some (.int i1), none], [.int x2, .int i1])) (jq qX0_codeValueAt 4 rfl) (jo_gf rfl (jr_I_inv e3))) ?_
    by_cases c4 : i1 < x2
    · rw [if_pos c4] at H
      refine Eq.trans (jb_nx (i := .if_icmp .ge 16) (n := 3) (q := (12, [some (.ref p0), some (.int i1), none], [])) (jq qX0_codeValueAt 5 rfl) (jo_icF (jz_geF c4))) ?_
      refine Eq.trans (jb_nx (i := .iload_n 1) (n := 1) (q := (13, [some (.ref p0), some (.int i1), none], [.int i1])) (jq qX0_codeValueAt 6 rfl) rfl) ?_
      refine Eq.trans (jb_nx (i := .aload_n 0) (n := 1) (q := (14, [some (.ref p0), some (.int i1), none], [.ref p0, .int i1])) (jq qX0_codeValueAt 7 rfl) rfl) ?_
      obtain ⟨a5, e6, H⟩ := jbd H
      refine Eq.trans (jb_nx (i := .getfield 34) (n := 3) (q := (17, [some (.ref p0), some (.int i1), none], [.ref a5, .int i1])) (jq qX0_codeValueAt 8 rfl) (jo_gf rfl (jr_R_inv e6))) ?_
      obtain ⟨n7, e8, H⟩ := jbd H
      refine Eq.trans (jb_nx (i := .arraylength) (n := 1) (q := (18, [some (.ref p0), some (.int i1), none], [.int (Int32.ofNat n7), .int i1])) (jq qX0_codeValueAt 9 rfl) (jo_len e8)) ?_
      by_cases c9 : i1 < (Int32.ofNat n7)
      · rw [if_pos c9] at H
        refine Eq.trans (jb_nx (i := .if_icmp .ge 7) (n := 3) (q := (21, [some (.ref p0), some (.int i1), none], [])) (jq qX0_codeValueAt 10 rfl) (jo_icF (jz_geF c9))) ?_
        refine Eq.trans (jb_nx (i := .iconst 1) (n := 1) (q := (22, [some (.ref p0), some (.int i1), none], [.int 1])) (jq qX0_codeValueAt 11 rfl) rfl) ?_
        refine Eq.trans (jb_nx (i := .goto 4) (n := 3) (q := (26, [some (.ref p0), some (.int i1), none], [.int 1])) (jq qX0_codeValueAt 12 rfl) rfl) ?_
        refine Eq.trans (jb_nx (i := .istore_n 2) (n := 1) (q := (27, [some (.ref p0), some (.int i1), some (.int 1)], [])) (jq qX0_codeValueAt 14 rfl) rfl) ?_
        refine Eq.trans (jb_nx (i := .iload_n 2) (n := 1) (q := (28, [some (.ref p0), some (.int i1), some (.int 1)], [.int 1])) (jq qX0_codeValueAt 15 rfl) rfl) ?_
        refine Eq.trans (jb_nx (i := .ifCond .eq 12) (n := 3) (q := (31, [some (.ref p0), some (.int i1), some (.int 1)], [])) (jq qX0_codeValueAt 16 rfl) (jo_ifF (by decide))) ?_
        refine Eq.trans (jb_nx (i := .aload_n 0) (n := 1) (q := (32, [some (.ref p0), some (.int i1), some (.int 1)], [.ref p0])) (jq qX0_codeValueAt 17 rfl) rfl) ?_
        obtain ⟨a11, e12, H⟩ := jbd H
        refine Eq.trans (jb_nx (i := .getfield 34) (n := 3) (q := (35, [some (.ref p0), some (.int i1), some (.int 1)], [.ref a11])) (jq qX0_codeValueAt 18 rfl) (jo_gf rfl (jr_R_inv e12))) ?_
        refine Eq.trans (jb_nx (i := .iload_n 1) (n := 1) (q := (36, [some (.ref p0), some (.int i1), some (.int 1)], [.int i1, .ref a11])) (jq qX0_codeValueAt 19 rfl) rfl) ?_
        obtain ⟨x13, e14, H⟩ := jbd H
        refine Eq.trans (jb_nx (i := .iaload) (n := 1) (q := (37, [some (.ref p0), some (.int i1), some (.int 1)], [.int x13])) (jq qX0_codeValueAt 20 rfl) (jo_ial e14)) ?_
        refine Eq.trans (jb_nx (i := .goto 4) (n := 3) (q := (41, [some (.ref p0), some (.int i1), some (.int 1)], [.int x13])) (jq qX0_codeValueAt 21 rfl) rfl) ?_
        exact Eq.trans (jb_rt (i := .ireturn) (n := 1) (jq qX0_codeValueAt 23 rfl) (jo_iret rfl rfl)) H
      · rw [if_neg c9] at H
        refine Eq.trans (jb_nx (i := .if_icmp .ge 7) (n := 3) (q := (25, [some (.ref p0), some (.int i1), none], [])) (jq qX0_codeValueAt 10 rfl) (jo_icT (jz_geT c9) rfl)) ?_
        exact H
    · rw [if_neg c4] at H
      refine Eq.trans (jb_nx (i := .if_icmp .ge 16) (n := 3) (q := (25, [some (.ref p0), some (.int i1), none], [])) (jq qX0_codeValueAt 5 rfl) (jo_icT (jz_geT c4) rfl)) ?_
      exact H
