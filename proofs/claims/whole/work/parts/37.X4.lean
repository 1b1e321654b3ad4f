/-! ===== LEVEL 2: X4 ===== -/
/-! MaskPlays$Stage <init> (LMaskPlays$Step;)V -/
def tX4_init : List (Nat × Instr × Nat) := [(0, .aload_n 0, 1), (1, .invokespecial 3, 3), (4, .aload_n 0, 1), (5, .bipush 12, 2), (7, .anewarray 9, 3), (10, .putfield 11, 3), (13, .aload_n 0, 1), (14, .bipush 12, 2), (16, .newarray .int, 2), (18, .putfield 17, 3), (21, .aload_n 0, 1), (22, .new 9, 3), (25, .dup, 1), (26, .invokespecial 21, 3), (29, .putfield 22, 3), (32, .aload_n 0, 1), (33, .new 9, 3), (36, .dup, 1), (37, .invokespecial 21, 3), (40, .putfield 26, 3), (43, .aload_n 0, 1), (44, .new 29, 3), (47, .dup, 1), (48, .invokespecial 31, 3), (51, .putfield 32, 3), (54, .aload_n 0, 1), (55, .aload_n 1, 1), (56, .putfield 36, 3), (59, .iconst 0, 1), (60, .istore_n 2, 1), (61, .iload_n 2, 1), (62, .aload_n 0, 1), (63, .getfield 11, 3), (66, .arraylength, 1), (67, .if_icmp .ge 22, 3), (70, .aload_n 0, 1), (71, .getfield 11, 3), (74, .iload_n 2, 1), (75, .new 9, 3), (78, .dup, 1), (79, .invokespecial 21, 3), (82, .aastore, 1), (83, .iinc 2 1, 3), (86, .goto (-25), 3), (89, .return_, 1)]
set_option maxRecDepth 100000 in
theorem qX4_init : ∀ q ∈ tX4_init, decode cX4_init q.1 = .ok (q.2.1, q.2.2) := by decide +kernel
noncomputable def kX4_init_61 (d : Nat) (p0 : Nat) (o1 : Option Value) (i2 : Int32) (h : jm_H) : Option jm_R := jm_B d mX4_init (61, [some (.ref p0), o1, some (.int i2)], []) h
theorem gX4_init_61 {d : Nat} {p0 : Nat} {o1 : Option Value} {i2 : Int32} {h : jm_H} {r : jm_R} (H : ((jr_R h p0 4 2 2).bind fun a43 => (jm_len h a43).bind fun n45 => (if i2 < (Int32.ofNat n45) then (jr_R h p0 4 2 2).bind fun a48 => jl_new h 3 [.int 0, .null, .null, .null, .null] 5 fun a50 h51 => jm_U a50 (jc_V (jm_D d mX3_init [.ref a50] h51) (fun h54 => (jm_asr h54 a48 i2 a50).bind fun h56 => kX4_init_61 d p0 (jm_dm o1) (i2 + 1) h56) (fun _ _ => none)) else some (.inl none, h))) = some r) : kX4_init_61 d p0 o1 i2 h = some r := by
  show jm_B d mX4_init (61, [some (.ref p0), o1, some (.int i2)], []) h = some r
  refine Eq.trans (jb_nx (i := .iload_n 2) (n := 1) (q := (62, [some (.ref p0), o1, some (.int i2)], [.int i2])) (jq qX4_init 30 rfl) rfl) ?_
  refine Eq.trans (jb_nx (i := .aload_n 0) (n := 1) (q := (63, [some (.ref p0), o1, some (.int i2)], [.ref p0, .int i2])) (jq qX4_init 31 rfl) rfl) ?_
  obtain ⟨a43, e44, H⟩ := jbd H
  refine Eq.trans (jb_nx (i := .getfield 11) (n := 3) (q := (66, [some (.ref p0), o1, some (.int i2)], [.ref a43, .int i2])) (jq qX4_init 32 rfl) (jo_gf rfl (jr_R_inv e44))) ?_
  obtain ⟨n45, e46, H⟩ := jbd H
  refine Eq.trans (jb_nx (i := .arraylength) (n := 1) (q := (67, [some (.ref p0), o1, some (.int i2)], [.int (Int32.ofNat n45), .int i2])) (jq qX4_init 33 rfl) (jo_len e46)) ?_
  by_cases c47 : i2 < (Int32.ofNat n45)
  · rw [if_pos c47] at H
    refine Eq.trans (jb_nx (i := .if_icmp .ge 22) (n := 3) (q := (70, [some (.ref p0), o1, some (.int i2)], [])) (jq qX4_init 34 rfl) (jo_icF (jz_geF c47))) ?_
    refine Eq.trans (jb_nx (i := .aload_n 0) (n := 1) (q := (71, [some (.ref p0), o1, some (.int i2)], [.ref p0])) (jq qX4_init 35 rfl) rfl) ?_
    obtain ⟨a48, e49, H⟩ := jbd H
    refine Eq.trans (jb_nx (i := .getfield 11) (n := 3) (q := (74, [some (.ref p0), o1, some (.int i2)], [.ref a48])) (jq qX4_init 36 rfl) (jo_gf rfl (jr_R_inv e49))) ?_
    refine Eq.trans (jb_nx (i := .iload_n 2) (n := 1) (q := (75, [some (.ref p0), o1, some (.int i2)], [.int i2, .ref a48])) (jq qX4_init 37 rfl) rfl) ?_
    obtain ⟨a50, h51, e52, e53, H⟩ := jl_new_inv H
    refine Eq.trans (jb_nx (i := .new 9) (n := 3) (q := (78, [some (.ref p0), o1, some (.int i2)], [.ref a50, .int i2, .ref a48])) (jq qX4_init 38 rfl) (jo_newo rfl (by decide) rfl rfl e52 e53)) ?_
    refine Eq.trans (jb_nx (i := .dup) (n := 1) (q := (79, [some (.ref p0), o1, some (.int i2)], [.ref a50, .ref a50, .int i2, .ref a48])) (jq qX4_init 39 rfl) rfl) ?_
    obtain ⟨u58, H⟩ := jm_U_inv H
    rcases jcV H with ⟨h54, r55, H⟩ | ⟨_, _, _, H⟩
    · refine Eq.trans (jb_nx (i := .invokespecial 21) (n := 3) (q := (82, [some (.ref p0), o1, some (.int i2)], [.ref a50, .int i2, .ref a48])) (jq qX4_init 40 rfl) (jo_ci (y := mX3_init) (w := 2) (by decide) rfl (Nat.le_of_ble_eq_true rfl) rfl (Nat.le_of_ble_eq_true rfl) u58 rfl r55)) ?_
      obtain ⟨h56, e57, H⟩ := jbd H
      refine Eq.trans (jb_nx (i := .aastore) (n := 1) (q := (83, [some (.ref p0), o1, some (.int i2)], [])) (jq qX4_init 41 rfl) (jo_ras e57)) ?_
      refine Eq.trans (jb_nx (i := .iinc 2 1) (n := 3) (q := (86, [some (.ref p0), (jm_dm o1), some (.int (i2 + 1))], [])) (jq qX4_init 42 rfl) rfl) ?_
      refine Eq.trans (jb_nx (i := .goto (-25)) (n := 3) (q := (61, [some (.ref p0), (jm_dm o1), some (.int (i2 + 1))], [])) (jq qX4_init 43 rfl) rfl) ?_
      exact H
    · cases H
  · rw [if_neg c47] at H
    refine Eq.trans (jb_nx (i := .if_icmp .ge 22) (n := 3) (q := (89, [some (.ref p0), o1, some (.int i2)], [])) (jq qX4_init 34 rfl) (jo_icT (jz_geT c47) rfl)) ?_
    exact Eq.trans (jb_rt (i := .return_) (n := 1) (jq qX4_init 44 rfl) rfl) H
theorem gX4_init {d : Nat} {p0 : Nat} {p1 : Nat} {h : jm_H} {r : jm_R} (H : (jm_U p0 (jl_newa h 5 12 fun a2 h3 => (jm_pf h3 p0 4 2 2 (.ref a2)).bind fun h6 => jl_newa h6 0 12 fun a8 h9 => (jm_pf h9 p0 4 3 2 (.ref a8)).bind fun h12 => jl_new h12 3 [.int 0, .null, .null, .null, .null] 5 fun a14 h15 => jm_U a14 (jc_V (jm_D d mX3_init [.ref a14] h15) (fun h18 => (jm_pf h18 p0 4 4 2 (.ref a14)).bind fun h20 => jl_new h20 3 [.int 0, .null, .null, .null, .null] 5 fun a22 h23 => jm_U a22 (jc_V (jm_D d mX3_init [.ref a22] h23) (fun h26 => (jm_pf h26 p0 4 5 2 (.ref a22)).bind fun h28 => jl_new h28 7 [.null, .int 0] 2 fun a30 h31 => jm_U a30 (jc_V (jm_D d mX7_init [.ref a30] h31) (fun h34 => (jm_pf h34 p0 4 7 2 (.ref a30)).bind fun h36 => (jm_pf h36 p0 4 6 2 (.ref p1)).bind fun h38 => kX4_init_61 d p0 (some (.ref p1)) 0 h38) (fun _ _ => none))) (fun _ _ => none))) (fun _ _ => none)))) = some r) : jm_D (d + 1) mX4_init [.ref p0, .ref p1] h = some r := by
  rw [jm_D_body (Nat.le_of_ble_eq_true rfl)]
  show jm_B d mX4_init (0, [some (.ref p0), some (.ref p1), none], []) h = some r
  refine Eq.trans (jb_nx (i := .aload_n 0) (n := 1) (q := (1, [some (.ref p0), some (.ref p1), none], [.ref p0])) (jq qX4_init 0 rfl) rfl) ?_
  obtain ⟨u1, H⟩ := jm_U_inv H
  refine Eq.trans (jb_nx (i := .invokespecial 3) (n := 3) (q := (4, [some (.ref p0), some (.ref p1), none], [])) (jq qX4_init 1 rfl) (jo_oi (z := mX3_clear) rfl (Nat.le_of_ble_eq_true rfl) u1)) ?_
  refine Eq.trans (jb_nx (i := .aload_n 0) (n := 1) (q := (5, [some (.ref p0), some (.ref p1), none], [.ref p0])) (jq qX4_init 2 rfl) rfl) ?_
  refine Eq.trans (jb_nx (i := .bipush 12) (n := 2) (q := (7, [some (.ref p0), some (.ref p1), none], [.int 12, .ref p0])) (jq qX4_init 3 rfl) rfl) ?_
  obtain ⟨a2, h3, e4, e5, H⟩ := jl_newa_inv H
  refine Eq.trans (jb_nx (i := .anewarray 9) (n := 3) (q := (10, [some (.ref p0), some (.ref p1), none], [.ref a2, .ref p0])) (jq qX4_init 4 rfl) (jo_anewb rfl (by decide) e4 e5)) ?_
  obtain ⟨h6, e7, H⟩ := jbd H
  refine Eq.trans (jb_nx (i := .putfield 11) (n := 3) (q := (13, [some (.ref p0), some (.ref p1), none], [])) (jq qX4_init 5 rfl) (jo_pf rfl (Or.inr ⟨rfl, rfl⟩) e7)) ?_
  refine Eq.trans (jb_nx (i := .aload_n 0) (n := 1) (q := (14, [some (.ref p0), some (.ref p1), none], [.ref p0])) (jq qX4_init 6 rfl) rfl) ?_
  refine Eq.trans (jb_nx (i := .bipush 12) (n := 2) (q := (16, [some (.ref p0), some (.ref p1), none], [.int 12, .ref p0])) (jq qX4_init 7 rfl) rfl) ?_
  obtain ⟨a8, h9, e10, e11, H⟩ := jl_newa_inv H
  refine Eq.trans (jb_nx (i := .newarray .int) (n := 2) (q := (18, [some (.ref p0), some (.ref p1), none], [.ref a8, .ref p0])) (jq qX4_init 8 rfl) (jo_newb rfl e10 e11)) ?_
  obtain ⟨h12, e13, H⟩ := jbd H
  refine Eq.trans (jb_nx (i := .putfield 17) (n := 3) (q := (21, [some (.ref p0), some (.ref p1), none], [])) (jq qX4_init 9 rfl) (jo_pf rfl (Or.inr ⟨rfl, rfl⟩) e13)) ?_
  refine Eq.trans (jb_nx (i := .aload_n 0) (n := 1) (q := (22, [some (.ref p0), some (.ref p1), none], [.ref p0])) (jq qX4_init 10 rfl) rfl) ?_
  obtain ⟨a14, h15, e16, e17, H⟩ := jl_new_inv H
  refine Eq.trans (jb_nx (i := .new 9) (n := 3) (q := (25, [some (.ref p0), some (.ref p1), none], [.ref a14, .ref p0])) (jq qX4_init 11 rfl) (jo_newo rfl (by decide) rfl rfl e16 e17)) ?_
  refine Eq.trans (jb_nx (i := .dup) (n := 1) (q := (26, [some (.ref p0), some (.ref p1), none], [.ref a14, .ref a14, .ref p0])) (jq qX4_init 12 rfl) rfl) ?_
  obtain ⟨u42, H⟩ := jm_U_inv H
  rcases jcV H with ⟨h18, r19, H⟩ | ⟨_, _, _, H⟩
  · refine Eq.trans (jb_nx (i := .invokespecial 21) (n := 3) (q := (29, [some (.ref p0), some (.ref p1), none], [.ref a14, .ref p0])) (jq qX4_init 13 rfl) (jo_ci (y := mX3_init) (w := 2) (by decide) rfl (Nat.le_of_ble_eq_true rfl) rfl (Nat.le_of_ble_eq_true rfl) u42 rfl r19)) ?_
    obtain ⟨h20, e21, H⟩ := jbd H
    refine Eq.trans (jb_nx (i := .putfield 22) (n := 3) (q := (32, [some (.ref p0), some (.ref p1), none], [])) (jq qX4_init 14 rfl) (jo_pf rfl (Or.inr ⟨rfl, rfl⟩) e21)) ?_
    refine Eq.trans (jb_nx (i := .aload_n 0) (n := 1) (q := (33, [some (.ref p0), some (.ref p1), none], [.ref p0])) (jq qX4_init 15 rfl) rfl) ?_
    obtain ⟨a22, h23, e24, e25, H⟩ := jl_new_inv H
    refine Eq.trans (jb_nx (i := .new 9) (n := 3) (q := (36, [some (.ref p0), some (.ref p1), none], [.ref a22, .ref p0])) (jq qX4_init 16 rfl) (jo_newo rfl (by decide) rfl rfl e24 e25)) ?_
    refine Eq.trans (jb_nx (i := .dup) (n := 1) (q := (37, [some (.ref p0), some (.ref p1), none], [.ref a22, .ref a22, .ref p0])) (jq qX4_init 17 rfl) rfl) ?_
    obtain ⟨u41, H⟩ := jm_U_inv H
    rcases jcV H with ⟨h26, r27, H⟩ | ⟨_, _, _, H⟩
    · refine Eq.trans (jb_nx (i := .invokespecial 21) (n := 3) (q := (40, [some (.ref p0), some (.ref p1), none], [.ref a22, .ref p0])) (jq qX4_init 18 rfl) (jo_ci (y := mX3_init) (w := 2) (by decide) rfl (Nat.le_of_ble_eq_true rfl) rfl (Nat.le_of_ble_eq_true rfl) u41 rfl r27)) ?_
      obtain ⟨h28, e29, H⟩ := jbd H
      refine Eq.trans (jb_nx (i := .putfield 26) (n := 3) (q := (43, [some (.ref p0), some (.ref p1), none], [])) (jq qX4_init 19 rfl) (jo_pf rfl (Or.inr ⟨rfl, rfl⟩) e29)) ?_
      refine Eq.trans (jb_nx (i := .aload_n 0) (n := 1) (q := (44, [some (.ref p0), some (.ref p1), none], [.ref p0])) (jq qX4_init 20 rfl) rfl) ?_
      obtain ⟨a30, h31, e32, e33, H⟩ := jl_new_inv H
      refine Eq.trans (jb_nx (i := .new 29) (n := 3) (q := (47, [some (.ref p0), some (.ref p1), none], [.ref a30, .ref p0])) (jq qX4_init 21 rfl) (jo_newo rfl (by decide) rfl rfl e32 e33)) ?_
      refine Eq.trans (jb_nx (i := .dup) (n := 1) (q := (48, [some (.ref p0), some (.ref p1), none], [.ref a30, .ref a30, .ref p0])) (jq qX4_init 22 rfl) rfl) ?_
      obtain ⟨u40, H⟩ := jm_U_inv H
      rcases jcV H with ⟨h34, r35, H⟩ | ⟨_, _, _, H⟩
      · refine Eq.trans (jb_nx (i := .invokespecial 31) (n := 3) (q := (51, [some (.ref p0), some (.ref p1), none], [.ref a30, .ref p0])) (jq qX4_init 23 rfl) (jo_ci (y := mX7_init) (w := 2) (by decide) rfl (Nat.le_of_ble_eq_true rfl) rfl (Nat.le_of_ble_eq_true rfl) u40 rfl r35)) ?_
        obtain ⟨h36, e37, H⟩ := jbd H
        refine Eq.trans (jb_nx (i := .putfield 32) (n := 3) (q := (54, [some (.ref p0), some (.ref p1), none], [])) (jq qX4_init 24 rfl) (jo_pf rfl (Or.inr ⟨rfl, rfl⟩) e37)) ?_
        refine Eq.trans (jb_nx (i := .aload_n 0) (n := 1) (q := (55, [some (.ref p0), some (.ref p1), none], [.ref p0])) (jq qX4_init 25 rfl) rfl) ?_
        refine Eq.trans (jb_nx (i := .aload_n 1) (n := 1) (q := (56, [some (.ref p0), some (.ref p1), none], [.ref p1, .ref p0])) (jq qX4_init 26 rfl) rfl) ?_
        obtain ⟨h38, e39, H⟩ := jbd H
        refine Eq.trans (jb_nx (i := .putfield 36) (n := 3) (q := (59, [some (.ref p0), some (.ref p1), none], [])) (jq qX4_init 27 rfl) (jo_pf rfl (Or.inr ⟨rfl, rfl⟩) e39)) ?_
        refine Eq.trans (jb_nx (i := .iconst 0) (n := 1) (q := (60, [some (.ref p0), some (.ref p1), none], [.int 0])) (jq qX4_init 28 rfl) rfl) ?_
        refine Eq.trans (jb_nx (i := .istore_n 2) (n := 1) (q := (61, [some (.ref p0), some (.ref p1), some (.int 0)], [])) (jq qX4_init 29 rfl) rfl) ?_
        exact H
      · cases H
    · cases H
  · cases H
/-! MaskPlays$Stage begin (LMaskPlays$Book;)V -/
def tX4_begin : List (Nat × Instr × Nat) := [(0, .aload_n 0, 1), (1, .iconst 0, 1), (2, .putfield 40, 3), (5, .aload_n 0, 1), (6, .iconst 0, 1), (7, .putfield 44, 3), (10, .iconst 0, 1), (11, .istore_n 2, 1), (12, .iload_n 2, 1), (13, .aload_n 0, 1), (14, .getfield 11, 3), (17, .arraylength, 1), (18, .if_icmp .ge 29, 3), (21, .aload_n 0, 1), (22, .getfield 11, 3), (25, .iload_n 2, 1), (26, .aaload, 1), (27, .aload_n 1, 1), (28, .iload_n 2, 1), (29, .invokevirtual 47, 3), (32, .invokevirtual 53, 3), (35, .aload_n 0, 1), (36, .iload_n 2, 1), (37, .iconst 0, 1), (38, .invokevirtual 57, 3), (41, .iinc 2 1, 3), (44, .goto (-32), 3), (47, .return_, 1)]
set_option maxRecDepth 100000 in
theorem qX4_begin : ∀ q ∈ tX4_begin, decode cX4_begin q.1 = .ok (q.2.1, q.2.2) := by decide +kernel
noncomputable def kX4_begin_12 (d : Nat) (p0 : Nat) (p1 : Nat) (i2 : Int32) (h : jm_H) : Option jm_R := jm_B d mX4_begin (12, [some (.ref p0), some (.ref p1), some (.int i2)], []) h
theorem gX4_begin_12 {d : Nat} {p0 : Nat} {p1 : Nat} {i2 : Int32} {h : jm_H} {r : jm_R} (H : ((jr_R h p0 4 2 2).bind fun a5 => (jm_len h a5).bind fun n7 => (if i2 < (Int32.ofNat n7) then (jr_R h p0 4 2 2).bind fun a10 => (jm_alr h a10 i2).bind fun a12 => jm_O h p1 0 (jc_R (jm_D d mX0_toldAt [.ref p1, .int i2] h) (fun a16 h14 => jm_O h14 a12 3 (jc_V (jm_D d mX3_setTo [.ref a12, .ref a16] h14) (fun h17 => jm_O h17 p0 4 (jc_V (jm_D d mX4_setSteps [.ref p0, .int i2, .int 0] h17) (fun h19 => kX4_begin_12 d p0 p1 (i2 + 1) h19) jx)) jx)) jx) else some (.inl none, h))) = some r) : kX4_begin_12 d p0 p1 i2 h = some r := by
  show jm_B d mX4_begin (12, [some (.ref p0), some (.ref p1), some (.int i2)], []) h = some r
  refine Eq.trans (jb_nx (i := .iload_n 2) (n := 1) (q := (13, [some (.ref p0), some (.ref p1), some (.int i2)], [.int i2])) (jq qX4_begin 8 rfl) rfl) ?_
  refine Eq.trans (jb_nx (i := .aload_n 0) (n := 1) (q := (14, [some (.ref p0), some (.ref p1), some (.int i2)], [.ref p0, .int i2])) (jq qX4_begin 9 rfl) rfl) ?_
  obtain ⟨a5, e6, H⟩ := jbd H
  refine Eq.trans (jb_nx (i := .getfield 11) (n := 3) (q := (17, [some (.ref p0), some (.ref p1), some (.int i2)], [.ref a5, .int i2])) (jq qX4_begin 10 rfl) (jo_gf rfl (jr_R_inv e6))) ?_
  obtain ⟨n7, e8, H⟩ := jbd H
  refine Eq.trans (jb_nx (i := .arraylength) (n := 1) (q := (18, [some (.ref p0), some (.ref p1), some (.int i2)], [.int (Int32.ofNat n7), .int i2])) (jq qX4_begin 11 rfl) (jo_len e8)) ?_
  by_cases c9 : i2 < (Int32.ofNat n7)
  · rw [if_pos c9] at H
    refine Eq.trans (jb_nx (i := .if_icmp .ge 29) (n := 3) (q := (21, [some (.ref p0), some (.ref p1), some (.int i2)], [])) (jq qX4_begin 12 rfl) (jo_icF (jz_geF c9))) ?_
    refine Eq.trans (jb_nx (i := .aload_n 0) (n := 1) (q := (22, [some (.ref p0), some (.ref p1), some (.int i2)], [.ref p0])) (jq qX4_begin 13 rfl) rfl) ?_
    obtain ⟨a10, e11, H⟩ := jbd H
    refine Eq.trans (jb_nx (i := .getfield 11) (n := 3) (q := (25, [some (.ref p0), some (.ref p1), some (.int i2)], [.ref a10])) (jq qX4_begin 14 rfl) (jo_gf rfl (jr_R_inv e11))) ?_
    refine Eq.trans (jb_nx (i := .iload_n 2) (n := 1) (q := (26, [some (.ref p0), some (.ref p1), some (.int i2)], [.int i2, .ref a10])) (jq qX4_begin 15 rfl) rfl) ?_
    obtain ⟨a12, e13, H⟩ := jbd H
    refine Eq.trans (jb_nx (i := .aaload) (n := 1) (q := (27, [some (.ref p0), some (.ref p1), some (.int i2)], [.ref a12])) (jq qX4_begin 16 rfl) (jo_ral e13)) ?_
    refine Eq.trans (jb_nx (i := .aload_n 1) (n := 1) (q := (28, [some (.ref p0), some (.ref p1), some (.int i2)], [.ref p1, .ref a12])) (jq qX4_begin 17 rfl) rfl) ?_
    refine Eq.trans (jb_nx (i := .iload_n 2) (n := 1) (q := (29, [some (.ref p0), some (.ref p1), some (.int i2)], [.int i2, .ref p1, .ref a12])) (jq qX4_begin 18 rfl) rfl) ?_
    obtain ⟨b27, H⟩ := jm_O_inv H
    rcases jcR H with ⟨a16, h14, r15, H⟩ | ⟨w28, h29, r15, H⟩
    · refine Eq.trans (jb_nx (i := .invokevirtual 47) (n := 3) (q := (32, [some (.ref p0), some (.ref p1), some (.int i2)], [.ref a16, .ref a12])) (jq qX4_begin 19 rfl) (jo_cv (y := mX0_toldAt) rfl (Nat.le_of_ble_eq_true rfl) rfl (Nat.le_of_ble_eq_true rfl) b27 rfl r15 jo_ret)) ?_
      obtain ⟨b24, H⟩ := jm_O_inv H
      rcases jcV H with ⟨h17, r18, H⟩ | ⟨w25, h26, r18, H⟩
      · refine Eq.trans (jb_nx (i := .invokevirtual 53) (n := 3) (q := (35, [some (.ref p0), some (.ref p1), some (.int i2)], [])) (jq qX4_begin 20 rfl) (jo_cv (y := mX3_setTo) rfl (Nat.le_of_ble_eq_true rfl) rfl (Nat.le_of_ble_eq_true rfl) b24 rfl r18 jo_ret)) ?_
        refine Eq.trans (jb_nx (i := .aload_n 0) (n := 1) (q := (36, [some (.ref p0), some (.ref p1), some (.int i2)], [.ref p0])) (jq qX4_begin 21 rfl) rfl) ?_
        refine Eq.trans (jb_nx (i := .iload_n 2) (n := 1) (q := (37, [some (.ref p0), some (.ref p1), some (.int i2)], [.int i2, .ref p0])) (jq qX4_begin 22 rfl) rfl) ?_
        refine Eq.trans (jb_nx (i := .iconst 0) (n := 1) (q := (38, [some (.ref p0), some (.ref p1), some (.int i2)], [.int 0, .int i2, .ref p0])) (jq qX4_begin 23 rfl) rfl) ?_
        obtain ⟨b21, H⟩ := jm_O_inv H
        rcases jcV H with ⟨h19, r20, H⟩ | ⟨w22, h23, r20, H⟩
        · refine Eq.trans (jb_nx (i := .invokevirtual 57) (n := 3) (q := (41, [some (.ref p0), some (.ref p1), some (.int i2)], [])) (jq qX4_begin 24 rfl) (jo_cv (y := mX4_setSteps) rfl (Nat.le_of_ble_eq_true rfl) rfl (Nat.le_of_ble_eq_true rfl) b21 rfl r20 jo_ret)) ?_
          refine Eq.trans (jb_nx (i := .iinc 2 1) (n := 3) (q := (44, [some (.ref p0), some (.ref p1), some (.int (i2 + 1))], [])) (jq qX4_begin 25 rfl) rfl) ?_
          refine Eq.trans (jb_nx (i := .goto (-32)) (n := 3) (q := (12, [some (.ref p0), some (.ref p1), some (.int (i2 + 1))], [])) (jq qX4_begin 26 rfl) rfl) ?_
          exact H
        · exact Eq.trans (jb_rt (i := .invokevirtual 57) (n := 3) (jq qX4_begin 24 rfl) (jo_cv (y := mX4_setSteps) rfl (Nat.le_of_ble_eq_true rfl) rfl (Nat.le_of_ble_eq_true rfl) b21 rfl r20 (jo_exn rfl))) H
      · exact Eq.trans (jb_rt (i := .invokevirtual 53) (n := 3) (jq qX4_begin 20 rfl) (jo_cv (y := mX3_setTo) rfl (Nat.le_of_ble_eq_true rfl) rfl (Nat.le_of_ble_eq_true rfl) b24 rfl r18 (jo_exn rfl))) H
    · exact Eq.trans (jb_rt (i := .invokevirtual 47) (n := 3) (jq qX4_begin 19 rfl) (jo_cv (y := mX0_toldAt) rfl (Nat.le_of_ble_eq_true rfl) rfl (Nat.le_of_ble_eq_true rfl) b27 rfl r15 (jo_exn rfl))) H
  · rw [if_neg c9] at H
    refine Eq.trans (jb_nx (i := .if_icmp .ge 29) (n := 3) (q := (47, [some (.ref p0), some (.ref p1), some (.int i2)], [])) (jq qX4_begin 12 rfl) (jo_icT (jz_geT c9) rfl)) ?_
    exact Eq.trans (jb_rt (i := .return_) (n := 1) (jq qX4_begin 27 rfl) rfl) H
theorem gX4_begin {d : Nat} {p0 : Nat} {p1 : Nat} {h : jm_H} {r : jm_R} (H : ((jm_pf h p0 4 0 0 (.int 0)).bind fun h1 => (jm_pf h1 p0 4 1 0 (.int 0)).bind fun h3 => kX4_begin_12 d p0 p1 0 h3) = some r) : jm_D (d + 1) mX4_begin [.ref p0, .ref p1] h = some r := by
  rw [jm_D_body (Nat.le_of_ble_eq_true rfl)]
  show jm_B d mX4_begin (0, [some (.ref p0), some (.ref p1), none], []) h = some r
  refine Eq.trans (jb_nx (i := .aload_n 0) (n := 1) (q := (1, [some (.ref p0), some (.ref p1), none], [.ref p0])) (jq qX4_begin 0 rfl) rfl) ?_
  refine Eq.trans (jb_nx (i := .iconst 0) (n := 1) (q := (2, [some (.ref p0), some (.ref p1), none], [.int 0, .ref p0])) (jq qX4_begin 1 rfl) rfl) ?_
  obtain ⟨h1, e2, H⟩ := jbd H
  refine Eq.trans (jb_nx (i := .putfield 40) (n := 3) (q := (5, [some (.ref p0), some (.ref p1), none], [])) (jq qX4_begin 2 rfl) (jo_pf rfl (Or.inl rfl) e2)) ?_
  refine Eq.trans (jb_nx (i := .aload_n 0) (n := 1) (q := (6, [some (.ref p0), some (.ref p1), none], [.ref p0])) (jq qX4_begin 3 rfl) rfl) ?_
  refine Eq.trans (jb_nx (i := .iconst 0) (n := 1) (q := (7, [some (.ref p0), some (.ref p1), none], [.int 0, .ref p0])) (jq qX4_begin 4 rfl) rfl) ?_
  obtain ⟨h3, e4, H⟩ := jbd H
  refine Eq.trans (jb_nx (i := .putfield 44) (n := 3) (q := (10, [some (.ref p0), some (.ref p1), none], [])) (jq qX4_begin 5 rfl) (jo_pf rfl (Or.inl rfl) e4)) ?_
  refine Eq.trans (jb_nx (i := .iconst 0) (n := 1) (q := (11, [some (.ref p0), some (.ref p1), none], [.int 0])) (jq qX4_begin 6 rfl) rfl) ?_
  refine Eq.trans (jb_nx (i := .istore_n 2) (n := 1) (q := (12, [some (.ref p0), some (.ref p1), some (.int 0)], [])) (jq qX4_begin 7 rfl) rfl) ?_
  exact H
/-! MaskPlays$Stage setSteps (II)V -/
def tX4_setSteps : List (Nat × Instr × Nat) := [(0, .iload_n 1, 1), (1, .ifCond .lt 19, 3), (4, .iload_n 1, 1), (5, .aload_n 0, 1), (6, .getfield 17, 3), (9, .arraylength, 1), (10, .if_icmp .ge 10, 3), (13, .aload_n 0, 1), (14, .getfield 17, 3), (17, .iload_n 1, 1), (18, .iload_n 2, 1), (19, .iastore, 1), (20, .return_, 1)]
set_option maxRecDepth 100000 in
theorem qX4_setSteps : ∀ q ∈ tX4_setSteps, decode cX4_setSteps q.1 = .ok (q.2.1, q.2.2) := by decide +kernel
theorem gX4_setSteps {d : Nat} {p0 : Nat} {i1 : Int32} {i2 : Int32} {h : jm_H} {r : jm_R} (H : ((if i1 < 0 then some (.inl none, h) else (jr_R h p0 4 3 2).bind fun a2 => (jm_len h a2).bind fun n4 => (if i1 < (Int32.ofNat n4) then (jr_R h p0 4 3 2).bind fun a7 => (jm_asi h a7 0 i1 i2).bind fun h9 => some (.inl none, h9) else some (.inl none, h)))) = some r) : jm_D (d + 1) mX4_setSteps [.ref p0, .int i1, .int i2] h = some r := by
  rw [jm_D_body (Nat.le_of_ble_eq_true rfl)]
  show jm_B d mX4_setSteps (0, [some (.ref p0), some (.int i1), some (.int i2)], []) h = some r
  refine Eq.trans (jb_nx (i := .iload_n 1) (n := 1) (q := (1, [some (.ref p0), some (.int i1), some (.int i2)], [.int i1])) (jq qX4_setSteps 0 rfl) rfl) ?_
  by_cases c1 : i1 < 0
  · rw [if_pos c1] at H
    refine Eq.trans (jb_nx (i := .ifCond .lt 19) (n := 3) (q := (20, [some (.ref p0), some (.int i1), some (.int i2)], [])) (jq qX4_setSteps 1 rfl) (jo_ifT (jz_ltT c1) rfl)) ?_
    exact Eq.trans (jb_rt (i := .return_) (n := 1) (jq qX4_setSteps 12 rfl) rfl) H
  · rw [if_neg c1] at H
    refine Eq.trans (jb_nx (i := .ifCond .lt 19) (n := 3) (q := (4, [some (.ref p0), some (.int i1), some (.int i2)], [])) (jq qX4_setSteps 1 rfl) (jo_ifF (jz_ltF c1))) ?_
    refine Eq.trans (jb_nx (i := .iload_n 1) (n := 1) (q := (5, [some (.ref p0), some (.int i1), some (.int i2)], [.int i1])) (jq qX4_setSteps 2 rfl) rfl) ?_
    refine Eq.trans (jb_nx (i := .aload_n 0) (n := 1) (q := (6, [some (.ref p0), some (.int i1), some (.int i2)], [.ref p0, .int i1])) (jq qX4_setSteps 3 rfl) rfl) ?_
    obtain ⟨a2, e3, H⟩ := jbd H
    refine Eq.trans (jb_nx (i := .getfield 17) (n := 3) (q := (9, [some (.ref p0), some (.int i1), some (.int i2)], [.ref a2, .int i1])) (jq qX4_setSteps 4 rfl) (jo_gf rfl (jr_R_inv e3))) ?_
    obtain ⟨n4, e5, H⟩ := jbd H
    refine Eq.trans (jb_nx (i := .arraylength) (n := 1) (q := (10, [some (.ref p0), some (.int i1), some (.int i2)], [.int (Int32.ofNat n4), .int i1])) (jq qX4_setSteps 5 rfl) (jo_len e5)) ?_
    by_cases c6 : i1 < (Int32.ofNat n4)
    · rw [if_pos c6] at H
      refine Eq.trans (jb_nx (i := .if_icmp .ge 10) (n := 3) (q := (13, [some (.ref p0), some (.int i1), some (.int i2)], [])) (jq qX4_setSteps 6 rfl) (jo_icF (jz_geF c6))) ?_
      refine Eq.trans (jb_nx (i := .aload_n 0) (n := 1) (q := (14, [some (.ref p0), some (.int i1), some (.int i2)], [.ref p0])) (jq qX4_setSteps 7 rfl) rfl) ?_
      obtain ⟨a7, e8, H⟩ := jbd H
      refine Eq.trans (jb_nx (i := .getfield 17) (n := 3) (q := (17, [some (.ref p0), some (.int i1), some (.int i2)], [.ref a7])) (jq qX4_setSteps 8 rfl) (jo_gf rfl (jr_R_inv e8))) ?_
      refine Eq.trans (jb_nx (i := .iload_n 1) (n := 1) (q := (18, [some (.ref p0), some (.int i1), some (.int i2)], [.int i1, .ref a7])) (jq qX4_setSteps 9 rfl) rfl) ?_
      refine Eq.trans (jb_nx (i := .iload_n 2) (n := 1) (q := (19, [some (.ref p0), some (.int i1), some (.int i2)], [.int i2, .int i1, .ref a7])) (jq qX4_setSteps 10 rfl) rfl) ?_
      obtain ⟨h9, e10, H⟩ := jbd H
      refine Eq.trans (jb_nx (i := .iastore) (n := 1) (q := (20, [some (.ref p0), some (.int i1), some (.int i2)], [])) (jq qX4_setSteps 11 rfl) (jo_ias e10)) ?_
      exact Eq.trans (jb_rt (i := .return_) (n := 1) (jq qX4_setSteps 12 rfl) rfl) H
    · rw [if_neg c6] at H
      refine Eq.trans (jb_nx (i := .if_icmp .ge 10) (n := 3) (q := (20, [some (.ref p0), some (.int i1), some (.int i2)], [])) (jq qX4_setSteps 6 rfl) (jo_icT (jz_geT c6) rfl)) ?_
      exact Eq.trans (jb_rt (i := .return_) (n := 1) (jq qX4_setSteps 12 rfl) rfl) H
/-! MaskPlays$Stage partAt (I)LMaskPlays$Part; -/
def tX4_partAt : List (Nat × Instr × Nat) := [(0, .iload_n 1, 1), (1, .ifCond .lt 21, 3), (4, .iload_n 1, 1), (5, .aload_n 0, 1), (6, .getfield 11, 3), (9, .arraylength, 1), (10, .if_icmp .ge 12, 3), (13, .aload_n 0, 1), (14, .getfield 11, 3), (17, .iload_n 1, 1), (18, .aaload, 1), (19, .goto 7, 3), (22, .aload_n 0, 1), (23, .getfield 22, 3), (26, .areturn, 1)]
set_option maxRecDepth 100000 in
theorem qX4_partAt : ∀ q ∈ tX4_partAt, decode cX4_partAt q.1 = .ok (q.2.1, q.2.2) := by decide +kernel
theorem gX4_partAt {d : Nat} {p0 : Nat} {i1 : Int32} {h : jm_H} {r : jm_R} (H : ((if i1 < 0 then (jr_R h p0 4 4 2).bind fun a2 => some (.inl (some (.ref a2)), h) else (jr_R h p0 4 2 2).bind fun a4 => (jm_len h a4).bind fun n6 => (if i1 < (Int32.ofNat n6) then (jr_R h p0 4 2 2).bind fun a11 => (jm_alr h a11 i1).bind fun a13 => some (.inl (some (.ref a13)), h) else (jr_R h p0 4 4 2).bind fun a9 => some (.inl (some (.ref a9)), h)))) = some r) : jm_D (d + 1) mX4_partAt [.ref p0, .int i1] h = some r := by
  rw [jm_D_body (Nat.le_of_ble_eq_true rfl)]
  show jm_B d mX4_partAt (0, [some (.ref p0), some (.int i1)], []) h = some r
  refine Eq.trans (jb_nx (i := .iload_n 1) (n := 1) (q := (1, [some (.ref p0), some (.int i1)], [.int i1])) (jq qX4_partAt 0 rfl) rfl) ?_
  by_cases c1 : i1 < 0
  · rw [if_pos c1] at H
    refine Eq.trans (jb_nx (i := .ifCond .lt 21) (n := 3) (q := (22, [some (.ref p0), some (.int i1)], [])) (jq qX4_partAt 1 rfl) (jo_ifT (jz_ltT c1) rfl)) ?_
    refine Eq.trans (jb_nx (i := .aload_n 0) (n := 1) (q := (23, [some (.ref p0), some (.int i1)], [.ref p0])) (jq qX4_partAt 12 rfl) rfl) ?_
    obtain ⟨a2, e3, H⟩ := jbd H
    refine Eq.trans (jb_nx (i := .getfield 22) (n := 3) (q := (26, [some (.ref p0), some (.int i1)], [.ref a2])) (jq qX4_partAt 13 rfl) (jo_gf rfl (jr_R_inv e3))) ?_
    exact Eq.trans (jb_rt (i := .areturn) (n := 1) (jq qX4_partAt 14 rfl) rfl) H
  · rw [if_neg c1] at H
    refine Eq.trans (jb_nx (i := .ifCond .lt 21) (n := 3) (q := (4, [some (.ref p0), some (.int i1)], [])) (jq qX4_partAt 1 rfl) (jo_ifF (jz_ltF c1))) ?_
    refine Eq.trans (jb_nx (i := .iload_n 1) (n := 1) (q := (5, [some (.ref p0), some (.int i1)], [.int i1])) (jq qX4_partAt 2 rfl) rfl) ?_
    refine Eq.trans (jb_nx (i := .aload_n 0) (n := 1) (q := (6, [some (.ref p0), some (.int i1)], [.ref p0, .int i1])) (jq qX4_partAt 3 rfl) rfl) ?_
    obtain ⟨a4, e5, H⟩ := jbd H
    refine Eq.trans (jb_nx (i := .getfield 11) (n := 3) (q := (9, [some (.ref p0), some (.int i1)], [.ref a4, .int i1])) (jq qX4_partAt 4 rfl) (jo_gf rfl (jr_R_inv e5))) ?_
    obtain ⟨n6, e7, H⟩ := jbd H
    refine Eq.trans (jb_nx (i := .arraylength) (n := 1) (q := (10, [some (.ref p0), some (.int i1)], [.int (Int32.ofNat n6), .int i1])) (jq qX4_partAt 5 rfl) (jo_len e7)) ?_
    by_cases c8 : i1 < (Int32.ofNat n6)
    · rw [if_pos c8] at H
      refine Eq.trans (jb_nx (i := .if_icmp .ge 12) (n := 3) (q := (13, [some (.ref p0), some (.int i1)], [])) (jq qX4_partAt 6 rfl) (jo_icF (jz_geF c8))) ?_
      refine Eq.trans (jb_nx (i := .aload_n 0) (n := 1) (q := (14, [some (.ref p0), some (.int i1)], [.ref p0])) (jq qX4_partAt 7 rfl) rfl) ?_
      obtain ⟨a11, e12, H⟩ := jbd H
      refine Eq.trans (jb_nx (i := .getfield 11) (n := 3) (q := (17, [some (.ref p0), some (.int i1)], [.ref a11])) (jq qX4_partAt 8 rfl) (jo_gf rfl (jr_R_inv e12))) ?_
      refine Eq.trans (jb_nx (i := .iload_n 1) (n := 1) (q := (18, [some (.ref p0), some (.int i1)], [.int i1, .ref a11])) (jq qX4_partAt 9 rfl) rfl) ?_
      obtain ⟨a13, e14, H⟩ := jbd H
      refine Eq.trans (jb_nx (i := .aaload) (n := 1) (q := (19, [some (.ref p0), some (.int i1)], [.ref a13])) (jq qX4_partAt 10 rfl) (jo_ral e14)) ?_
      refine Eq.trans (jb_nx (i := .goto 7) (n := 3) (q := (26, [some (.ref p0), some (.int i1)], [.ref a13])) (jq qX4_partAt 11 rfl) rfl) ?_
      exact Eq.trans (jb_rt (i := .areturn) (n := 1) (jq qX4_partAt 14 rfl) rfl) H
    · rw [if_neg c8] at H
      refine Eq.trans (jb_nx (i := .if_icmp .ge 12) (n := 3) (q := (22, [some (.ref p0), some (.int i1)], [])) (jq qX4_partAt 6 rfl) (jo_icT (jz_geT c8) rfl)) ?_
      refine Eq.trans (jb_nx (i := .aload_n 0) (n := 1) (q := (23, [some (.ref p0), some (.int i1)], [.ref p0])) (jq qX4_partAt 12 rfl) rfl) ?_
      obtain ⟨a9, e10, H⟩ := jbd H
      refine Eq.trans (jb_nx (i := .getfield 22) (n := 3) (q := (26, [some (.ref p0), some (.int i1)], [.ref a9])) (jq qX4_partAt 13 rfl) (jo_gf rfl (jr_R_inv e10))) ?_
      exact Eq.trans (jb_rt (i := .areturn) (n := 1) (jq qX4_partAt 14 rfl) rfl) H
/-! MaskPlays$Stage stepsAt (I)I -/
def tX4_stepsAt : List (Nat × Instr × Nat) := [(0, .iload_n 1, 1), (1, .ifCond .lt 21, 3), (4, .iload_n 1, 1), (5, .aload_n 0, 1), (6, .getfield 17, 3), (9, .arraylength, 1), (10, .if_icmp .ge 12, 3), (13, .aload_n 0, 1), (14, .getfield 17, 3), (17, .iload_n 1, 1), (18, .iaload, 1), (19, .goto 4, 3), (22, .iconst 0, 1), (23, .ireturn, 1)]
set_option maxRecDepth 100000 in
theorem qX4_stepsAt : ∀ q ∈ tX4_stepsAt, decode cX4_stepsAt q.1 = .ok (q.2.1, q.2.2) := by decide +kernel
theorem gX4_stepsAt {d : Nat} {p0 : Nat} {i1 : Int32} {h : jm_H} {r : jm_R} (H : ((if i1 < 0 then some (.inl (some (.int 0)), h) else (jr_R h p0 4 3 2).bind fun a2 => (jm_len h a2).bind fun n4 => (if i1 < (Int32.ofNat n4) then (jr_R h p0 4 3 2).bind fun a7 => (jm_ali h a7 0 i1).bind fun x9 => some (.inl (some (.int x9)), h) else some (.inl (some (.int 0)), h)))) = some r) : jm_D (d + 1) mX4_stepsAt [.ref p0, .int i1] h = some r := by
  rw [jm_D_body (Nat.le_of_ble_eq_true rfl)]
  show jm_B d mX4_stepsAt (0, [some (.ref p0), some (.int i1)], []) h = some r
  refine Eq.trans (jb_nx (i := .iload_n 1) (n := 1) (q := (1, [some (.ref p0), some (.int i1)], [.int i1])) (jq qX4_stepsAt 0 rfl) rfl) ?_
  by_cases c1 : i1 < 0
  · rw [if_pos c1] at H
    refine Eq.trans (jb_nx (i := .ifCond .lt 21) (n := 3) (q := (22, [some (.ref p0), some (.int i1)], [])) (jq qX4_stepsAt 1 rfl) (jo_ifT (jz_ltT c1) rfl)) ?_
    refine Eq.trans (jb_nx (i := .iconst 0) (n := 1) (q := (23, [some (.ref p0), some (.int i1)], [.int 0])) (jq qX4_stepsAt 12 rfl) rfl) ?_
    exact Eq.trans (jb_rt (i := .ireturn) (n := 1) (jq qX4_stepsAt 13 rfl) (jo_iret rfl rfl)) H
  · rw [if_neg c1] at H
    refine Eq.trans (jb_nx (i := .ifCond .lt 21) (n := 3) (q := (4, [some (.ref p0), some (.int i1)], [])) (jq qX4_stepsAt 1 rfl) (jo_ifF (jz_ltF c1))) ?_
    refine Eq.trans (jb_nx (i := .iload_n 1) (n := 1) (q := (5, [some (.ref p0), some (.int i1)], [.int i1])) (jq qX4_stepsAt 2 rfl) rfl) ?_
    refine Eq.trans (jb_nx (i := .aload_n 0) (n := 1) (q := (6, [some (.ref p0), some (.int i1)], [.ref p0, .int i1])) (jq qX4_stepsAt 3 rfl) rfl) ?_
    obtain ⟨a2, e3, H⟩ := jbd H
    refine Eq.trans (jb_nx (i := .getfield 17) (n := 3) (q := (9, [some (.ref p0), some (.int i1)], [.ref a2, .int i1])) (jq qX4_stepsAt 4 rfl) (jo_gf rfl (jr_R_inv e3))) ?_
    obtain ⟨n4, e5, H⟩ := jbd H
    refine Eq.trans (jb_nx (i := .arraylength) (n := 1) (q := (10, [some (.ref p0), some (.int i1)], [.int (Int32.ofNat n4), .int i1])) (jq qX4_stepsAt 5 rfl) (jo_len e5)) ?_
    by_cases c6 : i1 < (Int32.ofNat n4)
    · rw [if_pos c6] at H
      refine Eq.trans (jb_nx (i := .if_icmp .ge 12) (n := 3) (q := (13, [some (.ref p0), some (.int i1)], [])) (jq qX4_stepsAt 6 rfl) (jo_icF (jz_geF c6))) ?_
      refine Eq.trans (jb_nx (i := .aload_n 0) (n := 1) (q := (14, [some (.ref p0), some (.int i1)], [.ref p0])) (jq qX4_stepsAt 7 rfl) rfl) ?_
      obtain ⟨a7, e8, H⟩ := jbd H
      refine Eq.trans (jb_nx (i := .getfield 17) (n := 3) (q := (17, [some (.ref p0), some (.int i1)], [.ref a7])) (jq qX4_stepsAt 8 rfl) (jo_gf rfl (jr_R_inv e8))) ?_
      refine Eq.trans (jb_nx (i := .iload_n 1) (n := 1) (q := (18, [some (.ref p0), some (.int i1)], [.int i1, .ref a7])) (jq qX4_stepsAt 9 rfl) rfl) ?_
      obtain ⟨x9, e10, H⟩ := jbd H
      refine Eq.trans (jb_nx (i := .iaload) (n := 1) (q := (19, [some (.ref p0), some (.int i1)], [.int x9])) (jq qX4_stepsAt 10 rfl) (jo_ial e10)) ?_
      refine Eq.trans (jb_nx (i := .goto 4) (n := 3) (q := (23, [some (.ref p0), some (.int i1)], [.int x9])) (jq qX4_stepsAt 11 rfl) rfl) ?_
      exact Eq.trans (jb_rt (i := .ireturn) (n := 1) (jq qX4_stepsAt 13 rfl) (jo_iret rfl rfl)) H
    · rw [if_neg c6] at H
      refine Eq.trans (jb_nx (i := .if_icmp .ge 12) (n := 3) (q := (22, [some (.ref p0), some (.int i1)], [])) (jq qX4_stepsAt 6 rfl) (jo_icT (jz_geT c6) rfl)) ?_
      refine Eq.trans (jb_nx (i := .iconst 0) (n := 1) (q := (23, [some (.ref p0), some (.int i1)], [.int 0])) (jq qX4_stepsAt 12 rfl) rfl) ?_
      exact Eq.trans (jb_rt (i := .ireturn) (n := 1) (jq qX4_stepsAt 13 rfl) (jo_iret rfl rfl)) H
/-! MaskPlays$Stage stepPlay (I)Z -/
def tX4_stepPlay : List (Nat × Instr × Nat) := [(0, .aload_n 0, 1), (1, .getfield 36, 3), (4, .aload_n 0, 1), (5, .iload_n 1, 1), (6, .invokevirtual 61, 3), (9, .invokevirtual 68, 3), (12, .ifCond .ne 5, 3), (15, .iconst 0, 1), (16, .ireturn, 1), (17, .aload_n 0, 1), (18, .iload_n 1, 1), (19, .aload_n 0, 1), (20, .iload_n 1, 1), (21, .invokevirtual 64, 3), (24, .iconst 1, 1), (25, .iadd, 1), (26, .invokevirtual 57, 3), (29, .aload_n 0, 1), (30, .getfield 36, 3), (33, .getfield 74, 3), (36, .ireturn, 1)]
set_option maxRecDepth 100000 in
theorem qX4_stepPlay : ∀ q ∈ tX4_stepPlay, decode cX4_stepPlay q.1 = .ok (q.2.1, q.2.2) := by decide +kernel
theorem gX4_stepPlay {d : Nat} {p0 : Nat} {i1 : Int32} {h : jm_H} {r : jm_R} (H : ((jr_R h p0 4 6 2).bind fun a1 => jm_O h p0 4 (jc_R (jm_D d mX4_partAt [.ref p0, .int i1] h) (fun a5 h3 => jm_O h3 a1 5 (jc_I (jm_D d mX5_take [.ref a1, .ref a5] h3) (fun x8 h6 => (if x8 = 0 then some (.inl (some (.int 0)), h6) else jm_O h6 p0 4 (jc_I (jm_D d mX4_stepsAt [.ref p0, .int i1] h6) (fun x12 h10 => jm_O h10 p0 4 (jc_V (jm_D d mX4_setSteps [.ref p0, .int i1, .int (x12 + 1)] h10) (fun h13 => (jr_R h13 p0 4 6 2).bind fun a15 => (jr_I h13 a15 5 1 4).bind fun x17 => jm_Y .boolean x17 (some (.inl (some (.int x17)), h13))) jx)) jx))) jx)) jx)) = some r) : jm_D (d + 1) mX4_stepPlay [.ref p0, .int i1] h = some r := by
  rw [jm_D_body (Nat.le_of_ble_eq_true rfl)]
  show jm_B d mX4_stepPlay (0, [some (.ref p0), some (.int i1)], []) h = some r
  refine Eq.trans (jb_nx (i := .aload_n 0) (n := 1) (q := (1, [some (.ref p0), some (.int i1)], [.ref p0])) (jq qX4_stepPlay 0 rfl) rfl) ?_
  obtain ⟨a1, e2, H⟩ := jbd H
  refine Eq.trans (jb_nx (i := .getfield 36) (n := 3) (q := (4, [some (.ref p0), some (.int i1)], [.ref a1])) (jq qX4_stepPlay 1 rfl) (jo_gf rfl (jr_R_inv e2))) ?_
  refine Eq.trans (jb_nx (i := .aload_n 0) (n := 1) (q := (5, [some (.ref p0), some (.int i1)], [.ref p0, .ref a1])) (jq qX4_stepPlay 2 rfl) rfl) ?_
  refine Eq.trans (jb_nx (i := .iload_n 1) (n := 1) (q := (6, [some (.ref p0), some (.int i1)], [.int i1, .ref p0, .ref a1])) (jq qX4_stepPlay 3 rfl) rfl) ?_
  obtain ⟨b29, H⟩ := jm_O_inv H
  rcases jcR H with ⟨a5, h3, r4, H⟩ | ⟨w30, h31, r4, H⟩
  · refine Eq.trans (jb_nx (i := .invokevirtual 61) (n := 3) (q := (9, [some (.ref p0), some (.int i1)], [.ref a5, .ref a1])) (jq qX4_stepPlay 4 rfl) (jo_cv (y := mX4_partAt) rfl (Nat.le_of_ble_eq_true rfl) rfl (Nat.le_of_ble_eq_true rfl) b29 rfl r4 jo_ret)) ?_
    obtain ⟨b26, H⟩ := jm_O_inv H
    rcases jcI H with ⟨x8, h6, r7, H⟩ | ⟨w27, h28, r7, H⟩
    · refine Eq.trans (jb_nx (i := .invokevirtual 68) (n := 3) (q := (12, [some (.ref p0), some (.int i1)], [.int x8])) (jq qX4_stepPlay 5 rfl) (jo_cv (y := mX5_take) rfl (Nat.le_of_ble_eq_true rfl) rfl (Nat.le_of_ble_eq_true rfl) b26 rfl r7 jo_ret)) ?_
      by_cases c9 : x8 = 0
      · rw [if_pos c9] at H
        refine Eq.trans (jb_nx (i := .ifCond .ne 5) (n := 3) (q := (15, [some (.ref p0), some (.int i1)], [])) (jq qX4_stepPlay 6 rfl) (jo_ifF (jz_neF c9))) ?_
        refine Eq.trans (jb_nx (i := .iconst 0) (n := 1) (q := (16, [some (.ref p0), some (.int i1)], [.int 0])) (jq qX4_stepPlay 7 rfl) rfl) ?_
        exact Eq.trans (jb_rt (i := .ireturn) (n := 1) (jq qX4_stepPlay 8 rfl) (jo_iret rfl (by decide))) H
      · rw [if_neg c9] at H
        refine Eq.trans (jb_nx (i := .ifCond .ne 5) (n := 3) (q := (17, [some (.ref p0), some (.int i1)], [])) (jq qX4_stepPlay 6 rfl) (jo_ifT (jz_neT c9) rfl)) ?_
        refine Eq.trans (jb_nx (i := .aload_n 0) (n := 1) (q := (18, [some (.ref p0), some (.int i1)], [.ref p0])) (jq qX4_stepPlay 9 rfl) rfl) ?_
        refine Eq.trans (jb_nx (i := .iload_n 1) (n := 1) (q := (19, [some (.ref p0), some (.int i1)], [.int i1, .ref p0])) (jq qX4_stepPlay 10 rfl) rfl) ?_
        refine Eq.trans (jb_nx (i := .aload_n 0) (n := 1) (q := (20, [some (.ref p0), some (.int i1)], [.ref p0, .int i1, .ref p0])) (jq qX4_stepPlay 11 rfl) rfl) ?_
        refine Eq.trans (jb_nx (i := .iload_n 1) (n := 1) (q := (21, [some (.ref p0), some (.int i1)], [.int i1, .ref p0, .int i1, .ref p0])) (jq qX4_stepPlay 12 rfl) rfl) ?_
        obtain ⟨b23, H⟩ := jm_O_inv H
        rcases jcI H with ⟨x12, h10, r11, H⟩ | ⟨w24, h25, r11, H⟩
        · refine Eq.trans (jb_nx (i := .invokevirtual 64) (n := 3) (q := (24, [some (.ref p0), some (.int i1)], [.int x12, .int i1, .ref p0])) (jq qX4_stepPlay 13 rfl) (jo_cv (y := mX4_stepsAt) rfl (Nat.le_of_ble_eq_true rfl) rfl (Nat.le_of_ble_eq_true rfl) b23 rfl r11 jo_ret)) ?_
          refine Eq.trans (jb_nx (i := .iconst 1) (n := 1) (q := (25, [some (.ref p0), some (.int i1)], [.int 1, .int x12, .int i1, .ref p0])) (jq qX4_stepPlay 14 rfl) rfl) ?_
          refine Eq.trans (jb_nx (i := .iadd) (n := 1) (q := (26, [some (.ref p0), some (.int i1)], [.int (x12 + 1), .int i1, .ref p0])) (jq qX4_stepPlay 15 rfl) rfl) ?_
          obtain ⟨b20, H⟩ := jm_O_inv H
          rcases jcV H with ⟨h13, r14, H⟩ | ⟨w21, h22, r14, H⟩
          · refine Eq.trans (jb_nx (i := .invokevirtual 57) (n := 3) (q := (29, [some (.ref p0), some (.int i1)], [])) (jq qX4_stepPlay 16 rfl) (jo_cv (y := mX4_setSteps) rfl (Nat.le_of_ble_eq_true rfl) rfl (Nat.le_of_ble_eq_true rfl) b20 rfl r14 jo_ret)) ?_
            refine Eq.trans (jb_nx (i := .aload_n 0) (n := 1) (q := (30, [some (.ref p0), some (.int i1)], [.ref p0])) (jq qX4_stepPlay 17 rfl) rfl) ?_
            obtain ⟨a15, e16, H⟩ := jbd H
            refine Eq.trans (jb_nx (i := .getfield 36) (n := 3) (q := (33, [some (.ref p0), some (.int i1)], [.ref a15])) (jq qX4_stepPlay 18 rfl) (jo_gf rfl (jr_R_inv e16))) ?_
            obtain ⟨x17, e18, H⟩ := jbd H
            refine Eq.trans (jb_nx (i := .getfield 74) (n := 3) (q := (36, [some (.ref p0), some (.int i1)], [.int x17])) (jq qX4_stepPlay 19 rfl) (jo_gf rfl (jr_I_inv e18))) ?_
            obtain ⟨u19, H⟩ := jm_Y_inv H
            exact Eq.trans (jb_rt (i := .ireturn) (n := 1) (jq qX4_stepPlay 20 rfl) (jo_iret rfl u19)) H
          · exact Eq.trans (jb_rt (i := .invokevirtual 57) (n := 3) (jq qX4_stepPlay 16 rfl) (jo_cv (y := mX4_setSteps) rfl (Nat.le_of_ble_eq_true rfl) rfl (Nat.le_of_ble_eq_true rfl) b20 rfl r14 (jo_exn rfl))) H
        · exact Eq.trans (jb_rt (i := .invokevirtual 64) (n := 3) (jq qX4_stepPlay 13 rfl) (jo_cv (y := mX4_stepsAt) rfl (Nat.le_of_ble_eq_true rfl) rfl (Nat.le_of_ble_eq_true rfl) b23 rfl r11 (jo_exn rfl))) H
    · exact Eq.trans (jb_rt (i := .invokevirtual 68) (n := 3) (jq qX4_stepPlay 5 rfl) (jo_cv (y := mX5_take) rfl (Nat.le_of_ble_eq_true rfl) rfl (Nat.le_of_ble_eq_true rfl) b26 rfl r7 (jo_exn rfl))) H
  · exact Eq.trans (jb_rt (i := .invokevirtual 61) (n := 3) (jq qX4_stepPlay 4 rfl) (jo_cv (y := mX4_partAt) rfl (Nat.le_of_ble_eq_true rfl) rfl (Nat.le_of_ble_eq_true rfl) b29 rfl r4 (jo_exn rfl))) H
/-! MaskPlays$Stage givePlay (II)Z -/
def tX4_givePlay : List (Nat × Instr × Nat) := [(0, .aload_n 0, 1), (1, .iload_n 2, 1), (2, .invokevirtual 61, 3), (5, .aload_n 0, 1), (6, .iload_n 1, 1), (7, .invokevirtual 61, 3), (10, .invokestatic 78, 3), (13, .ifCond .ne 5, 3), (16, .iconst 0, 1), (17, .ireturn, 1), (18, .aload_n 0, 1), (19, .getfield 26, 3), (22, .aload_n 0, 1), (23, .iload_n 2, 1), (24, .invokevirtual 61, 3), (27, .aload_n 0, 1), (28, .iload_n 1, 1), (29, .invokevirtual 61, 3), (32, .invokevirtual 82, 3), (35, .aload_n 0, 1), (36, .iload_n 2, 1), (37, .invokevirtual 61, 3), (40, .aload_n 0, 1), (41, .getfield 26, 3), (44, .invokevirtual 53, 3), (47, .iconst 1, 1), (48, .ireturn, 1)]
set_option maxRecDepth 100000 in
theorem qX4_givePlay : ∀ q ∈ tX4_givePlay, decode cX4_givePlay q.1 = .ok (q.2.1, q.2.2) := by decide +kernel
theorem gX4_givePlay {d : Nat} {p0 : Nat} {i1 : Int32} {i2 : Int32} {h : jm_H} {r : jm_R} (H : (jm_O h p0 4 (jc_R (jm_D d mX4_partAt [.ref p0, .int i2] h) (fun a3 h1 => jm_O h1 p0 4 (jc_R (jm_D d mX4_partAt [.ref p0, .int i1] h1) (fun a6 h4 => jc_I (jm_D d mX3_fitInScene [.ref a3, .ref a6] h4) (fun x9 h7 => (if x9 = 0 then some (.inl (some (.int 0)), h7) else (jr_R h7 p0 4 5 2).bind fun a11 => jm_O h7 p0 4 (jc_R (jm_D d mX4_partAt [.ref p0, .int i2] h7) (fun a15 h13 => jm_O h13 p0 4 (jc_R (jm_D d mX4_partAt [.ref p0, .int i1] h13) (fun a18 h16 => jm_O h16 a11 3 (jc_V (jm_D d mX3_setToScene [.ref a11, .ref a15, .ref a18] h16) (fun h19 => jm_O h19 p0 4 (jc_R (jm_D d mX4_partAt [.ref p0, .int i2] h19) (fun a23 h21 => (jr_R h21 p0 4 5 2).bind fun a24 => jm_O h21 a23 3 (jc_V (jm_D d mX3_setTo [.ref a23, .ref a24] h21) (fun h26 => some (.inl (some (.int 1)), h26)) jx)) jx)) jx)) jx)) jx))) jx) jx)) jx)) = some r) : jm_D (d + 1) mX4_givePlay [.ref p0, .int i1, .int i2] h = some r := by
  rw [jm_D_body (Nat.le_of_ble_eq_true rfl)]
  show jm_B d mX4_givePlay (0, [some (.ref p0), some (.int i1), some (.int i2)], []) h = some r
  refine Eq.trans (jb_nx (i := .aload_n 0) (n := 1) (q := (1, [some (.ref p0), some (.int i1), some (.int i2)], [.ref p0])) (jq qX4_givePlay 0 rfl) rfl) ?_
  refine Eq.trans (jb_nx (i := .iload_n 2) (n := 1) (q := (2, [some (.ref p0), some (.int i1), some (.int i2)], [.int i2, .ref p0])) (jq qX4_givePlay 1 rfl) rfl) ?_
  obtain ⟨b48, H⟩ := jm_O_inv H
  rcases jcR H with ⟨a3, h1, r2, H⟩ | ⟨w49, h50, r2, H⟩
  · refine Eq.trans (jb_nx (i := .invokevirtual 61) (n := 3) (q := (5, [some (.ref p0), some (.int i1), some (.int i2)], [.ref a3])) (jq qX4_givePlay 2 rfl) (jo_cv (y := mX4_partAt) rfl (Nat.le_of_ble_eq_true rfl) rfl (Nat.le_of_ble_eq_true rfl) b48 rfl r2 jo_ret)) ?_
    refine Eq.trans (jb_nx (i := .aload_n 0) (n := 1) (q := (6, [some (.ref p0), some (.int i1), some (.int i2)], [.ref p0, .ref a3])) (jq qX4_givePlay 3 rfl) rfl) ?_
    refine Eq.trans (jb_nx (i := .iload_n 1) (n := 1) (q := (7, [some (.ref p0), some (.int i1), some (.int i2)], [.int i1, .ref p0, .ref a3])) (jq qX4_givePlay 4 rfl) rfl) ?_
    obtain ⟨b45, H⟩ := jm_O_inv H
    rcases jcR H with ⟨a6, h4, r5, H⟩ | ⟨w46, h47, r5, H⟩
    · refine Eq.trans (jb_nx (i := .invokevirtual 61) (n := 3) (q := (10, [some (.ref p0), some (.int i1), some (.int i2)], [.ref a6, .ref a3])) (jq qX4_givePlay 5 rfl) (jo_cv (y := mX4_partAt) rfl (Nat.le_of_ble_eq_true rfl) rfl (Nat.le_of_ble_eq_true rfl) b45 rfl r5 jo_ret)) ?_
      rcases jcI H with ⟨x9, h7, r8, H⟩ | ⟨w43, h44, r8, H⟩
      · refine Eq.trans (jb_nx (i := .invokestatic 78) (n := 3) (q := (13, [some (.ref p0), some (.int i1), some (.int i2)], [.int x9])) (jq qX4_givePlay 6 rfl) (jo_cs (y := mX3_fitInScene) (w := 1) (by decide) rfl (Nat.le_of_ble_eq_true rfl) rfl (Nat.le_of_ble_eq_true rfl) rfl r8 jo_ret)) ?_
        by_cases c10 : x9 = 0
        · rw [if_pos c10] at H
          refine Eq.trans (jb_nx (i := .ifCond .ne 5) (n := 3) (q := (16, [some (.ref p0), some (.int i1), some (.int i2)], [])) (jq qX4_givePlay 7 rfl) (jo_ifF (jz_neF c10))) ?_
          refine Eq.trans (jb_nx (i := .iconst 0) (n := 1) (q := (17, [some (.ref p0), some (.int i1), some (.int i2)], [.int 0])) (jq qX4_givePlay 8 rfl) rfl) ?_
          exact Eq.trans (jb_rt (i := .ireturn) (n := 1) (jq qX4_givePlay 9 rfl) (jo_iret rfl (by decide))) H
        · rw [if_neg c10] at H
          refine Eq.trans (jb_nx (i := .ifCond .ne 5) (n := 3) (q := (18, [some (.ref p0), some (.int i1), some (.int i2)], [])) (jq qX4_givePlay 7 rfl) (jo_ifT (jz_neT c10) rfl)) ?_
          refine Eq.trans (jb_nx (i := .aload_n 0) (n := 1) (q := (19, [some (.ref p0), some (.int i1), some (.int i2)], [.ref p0])) (jq qX4_givePlay 10 rfl) rfl) ?_
          obtain ⟨a11, e12, H⟩ := jbd H
          refine Eq.trans (jb_nx (i := .getfield 26) (n := 3) (q := (22, [some (.ref p0), some (.int i1), some (.int i2)], [.ref a11])) (jq qX4_givePlay 11 rfl) (jo_gf rfl (jr_R_inv e12))) ?_
          refine Eq.trans (jb_nx (i := .aload_n 0) (n := 1) (q := (23, [some (.ref p0), some (.int i1), some (.int i2)], [.ref p0, .ref a11])) (jq qX4_givePlay 12 rfl) rfl) ?_
          refine Eq.trans (jb_nx (i := .iload_n 2) (n := 1) (q := (24, [some (.ref p0), some (.int i1), some (.int i2)], [.int i2, .ref p0, .ref a11])) (jq qX4_givePlay 13 rfl) rfl) ?_
          obtain ⟨b40, H⟩ := jm_O_inv H
          rcases jcR H with ⟨a15, h13, r14, H⟩ | ⟨w41, h42, r14, H⟩
          · refine Eq.trans (jb_nx (i := .invokevirtual 61) (n := 3) (q := (27, [some (.ref p0), some (.int i1), some (.int i2)], [.ref a15, .ref a11])) (jq qX4_givePlay 14 rfl) (jo_cv (y := mX4_partAt) rfl (Nat.le_of_ble_eq_true rfl) rfl (Nat.le_of_ble_eq_true rfl) b40 rfl r14 jo_ret)) ?_
            refine Eq.trans (jb_nx (i := .aload_n 0) (n := 1) (q := (28, [some (.ref p0), some (.int i1), some (.int i2)], [.ref p0, .ref a15, .ref a11])) (jq qX4_givePlay 15 rfl) rfl) ?_
            refine Eq.trans (jb_nx (i := .iload_n 1) (n := 1) (q := (29, [some (.ref p0), some (.int i1), some (.int i2)], [.int i1, .ref p0, .ref a15, .ref a11])) (jq qX4_givePlay 16 rfl) rfl) ?_
            obtain ⟨b37, H⟩ := jm_O_inv H
            rcases jcR H with ⟨a18, h16, r17, H⟩ | ⟨w38, h39, r17, H⟩
            · refine Eq.trans (jb_nx (i := .invokevirtual 61) (n := 3) (q := (32, [some (.ref p0), some (.int i1), some (.int i2)], [.ref a18, .ref a15, .ref a11])) (jq qX4_givePlay 17 rfl) (jo_cv (y := mX4_partAt) rfl (Nat.le_of_ble_eq_true rfl) rfl (Nat.le_of_ble_eq_true rfl) b37 rfl r17 jo_ret)) ?_
              obtain ⟨b34, H⟩ := jm_O_inv H
              rcases jcV H with ⟨h19, r20, H⟩ | ⟨w35, h36, r20, H⟩
              · refine Eq.trans (jb_nx (i := .invokevirtual 82) (n := 3) (q := (35, [some (.ref p0), some (.int i1), some (.int i2)], [])) (jq qX4_givePlay 18 rfl) (jo_cv (y := mX3_setToScene) rfl (Nat.le_of_ble_eq_true rfl) rfl (Nat.le_of_ble_eq_true rfl) b34 rfl r20 jo_ret)) ?_
                refine Eq.trans (jb_nx (i := .aload_n 0) (n := 1) (q := (36, [some (.ref p0), some (.int i1), some (.int i2)], [.ref p0])) (jq qX4_givePlay 19 rfl) rfl) ?_
                refine Eq.trans (jb_nx (i := .iload_n 2) (n := 1) (q := (37, [some (.ref p0), some (.int i1), some (.int i2)], [.int i2, .ref p0])) (jq qX4_givePlay 20 rfl) rfl) ?_
                obtain ⟨b31, H⟩ := jm_O_inv H
                rcases jcR H with ⟨a23, h21, r22, H⟩ | ⟨w32, h33, r22, H⟩
                · refine Eq.trans (jb_nx (i := .invokevirtual 61) (n := 3) (q := (40, [some (.ref p0), some (.int i1), some (.int i2)], [.ref a23])) (jq qX4_givePlay 21 rfl) (jo_cv (y := mX4_partAt) rfl (Nat.le_of_ble_eq_true rfl) rfl (Nat.le_of_ble_eq_true rfl) b31 rfl r22 jo_ret)) ?_
                  refine Eq.trans (jb_nx (i := .aload_n 0) (n := 1) (q := (41, [some (.ref p0), some (.int i1), some (.int i2)], [.ref p0, .ref a23])) (jq qX4_givePlay 22 rfl) rfl) ?_
                  obtain ⟨a24, e25, H⟩ := jbd H
                  refine Eq.trans (jb_nx (i := .getfield 26) (n := 3) (q := (44, [some (.ref p0), some (.int i1), some (.int i2)], [.ref a24, .ref a23])) (jq qX4_givePlay 23 rfl) (jo_gf rfl (jr_R_inv e25))) ?_
                  obtain ⟨b28, H⟩ := jm_O_inv H
                  rcases jcV H with ⟨h26, r27, H⟩ | ⟨w29, h30, r27, H⟩
                  · refine Eq.trans (jb_nx (i := .invokevirtual 53) (n := 3) (q := (47, [some (.ref p0), some (.int i1), some (.int i2)], [])) (jq qX4_givePlay 24 rfl) (jo_cv (y := mX3_setTo) rfl (Nat.le_of_ble_eq_true rfl) rfl (Nat.le_of_ble_eq_true rfl) b28 rfl r27 jo_ret)) ?_
                    refine Eq.trans (jb_nx (i := .iconst 1) (n := 1) (q := (48, [some (.ref p0), some (.int i1), some (.int i2)], [.int 1])) (jq qX4_givePlay 25 rfl) rfl) ?_
                    exact Eq.trans (jb_rt (i := .ireturn) (n := 1) (jq qX4_givePlay 26 rfl) (jo_iret rfl (by decide))) H
                  · exact Eq.trans (jb_rt (i := .invokevirtual 53) (n := 3) (jq qX4_givePlay 24 rfl) (jo_cv (y := mX3_setTo) rfl (Nat.le_of_ble_eq_true rfl) rfl (Nat.le_of_ble_eq_true rfl) b28 rfl r27 (jo_exn rfl))) H
                · exact Eq.trans (jb_rt (i := .invokevirtual 61) (n := 3) (jq qX4_givePlay 21 rfl) (jo_cv (y := mX4_partAt) rfl (Nat.le_of_ble_eq_true rfl) rfl (Nat.le_of_ble_eq_true rfl) b31 rfl r22 (jo_exn rfl))) H
              · exact Eq.trans (jb_rt (i := .invokevirtual 82) (n := 3) (jq qX4_givePlay 18 rfl) (jo_cv (y := mX3_setToScene) rfl (Nat.le_of_ble_eq_true rfl) rfl (Nat.le_of_ble_eq_true rfl) b34 rfl r20 (jo_exn rfl))) H
            · exact Eq.trans (jb_rt (i := .invokevirtual 61) (n := 3) (jq qX4_givePlay 17 rfl) (jo_cv (y := mX4_partAt) rfl (Nat.le_of_ble_eq_true rfl) rfl (Nat.le_of_ble_eq_true rfl) b37 rfl r17 (jo_exn rfl))) H
          · exact Eq.trans (jb_rt (i := .invokevirtual 61) (n := 3) (jq qX4_givePlay 14 rfl) (jo_cv (y := mX4_partAt) rfl (Nat.le_of_ble_eq_true rfl) rfl (Nat.le_of_ble_eq_true rfl) b40 rfl r14 (jo_exn rfl))) H
      · exact Eq.trans (jb_rt (i := .invokestatic 78) (n := 3) (jq qX4_givePlay 6 rfl) (jo_cs (y := mX3_fitInScene) (w := 1) (by decide) rfl (Nat.le_of_ble_eq_true rfl) rfl (Nat.le_of_ble_eq_true rfl) rfl r8 (jo_exn rfl))) H
    · exact Eq.trans (jb_rt (i := .invokevirtual 61) (n := 3) (jq qX4_givePlay 5 rfl) (jo_cv (y := mX4_partAt) rfl (Nat.le_of_ble_eq_true rfl) rfl (Nat.le_of_ble_eq_true rfl) b45 rfl r5 (jo_exn rfl))) H
  · exact Eq.trans (jb_rt (i := .invokevirtual 61) (n := 3) (jq qX4_givePlay 2 rfl) (jo_cv (y := mX4_partAt) rfl (Nat.le_of_ble_eq_true rfl) rfl (Nat.le_of_ble_eq_true rfl) b48 rfl r2 (jo_exn rfl))) H
/-! MaskPlays$Stage passEvening (LMaskPlays$Book;)I -/
def tX4_passEvening : List (Nat × Instr × Nat) := [(0, .iconst 0, 1), (1, .istore_n 2, 1), (2, .iconst 0, 1), (3, .istore_n 3, 1), (4, .iload_n 3, 1), (5, .aload_n 1, 1), (6, .getfield 89, 3), (9, .if_icmp .ge 46, 3), (12, .aload_n 1, 1), (13, .iload_n 3, 1), (14, .invokevirtual 92, 3), (17, .astore 4, 2), (19, .aload_n 0, 1), (20, .getfield 32, 3), (23, .aload_n 1, 1), (24, .aload 4, 2), (26, .getfield 96, 3), (29, .aload_n 0, 1), (30, .invokevirtual 101, 3), (33, .ifCond .eq 16, 3), (36, .aload_n 0, 1), (37, .aload 4, 2), (39, .aload_n 1, 1), (40, .invokevirtual 105, 3), (43, .ifCond .eq 6, 3), (46, .iinc 2 1, 3), (49, .iinc 3 1, 3), (52, .goto (-48), 3), (55, .aload_n 0, 1), (56, .dup, 1), (57, .getfield 40, 3), (60, .iconst 1, 1), (61, .iadd, 1), (62, .putfield 40, 3), (65, .aload_n 0, 1), (66, .dup, 1), (67, .getfield 44, 3), (70, .iload_n 2, 1), (71, .iadd, 1), (72, .putfield 44, 3), (75, .iload_n 2, 1), (76, .ireturn, 1)]
set_option maxRecDepth 100000 in
theorem qX4_passEvening : ∀ q ∈ tX4_passEvening, decode cX4_passEvening q.1 = .ok (q.2.1, q.2.2) := by decide +kernel
noncomputable def kX4_passEvening_4 (d : Nat) (p0 : Nat) (p1 : Nat) (i2 : Int32) (i3 : Int32) (o4 : Option Value) (h : jm_H) : Option jm_R := jm_B d mX4_passEvening (4, [some (.ref p0), some (.ref p1), some (.int i2), some (.int i3), o4], []) h
theorem gX4_passEvening_4 {d : Nat} {p0 : Nat} {p1 : Nat} {i2 : Int32} {i3 : Int32} {o4 : Option Value} {h : jm_H} {r : jm_R} (H : ((jr_I h p1 0 2 0).bind fun x1 => (if i3 < x1 then jm_O h p1 0 (jc_R (jm_D d mX0_noteAt [.ref p1, .int i3] h) (fun a14 h12 => (jr_R h12 p0 4 7 2).bind fun a15 => (jr_I h12 a14 2 3 0).bind fun x17 => jm_O h12 a15 7 (jc_I (jm_D d mX7_holds [.ref a15, .ref p1, .int x17, .ref p0] h12) (fun x21 h19 => (if x21 = 0 then kX4_passEvening_4 d p0 p1 i2 (i3 + 1) (some (.ref a14)) h19 else jm_O h19 p0 4 (jc_I (jm_D d mX4_carryOut [.ref p0, .ref a14, .ref p1] h19) (fun x25 h23 => (if x25 = 0 then kX4_passEvening_4 d p0 p1 i2 (i3 + 1) (some (.ref a14)) h23 else kX4_passEvening_4 d p0 p1 (i2 + 1) (i3 + 1) (some (.ref a14)) h23)) jx))) jx)) jx) else (jr_I h p0 4 0 0).bind fun x4 => (jm_pf h p0 4 0 0 (.int (x4 + 1))).bind fun h6 => (jr_I h6 p0 4 1 0).bind fun x8 => (jm_pf h6 p0 4 1 0 (.int (x8 + i2))).bind fun h10 => some (.inl (some (.int i2)), h10))) = some r) : kX4_passEvening_4 d p0 p1 i2 i3 o4 h = some r := by
  show jm_B d mX4_passEvening (4, [some (.ref p0), some (.ref p1), some (.int i2), some (.int i3), o4], []) h = some r
  refine Eq.trans (jb_nx (i := .iload_n 3) (n := 1) (q := (5, [some (.ref p0), some (.ref p1), some (.int i2), some (.int i3), o4], [.int i3])) (jq qX4_passEvening 4 rfl) rfl) ?_
  refine Eq.trans (jb_nx (i := .aload_n 1) (n := 1) (q := (6, [some (.ref p0), some (.ref p1), some (.int i2), some (.int i3), o4], [.ref p1, .int i3])) (jq qX4_passEvening 5 rfl) rfl) ?_
  obtain ⟨x1, e2, H⟩ := jbd H
  refine Eq.trans (jb_nx (i := .getfield 89) (n := 3) (q := (9, [some (.ref p0), some (.ref p1), some (.int i2), some (.int i3), o4], [.int x1, .int i3])) (jq qX4_passEvening 6 rfl) (jo_gf rfl (jr_I_inv e2))) ?_
  by_cases c3 : i3 < x1
  · rw [if_pos c3] at H
    refine Eq.trans (jb_nx (i := .if_icmp .ge 46) (n := 3) (q := (12, [some (.ref p0), some (.ref p1), some (.int i2), some (.int i3), o4], [])) (jq qX4_passEvening 7 rfl) (jo_icF (jz_geF c3))) ?_
    refine Eq.trans (jb_nx (i := .aload_n 1) (n := 1) (q := (13, [some (.ref p0), some (.ref p1), some (.int i2), some (.int i3), o4], [.ref p1])) (jq qX4_passEvening 8 rfl) rfl) ?_
    refine Eq.trans (jb_nx (i := .iload_n 3) (n := 1) (q := (14, [some (.ref p0), some (.ref p1), some (.int i2), some (.int i3), o4], [.int i3, .ref p1])) (jq qX4_passEvening 9 rfl) rfl) ?_
    obtain ⟨b33, H⟩ := jm_O_inv H
    rcases jcR H with ⟨a14, h12, r13, H⟩ | ⟨w34, h35, r13, H⟩
    · refine Eq.trans (jb_nx (i := .invokevirtual 92) (n := 3) (q := (17, [some (.ref p0), some (.ref p1), some (.int i2), some (.int i3), o4], [.ref a14])) (jq qX4_passEvening 10 rfl) (jo_cv (y := mX0_noteAt) rfl (Nat.le_of_ble_eq_true rfl) rfl (Nat.le_of_ble_eq_true rfl) b33 rfl r13 jo_ret)) ?_
      refine Eq.trans (jb_nx (i := .astore 4) (n := 2) (q := (19, [some (.ref p0), some (.ref p1), some (.int i2), some (.int i3), some (.ref a14)], [])) (jq qX4_passEvening 11 rfl) rfl) ?_
      refine Eq.trans (jb_nx (i := .aload_n 0) (n := 1) (q := (20, [some (.ref p0), some (.ref p1), some (.int i2), some (.int i3), some (.ref a14)], [.ref p0])) (jq qX4_passEvening 12 rfl) rfl) ?_
      obtain ⟨a15, e16, H⟩ := jbd H
      refine Eq.trans (jb_nx (i := .getfield 32) (n := 3) (q := (23, [some (.ref p0), some (.ref p1), some (.int i2), some (.int i3), some (.ref a14)], [.ref a15])) (jq qX4_passEvening 13 rfl) (jo_gf rfl (jr_R_inv e16))) ?_
      refine Eq.trans (jb_nx (i := .aload_n 1) (n := 1) (q := (24, [some (.ref p0), some (.ref p1), some (.int i2), some (.int i3), some (.ref a14)], [.ref p1, .ref a15])) (jq qX4_passEvening 14 rfl) rfl) ?_
      refine Eq.trans (jb_nx (i := .aload 4) (n := 2) (q := (26, [some (.ref p0), some (.ref p1), some (.int i2), some (.int i3), some (.ref a14)], [.ref a14, .ref p1, .ref a15])) (jq qX4_passEvening 15 rfl) rfl) ?_
      obtain ⟨x17, e18, H⟩ := jbd H
      refine Eq.trans (jb_nx (i := .getfield 96) (n := 3) (q := (29, [some (.ref p0), some (.ref p1), some (.int i2), some (.int i3), some (.ref a14)], [.int x17, .ref p1, .ref a15])) (jq qX4_passEvening 16 rfl) (jo_gf rfl (jr_I_inv e18))) ?_
      refine Eq.trans (jb_nx (i := .aload_n 0) (n := 1) (q := (30, [some (.ref p0), some (.ref p1), some (.int i2), some (.int i3), some (.ref a14)], [.ref p0, .int x17, .ref p1, .ref a15])) (jq qX4_passEvening 17 rfl) rfl) ?_
      obtain ⟨b30, H⟩ := jm_O_inv H
      rcases jcI H with ⟨x21, h19, r20, H⟩ | ⟨w31, h32, r20, H⟩
      · refine Eq.trans (jb_nx (i := .invokevirtual 101) (n := 3) (q := (33, [some (.ref p0), some (.ref p1), some (.int i2), some (.int i3), some (.ref a14)], [.int x21])) (jq qX4_passEvening 18 rfl) (jo_cv (y := mX7_holds) rfl (Nat.le_of_ble_eq_true rfl) rfl (Nat.le_of_ble_eq_true rfl) b30 rfl r20 jo_ret)) ?_
        by_cases c22 : x21 = 0
        · rw [if_pos c22] at H
          refine Eq.trans (jb_nx (i := .ifCond .eq 16) (n := 3) (q := (49, [some (.ref p0), some (.ref p1), some (.int i2), some (.int i3), some (.ref a14)], [])) (jq qX4_passEvening 19 rfl) (jo_ifT (jz_eqT c22) rfl)) ?_
          refine Eq.trans (jb_nx (i := .iinc 3 1) (n := 3) (q := (52, [some (.ref p0), some (.ref p1), some (.int i2), some (.int (i3 + 1)), some (.ref a14)], [])) (jq qX4_passEvening 26 rfl) rfl) ?_
          refine Eq.trans (jb_nx (i := .goto (-48)) (n := 3) (q := (4, [some (.ref p0), some (.ref p1), some (.int i2), some (.int (i3 + 1)), some (.ref a14)], [])) (jq qX4_passEvening 27 rfl) rfl) ?_
          exact H
        · rw [if_neg c22] at H
          refine Eq.trans (jb_nx (i := .ifCond .eq 16) (n := 3) (q := (36, [some (.ref p0), some (.ref p1), some (.int i2), some (.int i3), some (.ref a14)], [])) (jq qX4_passEvening 19 rfl) (jo_ifF (jz_eqF c22))) ?_
          refine Eq.trans (jb_nx (i := .aload_n 0) (n := 1) (q := (37, [some (.ref p0), some (.ref p1), some (.int i2), some (.int i3), some (.ref a14)], [.ref p0])) (jq qX4_passEvening 20 rfl) rfl) ?_
          refine Eq.trans (jb_nx (i := .aload 4) (n := 2) (q := (39, [some (.ref p0), some (.ref p1), some (.int i2), some (.int i3), some (.ref a14)], [.ref a14, .ref p0])) (jq qX4_passEvening 21 rfl) rfl) ?_
          refine Eq.trans (jb_nx (i := .aload_n 1) (n := 1) (q := (40, [some (.ref p0), some (.ref p1), some (.int i2), some (.int i3), some (.ref a14)], [.ref p1, .ref a14, .ref p0])) (jq qX4_passEvening 22 rfl) rfl) ?_
          obtain ⟨b27, H⟩ := jm_O_inv H
          rcases jcI H with ⟨x25, h23, r24, H⟩ | ⟨w28, h29, r24, H⟩
          · refine Eq.trans (jb_nx (i := .invokevirtual 105) (n := 3) (q := (43, [some (.ref p0), some (.ref p1), some (.int i2), some (.int i3), some (.ref a14)], [.int x25])) (jq qX4_passEvening 23 rfl) (jo_cv (y := mX4_carryOut) rfl (Nat.le_of_ble_eq_true rfl) rfl (Nat.le_of_ble_eq_true rfl) b27 rfl r24 jo_ret)) ?_
            by_cases c26 : x25 = 0
            · rw [if_pos c26] at H
              refine Eq.trans (jb_nx (i := .ifCond .eq 6) (n := 3) (q := (49, [some (.ref p0), some (.ref p1), some (.int i2), some (.int i3), some (.ref a14)], [])) (jq qX4_passEvening 24 rfl) (jo_ifT (jz_eqT c26) rfl)) ?_
              refine Eq.trans (jb_nx (i := .iinc 3 1) (n := 3) (q := (52, [some (.ref p0), some (.ref p1), some (.int i2), some (.int (i3 + 1)), some (.ref a14)], [])) (jq qX4_passEvening 26 rfl) rfl) ?_
              refine Eq.trans (jb_nx (i := .goto (-48)) (n := 3) (q := (4, [some (.ref p0), some (.ref p1), some (.int i2), some (.int (i3 + 1)), some (.ref a14)], [])) (jq qX4_passEvening 27 rfl) rfl) ?_
              exact H
            · rw [if_neg c26] at H
              refine Eq.trans (jb_nx (i := .ifCond .eq 6) (n := 3) (q := (46, [some (.ref p0), some (.ref p1), some (.int i2), some (.int i3), some (.ref a14)], [])) (jq qX4_passEvening 24 rfl) (jo_ifF (jz_eqF c26))) ?_
              refine Eq.trans (jb_nx (i := .iinc 2 1) (n := 3) (q := (49, [some (.ref p0), some (.ref p1), some (.int (i2 + 1)), some (.int i3), some (.ref a14)], [])) (jq qX4_passEvening 25 rfl) rfl) ?_
              refine Eq.trans (jb_nx (i := .iinc 3 1) (n := 3) (q := (52, [some (.ref p0), some (.ref p1), some (.int (i2 + 1)), some (.int (i3 + 1)), some (.ref a14)], [])) (jq qX4_passEvening 26 rfl) rfl) ?_
              refine Eq.trans (jb_nx (i := .goto (-48)) (n := 3) (q := (4, [some (.ref p0), some (.ref p1), some (.int (i2 + 1)), some (.int (i3 + 1)), some (.ref a14)], [])) (jq qX4_passEvening 27 rfl) rfl) ?_
              exact H
          · exact Eq.trans (jb_rt (i := .invokevirtual 105) (n := 3) (jq qX4_passEvening 23 rfl) (jo_cv (y := mX4_carryOut) rfl (Nat.le_of_ble_eq_true rfl) rfl (Nat.le_of_ble_eq_true rfl) b27 rfl r24 (jo_exn rfl))) H
      · exact Eq.trans (jb_rt (i := .invokevirtual 101) (n := 3) (jq qX4_passEvening 18 rfl) (jo_cv (y := mX7_holds) rfl (Nat.le_of_ble_eq_true rfl) rfl (Nat.le_of_ble_eq_true rfl) b30 rfl r20 (jo_exn rfl))) H
    · exact Eq.trans (jb_rt (i := .invokevirtual 92) (n := 3) (jq qX4_passEvening 10 rfl) (jo_cv (y := mX0_noteAt) rfl (Nat.le_of_ble_eq_true rfl) rfl (Nat.le_of_ble_eq_true rfl) b33 rfl r13 (jo_exn rfl))) H
  · rw [if_neg c3] at H
    refine Eq.trans (jb_nx (i := .if_icmp .ge 46) (n := 3) (q := (55, [some (.ref p0), some (.ref p1), some (.int i2), some (.int i3), o4], [])) (jq qX4_passEvening 7 rfl) (jo_icT (jz_geT c3) rfl)) ?_
    refine Eq.trans (jb_nx (i := .aload_n 0) (n := 1) (q := (56, [some (.ref p0), some (.ref p1), some (.int i2), some (.int i3), o4], [.ref p0])) (jq qX4_passEvening 28 rfl) rfl) ?_
    refine Eq.trans (jb_nx (i := .dup) (n := 1) (q := (57, [some (.ref p0), some (.ref p1), some (.int i2), some (.int i3), o4], [.ref p0, .ref p0])) (jq qX4_passEvening 29 rfl) rfl) ?_
    obtain ⟨x4, e5, H⟩ := jbd H
    refine Eq.trans (jb_nx (i := .getfield 40) (n := 3) (q := (60, [some (.ref p0), some (.ref p1), some (.int i2), some (.int i3), o4], [.int x4, .ref p0])) (jq qX4_passEvening 30 rfl) (jo_gf rfl (jr_I_inv e5))) ?_
    refine Eq.trans (jb_nx (i := .iconst 1) (n := 1) (q := (61, [some (.ref p0), some (.ref p1), some (.int i2), some (.int i3), o4], [.int 1, .int x4, .ref p0])) (jq qX4_passEvening 31 rfl) rfl) ?_
    refine Eq.trans (jb_nx (i := .iadd) (n := 1) (q := (62, [some (.ref p0), some (.ref p1), some (.int i2), some (.int i3), o4], [.int (x4 + 1), .ref p0])) (jq qX4_passEvening 32 rfl) rfl) ?_
    obtain ⟨h6, e7, H⟩ := jbd H
    refine Eq.trans (jb_nx (i := .putfield 40) (n := 3) (q := (65, [some (.ref p0), some (.ref p1), some (.int i2), some (.int i3), o4], [])) (jq qX4_passEvening 33 rfl) (jo_pf rfl (Or.inl rfl) e7)) ?_
    refine Eq.trans (jb_nx (i := .aload_n 0) (n := 1) (q := (66, [some (.ref p0), some (.ref p1), some (.int i2), some (.int i3), o4], [.ref p0])) (jq qX4_passEvening 34 rfl) rfl) ?_
    refine Eq.trans (jb_nx (i := .dup) (n := 1) (q := (67, [some (.ref p0), some (.ref p1), some (.int i2), some (.int i3), o4], [.ref p0, .ref p0])) (jq qX4_passEvening 35 rfl) rfl) ?_
    obtain ⟨x8, e9, H⟩ := jbd H
    refine Eq.trans (jb_nx (i := .getfield 44) (n := 3) (q := (70, [some (.ref p0), some (.ref p1), some (.int i2), some (.int i3), o4], [.int x8, .ref p0])) (jq qX4_passEvening 36 rfl) (jo_gf rfl (jr_I_inv e9))) ?_
    refine Eq.trans (jb_nx (i := .iload_n 2) (n := 1) (q := (71, [some (.ref p0), some (.ref p1), some (.int i2), some (.int i3), o4], [.int i2, .int x8, .ref p0])) (jq qX4_passEvening 37 rfl) rfl) ?_
    refine Eq.trans (jb_nx (i := .iadd) (n := 1) (q := (72, [some (.ref p0), some (.ref p1), some (.int i2), some (.int i3), o4], [.int (x8 + i2), .ref p0])) (jq qX4_passEvening 38 rfl) rfl) ?_
    obtain ⟨h10, e11, H⟩ := jbd H
    refine Eq.trans (jb_nx (i := .putfield 44) (n := 3) (q := (75, [some (.ref p0), some (.ref p1), some (.int i2), some (.int i3), o4], [])) (jq qX4_passEvening 39 rfl) (jo_pf rfl (Or.inl rfl) e11)) ?_
    refine Eq.trans (jb_nx (i := .iload_n 2) (n := 1) (q := (76, [some (.ref p0), some (.ref p1), some (.int i2), some (.int i3), o4], [.int i2])) (jq qX4_passEvening 40 rfl) rfl) ?_
    exact Eq.trans (jb_rt (i := .ireturn) (n := 1) (jq qX4_passEvening 41 rfl) (jo_iret rfl rfl)) H
theorem gX4_passEvening {d : Nat} {p0 : Nat} {p1 : Nat} {h : jm_H} {r : jm_R} (H : (kX4_passEvening_4 d p0 p1 0 0 none h) = some r) : jm_D (d + 1) mX4_passEvening [.ref p0, .ref p1] h = some r := by
  rw [jm_D_body (Nat.le_of_ble_eq_true rfl)]
  show jm_B d mX4_passEvening (0, [some (.ref p0), some (.ref p1), none, none, none], []) h = some r
  refine Eq.trans (jb_nx (i := .iconst 0) (n := 1) (q := (1, [some (.ref p0), some (.ref p1), none, none, none], [.int 0])) (jq qX4_passEvening 0 rfl) rfl) ?_
  refine Eq.trans (jb_nx (i := .istore_n 2) (n := 1) (q := (2, [some (.ref p0), some (.ref p1), some (.int 0), none, none], [])) (jq qX4_passEvening 1 rfl) rfl) ?_
  refine Eq.trans (jb_nx (i := .iconst 0) (n := 1) (q := (3, [some (.ref p0), some (.ref p1), some (.int 0), none, none], [.int 0])) (jq qX4_passEvening 2 rfl) rfl) ?_
  refine Eq.trans (jb_nx (i := .istore_n 3) (n := 1) (q := (4, [some (.ref p0), some (.ref p1), some (.int 0), some (.int 0), none], [])) (jq qX4_passEvening 3 rfl) rfl) ?_
  exact H
/-! MaskPlays$Stage carryOut (LMaskPlays$Note;LMaskPlays$Book;)Z -/
def tX4_carryOut : List (Nat × Instr × Nat) := [(0, .aload_n 1, 1), (1, .getfield 109, 3), (4, .lookupswitch 50 #[(4, 28), (5, 37)], 28), (32, .aload_n 0, 1), (33, .aload_n 1, 1), (34, .getfield 112, 3), (37, .invokevirtual 115, 3), (40, .ireturn, 1), (41, .aload_n 0, 1), (42, .aload_n 1, 1), (43, .getfield 119, 3), (46, .aload_n 1, 1), (47, .getfield 112, 3), (50, .invokevirtual 122, 3), (53, .ireturn, 1), (54, .aload_n 0, 1), (55, .aload_n 1, 1), (56, .getfield 112, 3), (59, .aload_n 2, 1), (60, .invokevirtual 126, 3), (63, .ireturn, 1)]
set_option maxRecDepth 100000 in
theorem qX4_carryOut : ∀ q ∈ tX4_carryOut, decode cX4_carryOut q.1 = .ok (q.2.1, q.2.2) := by decide +kernel
theorem gX4_carryOut {d : Nat} {p0 : Nat} {p1 : Nat} {p2 : Nat} {h : jm_H} {r : jm_R} (H : ((jr_I h p1 2 0 0).bind fun x1 => (if x1 = 4 then (jr_I h p1 2 1 0).bind fun x4 => jm_O h p0 4 (jc_I (jm_D d mX4_stepPlay [.ref p0, .int x4] h) (fun x8 h6 => jm_Y .boolean x8 (some (.inl (some (.int x8)), h6))) jx) else (if x1 = 5 then (jr_I h p1 2 2 0).bind fun x14 => (jr_I h p1 2 1 0).bind fun x16 => jm_O h p0 4 (jc_I (jm_D d mX4_givePlay [.ref p0, .int x14, .int x16] h) (fun x20 h18 => jm_Y .boolean x20 (some (.inl (some (.int x20)), h18))) jx) else (jr_I h p1 2 1 0).bind fun x25 => jm_O h p0 4 (jc_I (jm_D d mX4_renewPlay [.ref p0, .int x25, .ref p2] h) (fun x29 h27 => jm_Y .boolean x29 (some (.inl (some (.int x29)), h27))) jx)))) = some r) : jm_D (d + 1) mX4_carryOut [.ref p0, .ref p1, .ref p2] h = some r := by
  rw [jm_D_body (Nat.le_of_ble_eq_true rfl)]
  show jm_B d mX4_carryOut (0, [some (.ref p0), some (.ref p1), some (.ref p2)], []) h = some r
  refine Eq.trans (jb_nx (i := .aload_n 1) (n := 1) (q := (1, [some (.ref p0), some (.ref p1), some (.ref p2)], [.ref p1])) (jq qX4_carryOut 0 rfl) rfl) ?_
  obtain ⟨x1, e2, H⟩ := jbd H
  refine Eq.trans (jb_nx (i := .getfield 109) (n := 3) (q := (4, [some (.ref p0), some (.ref p1), some (.ref p2)], [.int x1])) (jq qX4_carryOut 1 rfl) (jo_gf rfl (jr_I_inv e2))) ?_
  by_cases c3 : x1 = 4
  · rw [if_pos c3] at H
    refine Eq.trans (jb_nx (i := .lookupswitch 50 #[(4, 28), (5, 37)]) (n := 28) (q := (32, [some (.ref p0), some (.ref p1), some (.ref p2)], [])) (jq qX4_carryOut 2 rfl) (by rw [c3]; rfl)) ?_
    refine Eq.trans (jb_nx (i := .aload_n 0) (n := 1) (q := (33, [some (.ref p0), some (.ref p1), some (.ref p2)], [.ref p0])) (jq qX4_carryOut 3 rfl) rfl) ?_
    refine Eq.trans (jb_nx (i := .aload_n 1) (n := 1) (q := (34, [some (.ref p0), some (.ref p1), some (.ref p2)], [.ref p1, .ref p0])) (jq qX4_carryOut 4 rfl) rfl) ?_
    obtain ⟨x4, e5, H⟩ := jbd H
    refine Eq.trans (jb_nx (i := .getfield 112) (n := 3) (q := (37, [some (.ref p0), some (.ref p1), some (.ref p2)], [.int x4, .ref p0])) (jq qX4_carryOut 5 rfl) (jo_gf rfl (jr_I_inv e5))) ?_
    obtain ⟨b10, H⟩ := jm_O_inv H
    rcases jcI H with ⟨x8, h6, r7, H⟩ | ⟨w11, h12, r7, H⟩
    · refine Eq.trans (jb_nx (i := .invokevirtual 115) (n := 3) (q := (40, [some (.ref p0), some (.ref p1), some (.ref p2)], [.int x8])) (jq qX4_carryOut 6 rfl) (jo_cv (y := mX4_stepPlay) rfl (Nat.le_of_ble_eq_true rfl) rfl (Nat.le_of_ble_eq_true rfl) b10 rfl r7 jo_ret)) ?_
      obtain ⟨u9, H⟩ := jm_Y_inv H
      exact Eq.trans (jb_rt (i := .ireturn) (n := 1) (jq qX4_carryOut 7 rfl) (jo_iret rfl u9)) H
    · exact Eq.trans (jb_rt (i := .invokevirtual 115) (n := 3) (jq qX4_carryOut 6 rfl) (jo_cv (y := mX4_stepPlay) rfl (Nat.le_of_ble_eq_true rfl) rfl (Nat.le_of_ble_eq_true rfl) b10 rfl r7 (jo_exn rfl))) H
  · rw [if_neg c3] at H
    by_cases c13 : x1 = 5
    · rw [if_pos c13] at H
      refine Eq.trans (jb_nx (i := .lookupswitch 50 #[(4, 28), (5, 37)]) (n := 28) (q := (41, [some (.ref p0), some (.ref p1), some (.ref p2)], [])) (jq qX4_carryOut 2 rfl) (by rw [c13]; rfl)) ?_
      refine Eq.trans (jb_nx (i := .aload_n 0) (n := 1) (q := (42, [some (.ref p0), some (.ref p1), some (.ref p2)], [.ref p0])) (jq qX4_carryOut 8 rfl) rfl) ?_
      refine Eq.trans (jb_nx (i := .aload_n 1) (n := 1) (q := (43, [some (.ref p0), some (.ref p1), some (.ref p2)], [.ref p1, .ref p0])) (jq qX4_carryOut 9 rfl) rfl) ?_
      obtain ⟨x14, e15, H⟩ := jbd H
      refine Eq.trans (jb_nx (i := .getfield 119) (n := 3) (q := (46, [some (.ref p0), some (.ref p1), some (.ref p2)], [.int x14, .ref p0])) (jq qX4_carryOut 10 rfl) (jo_gf rfl (jr_I_inv e15))) ?_
      refine Eq.trans (jb_nx (i := .aload_n 1) (n := 1) (q := (47, [some (.ref p0), some (.ref p1), some (.ref p2)], [.ref p1, .int x14, .ref p0])) (jq qX4_carryOut 11 rfl) rfl) ?_
      obtain ⟨x16, e17, H⟩ := jbd H
      refine Eq.trans (jb_nx (i := .getfield 112) (n := 3) (q := (50, [some (.ref p0), some (.ref p1), some (.ref p2)], [.int x16, .int x14, .ref p0])) (jq qX4_carryOut 12 rfl) (jo_gf rfl (jr_I_inv e17))) ?_
      obtain ⟨b22, H⟩ := jm_O_inv H
      rcases jcI H with ⟨x20, h18, r19, H⟩ | ⟨w23, h24, r19, H⟩
      · refine Eq.trans (jb_nx (i := .invokevirtual 122) (n := 3) (q := (53, [some (.ref p0), some (.ref p1), some (.ref p2)], [.int x20])) (jq qX4_carryOut 13 rfl) (jo_cv (y := mX4_givePlay) rfl (Nat.le_of_ble_eq_true rfl) rfl (Nat.le_of_ble_eq_true rfl) b22 rfl r19 jo_ret)) ?_
        obtain ⟨u21, H⟩ := jm_Y_inv H
        exact Eq.trans (jb_rt (i := .ireturn) (n := 1) (jq qX4_carryOut 14 rfl) (jo_iret rfl u21)) H
      · exact Eq.trans (jb_rt (i := .invokevirtual 122) (n := 3) (jq qX4_carryOut 13 rfl) (jo_cv (y := mX4_givePlay) rfl (Nat.le_of_ble_eq_true rfl) rfl (Nat.le_of_ble_eq_true rfl) b22 rfl r19 (jo_exn rfl))) H
    · rw [if_neg c13] at H
      refine Eq.trans (jb_nx (i := .lookupswitch 50 #[(4, 28), (5, 37)]) (n := 28) (q := (54, [some (.ref p0), some (.ref p1), some (.ref p2)], [])) (jq qX4_carryOut 2 rfl) (jo_lookD (by decide +kernel) (by intro p hp; simp only [List.mem_cons, List.not_mem_nil, or_false] at hp; rcases hp with rfl | rfl; { exact jz_ti rfl c3 }; { exact jz_ti rfl c13 }) rfl)) ?_
      refine Eq.trans (jb_nx (i := .aload_n 0) (n := 1) (q := (55, [some (.ref p0), some (.ref p1), some (.ref p2)], [.ref p0])) (jq qX4_carryOut 15 rfl) rfl) ?_
      refine Eq.trans (jb_nx (i := .aload_n 1) (n := 1) (q := (56, [some (.ref p0), some (.ref p1), some (.ref p2)], [.ref p1, .ref p0])) (jq qX4_carryOut 16 rfl) rfl) ?_
      obtain ⟨x25, e26, H⟩ := jbd H
      refine Eq.trans (jb_nx (i := .getfield 112) (n := 3) (q := (59, [some (.ref p0), some (.ref p1), some (.ref p2)], [.int x25, .ref p0])) (jq qX4_carryOut 17 rfl) (jo_gf rfl (jr_I_inv e26))) ?_
      refine Eq.trans (jb_nx (i := .aload_n 2) (n := 1) (q := (60, [some (.ref p0), some (.ref p1), some (.ref p2)], [.ref p2, .int x25, .ref p0])) (jq qX4_carryOut 18 rfl) rfl) ?_
      obtain ⟨b31, H⟩ := jm_O_inv H
      rcases jcI H with ⟨x29, h27, r28, H⟩ | ⟨w32, h33, r28, H⟩
      · refine Eq.trans (jb_nx (i := .invokevirtual 126) (n := 3) (q := (63, [some (.ref p0), some (.ref p1), some (.ref p2)], [.int x29])) (jq qX4_carryOut 19 rfl) (jo_cv (y := mX4_renewPlay) rfl (Nat.le_of_ble_eq_true rfl) rfl (Nat.le_of_ble_eq_true rfl) b31 rfl r28 jo_ret)) ?_
        obtain ⟨u30, H⟩ := jm_Y_inv H
        exact Eq.trans (jb_rt (i := .ireturn) (n := 1) (jq qX4_carryOut 20 rfl) (jo_iret rfl u30)) H
      · exact Eq.trans (jb_rt (i := .invokevirtual 126) (n := 3) (jq qX4_carryOut 19 rfl) (jo_cv (y := mX4_renewPlay) rfl (Nat.le_of_ble_eq_true rfl) rfl (Nat.le_of_ble_eq_true rfl) b31 rfl r28 (jo_exn rfl))) H
/-! MaskPlays$Stage renewPlay (ILMaskPlays$Book;)Z -/
def tX4_renewPlay : List (Nat × Instr × Nat) := [(0, .aload_n 0, 1), (1, .iload_n 1, 1), (2, .invokevirtual 61, 3), (5, .aload_n 2, 1), (6, .iload_n 1, 1), (7, .invokevirtual 47, 3), (10, .invokevirtual 86, 3), (13, .ifCond .ne 7, 3), (16, .iconst 1, 1), (17, .goto 4, 3), (20, .iconst 0, 1), (21, .istore_n 3, 1), (22, .aload_n 0, 1), (23, .iload_n 1, 1), (24, .invokevirtual 61, 3), (27, .aload_n 2, 1), (28, .iload_n 1, 1), (29, .invokevirtual 47, 3), (32, .invokevirtual 53, 3), (35, .iload_n 3, 1), (36, .ireturn, 1)]
set_option maxRecDepth 100000 in
theorem qX4_renewPlay : ∀ q ∈ tX4_renewPlay, decode cX4_renewPlay q.1 = .ok (q.2.1, q.2.2) := by decide +kernel
theorem gX4_renewPlay {d : Nat} {p0 : Nat} {i1 : Int32} {p2 : Nat} {h : jm_H} {r : jm_R} (H : (jm_O h p0 4 (jc_R (jm_D d mX4_partAt [.ref p0, .int i1] h) (fun a3 h1 => jm_O h1 p2 0 (jc_R (jm_D d mX0_toldAt [.ref p2, .int i1] h1) (fun a6 h4 => jm_O h4 a3 3 (jc_I (jm_D d mX3_hasTextOf [.ref a3, .ref a6] h4) (fun x9 h7 => (if x9 = 0 then jm_O h7 p0 4 (jc_R (jm_D d mX4_partAt [.ref p0, .int i1] h7) (fun a30 h28 => jm_O h28 p2 0 (jc_R (jm_D d mX0_toldAt [.ref p2, .int i1] h28) (fun a33 h31 => jm_O h31 a30 3 (jc_V (jm_D d mX3_setTo [.ref a30, .ref a33] h31) (fun h34 => some (.inl (some (.int 1)), h34)) jx)) jx)) jx) else jm_O h7 p0 4 (jc_R (jm_D d mX4_partAt [.ref p0, .int i1] h7) (fun a13 h11 => jm_O h11 p2 0 (jc_R (jm_D d mX0_toldAt [.ref p2, .int i1] h11) (fun a16 h14 => jm_O h14 a13 3 (jc_V (jm_D d mX3_setTo [.ref a13, .ref a16] h14) (fun h17 => some (.inl (some (.int 0)), h17)) jx)) jx)) jx))) jx)) jx)) jx)) = some r) : jm_D (d + 1) mX4_renewPlay [.ref p0, .int i1, .ref p2] h = some r := by
  rw [jm_D_body (Nat.le_of_ble_eq_true rfl)]
  show jm_B d mX4_renewPlay (0, [some (.ref p0), some (.int i1), some (.ref p2), none], []) h = some r
  refine Eq.trans (jb_nx (i := .aload_n 0) (n := 1) (q := (1, [some (.ref p0), some (.int i1), some (.ref p2), none], [.ref p0])) (jq qX4_renewPlay 0 rfl) rfl) ?_
  refine Eq.trans (jb_nx (i := .iload_n 1) (n := 1) (q := (2, [some (.ref p0), some (.int i1), some (.ref p2), none], [.int i1, .ref p0])) (jq qX4_renewPlay 1 rfl) rfl) ?_
  obtain ⟨b51, H⟩ := jm_O_inv H
  rcases jcR H with ⟨a3, h1, r2, H⟩ | ⟨w52, h53, r2, H⟩
  · refine Eq.trans (jb_nx (i := .invokevirtual 61) (n := 3) (q := (5, [some (.ref p0), some (.int i1), some (.ref p2), none], [.ref a3])) (jq qX4_renewPlay 2 rfl) (jo_cv (y := mX4_partAt) rfl (Nat.le_of_ble_eq_true rfl) rfl (Nat.le_of_ble_eq_true rfl) b51 rfl r2 jo_ret)) ?_
    refine Eq.trans (jb_nx (i := .aload_n 2) (n := 1) (q := (6, [some (.ref p0), some (.int i1), some (.ref p2), none], [.ref p2, .ref a3])) (jq qX4_renewPlay 3 rfl) rfl) ?_
    refine Eq.trans (jb_nx (i := .iload_n 1) (n := 1) (q := (7, [some (.ref p0), some (.int i1), some (.ref p2), none], [.int i1, .ref p2, .ref a3])) (jq qX4_renewPlay 4 rfl) rfl) ?_
    obtain ⟨b48, H⟩ := jm_O_inv H
    rcases jcR H with ⟨a6, h4, r5, H⟩ | ⟨w49, h50, r5, H⟩
    · refine Eq.trans (jb_nx (i := .invokevirtual 47) (n := 3) (q := (10, [some (.ref p0), some (.int i1), some (.ref p2), none], [.ref a6, .ref a3])) (jq qX4_renewPlay 5 rfl) (jo_cv (y := mX0_toldAt) rfl (Nat.le_of_ble_eq_true rfl) rfl (Nat.le_of_ble_eq_true rfl) b48 rfl r5 jo_ret)) ?_
      obtain ⟨b45, H⟩ := jm_O_inv H
      rcases jcI H with ⟨x9, h7, r8, H⟩ | ⟨w46, h47, r8, H⟩
      · refine Eq.trans (jb_nx (i := .invokevirtual 86) (n := 3) (q := (13, [some (.ref p0), some (.int i1), some (.ref p2), none], [.int x9])) (jq qX4_renewPlay 6 rfl) (jo_cv (y := mX3_hasTextOf) rfl (Nat.le_of_ble_eq_true rfl) rfl (Nat.le_of_ble_eq_true rfl) b45 rfl r8 jo_ret)) ?_
        by_cases c10 : x9 = 0
        · rw [if_pos c10] at H
          refine Eq.trans (jb_nx (i := .ifCond .ne 7) (n := 3) (q := (16, [some (.ref p0), some (.int i1), some (.ref p2), none], [])) (jq qX4_renewPlay 7 rfl) (jo_ifF (jz_neF c10))) ?_
          refine Eq.trans (jb_nx (i := .iconst 1) (n := 1) (q := (17, [some (.ref p0), some (.int i1), some (.ref p2), none], [.int 1])) (jq qX4_renewPlay 8 rfl) rfl) ?_
          refine Eq.trans (jb_nx (i := .goto 4) (n := 3) (q := (21, [some (.ref p0), some (.int i1), some (.ref p2), none], [.int 1])) (jq qX4_renewPlay 9 rfl) rfl) ?_
          refine Eq.trans (jb_nx (i := .istore_n 3) (n := 1) (q := (22, [some (.ref p0), some (.int i1), some (.ref p2), some (.int 1)], [])) (jq qX4_renewPlay 11 rfl) rfl) ?_
          refine Eq.trans (jb_nx (i := .aload_n 0) (n := 1) (q := (23, [some (.ref p0), some (.int i1), some (.ref p2), some (.int 1)], [.ref p0])) (jq qX4_renewPlay 12 rfl) rfl) ?_
          refine Eq.trans (jb_nx (i := .iload_n 1) (n := 1) (q := (24, [some (.ref p0), some (.int i1), some (.ref p2), some (.int 1)], [.int i1, .ref p0])) (jq qX4_renewPlay 13 rfl) rfl) ?_
          obtain ⟨b42, H⟩ := jm_O_inv H
          rcases jcR H with ⟨a30, h28, r29, H⟩ | ⟨w43, h44, r29, H⟩
          · refine Eq.trans (jb_nx (i := .invokevirtual 61) (n := 3) (q := (27, [some (.ref p0), some (.int i1), some (.ref p2), some (.int 1)], [.ref a30])) (jq qX4_renewPlay 14 rfl) (jo_cv (y := mX4_partAt) rfl (Nat.le_of_ble_eq_true rfl) rfl (Nat.le_of_ble_eq_true rfl) b42 rfl r29 jo_ret)) ?_
            refine Eq.trans (jb_nx (i := .aload_n 2) (n := 1) (q := (28, [some (.ref p0), some (.int i1), some (.ref p2), some (.int 1)], [.ref p2, .ref a30])) (jq qX4_renewPlay 15 rfl) rfl) ?_
            refine Eq.trans (jb_nx (i := .iload_n 1) (n := 1) (q := (29, [some (.ref p0), some (.int i1), some (.ref p2), some (.int 1)], [.int i1, .ref p2, .ref a30])) (jq qX4_renewPlay 16 rfl) rfl) ?_
            obtain ⟨b39, H⟩ := jm_O_inv H
            rcases jcR H with ⟨a33, h31, r32, H⟩ | ⟨w40, h41, r32, H⟩
            · refine Eq.trans (jb_nx (i := .invokevirtual 47) (n := 3) (q := (32, [some (.ref p0), some (.int i1), some (.ref p2), some (.int 1)], [.ref a33, .ref a30])) (jq qX4_renewPlay 17 rfl) (jo_cv (y := mX0_toldAt) rfl (Nat.le_of_ble_eq_true rfl) rfl (Nat.le_of_ble_eq_true rfl) b39 rfl r32 jo_ret)) ?_
              obtain ⟨b36, H⟩ := jm_O_inv H
              rcases jcV H with ⟨h34, r35, H⟩ | ⟨w37, h38, r35, H⟩
              · refine Eq.trans (jb_nx (i := .invokevirtual 53) (n := 3) (q := (35, [some (.ref p0), some (.int i1), some (.ref p2), some (.int 1)], [])) (jq qX4_renewPlay 18 rfl) (jo_cv (y := mX3_setTo) rfl (Nat.le_of_ble_eq_true rfl) rfl (Nat.le_of_ble_eq_true rfl) b36 rfl r35 jo_ret)) ?_
                refine Eq.trans (jb_nx (i := .iload_n 3) (n := 1) (q := (36, [some (.ref p0), some (.int i1), some (.ref p2), some (.int 1)], [.int 1])) (jq qX4_renewPlay 19 rfl) rfl) ?_
                exact Eq.trans (jb_rt (i := .ireturn) (n := 1) (jq qX4_renewPlay 20 rfl) (jo_iret rfl (by decide))) H
              · exact Eq.trans (jb_rt (i := .invokevirtual 53) (n := 3) (jq qX4_renewPlay 18 rfl) (jo_cv (y := mX3_setTo) rfl (Nat.le_of_ble_eq_true rfl) rfl (Nat.le_of_ble_eq_true rfl) b36 rfl r35 (jo_exn rfl))) H
            · exact Eq.trans (jb_rt (i := .invokevirtual 47) (n := 3) (jq qX4_renewPlay 17 rfl) (jo_cv (y := mX0_toldAt) rfl (Nat.le_of_ble_eq_true rfl) rfl (Nat.le_of_ble_eq_true rfl) b39 rfl r32 (jo_exn rfl))) H
          · exact Eq.trans (jb_rt (i := .invokevirtual 61) (n := 3) (jq qX4_renewPlay 14 rfl) (jo_cv (y := mX4_partAt) rfl (Nat.le_of_ble_eq_true rfl) rfl (Nat.le_of_ble_eq_true rfl) b42 rfl r29 (jo_exn rfl))) H
        · rw [if_neg c10] at H
          refine Eq.trans (jb_nx (i := .ifCond .ne 7) (n := 3) (q := (20, [some (.ref p0), some (.int i1), some (.ref p2), none], [])) (jq qX4_renewPlay 7 rfl) (jo_ifT (jz_neT c10) rfl)) ?_
          refine Eq.trans (jb_nx (i := .iconst 0) (n := 1) (q := (21, [some (.ref p0), some (.int i1), some (.ref p2), none], [.int 0])) (jq qX4_renewPlay 10 rfl) rfl) ?_
          refine Eq.trans (jb_nx (i := .istore_n 3) (n := 1) (q := (22, [some (.ref p0), some (.int i1), some (.ref p2), some (.int 0)], [])) (jq qX4_renewPlay 11 rfl) rfl) ?_
          refine Eq.trans (jb_nx (i := .aload_n 0) (n := 1) (q := (23, [some (.ref p0), some (.int i1), some (.ref p2), some (.int 0)], [.ref p0])) (jq qX4_renewPlay 12 rfl) rfl) ?_
          refine Eq.trans (jb_nx (i := .iload_n 1) (n := 1) (q := (24, [some (.ref p0), some (.int i1), some (.ref p2), some (.int 0)], [.int i1, .ref p0])) (jq qX4_renewPlay 13 rfl) rfl) ?_
          obtain ⟨b25, H⟩ := jm_O_inv H
          rcases jcR H with ⟨a13, h11, r12, H⟩ | ⟨w26, h27, r12, H⟩
          · refine Eq.trans (jb_nx (i := .invokevirtual 61) (n := 3) (q := (27, [some (.ref p0), some (.int i1), some (.ref p2), some (.int 0)], [.ref a13])) (jq qX4_renewPlay 14 rfl) (jo_cv (y := mX4_partAt) rfl (Nat.le_of_ble_eq_true rfl) rfl (Nat.le_of_ble_eq_true rfl) b25 rfl r12 jo_ret)) ?_
            refine Eq.trans (jb_nx (i := .aload_n 2) (n := 1) (q := (28, [some (.ref p0), some (.int i1), some (.ref p2), some (.int 0)], [.ref p2, .ref a13])) (jq qX4_renewPlay 15 rfl) rfl) ?_
            refine Eq.trans (jb_nx (i := .iload_n 1) (n := 1) (q := (29, [some (.ref p0), some (.int i1), some (.ref p2), some (.int 0)], [.int i1, .ref p2, .ref a13])) (jq qX4_renewPlay 16 rfl) rfl) ?_
            obtain ⟨b22, H⟩ := jm_O_inv H
            rcases jcR H with ⟨a16, h14, r15, H⟩ | ⟨w23, h24, r15, H⟩
            · refine Eq.trans (jb_nx (i := .invokevirtual 47) (n := 3) (q := (32, [some (.ref p0), some (.int i1), some (.ref p2), some (.int 0)], [.ref a16, .ref a13])) (jq qX4_renewPlay 17 rfl) (jo_cv (y := mX0_toldAt) rfl (Nat.le_of_ble_eq_true rfl) rfl (Nat.le_of_ble_eq_true rfl) b22 rfl r15 jo_ret)) ?_
              obtain ⟨b19, H⟩ := jm_O_inv H
              rcases jcV H with ⟨h17, r18, H⟩ | ⟨w20, h21, r18, H⟩
              · refine Eq.trans (jb_nx (i := .invokevirtual 53) (n := 3) (q := (35, [some (.ref p0), some (.int i1), some (.ref p2), some (.int 0)], [])) (jq qX4_renewPlay 18 rfl) (jo_cv (y := mX3_setTo) rfl (Nat.le_of_ble_eq_true rfl) rfl (Nat.le_of_ble_eq_true rfl) b19 rfl r18 jo_ret)) ?_
                refine Eq.trans (jb_nx (i := .iload_n 3) (n := 1) (q := (36, [some (.ref p0), some (.int i1), some (.ref p2), some (.int 0)], [.int 0])) (jq qX4_renewPlay 19 rfl) rfl) ?_
                exact Eq.trans (jb_rt (i := .ireturn) (n := 1) (jq qX4_renewPlay 20 rfl) (jo_iret rfl (by decide))) H
              · exact Eq.trans (jb_rt (i := .invokevirtual 53) (n := 3) (jq qX4_renewPlay 18 rfl) (jo_cv (y := mX3_setTo) rfl (Nat.le_of_ble_eq_true rfl) rfl (Nat.le_of_ble_eq_true rfl) b19 rfl r18 (jo_exn rfl))) H
            · exact Eq.trans (jb_rt (i := .invokevirtual 47) (n := 3) (jq qX4_renewPlay 17 rfl) (jo_cv (y := mX0_toldAt) rfl (Nat.le_of_ble_eq_true rfl) rfl (Nat.le_of_ble_eq_true rfl) b22 rfl r15 (jo_exn rfl))) H
          · exact Eq.trans (jb_rt (i := .invokevirtual 61) (n := 3) (jq qX4_renewPlay 14 rfl) (jo_cv (y := mX4_partAt) rfl (Nat.le_of_ble_eq_true rfl) rfl (Nat.le_of_ble_eq_true rfl) b25 rfl r12 (jo_exn rfl))) H
      · exact Eq.trans (jb_rt (i := .invokevirtual 86) (n := 3) (jq qX4_renewPlay 6 rfl) (jo_cv (y := mX3_hasTextOf) rfl (Nat.le_of_ble_eq_true rfl) rfl (Nat.le_of_ble_eq_true rfl) b45 rfl r8 (jo_exn rfl))) H
    · exact Eq.trans (jb_rt (i := .invokevirtual 47) (n := 3) (jq qX4_renewPlay 5 rfl) (jo_cv (y := mX0_toldAt) rfl (Nat.le_of_ble_eq_true rfl) rfl (Nat.le_of_ble_eq_true rfl) b48 rfl r5 (jo_exn rfl))) H
  · exact Eq.trans (jb_rt (i := .invokevirtual 61) (n := 3) (jq qX4_renewPlay 2 rfl) (jo_cv (y := mX4_partAt) rfl (Nat.le_of_ble_eq_true rfl) rfl (Nat.le_of_ble_eq_true rfl) b51 rfl r2 (jo_exn rfl))) H
/-! MaskPlays$Stage setTo (LMaskPlays$Stage;I)V -/
def tX4_setTo : List (Nat × Instr × Nat) := [(0, .aload_n 0, 1), (1, .aload_n 1, 1), (2, .getfield 40, 3), (5, .putfield 40, 3), (8, .aload_n 0, 1), (9, .aload_n 1, 1), (10, .getfield 44, 3), (13, .putfield 44, 3), (16, .iconst 0, 1), (17, .istore_n 3, 1), (18, .iload_n 3, 1), (19, .iload_n 2, 1), (20, .if_icmp .ge 42, 3), (23, .iload_n 3, 1), (24, .aload_n 0, 1), (25, .getfield 11, 3), (28, .arraylength, 1), (29, .if_icmp .ge 33, 3), (32, .aload_n 0, 1), (33, .getfield 11, 3), (36, .iload_n 3, 1), (37, .aaload, 1), (38, .aload_n 1, 1), (39, .iload_n 3, 1), (40, .invokevirtual 61, 3), (43, .invokevirtual 53, 3), (46, .aload_n 0, 1), (47, .iload_n 3, 1), (48, .aload_n 1, 1), (49, .iload_n 3, 1), (50, .invokevirtual 64, 3), (53, .invokevirtual 57, 3), (56, .iinc 3 1, 3), (59, .goto (-41), 3), (62, .return_, 1)]
set_option maxRecDepth 100000 in
theorem qX4_setTo : ∀ q ∈ tX4_setTo, decode cX4_setTo q.1 = .ok (q.2.1, q.2.2) := by decide +kernel
noncomputable def kX4_setTo_18 (d : Nat) (p0 : Nat) (p1 : Nat) (i2 : Int32) (i3 : Int32) (h : jm_H) : Option jm_R := jm_B d mX4_setTo (18, [some (.ref p0), some (.ref p1), some (.int i2), some (.int i3)], []) h
theorem gX4_setTo_18 {d : Nat} {p0 : Nat} {p1 : Nat} {i2 : Int32} {i3 : Int32} {h : jm_H} {r : jm_R} (H : ((if i3 < i2 then (jr_R h p0 4 2 2).bind fun a10 => (jm_len h a10).bind fun n12 => (if i3 < (Int32.ofNat n12) then (jr_R h p0 4 2 2).bind fun a15 => (jm_alr h a15 i3).bind fun a17 => jm_O h p1 4 (jc_R (jm_D d mX4_partAt [.ref p1, .int i3] h) (fun a21 h19 => jm_O h19 a17 3 (jc_V (jm_D d mX3_setTo [.ref a17, .ref a21] h19) (fun h22 => jm_O h22 p1 4 (jc_I (jm_D d mX4_stepsAt [.ref p1, .int i3] h22) (fun x26 h24 => jm_O h24 p0 4 (jc_V (jm_D d mX4_setSteps [.ref p0, .int i3, .int x26] h24) (fun h27 => kX4_setTo_18 d p0 p1 i2 (i3 + 1) h27) jx)) jx)) jx)) jx) else some (.inl none, h)) else some (.inl none, h))) = some r) : kX4_setTo_18 d p0 p1 i2 i3 h = some r := by
  show jm_B d mX4_setTo (18, [some (.ref p0), some (.ref p1), some (.int i2), some (.int i3)], []) h = some r
  refine Eq.trans (jb_nx (i := .iload_n 3) (n := 1) (q := (19, [some (.ref p0), some (.ref p1), some (.int i2), some (.int i3)], [.int i3])) (jq qX4_setTo 10 rfl) rfl) ?_
  refine Eq.trans (jb_nx (i := .iload_n 2) (n := 1) (q := (20, [some (.ref p0), some (.ref p1), some (.int i2), some (.int i3)], [.int i2, .int i3])) (jq qX4_setTo 11 rfl) rfl) ?_
  by_cases c9 : i3 < i2
  · rw [if_pos c9] at H
    refine Eq.trans (jb_nx (i := .if_icmp .ge 42) (n := 3) (q := (23, [some (.ref p0), some (.ref p1), some (.int i2), some (.int i3)], [])) (jq qX4_setTo 12 rfl) (jo_icF (jz_geF c9))) ?_
    refine Eq.trans (jb_nx (i := .iload_n 3) (n := 1) (q := (24, [some (.ref p0), some (.ref p1), some (.int i2), some (.int i3)], [.int i3])) (jq qX4_setTo 13 rfl) rfl) ?_
    refine Eq.trans (jb_nx (i := .aload_n 0) (n := 1) (q := (25, [some (.ref p0), some (.ref p1), some (.int i2), some (.int i3)], [.ref p0, .int i3])) (jq qX4_setTo 14 rfl) rfl) ?_
    obtain ⟨a10, e11, H⟩ := jbd H
    refine Eq.trans (jb_nx (i := .getfield 11) (n := 3) (q := (28, [some (.ref p0), some (.ref p1), some (.int i2), some (.int i3)], [.ref a10, .int i3])) (jq qX4_setTo 15 rfl) (jo_gf rfl (jr_R_inv e11))) ?_
    obtain ⟨n12, e13, H⟩ := jbd H
    refine Eq.trans (jb_nx (i := .arraylength) (n := 1) (q := (29, [some (.ref p0), some (.ref p1), some (.int i2), some (.int i3)], [.int (Int32.ofNat n12), .int i3])) (jq qX4_setTo 16 rfl) (jo_len e13)) ?_
    by_cases c14 : i3 < (Int32.ofNat n12)
    · rw [if_pos c14] at H
      refine Eq.trans (jb_nx (i := .if_icmp .ge 33) (n := 3) (q := (32, [some (.ref p0), some (.ref p1), some (.int i2), some (.int i3)], [])) (jq qX4_setTo 17 rfl) (jo_icF (jz_geF c14))) ?_
      refine Eq.trans (jb_nx (i := .aload_n 0) (n := 1) (q := (33, [some (.ref p0), some (.ref p1), some (.int i2), some (.int i3)], [.ref p0])) (jq qX4_setTo 18 rfl) rfl) ?_
      obtain ⟨a15, e16, H⟩ := jbd H
      refine Eq.trans (jb_nx (i := .getfield 11) (n := 3) (q := (36, [some (.ref p0), some (.ref p1), some (.int i2), some (.int i3)], [.ref a15])) (jq qX4_setTo 19 rfl) (jo_gf rfl (jr_R_inv e16))) ?_
      refine Eq.trans (jb_nx (i := .iload_n 3) (n := 1) (q := (37, [some (.ref p0), some (.ref p1), some (.int i2), some (.int i3)], [.int i3, .ref a15])) (jq qX4_setTo 20 rfl) rfl) ?_
      obtain ⟨a17, e18, H⟩ := jbd H
      refine Eq.trans (jb_nx (i := .aaload) (n := 1) (q := (38, [some (.ref p0), some (.ref p1), some (.int i2), some (.int i3)], [.ref a17])) (jq qX4_setTo 21 rfl) (jo_ral e18)) ?_
      refine Eq.trans (jb_nx (i := .aload_n 1) (n := 1) (q := (39, [some (.ref p0), some (.ref p1), some (.int i2), some (.int i3)], [.ref p1, .ref a17])) (jq qX4_setTo 22 rfl) rfl) ?_
      refine Eq.trans (jb_nx (i := .iload_n 3) (n := 1) (q := (40, [some (.ref p0), some (.ref p1), some (.int i2), some (.int i3)], [.int i3, .ref p1, .ref a17])) (jq qX4_setTo 23 rfl) rfl) ?_
      obtain ⟨b38, H⟩ := jm_O_inv H
      rcases jcR H with ⟨a21, h19, r20, H⟩ | ⟨w39, h40, r20, H⟩
      · refine Eq.trans (jb_nx (i := .invokevirtual 61) (n := 3) (q := (43, [some (.ref p0), some (.ref p1), some (.int i2), some (.int i3)], [.ref a21, .ref a17])) (jq qX4_setTo 24 rfl) (jo_cv (y := mX4_partAt) rfl (Nat.le_of_ble_eq_true rfl) rfl (Nat.le_of_ble_eq_true rfl) b38 rfl r20 jo_ret)) ?_
        obtain ⟨b35, H⟩ := jm_O_inv H
        rcases jcV H with ⟨h22, r23, H⟩ | ⟨w36, h37, r23, H⟩
        · refine Eq.trans (jb_nx (i := .invokevirtual 53) (n := 3) (q := (46, [some (.ref p0), some (.ref p1), some (.int i2), some (.int i3)], [])) (jq qX4_setTo 25 rfl) (jo_cv (y := mX3_setTo) rfl (Nat.le_of_ble_eq_true rfl) rfl (Nat.le_of_ble_eq_true rfl) b35 rfl r23 jo_ret)) ?_
          refine Eq.trans (jb_nx (i := .aload_n 0) (n := 1) (q := (47, [some (.ref p0), some (.ref p1), some (.int i2), some (.int i3)], [.ref p0])) (jq qX4_setTo 26 rfl) rfl) ?_
          refine Eq.trans (jb_nx (i := .iload_n 3) (n := 1) (q := (48, [some (.ref p0), some (.ref p1), some (.int i2), some (.int i3)], [.int i3, .ref p0])) (jq qX4_setTo 27 rfl) rfl) ?_
          refine Eq.trans (jb_nx (i := .aload_n 1) (n := 1) (q := (49, [some (.ref p0), some (.ref p1), some (.int i2), some (.int i3)], [.ref p1, .int i3, .ref p0])) (jq qX4_setTo 28 rfl) rfl) ?_
          refine Eq.trans (jb_nx (i := .iload_n 3) (n := 1) (q := (50, [some (.ref p0), some (.ref p1), some (.int i2), some (.int i3)], [.int i3, .ref p1, .int i3, .ref p0])) (jq qX4_setTo 29 rfl) rfl) ?_
          obtain ⟨b32, H⟩ := jm_O_inv H
          rcases jcI H with ⟨x26, h24, r25, H⟩ | ⟨w33, h34, r25, H⟩
          · refine Eq.trans (jb_nx (i := .invokevirtual 64) (n := 3) (q := (53, [some (.ref p0), some (.ref p1), some (.int i2), some (.int i3)], [.int x26, .int i3, .ref p0])) (jq qX4_setTo 30 rfl) (jo_cv (y := mX4_stepsAt) rfl (Nat.le_of_ble_eq_true rfl) rfl (Nat.le_of_ble_eq_true rfl) b32 rfl r25 jo_ret)) ?_
            obtain ⟨b29, H⟩ := jm_O_inv H
            rcases jcV H with ⟨h27, r28, H⟩ | ⟨w30, h31, r28, H⟩
            · refine Eq.trans (jb_nx (i := .invokevirtual 57) (n := 3) (q := (56, [some (.ref p0), some (.ref p1), some (.int i2), some (.int i3)], [])) (jq qX4_setTo 31 rfl) (jo_cv (y := mX4_setSteps) rfl (Nat.le_of_ble_eq_true rfl) rfl (Nat.le_of_ble_eq_true rfl) b29 rfl r28 jo_ret)) ?_
              refine Eq.trans (jb_nx (i := .iinc 3 1) (n := 3) (q := (59, [some (.ref p0), some (.ref p1), some (.int i2), some (.int (i3 + 1))], [])) (jq qX4_setTo 32 rfl) rfl) ?_
              refine Eq.trans (jb_nx (i := .goto (-41)) (n := 3) (q := (18, [some (.ref p0), some (.ref p1), some (.int i2), some (.int (i3 + 1))], [])) (jq qX4_setTo 33 rfl) rfl) ?_
              exact H
            · exact Eq.trans (jb_rt (i := .invokevirtual 57) (n := 3) (jq qX4_setTo 31 rfl) (jo_cv (y := mX4_setSteps) rfl (Nat.le_of_ble_eq_true rfl) rfl (Nat.le_of_ble_eq_true rfl) b29 rfl r28 (jo_exn rfl))) H
          · exact Eq.trans (jb_rt (i := .invokevirtual 64) (n := 3) (jq qX4_setTo 30 rfl) (jo_cv (y := mX4_stepsAt) rfl (Nat.le_of_ble_eq_true rfl) rfl (Nat.le_of_ble_eq_true rfl) b32 rfl r25 (jo_exn rfl))) H
        · exact Eq.trans (jb_rt (i := .invokevirtual 53) (n := 3) (jq qX4_setTo 25 rfl) (jo_cv (y := mX3_setTo) rfl (Nat.le_of_ble_eq_true rfl) rfl (Nat.le_of_ble_eq_true rfl) b35 rfl r23 (jo_exn rfl))) H
      · exact Eq.trans (jb_rt (i := .invokevirtual 61) (n := 3) (jq qX4_setTo 24 rfl) (jo_cv (y := mX4_partAt) rfl (Nat.le_of_ble_eq_true rfl) rfl (Nat.le_of_ble_eq_true rfl) b38 rfl r20 (jo_exn rfl))) H
    · rw [if_neg c14] at H
      refine Eq.trans (jb_nx (i := .if_icmp .ge 33) (n := 3) (q := (62, [some (.ref p0), some (.ref p1), some (.int i2), some (.int i3)], [])) (jq qX4_setTo 17 rfl) (jo_icT (jz_geT c14) rfl)) ?_
      exact Eq.trans (jb_rt (i := .return_) (n := 1) (jq qX4_setTo 34 rfl) rfl) H
  · rw [if_neg c9] at H
    refine Eq.trans (jb_nx (i := .if_icmp .ge 42) (n := 3) (q := (62, [some (.ref p0), some (.ref p1), some (.int i2), some (.int i3)], [])) (jq qX4_setTo 12 rfl) (jo_icT (jz_geT c9) rfl)) ?_
    exact Eq.trans (jb_rt (i := .return_) (n := 1) (jq qX4_setTo 34 rfl) rfl) H
theorem gX4_setTo {d : Nat} {p0 : Nat} {p1 : Nat} {i2 : Int32} {h : jm_H} {r : jm_R} (H : ((jr_I h p1 4 0 0).bind fun x1 => (jm_pf h p0 4 0 0 (.int x1)).bind fun h3 => (jr_I h3 p1 4 1 0).bind fun x5 => (jm_pf h3 p0 4 1 0 (.int x5)).bind fun h7 => kX4_setTo_18 d p0 p1 i2 0 h7) = some r) : jm_D (d + 1) mX4_setTo [.ref p0, .ref p1, .int i2] h = some r := by
  rw [jm_D_body (Nat.le_of_ble_eq_true rfl)]
  show jm_B d mX4_setTo (0, [some (.ref p0), some (.ref p1), some (.int i2), none], []) h = some r
  refine Eq.trans (jb_nx (i := .aload_n 0) (n := 1) (q := (1, [some (.ref p0), some (.ref p1), some (.int i2), none], [.ref p0])) (jq qX4_setTo 0 rfl) rfl) ?_
  refine Eq.trans (jb_nx (i := .aload_n 1) (n := 1) (q := (2, [some (.ref p0), some (.ref p1), some (.int i2), none], [.ref p1, .ref p0])) (jq qX4_setTo 1 rfl) rfl) ?_
  obtain ⟨x1, e2, H⟩ := jbd H
  refine Eq.trans (jb_nx (i := .getfield 40) (n := 3) (q := (5, [some (.ref p0), some (.ref p1), some (.int i2), none], [.int x1, .ref p0])) (jq qX4_setTo 2 rfl) (jo_gf rfl (jr_I_inv e2))) ?_
  obtain ⟨h3, e4, H⟩ := jbd H
  refine Eq.trans (jb_nx (i := .putfield 40) (n := 3) (q := (8, [some (.ref p0), some (.ref p1), some (.int i2), none], [])) (jq qX4_setTo 3 rfl) (jo_pf rfl (Or.inl rfl) e4)) ?_
  refine Eq.trans (jb_nx (i := .aload_n 0) (n := 1) (q := (9, [some (.ref p0), some (.ref p1), some (.int i2), none], [.ref p0])) (jq qX4_setTo 4 rfl) rfl) ?_
  refine Eq.trans (jb_nx (i := .aload_n 1) (n := 1) (q := (10, [some (.ref p0), some (.ref p1), some (.int i2), none], [.ref p1, .ref p0])) (jq qX4_setTo 5 rfl) rfl) ?_
  obtain ⟨x5, e6, H⟩ := jbd H
  refine Eq.trans (jb_nx (i := .getfield 44) (n := 3) (q := (13, [some (.ref p0), some (.ref p1), some (.int i2), none], [.int x5, .ref p0])) (jq qX4_setTo 6 rfl) (jo_gf rfl (jr_I_inv e6))) ?_
  obtain ⟨h7, e8, H⟩ := jbd H
  refine Eq.trans (jb_nx (i := .putfield 44) (n := 3) (q := (16, [some (.ref p0), some (.ref p1), some (.int i2), none], [])) (jq qX4_setTo 7 rfl) (jo_pf rfl (Or.inl rfl) e8)) ?_
  refine Eq.trans (jb_nx (i := .iconst 0) (n := 1) (q := (17, [some (.ref p0), some (.ref p1), some (.int i2), none], [.int 0])) (jq qX4_setTo 8 rfl) rfl) ?_
  refine Eq.trans (jb_nx (i := .istore_n 3) (n := 1) (q := (18, [some (.ref p0), some (.ref p1), some (.int i2), some (.int 0)], [])) (jq qX4_setTo 9 rfl) rfl) ?_
  exact H
