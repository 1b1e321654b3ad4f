/-! ===== LEVEL 2: X8 ===== -/
/-! MaskPlays$Text <init> ()V -/
def tX8_init : List (Nat × Instr × Nat) := [(0, .aload_n 0, 1), (1, .invokespecial 3, 3), (4, .aload_n 0, 1), (5, .sipush 2550, 3), (8, .newarray .byte, 2), (10, .putfield 9, 3), (13, .aload_n 0, 1), (14, .sipush 150, 3), (17, .newarray .int, 2), (19, .putfield 15, 3), (22, .aload_n 0, 1), (23, .sipush 300, 3), (26, .newarray .char, 2), (28, .putfield 19, 3), (31, .return_, 1)]
set_option maxRecDepth 100000 in
theorem qX8_init : ∀ q ∈ tX8_init, decode cX8_init q.1 = .ok (q.2.1, q.2.2) := by decide +kernel
theorem gX8_init {d : Nat} {p0 : Nat} {h : jm_H} {r : jm_R} (H : (jm_U p0 (jl_newa h 2 2550 fun a2 h3 => (jm_pf h3 p0 8 1 2 (.ref a2)).bind fun h6 => jl_newa h6 0 150 fun a8 h9 => (jm_pf h9 p0 8 2 2 (.ref a8)).bind fun h12 => jl_newa h12 4 300 fun a14 h15 => (jm_pf h15 p0 8 3 2 (.ref a14)).bind fun h18 => some (.inl none, h18))) = some r) : jm_D (d + 1) mX8_init [.ref p0] h = some r := by
  rw [jm_D_body (Nat.le_of_ble_eq_true rfl)]
  show jm_B d mX8_init (0, [some (.ref p0)], []) h = some r
  refine Eq.trans (jb_nx (i := .aload_n 0) (n := 1) (q := (1, [some (.ref p0)], [.ref p0])) (jq qX8_init 0 rfl) rfl) ?_
  obtain ⟨u1, H⟩ := jm_U_inv H
  refine Eq.trans (jb_nx (i := .invokespecial 3) (n := 3) (q := (4, [some (.ref p0)], [])) (jq qX8_init 1 rfl) (jo_oi (z := mX3_clear) rfl (Nat.le_of_ble_eq_true rfl) u1)) ?_
  refine Eq.trans (jb_nx (i := .aload_n 0) (n := 1) (q := (5, [some (.ref p0)], [.ref p0])) (jq qX8_init 2 rfl) rfl) ?_
  refine Eq.trans (jb_nx (i := .sipush 2550) (n := 3) (q := (8, [some (.ref p0)], [.int 2550, .ref p0])) (jq qX8_init 3 rfl) rfl) ?_
  obtain ⟨a2, h3, e4, e5, H⟩ := jl_newa_inv H
  refine Eq.trans (jb_nx (i := .newarray .byte) (n := 2) (q := (10, [some (.ref p0)], [.ref a2, .ref p0])) (jq qX8_init 4 rfl) (jo_newb rfl e4 e5)) ?_
  obtain ⟨h6, e7, H⟩ := jbd H
  refine Eq.trans (jb_nx (i := .putfield 9) (n := 3) (q := (13, [some (.ref p0)], [])) (jq qX8_init 5 rfl) (jo_pf rfl (Or.inr ⟨rfl, rfl⟩) e7)) ?_
  refine Eq.trans (jb_nx (i := .aload_n 0) (n := 1) (q := (14, [some (.ref p0)], [.ref p0])) (jq qX8_init 6 rfl) rfl) ?_
  refine Eq.trans (jb_nx (i := .sipush 150) (n := 3) (q := (17, [some (.ref p0)], [.int 150, .ref p0])) (jq qX8_init 7 rfl) rfl) ?_
  obtain ⟨a8, h9, e10, e11, H⟩ := jl_newa_inv H
  refine Eq.trans (jb_nx (i := .newarray .int) (n := 2) (q := (19, [some (.ref p0)], [.ref a8, .ref p0])) (jq qX8_init 8 rfl) (jo_newb rfl e10 e11)) ?_
  obtain ⟨h12, e13, H⟩ := jbd H
  refine Eq.trans (jb_nx (i := .putfield 15) (n := 3) (q := (22, [some (.ref p0)], [])) (jq qX8_init 9 rfl) (jo_pf rfl (Or.inr ⟨rfl, rfl⟩) e13)) ?_
  refine Eq.trans (jb_nx (i := .aload_n 0) (n := 1) (q := (23, [some (.ref p0)], [.ref p0])) (jq qX8_init 10 rfl) rfl) ?_
  refine Eq.trans (jb_nx (i := .sipush 300) (n := 3) (q := (26, [some (.ref p0)], [.int 300, .ref p0])) (jq qX8_init 11 rfl) rfl) ?_
  obtain ⟨a14, h15, e16, e17, H⟩ := jl_newa_inv H
  refine Eq.trans (jb_nx (i := .newarray .char) (n := 2) (q := (28, [some (.ref p0)], [.ref a14, .ref p0])) (jq qX8_init 12 rfl) (jo_newb rfl e16 e17)) ?_
  obtain ⟨h18, e19, H⟩ := jbd H
  refine Eq.trans (jb_nx (i := .putfield 19) (n := 3) (q := (31, [some (.ref p0)], [])) (jq qX8_init 13 rfl) (jo_pf rfl (Or.inr ⟨rfl, rfl⟩) e19)) ?_
  exact Eq.trans (jb_rt (i := .return_) (n := 1) (jq qX8_init 14 rfl) rfl) H
/-! MaskPlays$Text write (LMaskPlays$Part;)V -/
def tX8_write : List (Nat × Instr × Nat) := [(0, .aload_n 0, 1), (1, .iconst 0, 1), (2, .putfield 23, 3), (5, .aload_n 0, 1), (6, .iconst 0, 1), (7, .putfield 27, 3), (10, .iconst 0, 1), (11, .istore_n 2, 1), (12, .iload_n 2, 1), (13, .aload_n 1, 1), (14, .getfield 30, 3), (17, .if_icmp .ge 108, 3), (20, .iload_n 2, 1), (21, .aload_n 0, 1), (22, .getfield 15, 3), (25, .arraylength, 1), (26, .if_icmp .ge 99, 3), (29, .aload_n 0, 1), (30, .getfield 15, 3), (33, .iload_n 2, 1), (34, .aload_n 0, 1), (35, .getfield 23, 3), (38, .iastore, 1), (39, .aload_n 1, 1), (40, .iload_n 2, 1), (41, .invokevirtual 35, 3), (44, .istore_n 3, 1), (45, .iload_n 3, 1), (46, .iconst 2, 1), (47, .if_icmp .ne 24, 3), (50, .aload_n 0, 1), (51, .bipush 91, 2), (53, .invokevirtual 39, 3), (56, .aload_n 0, 1), (57, .bipush 93, 2), (59, .invokevirtual 43, 3), (62, .aload_n 0, 1), (63, .bipush 32, 2), (65, .invokevirtual 43, 3), (68, .goto 51, 3), (71, .iload_n 3, 1), (72, .iconst 1, 1), (73, .if_icmp .ne 33, 3), (76, .aload_n 0, 1), (77, .ldc 47, 2), (79, .invokevirtual 49, 3), (82, .aload_n 0, 1), (83, .aload_n 1, 1), (84, .iload_n 2, 1), (85, .invokevirtual 53, 3), (88, .invokevirtual 57, 3), (91, .aload_n 0, 1), (92, .bipush 40, 2), (94, .invokevirtual 39, 3), (97, .aload_n 0, 1), (98, .bipush 41, 2), (100, .invokevirtual 43, 3), (103, .goto 16, 3), (106, .aload_n 0, 1), (107, .aload_n 1, 1), (108, .iload_n 2, 1), (109, .invokevirtual 53, 3), (112, .invokevirtual 57, 3), (115, .aload_n 0, 1), (116, .invokevirtual 61, 3), (119, .iinc 2 1, 3), (122, .goto (-110), 3), (125, .return_, 1)]
set_option maxRecDepth 100000 in
theorem qX8_write : ∀ q ∈ tX8_write, decode cX8_write q.1 = .ok (q.2.1, q.2.2) := by decide +kernel
noncomputable def kX8_write_12 (d : Nat) (p0 : Nat) (p1 : Nat) (i2 : Int32) (o3 : Option Value) (h : jm_H) : Option jm_R := jm_B d mX8_write (12, [some (.ref p0), some (.ref p1), some (.int i2), o3], []) h
theorem gX8_write_12 {d : Nat} {p0 : Nat} {p1 : Nat} {i2 : Int32} {o3 : Option Value} {h : jm_H} {r : jm_R} (H : ((jr_I h p1 3 0 0).bind fun x5 => (if i2 < x5 then (jr_R h p0 8 2 2).bind fun a8 => (jm_len h a8).bind fun n10 => (if i2 < (Int32.ofNat n10) then (jr_R h p0 8 2 2).bind fun a13 => (jr_I h p0 8 0 0).bind fun x15 => (jm_asi h a13 0 i2 x15).bind fun h17 => jm_O h17 p1 3 (jc_I (jm_D d mX3_kindAt [.ref p1, .int i2] h17) (fun x21 h19 => (if x21 = 2 then jm_O h19 p0 8 (jc_V (jm_D d mX8_put [.ref p0, .int 91] h19) (fun h66 => jm_O h66 p0 8 (jc_V (jm_D d mX8_putLater [.ref p0, .int 93] h66) (fun h68 => jm_O h68 p0 8 (jc_V (jm_D d mX8_putLater [.ref p0, .int 32] h68) (fun h70 => kX8_write_12 d p0 p1 (i2 + 1) (some (.int x21)) h70) jx)) jx)) jx) else (if x21 = 1 then jm_O h19 p0 8 (jc_V (jm_D d mX8_putAll [.ref p0, .ref 3] h19) (fun h40 => jm_O h40 p1 3 (jc_L (jm_D d mX3_nameAt [.ref p1, .int i2] h40) (fun y44 h42 => jm_O h42 p0 8 (jc_V (jm_D d mX8_putName [.ref p0, .long y44] h42) (fun h45 => jm_O h45 p0 8 (jc_V (jm_D d mX8_put [.ref p0, .int 40] h45) (fun h47 => jm_O h47 p0 8 (jc_V (jm_D d mX8_putLater [.ref p0, .int 41] h47) (fun h49 => kX8_write_12 d p0 p1 (i2 + 1) (some (.int x21)) h49) jx)) jx)) jx)) jx)) jx) else jm_O h19 p1 3 (jc_L (jm_D d mX3_nameAt [.ref p1, .int i2] h19) (fun y26 h24 => jm_O h24 p0 8 (jc_V (jm_D d mX8_putName [.ref p0, .long y26] h24) (fun h27 => jm_O h27 p0 8 (jc_V (jm_D d mX8_putWhatComes [.ref p0] h27) (fun h29 => kX8_write_12 d p0 p1 (i2 + 1) (some (.int x21)) h29) jx)) jx)) jx)))) jx) else some (.inl none, h)) else some (.inl none, h))) = some r) : kX8_write_12 d p0 p1 i2 o3 h = some r := by
  show jm_B d mX8_write (12, [some (.ref p0), some (.ref p1), some (.int i2), o3], []) h = some r
  refine Eq.trans (jb_nx (i := .iload_n 2) (n := 1) (q := (13, [some (.ref p0), some (.ref p1), some (.int i2), o3], [.int i2])) (jq qX8_write 8 rfl) rfl) ?_
  refine Eq.trans (jb_nx (i := .aload_n 1) (n := 1) (q := (14, [some (.ref p0), some (.ref p1), some (.int i2), o3], [.ref p1, .int i2])) (jq qX8_write 9 rfl) rfl) ?_
  obtain ⟨x5, e6, H⟩ := jbd H
  refine Eq.trans (jb_nx (i := .getfield 30) (n := 3) (q := (17, [some (.ref p0), some (.ref p1), some (.int i2), o3], [.int x5, .int i2])) (jq qX8_write 10 rfl) (jo_gf rfl (jr_I_inv e6))) ?_
  by_cases c7 : i2 < x5
  · rw [if_pos c7] at H
    refine Eq.trans (jb_nx (i := .if_icmp .ge 108) (n := 3) (q := (20, [some (.ref p0), some (.ref p1), some (.int i2), o3], [])) (jq qX8_write 11 rfl) (jo_icF (jz_geF c7))) ?_
    refine Eq.trans (jb_nx (i := .iload_n 2) (n := 1) (q := (21, [some (.ref p0), some (.ref p1), some (.int i2), o3], [.int i2])) (jq qX8_write 12 rfl) rfl) ?_
    refine Eq.trans (jb_nx (i := .aload_n 0) (n := 1) (q := (22, [some (.ref p0), some (.ref p1), some (.int i2), o3], [.ref p0, .int i2])) (jq qX8_write 13 rfl) rfl) ?_
    obtain ⟨a8, e9, H⟩ := jbd H
    refine Eq.trans (jb_nx (i := .getfield 15) (n := 3) (q := (25, [some (.ref p0), some (.ref p1), some (.int i2), o3], [.ref a8, .int i2])) (jq qX8_write 14 rfl) (jo_gf rfl (jr_R_inv e9))) ?_
    obtain ⟨n10, e11, H⟩ := jbd H
    refine Eq.trans (jb_nx (i := .arraylength) (n := 1) (q := (26, [some (.ref p0), some (.ref p1), some (.int i2), o3], [.int (Int32.ofNat n10), .int i2])) (jq qX8_write 15 rfl) (jo_len e11)) ?_
    by_cases c12 : i2 < (Int32.ofNat n10)
    · rw [if_pos c12] at H
      refine Eq.trans (jb_nx (i := .if_icmp .ge 99) (n := 3) (q := (29, [some (.ref p0), some (.ref p1), some (.int i2), o3], [])) (jq qX8_write 16 rfl) (jo_icF (jz_geF c12))) ?_
      refine Eq.trans (jb_nx (i := .aload_n 0) (n := 1) (q := (30, [some (.ref p0), some (.ref p1), some (.int i2), o3], [.ref p0])) (jq qX8_write 17 rfl) rfl) ?_
      obtain ⟨a13, e14, H⟩ := jbd H
      refine Eq.trans (jb_nx (i := .getfield 15) (n := 3) (q := (33, [some (.ref p0), some (.ref p1), some (.int i2), o3], [.ref a13])) (jq qX8_write 18 rfl) (jo_gf rfl (jr_R_inv e14))) ?_
      refine Eq.trans (jb_nx (i := .iload_n 2) (n := 1) (q := (34, [some (.ref p0), some (.ref p1), some (.int i2), o3], [.int i2, .ref a13])) (jq qX8_write 19 rfl) rfl) ?_
      refine Eq.trans (jb_nx (i := .aload_n 0) (n := 1) (q := (35, [some (.ref p0), some (.ref p1), some (.int i2), o3], [.ref p0, .int i2, .ref a13])) (jq qX8_write 20 rfl) rfl) ?_
      obtain ⟨x15, e16, H⟩ := jbd H
      refine Eq.trans (jb_nx (i := .getfield 23) (n := 3) (q := (38, [some (.ref p0), some (.ref p1), some (.int i2), o3], [.int x15, .int i2, .ref a13])) (jq qX8_write 21 rfl) (jo_gf rfl (jr_I_inv e16))) ?_
      obtain ⟨h17, e18, H⟩ := jbd H
      refine Eq.trans (jb_nx (i := .iastore) (n := 1) (q := (39, [some (.ref p0), some (.ref p1), some (.int i2), o3], [])) (jq qX8_write 22 rfl) (jo_ias e18)) ?_
      refine Eq.trans (jb_nx (i := .aload_n 1) (n := 1) (q := (40, [some (.ref p0), some (.ref p1), some (.int i2), o3], [.ref p1])) (jq qX8_write 23 rfl) rfl) ?_
      refine Eq.trans (jb_nx (i := .iload_n 2) (n := 1) (q := (41, [some (.ref p0), some (.ref p1), some (.int i2), o3], [.int i2, .ref p1])) (jq qX8_write 24 rfl) rfl) ?_
      obtain ⟨b81, H⟩ := jm_O_inv H
      rcases jcI H with ⟨x21, h19, r20, H⟩ | ⟨w82, h83, r20, H⟩
      · refine Eq.trans (jb_nx (i := .invokevirtual 35) (n := 3) (q := (44, [some (.ref p0), some (.ref p1), some (.int i2), o3], [.int x21])) (jq qX8_write 25 rfl) (jo_cv (y := mX3_kindAt) rfl (Nat.le_of_ble_eq_true rfl) rfl (Nat.le_of_ble_eq_true rfl) b81 rfl r20 jo_ret)) ?_
        refine Eq.trans (jb_nx (i := .istore_n 3) (n := 1) (q := (45, [some (.ref p0), some (.ref p1), some (.int i2), some (.int x21)], [])) (jq qX8_write 26 rfl) rfl) ?_
        refine Eq.trans (jb_nx (i := .iload_n 3) (n := 1) (q := (46, [some (.ref p0), some (.ref p1), some (.int i2), some (.int x21)], [.int x21])) (jq qX8_write 27 rfl) rfl) ?_
        refine Eq.trans (jb_nx (i := .iconst 2) (n := 1) (q := (47, [some (.ref p0), some (.ref p1), some (.int i2), some (.int x21)], [.int 2, .int x21])) (jq qX8_write 28 rfl) rfl) ?_
        by_cases c22 : x21 = 2
        · rw [if_pos c22] at H
          refine Eq.trans (jb_nx (i := .if_icmp .ne 24) (n := 3) (q := (50, [some (.ref p0), some (.ref p1), some (.int i2), some (.int x21)], [])) (jq qX8_write 29 rfl) (jo_icF (jz_neF c22))) ?_
          refine Eq.trans (jb_nx (i := .aload_n 0) (n := 1) (q := (51, [some (.ref p0), some (.ref p1), some (.int i2), some (.int x21)], [.ref p0])) (jq qX8_write 30 rfl) rfl) ?_
          refine Eq.trans (jb_nx (i := .bipush 91) (n := 2) (q := (53, [some (.ref p0), some (.ref p1), some (.int i2), some (.int x21)], [.int 91, .ref p0])) (jq qX8_write 31 rfl) rfl) ?_
          obtain ⟨b78, H⟩ := jm_O_inv H
          rcases jcV H with ⟨h66, r67, H⟩ | ⟨w79, h80, r67, H⟩
          · refine Eq.trans (jb_nx (i := .invokevirtual 39) (n := 3) (q := (56, [some (.ref p0), some (.ref p1), some (.int i2), some (.int x21)], [])) (jq qX8_write 32 rfl) (jo_cv (y := mX8_put) rfl (Nat.le_of_ble_eq_true rfl) rfl (Nat.le_of_ble_eq_true rfl) b78 rfl r67 jo_ret)) ?_
            refine Eq.trans (jb_nx (i := .aload_n 0) (n := 1) (q := (57, [some (.ref p0), some (.ref p1), some (.int i2), some (.int x21)], [.ref p0])) (jq qX8_write 33 rfl) rfl) ?_
            refine Eq.trans (jb_nx (i := .bipush 93) (n := 2) (q := (59, [some (.ref p0), some (.ref p1), some (.int i2), some (.int x21)], [.int 93, .ref p0])) (jq qX8_write 34 rfl) rfl) ?_
            obtain ⟨b75, H⟩ := jm_O_inv H
            rcases jcV H with ⟨h68, r69, H⟩ | ⟨w76, h77, r69, H⟩
            · refine Eq.trans (jb_nx (i := .invokevirtual 43) (n := 3) (q := (62, [some (.ref p0), some (.ref p1), some (.int i2), some (.int x21)], [])) (jq qX8_write 35 rfl) (jo_cv (y := mX8_putLater) rfl (Nat.le_of_ble_eq_true rfl) rfl (Nat.le_of_ble_eq_true rfl) b75 rfl r69 jo_ret)) ?_
              refine Eq.trans (jb_nx (i := .aload_n 0) (n := 1) (q := (63, [some (.ref p0), some (.ref p1), some (.int i2), some (.int x21)], [.ref p0])) (jq qX8_write 36 rfl) rfl) ?_
              refine Eq.trans (jb_nx (i := .bipush 32) (n := 2) (q := (65, [some (.ref p0), some (.ref p1), some (.int i2), some (.int x21)], [.int 32, .ref p0])) (jq qX8_write 37 rfl) rfl) ?_
              obtain ⟨b72, H⟩ := jm_O_inv H
              rcases jcV H with ⟨h70, r71, H⟩ | ⟨w73, h74, r71, H⟩
              · refine Eq.trans (jb_nx (i := .invokevirtual 43) (n := 3) (q := (68, [some (.ref p0), some (.ref p1), some (.int i2), some (.int x21)], [])) (jq qX8_write 38 rfl) (jo_cv (y := mX8_putLater) rfl (Nat.le_of_ble_eq_true rfl) rfl (Nat.le_of_ble_eq_true rfl) b72 rfl r71 jo_ret)) ?_
                refine Eq.trans (jb_nx (i := .goto 51) (n := 3) (q := (119, [some (.ref p0), some (.ref p1), some (.int i2), some (.int x21)], [])) (jq qX8_write 39 rfl) rfl) ?_
                refine Eq.trans (jb_nx (i := .iinc 2 1) (n := 3) (q := (122, [some (.ref p0), some (.ref p1), some (.int (i2 + 1)), some (.int x21)], [])) (jq qX8_write 65 rfl) rfl) ?_
                refine Eq.trans (jb_nx (i := .goto (-110)) (n := 3) (q := (12, [some (.ref p0), some (.ref p1), some (.int (i2 + 1)), some (.int x21)], [])) (jq qX8_write 66 rfl) rfl) ?_
                exact H
              · exact Eq.trans (jb_rt (i := .invokevirtual 43) (n := 3) (jq qX8_write 38 rfl) (jo_cv (y := mX8_putLater) rfl (Nat.le_of_ble_eq_true rfl) rfl (Nat.le_of_ble_eq_true rfl) b72 rfl r71 (jo_exn rfl))) H
            · exact Eq.trans (jb_rt (i := .invokevirtual 43) (n := 3) (jq qX8_write 35 rfl) (jo_cv (y := mX8_putLater) rfl (Nat.le_of_ble_eq_true rfl) rfl (Nat.le_of_ble_eq_true rfl) b75 rfl r69 (jo_exn rfl))) H
          · exact Eq.trans (jb_rt (i := .invokevirtual 39) (n := 3) (jq qX8_write 32 rfl) (jo_cv (y := mX8_put) rfl (Nat.le_of_ble_eq_true rfl) rfl (Nat.le_of_ble_eq_true rfl) b78 rfl r67 (jo_exn rfl))) H
        · rw [if_neg c22] at H
          refine Eq.trans (jb_nx (i := .if_icmp .ne 24) (n := 3) (q := (71, [some (.ref p0), some (.ref p1), some (.int i2), some (.int x21)], [])) (jq qX8_write 29 rfl) (jo_icT (jz_neT c22) rfl)) ?_
          refine Eq.trans (jb_nx (i := .iload_n 3) (n := 1) (q := (72, [some (.ref p0), some (.ref p1), some (.int i2), some (.int x21)], [.int x21])) (jq qX8_write 40 rfl) rfl) ?_
          refine Eq.trans (jb_nx (i := .iconst 1) (n := 1) (q := (73, [some (.ref p0), some (.ref p1), some (.int i2), some (.int x21)], [.int 1, .int x21])) (jq qX8_write 41 rfl) rfl) ?_
          by_cases c23 : x21 = 1
          · rw [if_pos c23] at H
            refine Eq.trans (jb_nx (i := .if_icmp .ne 33) (n := 3) (q := (76, [some (.ref p0), some (.ref p1), some (.int i2), some (.int x21)], [])) (jq qX8_write 42 rfl) (jo_icF (jz_neF c23))) ?_
            refine Eq.trans (jb_nx (i := .aload_n 0) (n := 1) (q := (77, [some (.ref p0), some (.ref p1), some (.int i2), some (.int x21)], [.ref p0])) (jq qX8_write 43 rfl) rfl) ?_
            refine Eq.trans (jb_nx (i := .ldc 47) (n := 2) (q := (79, [some (.ref p0), some (.ref p1), some (.int i2), some (.int x21)], [.ref 3, .ref p0])) (jq qX8_write 44 rfl) rfl) ?_
            obtain ⟨b63, H⟩ := jm_O_inv H
            rcases jcV H with ⟨h40, r41, H⟩ | ⟨w64, h65, r41, H⟩
            · refine Eq.trans (jb_nx (i := .invokevirtual 49) (n := 3) (q := (82, [some (.ref p0), some (.ref p1), some (.int i2), some (.int x21)], [])) (jq qX8_write 45 rfl) (jo_cv (y := mX8_putAll) rfl (Nat.le_of_ble_eq_true rfl) rfl (Nat.le_of_ble_eq_true rfl) b63 rfl r41 jo_ret)) ?_
              refine Eq.trans (jb_nx (i := .aload_n 0) (n := 1) (q := (83, [some (.ref p0), some (.ref p1), some (.int i2), some (.int x21)], [.ref p0])) (jq qX8_write 46 rfl) rfl) ?_
              refine Eq.trans (jb_nx (i := .aload_n 1) (n := 1) (q := (84, [some (.ref p0), some (.ref p1), some (.int i2), some (.int x21)], [.ref p1, .ref p0])) (jq qX8_write 47 rfl) rfl) ?_
              refine Eq.trans (jb_nx (i := .iload_n 2) (n := 1) (q := (85, [some (.ref p0), some (.ref p1), some (.int i2), some (.int x21)], [.int i2, .ref p1, .ref p0])) (jq qX8_write 48 rfl) rfl) ?_
              obtain ⟨b60, H⟩ := jm_O_inv H
              rcases jcL H with ⟨y44, h42, r43, H⟩ | ⟨w61, h62, r43, H⟩
              · refine Eq.trans (jb_nx (i := .invokevirtual 53) (n := 3) (q := (88, [some (.ref p0), some (.ref p1), some (.int i2), some (.int x21)], [.long y44, .ref p0])) (jq qX8_write 49 rfl) (jo_cv (y := mX3_nameAt) rfl (Nat.le_of_ble_eq_true rfl) rfl (Nat.le_of_ble_eq_true rfl) b60 rfl r43 jo_ret)) ?_
                obtain ⟨b57, H⟩ := jm_O_inv H
                rcases jcV H with ⟨h45, r46, H⟩ | ⟨w58, h59, r46, H⟩
                · refine Eq.trans (jb_nx (i := .invokevirtual 57) (n := 3) (q := (91, [some (.ref p0), some (.ref p1), some (.int i2), some (.int x21)], [])) (jq qX8_write 50 rfl) (jo_cv (y := mX8_putName) rfl (Nat.le_of_ble_eq_true rfl) rfl (Nat.le_of_ble_eq_true rfl) b57 rfl r46 jo_ret)) ?_
                  refine Eq.trans (jb_nx (i := .aload_n 0) (n := 1) (q := (92, [some (.ref p0), some (.ref p1), some (.int i2), some (.int x21)], [.ref p0])) (jq qX8_write 51 rfl) rfl) ?_
                  refine Eq.trans (jb_nx (i := .bipush 40) (n := 2) (q := (94, [some (.ref p0), some (.ref p1), some (.int i2), some (.int x21)], [.int 40, .ref p0])) (jq qX8_write 52 rfl) rfl) ?_
                  obtain ⟨b54, H⟩ := jm_O_inv H
                  rcases jcV H with ⟨h47, r48, H⟩ | ⟨w55, h56, r48, H⟩
                  · refine Eq.trans (jb_nx (i := .invokevirtual 39) (n := 3) (q := (97, [some (.ref p0), some (.ref p1), some (.int i2), some (.int x21)], [])) (jq qX8_write 53 rfl) (jo_cv (y := mX8_put) rfl (Nat.le_of_ble_eq_true rfl) rfl (Nat.le_of_ble_eq_true rfl) b54 rfl r48 jo_ret)) ?_
                    refine Eq.trans (jb_nx (i := .aload_n 0) (n := 1) (q := (98, [some (.ref p0), some (.ref p1), some (.int i2), some (.int x21)], [.ref p0])) (jq qX8_write 54 rfl) rfl) ?_
                    refine Eq.trans (jb_nx (i := .bipush 41) (n := 2) (q := (100, [some (.ref p0), some (.ref p1), some (.int i2), some (.int x21)], [.int 41, .ref p0])) (jq qX8_write 55 rfl) rfl) ?_
                    obtain ⟨b51, H⟩ := jm_O_inv H
                    rcases jcV H with ⟨h49, r50, H⟩ | ⟨w52, h53, r50, H⟩
                    · refine Eq.trans (jb_nx (i := .invokevirtual 43) (n := 3) (q := (103, [some (.ref p0), some (.ref p1), some (.int i2), some (.int x21)], [])) (jq qX8_write 56 rfl) (jo_cv (y := mX8_putLater) rfl (Nat.le_of_ble_eq_true rfl) rfl (Nat.le_of_ble_eq_true rfl) b51 rfl r50 jo_ret)) ?_
                      refine Eq.trans (jb_nx (i := .goto 16) (n := 3) (q := (119, [some (.ref p0), some (.ref p1), some (.int i2), some (.int x21)], [])) (jq qX8_write 57 rfl) rfl) ?_
                      refine Eq.trans (jb_nx (i := .iinc 2 1) (n := 3) (q := (122, [some (.ref p0), some (.ref p1), some (.int (i2 + 1)), some (.int x21)], [])) (jq qX8_write 65 rfl) rfl) ?_
                      refine Eq.trans (jb_nx (i := .goto (-110)) (n := 3) (q := (12, [some (.ref p0), some (.ref p1), some (.int (i2 + 1)), some (.int x21)], [])) (jq qX8_write 66 rfl) rfl) ?_
                      exact H
                    · exact Eq.trans (jb_rt (i := .invokevirtual 43) (n := 3) (jq qX8_write 56 rfl) (jo_cv (y := mX8_putLater) rfl (Nat.le_of_ble_eq_true rfl) rfl (Nat.le_of_ble_eq_true rfl) b51 rfl r50 (jo_exn rfl))) H
                  · exact Eq.trans (jb_rt (i := .invokevirtual 39) (n := 3) (jq qX8_write 53 rfl) (jo_cv (y := mX8_put) rfl (Nat.le_of_ble_eq_true rfl) rfl (Nat.le_of_ble_eq_true rfl) b54 rfl r48 (jo_exn rfl))) H
                · exact Eq.trans (jb_rt (i := .invokevirtual 57) (n := 3) (jq qX8_write 50 rfl) (jo_cv (y := mX8_putName) rfl (Nat.le_of_ble_eq_true rfl) rfl (Nat.le_of_ble_eq_true rfl) b57 rfl r46 (jo_exn rfl))) H
              · exact Eq.trans (jb_rt (i := .invokevirtual 53) (n := 3) (jq qX8_write 49 rfl) (jo_cv (y := mX3_nameAt) rfl (Nat.le_of_ble_eq_true rfl) rfl (Nat.le_of_ble_eq_true rfl) b60 rfl r43 (jo_exn rfl))) H
            · exact Eq.trans (jb_rt (i := .invokevirtual 49) (n := 3) (jq qX8_write 45 rfl) (jo_cv (y := mX8_putAll) rfl (Nat.le_of_ble_eq_true rfl) rfl (Nat.le_of_ble_eq_true rfl) b63 rfl r41 (jo_exn rfl))) H
          · rw [if_neg c23] at H
            refine Eq.trans (jb_nx (i := .if_icmp .ne 33) (n := 3) (q := (106, [some (.ref p0), some (.ref p1), some (.int i2), some (.int x21)], [])) (jq qX8_write 42 rfl) (jo_icT (jz_neT c23) rfl)) ?_
            refine Eq.trans (jb_nx (i := .aload_n 0) (n := 1) (q := (107, [some (.ref p0), some (.ref p1), some (.int i2), some (.int x21)], [.ref p0])) (jq qX8_write 58 rfl) rfl) ?_
            refine Eq.trans (jb_nx (i := .aload_n 1) (n := 1) (q := (108, [some (.ref p0), some (.ref p1), some (.int i2), some (.int x21)], [.ref p1, .ref p0])) (jq qX8_write 59 rfl) rfl) ?_
            refine Eq.trans (jb_nx (i := .iload_n 2) (n := 1) (q := (109, [some (.ref p0), some (.ref p1), some (.int i2), some (.int x21)], [.int i2, .ref p1, .ref p0])) (jq qX8_write 60 rfl) rfl) ?_
            obtain ⟨b37, H⟩ := jm_O_inv H
            rcases jcL H with ⟨y26, h24, r25, H⟩ | ⟨w38, h39, r25, H⟩
            · refine Eq.trans (jb_nx (i := .invokevirtual 53) (n := 3) (q := (112, [some (.ref p0), some (.ref p1), some (.int i2), some (.int x21)], [.long y26, .ref p0])) (jq qX8_write 61 rfl) (jo_cv (y := mX3_nameAt) rfl (Nat.le_of_ble_eq_true rfl) rfl (Nat.le_of_ble_eq_true rfl) b37 rfl r25 jo_ret)) ?_
              obtain ⟨b34, H⟩ := jm_O_inv H
              rcases jcV H with ⟨h27, r28, H⟩ | ⟨w35, h36, r28, H⟩
              · refine Eq.trans (jb_nx (i := .invokevirtual 57) (n := 3) (q := (115, [some (.ref p0), some (.ref p1), some (.int i2), some (.int x21)], [])) (jq qX8_write 62 rfl) (jo_cv (y := mX8_putName) rfl (Nat.le_of_ble_eq_true rfl) rfl (Nat.le_of_ble_eq_true rfl) b34 rfl r28 jo_ret)) ?_
                refine Eq.trans (jb_nx (i := .aload_n 0) (n := 1) (q := (116, [some (.ref p0), some (.ref p1), some (.int i2), some (.int x21)], [.ref p0])) (jq qX8_write 63 rfl) rfl) ?_
                obtain ⟨b31, H⟩ := jm_O_inv H
                rcases jcV H with ⟨h29, r30, H⟩ | ⟨w32, h33, r30, H⟩
                · refine Eq.trans (jb_nx (i := .invokevirtual 61) (n := 3) (q := (119, [some (.ref p0), some (.ref p1), some (.int i2), some (.int x21)], [])) (jq qX8_write 64 rfl) (jo_cv (y := mX8_putWhatComes) rfl (Nat.le_of_ble_eq_true rfl) rfl (Nat.le_of_ble_eq_true rfl) b31 rfl r30 jo_ret)) ?_
                  refine Eq.trans (jb_nx (i := .iinc 2 1) (n := 3) (q := (122, [some (.ref p0), some (.ref p1), some (.int (i2 + 1)), some (.int x21)], [])) (jq qX8_write 65 rfl) rfl) ?_
                  refine Eq.trans (jb_nx (i := .goto (-110)) (n := 3) (q := (12, [some (.ref p0), some (.ref p1), some (.int (i2 + 1)), some (.int x21)], [])) (jq qX8_write 66 rfl) rfl) ?_
                  exact H
                · exact Eq.trans (jb_rt (i := .invokevirtual 61) (n := 3) (jq qX8_write 64 rfl) (jo_cv (y := mX8_putWhatComes) rfl (Nat.le_of_ble_eq_true rfl) rfl (Nat.le_of_ble_eq_true rfl) b31 rfl r30 (jo_exn rfl))) H
              · exact Eq.trans (jb_rt (i := .invokevirtual 57) (n := 3) (jq qX8_write 62 rfl) (jo_cv (y := mX8_putName) rfl (Nat.le_of_ble_eq_true rfl) rfl (Nat.le_of_ble_eq_true rfl) b34 rfl r28 (jo_exn rfl))) H
            · exact Eq.trans (jb_rt (i := .invokevirtual 53) (n := 3) (jq qX8_write 61 rfl) (jo_cv (y := mX3_nameAt) rfl (Nat.le_of_ble_eq_true rfl) rfl (Nat.le_of_ble_eq_true rfl) b37 rfl r25 (jo_exn rfl))) H
      · exact Eq.trans (jb_rt (i := .invokevirtual 35) (n := 3) (jq qX8_write 25 rfl) (jo_cv (y := mX3_kindAt) rfl (Nat.le_of_ble_eq_true rfl) rfl (Nat.le_of_ble_eq_true rfl) b81 rfl r20 (jo_exn rfl))) H
    · rw [if_neg c12] at H
      refine Eq.trans (jb_nx (i := .if_icmp .ge 99) (n := 3) (q := (125, [some (.ref p0), some (.ref p1), some (.int i2), o3], [])) (jq qX8_write 16 rfl) (jo_icT (jz_geT c12) rfl)) ?_
      exact Eq.trans (jb_rt (i := .return_) (n := 1) (jq qX8_write 67 rfl) rfl) H
  · rw [if_neg c7] at H
    refine Eq.trans (jb_nx (i := .if_icmp .ge 108) (n := 3) (q := (125, [some (.ref p0), some (.ref p1), some (.int i2), o3], [])) (jq qX8_write 11 rfl) (jo_icT (jz_geT c7) rfl)) ?_
    exact Eq.trans (jb_rt (i := .return_) (n := 1) (jq qX8_write 67 rfl) rfl) H
theorem gX8_write {d : Nat} {p0 : Nat} {p1 : Nat} {h : jm_H} {r : jm_R} (H : ((jm_pf h p0 8 0 0 (.int 0)).bind fun h1 => (jm_pf h1 p0 8 4 0 (.int 0)).bind fun h3 => kX8_write_12 d p0 p1 0 none h3) = some r) : jm_D (d + 1) mX8_write [.ref p0, .ref p1] h = some r := by
  rw [jm_D_body (Nat.le_of_ble_eq_true rfl)]
  show jm_B d mX8_write (0, [some (.ref p0), some (.ref p1), none, none], []) h = some r
  refine Eq.trans (jb_nx (i := .aload_n 0) (n := 1) (q := (1, [some (.ref p0), some (.ref p1), none, none], [.ref p0])) (jq qX8_write 0 rfl) rfl) ?_
  refine Eq.trans (jb_nx (i := .iconst 0) (n := 1) (q := (2, [some (.ref p0), some (.ref p1), none, none], [.int 0, .ref p0])) (jq qX8_write 1 rfl) rfl) ?_
  obtain ⟨h1, e2, H⟩ := jbd H
  refine Eq.trans (jb_nx (i := .putfield 23) (n := 3) (q := (5, [some (.ref p0), some (.ref p1), none, none], [])) (jq qX8_write 2 rfl) (jo_pf rfl (Or.inl rfl) e2)) ?_
  refine Eq.trans (jb_nx (i := .aload_n 0) (n := 1) (q := (6, [some (.ref p0), some (.ref p1), none, none], [.ref p0])) (jq qX8_write 3 rfl) rfl) ?_
  refine Eq.trans (jb_nx (i := .iconst 0) (n := 1) (q := (7, [some (.ref p0), some (.ref p1), none, none], [.int 0, .ref p0])) (jq qX8_write 4 rfl) rfl) ?_
  obtain ⟨h3, e4, H⟩ := jbd H
  refine Eq.trans (jb_nx (i := .putfield 27) (n := 3) (q := (10, [some (.ref p0), some (.ref p1), none, none], [])) (jq qX8_write 5 rfl) (jo_pf rfl (Or.inl rfl) e4)) ?_
  refine Eq.trans (jb_nx (i := .iconst 0) (n := 1) (q := (11, [some (.ref p0), some (.ref p1), none, none], [.int 0])) (jq qX8_write 6 rfl) rfl) ?_
  refine Eq.trans (jb_nx (i := .istore_n 2) (n := 1) (q := (12, [some (.ref p0), some (.ref p1), some (.int 0), none], [])) (jq qX8_write 7 rfl) rfl) ?_
  exact H
/-! MaskPlays$Text put (I)V -/
def tX8_put : List (Nat × Instr × Nat) := [(0, .aload_n 0, 1), (1, .getfield 23, 3), (4, .ifCond .lt 36, 3), (7, .aload_n 0, 1), (8, .getfield 23, 3), (11, .aload_n 0, 1), (12, .getfield 9, 3), (15, .arraylength, 1), (16, .if_icmp .ge 24, 3), (19, .aload_n 0, 1), (20, .getfield 9, 3), (23, .aload_n 0, 1), (24, .getfield 23, 3), (27, .iload_n 1, 1), (28, .i2b, 1), (29, .bastore, 1), (30, .aload_n 0, 1), (31, .dup, 1), (32, .getfield 23, 3), (35, .iconst 1, 1), (36, .iadd, 1), (37, .putfield 23, 3), (40, .return_, 1)]
set_option maxRecDepth 100000 in
theorem qX8_put : ∀ q ∈ tX8_put, decode cX8_put q.1 = .ok (q.2.1, q.2.2) := by decide +kernel
theorem gX8_put {d : Nat} {p0 : Nat} {i1 : Int32} {h : jm_H} {r : jm_R} (H : ((jr_I h p0 8 0 0).bind fun x1 => (if x1 < 0 then some (.inl none, h) else (jr_I h p0 8 0 0).bind fun x4 => (jr_R h p0 8 1 2).bind fun a6 => (jm_len h a6).bind fun n8 => (if x4 < (Int32.ofNat n8) then (jr_R h p0 8 1 2).bind fun a11 => (jr_I h p0 8 0 0).bind fun x13 => (jm_asi h a11 2 x13 (Int8.toInt32 (Int32.toInt8 i1))).bind fun h15 => (jr_I h15 p0 8 0 0).bind fun x17 => (jm_pf h15 p0 8 0 0 (.int (x17 + 1))).bind fun h19 => some (.inl none, h19) else some (.inl none, h)))) = some r) : jm_D (d + 1) mX8_put [.ref p0, .int i1] h = some r := by
  rw [jm_D_body (Nat.le_of_ble_eq_true rfl)]
  show jm_B d mX8_put (0, [some (.ref p0), some (.int i1)], []) h = some r
  refine Eq.trans (jb_nx (i := .aload_n 0) (n := 1) (q := (1, [some (.ref p0), some (.int i1)], [.ref p0])) (jq qX8_put 0 rfl) rfl) ?_
  obtain ⟨x1, e2, H⟩ := jbd H
  refine Eq.trans (jb_nx (i := .getfield 23) (n := 3) (q := (4, [some (.ref p0), some (.int i1)], [.int x1])) (jq qX8_put 1 rfl) (jo_gf rfl (jr_I_inv e2))) ?_
  by_cases c3 : x1 < 0
  · rw [if_pos c3] at H
    refine Eq.trans (jb_nx (i := .ifCond .lt 36) (n := 3) (q := (40, [some (.ref p0), some (.int i1)], [])) (jq qX8_put 2 rfl) (jo_ifT (jz_ltT c3) rfl)) ?_
    exact Eq.trans (jb_rt (i := .return_) (n := 1) (jq qX8_put 22 rfl) rfl) H
  · rw [if_neg c3] at H
    refine Eq.trans (jb_nx (i := .ifCond .lt 36) (n := 3) (q := (7, [some (.ref p0), some (.int i1)], [])) (jq qX8_put 2 rfl) (jo_ifF (jz_ltF c3))) ?_
    refine Eq.trans (jb_nx (i := .aload_n 0) (n := 1) (q := (8, [some (.ref p0), some (.int i1)], [.ref p0])) (jq qX8_put 3 rfl) rfl) ?_
    obtain ⟨x4, e5, H⟩ := jbd H
    refine Eq.trans (jb_nx (i := .getfield 23) (n := 3) (q := (11, [some (.ref p0), some (.int i1)], [.int x4])) (jq qX8_put 4 rfl) (jo_gf rfl (jr_I_inv e5))) ?_
    refine Eq.trans (jb_nx (i := .aload_n 0) (n := 1) (q := (12, [some (.ref p0), some (.int i1)], [.ref p0, .int x4])) (jq qX8_put 5 rfl) rfl) ?_
    obtain ⟨a6, e7, H⟩ := jbd H
    refine Eq.trans (jb_nx (i := .getfield 9) (n := 3) (q := (15, [some (.ref p0), some (.int i1)], [.ref a6, .int x4])) (jq qX8_put 6 rfl) (jo_gf rfl (jr_R_inv e7))) ?_
    obtain ⟨n8, e9, H⟩ := jbd H
    refine Eq.trans (jb_nx (i := .arraylength) (n := 1) (q := (16, [some (.ref p0), some (.int i1)], [.int (Int32.ofNat n8), .int x4])) (jq qX8_put 7 rfl) (jo_len e9)) ?_
    by_cases c10 : x4 < (Int32.ofNat n8)
    · rw [if_pos c10] at H
      refine Eq.trans (jb_nx (i := .if_icmp .ge 24) (n := 3) (q := (19, [some (.ref p0), some (.int i1)], [])) (jq qX8_put 8 rfl) (jo_icF (jz_geF c10))) ?_
      refine Eq.trans (jb_nx (i := .aload_n 0) (n := 1) (q := (20, [some (.ref p0), some (.int i1)], [.ref p0])) (jq qX8_put 9 rfl) rfl) ?_
      obtain ⟨a11, e12, H⟩ := jbd H
      refine Eq.trans (jb_nx (i := .getfield 9) (n := 3) (q := (23, [some (.ref p0), some (.int i1)], [.ref a11])) (jq qX8_put 10 rfl) (jo_gf rfl (jr_R_inv e12))) ?_
      refine Eq.trans (jb_nx (i := .aload_n 0) (n := 1) (q := (24, [some (.ref p0), some (.int i1)], [.ref p0, .ref a11])) (jq qX8_put 11 rfl) rfl) ?_
      obtain ⟨x13, e14, H⟩ := jbd H
      refine Eq.trans (jb_nx (i := .getfield 23) (n := 3) (q := (27, [some (.ref p0), some (.int i1)], [.int x13, .ref a11])) (jq qX8_put 12 rfl) (jo_gf rfl (jr_I_inv e14))) ?_
      refine Eq.trans (jb_nx (i := .iload_n 1) (n := 1) (q := (28, [some (.ref p0), some (.int i1)], [.int i1, .int x13, .ref a11])) (jq qX8_put 13 rfl) rfl) ?_
      refine Eq.trans (jb_nx (i := .i2b) (n := 1) (q := (29, [some (.ref p0), some (.int i1)], [.int (Int8.toInt32 (Int32.toInt8 i1)), .int x13, .ref a11])) (jq qX8_put 14 rfl) rfl) ?_
      obtain ⟨h15, e16, H⟩ := jbd H
      refine Eq.trans (jb_nx (i := .bastore) (n := 1) (q := (30, [some (.ref p0), some (.int i1)], [])) (jq qX8_put 15 rfl) (jo_bas e16)) ?_
      refine Eq.trans (jb_nx (i := .aload_n 0) (n := 1) (q := (31, [some (.ref p0), some (.int i1)], [.ref p0])) (jq qX8_put 16 rfl) rfl) ?_
      refine Eq.trans (jb_nx (i := .dup) (n := 1) (q := (32, [some (.ref p0), some (.int i1)], [.ref p0, .ref p0])) (jq qX8_put 17 rfl) rfl) ?_
      obtain ⟨x17, e18, H⟩ := jbd H
      refine Eq.trans (jb_nx (i := .getfield 23) (n := 3) (q := (35, [some (.ref p0), some (.int i1)], [.int x17, .ref p0])) (jq qX8_put 18 rfl) (jo_gf rfl (jr_I_inv e18))) ?_
      refine Eq.trans (jb_nx (i := .iconst 1) (n := 1) (q := (36, [some (.ref p0), some (.int i1)], [.int 1, .int x17, .ref p0])) (jq qX8_put 19 rfl) rfl) ?_
      refine Eq.trans (jb_nx (i := .iadd) (n := 1) (q := (37, [some (.ref p0), some (.int i1)], [.int (x17 + 1), .ref p0])) (jq qX8_put 20 rfl) rfl) ?_
      obtain ⟨h19, e20, H⟩ := jbd H
      refine Eq.trans (jb_nx (i := .putfield 23) (n := 3) (q := (40, [some (.ref p0), some (.int i1)], [])) (jq qX8_put 21 rfl) (jo_pf rfl (Or.inl rfl) e20)) ?_
      exact Eq.trans (jb_rt (i := .return_) (n := 1) (jq qX8_put 22 rfl) rfl) H
    · rw [if_neg c10] at H
      refine Eq.trans (jb_nx (i := .if_icmp .ge 24) (n := 3) (q := (40, [some (.ref p0), some (.int i1)], [])) (jq qX8_put 8 rfl) (jo_icT (jz_geT c10) rfl)) ?_
      exact Eq.trans (jb_rt (i := .return_) (n := 1) (jq qX8_put 22 rfl) rfl) H
/-! MaskPlays$Text putLater (C)V -/
def tX8_putLater : List (Nat × Instr × Nat) := [(0, .aload_n 0, 1), (1, .getfield 27, 3), (4, .ifCond .lt 35, 3), (7, .aload_n 0, 1), (8, .getfield 27, 3), (11, .aload_n 0, 1), (12, .getfield 19, 3), (15, .arraylength, 1), (16, .if_icmp .ge 23, 3), (19, .aload_n 0, 1), (20, .getfield 19, 3), (23, .aload_n 0, 1), (24, .getfield 27, 3), (27, .iload_n 1, 1), (28, .castore, 1), (29, .aload_n 0, 1), (30, .dup, 1), (31, .getfield 27, 3), (34, .iconst 1, 1), (35, .iadd, 1), (36, .putfield 27, 3), (39, .return_, 1)]
set_option maxRecDepth 100000 in
theorem qX8_putLater : ∀ q ∈ tX8_putLater, decode cX8_putLater q.1 = .ok (q.2.1, q.2.2) := by decide +kernel
theorem gX8_putLater {d : Nat} {p0 : Nat} {i1 : Int32} {h : jm_H} {r : jm_R} (H : ((jr_I h p0 8 4 0).bind fun x1 => (if x1 < 0 then some (.inl none, h) else (jr_I h p0 8 4 0).bind fun x4 => (jr_R h p0 8 3 2).bind fun a6 => (jm_len h a6).bind fun n8 => (if x4 < (Int32.ofNat n8) then (jr_R h p0 8 3 2).bind fun a11 => (jr_I h p0 8 4 0).bind fun x13 => (jm_asi h a11 4 x13 i1).bind fun h15 => (jr_I h15 p0 8 4 0).bind fun x17 => (jm_pf h15 p0 8 4 0 (.int (x17 + 1))).bind fun h19 => some (.inl none, h19) else some (.inl none, h)))) = some r) : jm_D (d + 1) mX8_putLater [.ref p0, .int i1] h = some r := by
  rw [jm_D_body (Nat.le_of_ble_eq_true rfl)]
  show jm_B d mX8_putLater (0, [some (.ref p0), some (.int i1)], []) h = some r
  refine Eq.trans (jb_nx (i := .aload_n 0) (n := 1) (q := (1, [some (.ref p0), some (.int i1)], [.ref p0])) (jq qX8_putLater 0 rfl) rfl) ?_
  obtain ⟨x1, e2, H⟩ := jbd H
  refine Eq.trans (jb_nx (i := .getfield 27) (n := 3) (q := (4, [some (.ref p0), some (.int i1)], [.int x1])) (jq qX8_putLater 1 rfl) (jo_gf rfl (jr_I_inv e2))) ?_
  by_cases c3 : x1 < 0
  · rw [if_pos c3] at H
    refine Eq.trans (jb_nx (i := .ifCond .lt 35) (n := 3) (q := (39, [some (.ref p0), some (.int i1)], [])) (jq qX8_putLater 2 rfl) (jo_ifT (jz_ltT c3) rfl)) ?_
    exact Eq.trans (jb_rt (i := .return_) (n := 1) (jq qX8_putLater 21 rfl) rfl) H
  · rw [if_neg c3] at H
    refine Eq.trans (jb_nx (i := .ifCond .lt 35) (n := 3) (q := (7, [some (.ref p0), some (.int i1)], [])) (jq qX8_putLater 2 rfl) (jo_ifF (jz_ltF c3))) ?_
    refine Eq.trans (jb_nx (i := .aload_n 0) (n := 1) (q := (8, [some (.ref p0), some (.int i1)], [.ref p0])) (jq qX8_putLater 3 rfl) rfl) ?_
    obtain ⟨x4, e5, H⟩ := jbd H
    refine Eq.trans (jb_nx (i := .getfield 27) (n := 3) (q := (11, [some (.ref p0), some (.int i1)], [.int x4])) (jq qX8_putLater 4 rfl) (jo_gf rfl (jr_I_inv e5))) ?_
    refine Eq.trans (jb_nx (i := .aload_n 0) (n := 1) (q := (12, [some (.ref p0), some (.int i1)], [.ref p0, .int x4])) (jq qX8_putLater 5 rfl) rfl) ?_
    obtain ⟨a6, e7, H⟩ := jbd H
    refine Eq.trans (jb_nx (i := .getfield 19) (n := 3) (q := (15, [some (.ref p0), some (.int i1)], [.ref a6, .int x4])) (jq qX8_putLater 6 rfl) (jo_gf rfl (jr_R_inv e7))) ?_
    obtain ⟨n8, e9, H⟩ := jbd H
    refine Eq.trans (jb_nx (i := .arraylength) (n := 1) (q := (16, [some (.ref p0), some (.int i1)], [.int (Int32.ofNat n8), .int x4])) (jq qX8_putLater 7 rfl) (jo_len e9)) ?_
    by_cases c10 : x4 < (Int32.ofNat n8)
    · rw [if_pos c10] at H
      refine Eq.trans (jb_nx (i := .if_icmp .ge 23) (n := 3) (q := (19, [some (.ref p0), some (.int i1)], [])) (jq qX8_putLater 8 rfl) (jo_icF (jz_geF c10))) ?_
      refine Eq.trans (jb_nx (i := .aload_n 0) (n := 1) (q := (20, [some (.ref p0), some (.int i1)], [.ref p0])) (jq qX8_putLater 9 rfl) rfl) ?_
      obtain ⟨a11, e12, H⟩ := jbd H
      refine Eq.trans (jb_nx (i := .getfield 19) (n := 3) (q := (23, [some (.ref p0), some (.int i1)], [.ref a11])) (jq qX8_putLater 10 rfl) (jo_gf rfl (jr_R_inv e12))) ?_
      refine Eq.trans (jb_nx (i := .aload_n 0) (n := 1) (q := (24, [some (.ref p0), some (.int i1)], [.ref p0, .ref a11])) (jq qX8_putLater 11 rfl) rfl) ?_
      obtain ⟨x13, e14, H⟩ := jbd H
      refine Eq.trans (jb_nx (i := .getfield 27) (n := 3) (q := (27, [some (.ref p0), some (.int i1)], [.int x13, .ref a11])) (jq qX8_putLater 12 rfl) (jo_gf rfl (jr_I_inv e14))) ?_
      refine Eq.trans (jb_nx (i := .iload_n 1) (n := 1) (q := (28, [some (.ref p0), some (.int i1)], [.int i1, .int x13, .ref a11])) (jq qX8_putLater 13 rfl) rfl) ?_
      obtain ⟨h15, e16, H⟩ := jbd H
      refine Eq.trans (jb_nx (i := .castore) (n := 1) (q := (29, [some (.ref p0), some (.int i1)], [])) (jq qX8_putLater 14 rfl) (jo_cas e16)) ?_
      refine Eq.trans (jb_nx (i := .aload_n 0) (n := 1) (q := (30, [some (.ref p0), some (.int i1)], [.ref p0])) (jq qX8_putLater 15 rfl) rfl) ?_
      refine Eq.trans (jb_nx (i := .dup) (n := 1) (q := (31, [some (.ref p0), some (.int i1)], [.ref p0, .ref p0])) (jq qX8_putLater 16 rfl) rfl) ?_
      obtain ⟨x17, e18, H⟩ := jbd H
      refine Eq.trans (jb_nx (i := .getfield 27) (n := 3) (q := (34, [some (.ref p0), some (.int i1)], [.int x17, .ref p0])) (jq qX8_putLater 17 rfl) (jo_gf rfl (jr_I_inv e18))) ?_
      refine Eq.trans (jb_nx (i := .iconst 1) (n := 1) (q := (35, [some (.ref p0), some (.int i1)], [.int 1, .int x17, .ref p0])) (jq qX8_putLater 18 rfl) rfl) ?_
      refine Eq.trans (jb_nx (i := .iadd) (n := 1) (q := (36, [some (.ref p0), some (.int i1)], [.int (x17 + 1), .ref p0])) (jq qX8_putLater 19 rfl) rfl) ?_
      obtain ⟨h19, e20, H⟩ := jbd H
      refine Eq.trans (jb_nx (i := .putfield 27) (n := 3) (q := (39, [some (.ref p0), some (.int i1)], [])) (jq qX8_putLater 20 rfl) (jo_pf rfl (Or.inl rfl) e20)) ?_
      exact Eq.trans (jb_rt (i := .return_) (n := 1) (jq qX8_putLater 21 rfl) rfl) H
    · rw [if_neg c10] at H
      refine Eq.trans (jb_nx (i := .if_icmp .ge 23) (n := 3) (q := (39, [some (.ref p0), some (.int i1)], [])) (jq qX8_putLater 8 rfl) (jo_icT (jz_geT c10) rfl)) ?_
      exact Eq.trans (jb_rt (i := .return_) (n := 1) (jq qX8_putLater 21 rfl) rfl) H
/-! MaskPlays$Text putAll (Ljava/lang/String;)V -/
def tX8_putAll : List (Nat × Instr × Nat) := [(0, .iconst 0, 1), (1, .istore_n 2, 1), (2, .iload_n 2, 1), (3, .aload_n 1, 1), (4, .invokevirtual 64, 3), (7, .if_icmp .ge 18, 3), (10, .aload_n 0, 1), (11, .aload_n 1, 1), (12, .iload_n 2, 1), (13, .invokevirtual 69, 3), (16, .invokevirtual 39, 3), (19, .iinc 2 1, 3), (22, .goto (-20), 3), (25, .return_, 1)]
set_option maxRecDepth 100000 in
theorem qX8_putAll : ∀ q ∈ tX8_putAll, decode cX8_putAll q.1 = .ok (q.2.1, q.2.2) := by decide +kernel
noncomputable def kX8_putAll_2 (d : Nat) (p0 : Nat) (p1 : Nat) (i2 : Int32) (h : jm_H) : Option jm_R := jm_B d mX8_putAll (2, [some (.ref p0), some (.ref p1), some (.int i2)], []) h
theorem gX8_putAll_2 {d : Nat} {p0 : Nat} {p1 : Nat} {i2 : Int32} {h : jm_H} {r : jm_R} (H : (jm_O h p1 14 (jc_I (jm_D d mJ0_length_8abf5 [.ref p1] h) (fun x3 h1 => (if i2 < x3 then jm_O h1 p1 14 (jc_I (jm_D d mJ0_charAt_5068e [.ref p1, .int i2] h1) (fun x7 h5 => jm_O h5 p0 8 (jc_V (jm_D d mX8_put [.ref p0, .int x7] h5) (fun h8 => kX8_putAll_2 d p0 p1 (i2 + 1) h8) jx)) jx) else some (.inl none, h1))) jx)) = some r) : kX8_putAll_2 d p0 p1 i2 h = some r := by
  show jm_B d mX8_putAll (2, [some (.ref p0), some (.ref p1), some (.int i2)], []) h = some r
  refine Eq.trans (jb_nx (i := .iload_n 2) (n := 1) (q := (3, [some (.ref p0), some (.ref p1), some (.int i2)], [.int i2])) (jq qX8_putAll 2 rfl) rfl) ?_
  refine Eq.trans (jb_nx (i := .aload_n 1) (n := 1) (q := (4, [some (.ref p0), some (.ref p1), some (.int i2)], [.ref p1, .int i2])) (jq qX8_putAll 3 rfl) rfl) ?_
  obtain ⟨b16, H⟩ := jm_O_inv H
  rcases jcI H with ⟨x3, h1, r2, H⟩ | ⟨w17, h18, r2, H⟩
  · refine Eq.trans (jb_nx (i := .invokevirtual 64) (n := 3) (q := (7, [some (.ref p0), some (.ref p1), some (.int i2)], [.int x3, .int i2])) (jq qX8_putAll 4 rfl) (jo_cv (y := mJ0_length_8abf5) rfl (Nat.le_of_ble_eq_true rfl) rfl (Nat.le_of_ble_eq_true rfl) b16 rfl r2 jo_ret)) ?_
    by_cases c4 : i2 < x3
    · rw [if_pos c4] at H
      refine Eq.trans (jb_nx (i := .if_icmp .ge 18) (n := 3) (q := (10, [some (.ref p0), some (.ref p1), some (.int i2)], [])) (jq qX8_putAll 5 rfl) (jo_icF (jz_geF c4))) ?_
      refine Eq.trans (jb_nx (i := .aload_n 0) (n := 1) (q := (11, [some (.ref p0), some (.ref p1), some (.int i2)], [.ref p0])) (jq qX8_putAll 6 rfl) rfl) ?_
      refine Eq.trans (jb_nx (i := .aload_n 1) (n := 1) (q := (12, [some (.ref p0), some (.ref p1), some (.int i2)], [.ref p1, .ref p0])) (jq qX8_putAll 7 rfl) rfl) ?_
      refine Eq.trans (jb_nx (i := .iload_n 2) (n := 1) (q := (13, [some (.ref p0), some (.ref p1), some (.int i2)], [.int i2, .ref p1, .ref p0])) (jq qX8_putAll 8 rfl) rfl) ?_
      obtain ⟨b13, H⟩ := jm_O_inv H
      rcases jcI H with ⟨x7, h5, r6, H⟩ | ⟨w14, h15, r6, H⟩
      · refine Eq.trans (jb_nx (i := .invokevirtual 69) (n := 3) (q := (16, [some (.ref p0), some (.ref p1), some (.int i2)], [.int x7, .ref p0])) (jq qX8_putAll 9 rfl) (jo_cv (y := mJ0_charAt_5068e) rfl (Nat.le_of_ble_eq_true rfl) rfl (Nat.le_of_ble_eq_true rfl) b13 rfl r6 jo_ret)) ?_
        obtain ⟨b10, H⟩ := jm_O_inv H
        rcases jcV H with ⟨h8, r9, H⟩ | ⟨w11, h12, r9, H⟩
        · refine Eq.trans (jb_nx (i := .invokevirtual 39) (n := 3) (q := (19, [some (.ref p0), some (.ref p1), some (.int i2)], [])) (jq qX8_putAll 10 rfl) (jo_cv (y := mX8_put) rfl (Nat.le_of_ble_eq_true rfl) rfl (Nat.le_of_ble_eq_true rfl) b10 rfl r9 jo_ret)) ?_
          refine Eq.trans (jb_nx (i := .iinc 2 1) (n := 3) (q := (22, [some (.ref p0), some (.ref p1), some (.int (i2 + 1))], [])) (jq qX8_putAll 11 rfl) rfl) ?_
          refine Eq.trans (jb_nx (i := .goto (-20)) (n := 3) (q := (2, [some (.ref p0), some (.ref p1), some (.int (i2 + 1))], [])) (jq qX8_putAll 12 rfl) rfl) ?_
          exact H
        · exact Eq.trans (jb_rt (i := .invokevirtual 39) (n := 3) (jq qX8_putAll 10 rfl) (jo_cv (y := mX8_put) rfl (Nat.le_of_ble_eq_true rfl) rfl (Nat.le_of_ble_eq_true rfl) b10 rfl r9 (jo_exn rfl))) H
      · exact Eq.trans (jb_rt (i := .invokevirtual 69) (n := 3) (jq qX8_putAll 9 rfl) (jo_cv (y := mJ0_charAt_5068e) rfl (Nat.le_of_ble_eq_true rfl) rfl (Nat.le_of_ble_eq_true rfl) b13 rfl r6 (jo_exn rfl))) H
    · rw [if_neg c4] at H
      refine Eq.trans (jb_nx (i := .if_icmp .ge 18) (n := 3) (q := (25, [some (.ref p0), some (.ref p1), some (.int i2)], [])) (jq qX8_putAll 5 rfl) (jo_icT (jz_geT c4) rfl)) ?_
      exact Eq.trans (jb_rt (i := .return_) (n := 1) (jq qX8_putAll 13 rfl) rfl) H
  · exact Eq.trans (jb_rt (i := .invokevirtual 64) (n := 3) (jq qX8_putAll 4 rfl) (jo_cv (y := mJ0_length_8abf5) rfl (Nat.le_of_ble_eq_true rfl) rfl (Nat.le_of_ble_eq_true rfl) b16 rfl r2 (jo_exn rfl))) H
theorem gX8_putAll {d : Nat} {p0 : Nat} {p1 : Nat} {h : jm_H} {r : jm_R} (H : (kX8_putAll_2 d p0 p1 0 h) = some r) : jm_D (d + 1) mX8_putAll [.ref p0, .ref p1] h = some r := by
  rw [jm_D_body (Nat.le_of_ble_eq_true rfl)]
  show jm_B d mX8_putAll (0, [some (.ref p0), some (.ref p1), none], []) h = some r
  refine Eq.trans (jb_nx (i := .iconst 0) (n := 1) (q := (1, [some (.ref p0), some (.ref p1), none], [.int 0])) (jq qX8_putAll 0 rfl) rfl) ?_
  refine Eq.trans (jb_nx (i := .istore_n 2) (n := 1) (q := (2, [some (.ref p0), some (.ref p1), some (.int 0)], [])) (jq qX8_putAll 1 rfl) rfl) ?_
  exact H
/-! MaskPlays$Text putName (J)V -/
def tX8_putName : List (Nat × Instr × Nat) := [(0, .bipush 54, 2), (2, .istore_n 3, 1), (3, .iload_n 3, 1), (4, .ifCond .lt 27, 3), (7, .lload_n 1, 1), (8, .iload_n 3, 1), (9, .invokestatic 75, 3), (12, .istore 4, 2), (14, .iload 4, 2), (16, .ifCond .eq 9, 3), (19, .aload_n 0, 1), (20, .iload 4, 2), (22, .invokevirtual 39, 3), (25, .iinc 3 (-6), 3), (28, .goto (-25), 3), (31, .return_, 1)]
set_option maxRecDepth 100000 in
theorem qX8_putName : ∀ q ∈ tX8_putName, decode cX8_putName q.1 = .ok (q.2.1, q.2.2) := by decide +kernel
noncomputable def kX8_putName_3 (d : Nat) (p0 : Nat) (j1 : Int64) (i3 : Int32) (o4 : Option Value) (h : jm_H) : Option jm_R := jm_B d mX8_putName (3, [some (.ref p0), some (.long j1), none, some (.int i3), o4], []) h
theorem gX8_putName_3 {d : Nat} {p0 : Nat} {j1 : Int64} {i3 : Int32} {o4 : Option Value} {h : jm_H} {r : jm_R} (H : ((if i3 < 0 then some (.inl none, h) else jc_I (jm_D d mX10_signAt [.long j1, .int i3] h) (fun x4 h2 => (if x4 = 0 then kX8_putName_3 d p0 j1 (i3 + (-6)) (some (.int x4)) h2 else jm_O h2 p0 8 (jc_V (jm_D d mX8_put [.ref p0, .int x4] h2) (fun h6 => kX8_putName_3 d p0 j1 (i3 + (-6)) (some (.int x4)) h6) jx))) jx)) = some r) : kX8_putName_3 d p0 j1 i3 o4 h = some r := by
  show jm_B d mX8_putName (3, [some (.ref p0), some (.long j1), none, some (.int i3), o4], []) h = some r
  refine Eq.trans (jb_nx (i := .iload_n 3) (n := 1) (q := (4, [some (.ref p0), some (.long j1), none, some (.int i3), o4], [.int i3])) (jq qX8_putName 2 rfl) rfl) ?_
  by_cases c1 : i3 < 0
  · rw [if_pos c1] at H
    refine Eq.trans (jb_nx (i := .ifCond .lt 27) (n := 3) (q := (31, [some (.ref p0), some (.long j1), none, some (.int i3), o4], [])) (jq qX8_putName 3 rfl) (jo_ifT (jz_ltT c1) rfl)) ?_
    exact Eq.trans (jb_rt (i := .return_) (n := 1) (jq qX8_putName 15 rfl) rfl) H
  · rw [if_neg c1] at H
    refine Eq.trans (jb_nx (i := .ifCond .lt 27) (n := 3) (q := (7, [some (.ref p0), some (.long j1), none, some (.int i3), o4], [])) (jq qX8_putName 3 rfl) (jo_ifF (jz_ltF c1))) ?_
    refine Eq.trans (jb_nx (i := .lload_n 1) (n := 1) (q := (8, [some (.ref p0), some (.long j1), none, some (.int i3), o4], [.long j1])) (jq qX8_putName 4 rfl) rfl) ?_
    refine Eq.trans (jb_nx (i := .iload_n 3) (n := 1) (q := (9, [some (.ref p0), some (.long j1), none, some (.int i3), o4], [.int i3, .long j1])) (jq qX8_putName 5 rfl) rfl) ?_
    rcases jcI H with ⟨x4, h2, r3, H⟩ | ⟨w11, h12, r3, H⟩
    · refine Eq.trans (jb_nx (i := .invokestatic 75) (n := 3) (q := (12, [some (.ref p0), some (.long j1), none, some (.int i3), o4], [.int x4])) (jq qX8_putName 6 rfl) (jo_cs (y := mX10_signAt) (w := 1) (by decide) rfl (Nat.le_of_ble_eq_true rfl) rfl (Nat.le_of_ble_eq_true rfl) rfl r3 jo_ret)) ?_
      refine Eq.trans (jb_nx (i := .istore 4) (n := 2) (q := (14, [some (.ref p0), some (.long j1), none, some (.int i3), some (.int x4)], [])) (jq qX8_putName 7 rfl) rfl) ?_
      refine Eq.trans (jb_nx (i := .iload 4) (n := 2) (q := (16, [some (.ref p0), some (.long j1), none, some (.int i3), some (.int x4)], [.int x4])) (jq qX8_putName 8 rfl) rfl) ?_
      by_cases c5 : x4 = 0
      · rw [if_pos c5] at H
        refine Eq.trans (jb_nx (i := .ifCond .eq 9) (n := 3) (q := (25, [some (.ref p0), some (.long j1), none, some (.int i3), some (.int x4)], [])) (jq qX8_putName 9 rfl) (jo_ifT (jz_eqT c5) rfl)) ?_
        refine Eq.trans (jb_nx (i := .iinc 3 (-6)) (n := 3) (q := (28, [some (.ref p0), some (.long j1), none, some (.int (i3 + (-6))), some (.int x4)], [])) (jq qX8_putName 13 rfl) rfl) ?_
        refine Eq.trans (jb_nx (i := .goto (-25)) (n := 3) (q := (3, [some (.ref p0), some (.long j1), none, some (.int (i3 + (-6))), some (.int x4)], [])) (jq qX8_putName 14 rfl) rfl) ?_
        exact H
      · rw [if_neg c5] at H
        refine Eq.trans (jb_nx (i := .ifCond .eq 9) (n := 3) (q := (19, [some (.ref p0), some (.long j1), none, some (.int i3), some (.int x4)], [])) (jq qX8_putName 9 rfl) (jo_ifF (jz_eqF c5))) ?_
        refine Eq.trans (jb_nx (i := .aload_n 0) (n := 1) (q := (20, [some (.ref p0), some (.long j1), none, some (.int i3), some (.int x4)], [.ref p0])) (jq qX8_putName 10 rfl) rfl) ?_
        refine Eq.trans (jb_nx (i := .iload 4) (n := 2) (q := (22, [some (.ref p0), some (.long j1), none, some (.int i3), some (.int x4)], [.int x4, .ref p0])) (jq qX8_putName 11 rfl) rfl) ?_
        obtain ⟨b8, H⟩ := jm_O_inv H
        rcases jcV H with ⟨h6, r7, H⟩ | ⟨w9, h10, r7, H⟩
        · refine Eq.trans (jb_nx (i := .invokevirtual 39) (n := 3) (q := (25, [some (.ref p0), some (.long j1), none, some (.int i3), some (.int x4)], [])) (jq qX8_putName 12 rfl) (jo_cv (y := mX8_put) rfl (Nat.le_of_ble_eq_true rfl) rfl (Nat.le_of_ble_eq_true rfl) b8 rfl r7 jo_ret)) ?_
          refine Eq.trans (jb_nx (i := .iinc 3 (-6)) (n := 3) (q := (28, [some (.ref p0), some (.long j1), none, some (.int (i3 + (-6))), some (.int x4)], [])) (jq qX8_putName 13 rfl) rfl) ?_
          refine Eq.trans (jb_nx (i := .goto (-25)) (n := 3) (q := (3, [some (.ref p0), some (.long j1), none, some (.int (i3 + (-6))), some (.int x4)], [])) (jq qX8_putName 14 rfl) rfl) ?_
          exact H
        · exact Eq.trans (jb_rt (i := .invokevirtual 39) (n := 3) (jq qX8_putName 12 rfl) (jo_cv (y := mX8_put) rfl (Nat.le_of_ble_eq_true rfl) rfl (Nat.le_of_ble_eq_true rfl) b8 rfl r7 (jo_exn rfl))) H
    · exact Eq.trans (jb_rt (i := .invokestatic 75) (n := 3) (jq qX8_putName 6 rfl) (jo_cs (y := mX10_signAt) (w := 1) (by decide) rfl (Nat.le_of_ble_eq_true rfl) rfl (Nat.le_of_ble_eq_true rfl) rfl r3 (jo_exn rfl))) H
theorem gX8_putName {d : Nat} {p0 : Nat} {j1 : Int64} {h : jm_H} {r : jm_R} (H : (kX8_putName_3 d p0 j1 54 none h) = some r) : jm_D (d + 1) mX8_putName [.ref p0, .long j1] h = some r := by
  rw [jm_D_body (Nat.le_of_ble_eq_true rfl)]
  show jm_B d mX8_putName (0, [some (.ref p0), some (.long j1), none, none, none], []) h = some r
  refine Eq.trans (jb_nx (i := .bipush 54) (n := 2) (q := (2, [some (.ref p0), some (.long j1), none, none, none], [.int 54])) (jq qX8_putName 0 rfl) rfl) ?_
  refine Eq.trans (jb_nx (i := .istore_n 3) (n := 1) (q := (3, [some (.ref p0), some (.long j1), none, some (.int 54), none], [])) (jq qX8_putName 1 rfl) rfl) ?_
  exact H
/-! MaskPlays$Text putWhatComes ()V -/
def tX8_putWhatComes : List (Nat × Instr × Nat) := [(0, .aload_n 0, 1), (1, .getfield 27, 3), (4, .ifCond .le 50, 3), (7, .aload_n 0, 1), (8, .getfield 27, 3), (11, .aload_n 0, 1), (12, .getfield 19, 3), (15, .arraylength, 1), (16, .if_icmp .gt 38, 3), (19, .aload_n 0, 1), (20, .dup, 1), (21, .getfield 27, 3), (24, .iconst 1, 1), (25, .isub, 1), (26, .putfield 27, 3), (29, .aload_n 0, 1), (30, .getfield 19, 3), (33, .aload_n 0, 1), (34, .getfield 27, 3), (37, .caload, 1), (38, .istore_n 1, 1), (39, .aload_n 0, 1), (40, .iload_n 1, 1), (41, .invokevirtual 39, 3), (44, .iload_n 1, 1), (45, .bipush 32, 2), (47, .if_icmp .ne 4, 3), (50, .return_, 1), (51, .goto (-51), 3), (54, .return_, 1)]
set_option maxRecDepth 100000 in
theorem qX8_putWhatComes : ∀ q ∈ tX8_putWhatComes, decode cX8_putWhatComes q.1 = .ok (q.2.1, q.2.2) := by decide +kernel
noncomputable def kX8_putWhatComes_0 (d : Nat) (p0 : Nat) (o1 : Option Value) (h : jm_H) : Option jm_R := jm_B d mX8_putWhatComes (0, [some (.ref p0), o1], []) h
theorem gX8_putWhatComes_0 {d : Nat} {p0 : Nat} {o1 : Option Value} {h : jm_H} {r : jm_R} (H : ((jr_I h p0 8 4 0).bind fun x1 => (if 0 < x1 then (jr_I h p0 8 4 0).bind fun x4 => (jr_R h p0 8 3 2).bind fun a6 => (jm_len h a6).bind fun n8 => (if (Int32.ofNat n8) < x4 then some (.inl none, h) else (jr_I h p0 8 4 0).bind fun x11 => (jm_pf h p0 8 4 0 (.int (x11 - 1))).bind fun h13 => (jr_R h13 p0 8 3 2).bind fun a15 => (jr_I h13 p0 8 4 0).bind fun x17 => (jm_ali h13 a15 4 x17).bind fun x19 => jm_O h13 p0 8 (jc_V (jm_D d mX8_put [.ref p0, .int x19] h13) (fun h21 => (if x19 = 32 then some (.inl none, h21) else kX8_putWhatComes_0 d p0 (some (.int x19)) h21)) jx)) else some (.inl none, h))) = some r) : kX8_putWhatComes_0 d p0 o1 h = some r := by
  show jm_B d mX8_putWhatComes (0, [some (.ref p0), o1], []) h = some r
  refine Eq.trans (jb_nx (i := .aload_n 0) (n := 1) (q := (1, [some (.ref p0), o1], [.ref p0])) (jq qX8_putWhatComes 0 rfl) rfl) ?_
  obtain ⟨x1, e2, H⟩ := jbd H
  refine Eq.trans (jb_nx (i := .getfield 27) (n := 3) (q := (4, [some (.ref p0), o1], [.int x1])) (jq qX8_putWhatComes 1 rfl) (jo_gf rfl (jr_I_inv e2))) ?_
  by_cases c3 : 0 < x1
  · rw [if_pos c3] at H
    refine Eq.trans (jb_nx (i := .ifCond .le 50) (n := 3) (q := (7, [some (.ref p0), o1], [])) (jq qX8_putWhatComes 2 rfl) (jo_ifF (jz_leF c3))) ?_
    refine Eq.trans (jb_nx (i := .aload_n 0) (n := 1) (q := (8, [some (.ref p0), o1], [.ref p0])) (jq qX8_putWhatComes 3 rfl) rfl) ?_
    obtain ⟨x4, e5, H⟩ := jbd H
    refine Eq.trans (jb_nx (i := .getfield 27) (n := 3) (q := (11, [some (.ref p0), o1], [.int x4])) (jq qX8_putWhatComes 4 rfl) (jo_gf rfl (jr_I_inv e5))) ?_
    refine Eq.trans (jb_nx (i := .aload_n 0) (n := 1) (q := (12, [some (.ref p0), o1], [.ref p0, .int x4])) (jq qX8_putWhatComes 5 rfl) rfl) ?_
    obtain ⟨a6, e7, H⟩ := jbd H
    refine Eq.trans (jb_nx (i := .getfield 19) (n := 3) (q := (15, [some (.ref p0), o1], [.ref a6, .int x4])) (jq qX8_putWhatComes 6 rfl) (jo_gf rfl (jr_R_inv e7))) ?_
    obtain ⟨n8, e9, H⟩ := jbd H
    refine Eq.trans (jb_nx (i := .arraylength) (n := 1) (q := (16, [some (.ref p0), o1], [.int (Int32.ofNat n8), .int x4])) (jq qX8_putWhatComes 7 rfl) (jo_len e9)) ?_
    by_cases c10 : (Int32.ofNat n8) < x4
    · rw [if_pos c10] at H
      refine Eq.trans (jb_nx (i := .if_icmp .gt 38) (n := 3) (q := (54, [some (.ref p0), o1], [])) (jq qX8_putWhatComes 8 rfl) (jo_icT (jz_gtT c10) rfl)) ?_
      exact Eq.trans (jb_rt (i := .return_) (n := 1) (jq qX8_putWhatComes 29 rfl) rfl) H
    · rw [if_neg c10] at H
      refine Eq.trans (jb_nx (i := .if_icmp .gt 38) (n := 3) (q := (19, [some (.ref p0), o1], [])) (jq qX8_putWhatComes 8 rfl) (jo_icF (jz_gtF c10))) ?_
      refine Eq.trans (jb_nx (i := .aload_n 0) (n := 1) (q := (20, [some (.ref p0), o1], [.ref p0])) (jq qX8_putWhatComes 9 rfl) rfl) ?_
      refine Eq.trans (jb_nx (i := .dup) (n := 1) (q := (21, [some (.ref p0), o1], [.ref p0, .ref p0])) (jq qX8_putWhatComes 10 rfl) rfl) ?_
      obtain ⟨x11, e12, H⟩ := jbd H
      refine Eq.trans (jb_nx (i := .getfield 27) (n := 3) (q := (24, [some (.ref p0), o1], [.int x11, .ref p0])) (jq qX8_putWhatComes 11 rfl) (jo_gf rfl (jr_I_inv e12))) ?_
      refine Eq.trans (jb_nx (i := .iconst 1) (n := 1) (q := (25, [some (.ref p0), o1], [.int 1, .int x11, .ref p0])) (jq qX8_putWhatComes 12 rfl) rfl) ?_
      refine Eq.trans (jb_nx (i := .isub) (n := 1) (q := (26, [some (.ref p0), o1], [.int (x11 - 1), .ref p0])) (jq qX8_putWhatComes 13 rfl) rfl) ?_
      obtain ⟨h13, e14, H⟩ := jbd H
      refine Eq.trans (jb_nx (i := .putfield 27) (n := 3) (q := (29, [some (.ref p0), o1], [])) (jq qX8_putWhatComes 14 rfl) (jo_pf rfl (Or.inl rfl) e14)) ?_
      refine Eq.trans (jb_nx (i := .aload_n 0) (n := 1) (q := (30, [some (.ref p0), o1], [.ref p0])) (jq qX8_putWhatComes 15 rfl) rfl) ?_
      obtain ⟨a15, e16, H⟩ := jbd H
      refine Eq.trans (jb_nx (i := .getfield 19) (n := 3) (q := (33, [some (.ref p0), o1], [.ref a15])) (jq qX8_putWhatComes 16 rfl) (jo_gf rfl (jr_R_inv e16))) ?_
      refine Eq.trans (jb_nx (i := .aload_n 0) (n := 1) (q := (34, [some (.ref p0), o1], [.ref p0, .ref a15])) (jq qX8_putWhatComes 17 rfl) rfl) ?_
      obtain ⟨x17, e18, H⟩ := jbd H
      refine Eq.trans (jb_nx (i := .getfield 27) (n := 3) (q := (37, [some (.ref p0), o1], [.int x17, .ref a15])) (jq qX8_putWhatComes 18 rfl) (jo_gf rfl (jr_I_inv e18))) ?_
      obtain ⟨x19, e20, H⟩ := jbd H
      refine Eq.trans (jb_nx (i := .caload) (n := 1) (q := (38, [some (.ref p0), o1], [.int x19])) (jq qX8_putWhatComes 19 rfl) (jo_cal e20)) ?_
      refine Eq.trans (jb_nx (i := .istore_n 1) (n := 1) (q := (39, [some (.ref p0), some (.int x19)], [])) (jq qX8_putWhatComes 20 rfl) rfl) ?_
      refine Eq.trans (jb_nx (i := .aload_n 0) (n := 1) (q := (40, [some (.ref p0), some (.int x19)], [.ref p0])) (jq qX8_putWhatComes 21 rfl) rfl) ?_
      refine Eq.trans (jb_nx (i := .iload_n 1) (n := 1) (q := (41, [some (.ref p0), some (.int x19)], [.int x19, .ref p0])) (jq qX8_putWhatComes 22 rfl) rfl) ?_
      obtain ⟨b24, H⟩ := jm_O_inv H
      rcases jcV H with ⟨h21, r22, H⟩ | ⟨w25, h26, r22, H⟩
      · refine Eq.trans (jb_nx (i := .invokevirtual 39) (n := 3) (q := (44, [some (.ref p0), some (.int x19)], [])) (jq qX8_putWhatComes 23 rfl) (jo_cv (y := mX8_put) rfl (Nat.le_of_ble_eq_true rfl) rfl (Nat.le_of_ble_eq_true rfl) b24 rfl r22 jo_ret)) ?_
        refine Eq.trans (jb_nx (i := .iload_n 1) (n := 1) (q := (45, [some (.ref p0), some (.int x19)], [.int x19])) (jq qX8_putWhatComes 24 rfl) rfl) ?_
        refine Eq.trans (jb_nx (i := .bipush 32) (n := 2) (q := (47, [some (.ref p0), some (.int x19)], [.int 32, .int x19])) (jq qX8_putWhatComes 25 rfl) rfl) ?_
        by_cases c23 : x19 = 32
        · rw [if_pos c23] at H
          refine Eq.trans (jb_nx (i := .if_icmp .ne 4) (n := 3) (q := (50, [some (.ref p0), some (.int x19)], [])) (jq qX8_putWhatComes 26 rfl) (jo_icF (jz_neF c23))) ?_
          exact Eq.trans (jb_rt (i := .return_) (n := 1) (jq qX8_putWhatComes 27 rfl) rfl) H
        · rw [if_neg c23] at H
          refine Eq.trans (jb_nx (i := .if_icmp .ne 4) (n := 3) (q := (51, [some (.ref p0), some (.int x19)], [])) (jq qX8_putWhatComes 26 rfl) (jo_icT (jz_neT c23) rfl)) ?_
          refine Eq.trans (jb_nx (i := .goto (-51)) (n := 3) (q := (0, [some (.ref p0), some (.int x19)], [])) (jq qX8_putWhatComes 28 rfl) rfl) ?_
          exact H
      · exact Eq.trans (jb_rt (i := .invokevirtual 39) (n := 3) (jq qX8_putWhatComes 23 rfl) (jo_cv (y := mX8_put) rfl (Nat.le_of_ble_eq_true rfl) rfl (Nat.le_of_ble_eq_true rfl) b24 rfl r22 (jo_exn rfl))) H
  · rw [if_neg c3] at H
    refine Eq.trans (jb_nx (i := .ifCond .le 50) (n := 3) (q := (54, [some (.ref p0), o1], [])) (jq qX8_putWhatComes 2 rfl) (jo_ifT (jz_leT c3) rfl)) ?_
    exact Eq.trans (jb_rt (i := .return_) (n := 1) (jq qX8_putWhatComes 29 rfl) rfl) H
theorem gX8_putWhatComes {d : Nat} {p0 : Nat} {h : jm_H} {r : jm_R} (H : (kX8_putWhatComes_0 d p0 none h) = some r) : jm_D (d + 1) mX8_putWhatComes [.ref p0] h = some r := by
  rw [jm_D_body (Nat.le_of_ble_eq_true rfl)]
  show jm_B d mX8_putWhatComes (0, [some (.ref p0), none], []) h = some r
  exact H
/-! MaskPlays$Text letter (I)I -/
def tX8_letter : List (Nat × Instr × Nat) := [(0, .iload_n 1, 1), (1, .ifCond .lt 29, 3), (4, .iload_n 1, 1), (5, .aload_n 0, 1), (6, .getfield 23, 3), (9, .if_icmp .ge 21, 3), (12, .iload_n 1, 1), (13, .aload_n 0, 1), (14, .getfield 9, 3), (17, .arraylength, 1), (18, .if_icmp .ge 12, 3), (21, .aload_n 0, 1), (22, .getfield 9, 3), (25, .iload_n 1, 1), (26, .baload, 1), (27, .goto 4, 3), (30, .iconst 0, 1), (31, .ireturn, 1)]
set_option maxRecDepth 100000 in
theorem qX8_letter : ∀ q ∈ tX8_letter, decode cX8_letter q.1 = .ok (q.2.1, q.2.2) := by decide +kernel
theorem gX8_letter {d : Nat} {p0 : Nat} {i1 : Int32} {h : jm_H} {r : jm_R} (H : ((if i1 < 0 then some (.inl (some (.int 0)), h) else (jr_I h p0 8 0 0).bind fun x2 => (if i1 < x2 then (jr_R h p0 8 1 2).bind fun a5 => (jm_len h a5).bind fun n7 => (if i1 < (Int32.ofNat n7) then (jr_R h p0 8 1 2).bind fun a10 => (jm_ali h a10 2 i1).bind fun x12 => some (.inl (some (.int x12)), h) else some (.inl (some (.int 0)), h)) else some (.inl (some (.int 0)), h)))) = some r) : jm_D (d + 1) mX8_letter [.ref p0, .int i1] h = some r := by
  rw [jm_D_body (Nat.le_of_ble_eq_true rfl)]
  show jm_B d mX8_letter (0, [some (.ref p0), some (.int i1)], []) h = some r
  refine Eq.trans (jb_nx (i := .iload_n 1) (n := 1) (q := (1, [some (.ref p0), some (.int i1)], [.int i1])) (jq qX8_letter 0 rfl) rfl) ?_
  by_cases c1 : i1 < 0
  · rw [if_pos c1] at H
    refine Eq.trans (jb_nx (i := .ifCond .lt 29) (n := 3) (q := (30, [some (.ref p0), some (.int i1)], [])) (jq qX8_letter 1 rfl) (jo_ifT (jz_ltT c1) rfl)) ?_
    refine Eq.trans (jb_nx (i := .iconst 0) (n := 1) (q := (31, [some (.ref p0), some (.int i1)], [.int 0])) (jq qX8_letter 16 rfl) rfl) ?_
    exact Eq.trans (jb_rt (i := .ireturn) (n := 1) (jq qX8_letter 17 rfl) (jo_iret rfl rfl)) H
  · rw [if_neg c1] at H
    refine Eq.trans (jb_nx (i := .ifCond .lt 29) (n := 3) (q := (4, [some (.ref p0), some (.int i1)], [])) (jq qX8_letter 1 rfl) (jo_ifF (jz_ltF c1))) ?_
    refine Eq.trans (jb_nx (i := .iload_n 1) (n := 1) (q := (5, [some (.ref p0), some (.int i1)], [.int i1])) (jq qX8_letter 2 rfl) rfl) ?_
    refine Eq.trans (jb_nx (i := .aload_n 0) (n := 1) (q := (6, [some (.ref p0), some (.int i1)], [.ref p0, .int i1])) (jq qX8_letter 3 rfl) rfl) ?_
    obtain ⟨x2, e3, H⟩ := jbd H
    refine Eq.trans (jb_nx (i := .getfield 23) (n := 3) (q := (9, [some (.ref p0), some (.int i1)], [.int x2, .int i1])) (jq qX8_letter 4 rfl) (jo_gf rfl (jr_I_inv e3))) ?_
    by_cases c4 : i1 < x2
    · rw [if_pos c4] at H
      refine Eq.trans (jb_nx (i := .if_icmp .ge 21) (n := 3) (q := (12, [some (.ref p0), some (.int i1)], [])) (jq qX8_letter 5 rfl) (jo_icF (jz_geF c4))) ?_
      refine Eq.trans (jb_nx (i := .iload_n 1) (n := 1) (q := (13, [some (.ref p0), some (.int i1)], [.int i1])) (jq qX8_letter 6 rfl) rfl) ?_
      refine Eq.trans (jb_nx (i := .aload_n 0) (n := 1) (q := (14, [some (.ref p0), some (.int i1)], [.ref p0, .int i1])) (jq qX8_letter 7 rfl) rfl) ?_
      obtain ⟨a5, e6, H⟩ := jbd H
      refine Eq.trans (jb_nx (i := .getfield 9) (n := 3) (q := (17, [some (.ref p0), some (.int i1)], [.ref a5, .int i1])) (jq qX8_letter 8 rfl) (jo_gf rfl (jr_R_inv e6))) ?_
      obtain ⟨n7, e8, H⟩ := jbd H
      refine Eq.trans (jb_nx (i := .arraylength) (n := 1) (q := (18, [some (.ref p0), some (.int i1)], [.int (Int32.ofNat n7), .int i1])) (jq qX8_letter 9 rfl) (jo_len e8)) ?_
      by_cases c9 : i1 < (Int32.ofNat n7)
      · rw [if_pos c9] at H
        refine Eq.trans (jb_nx (i := .if_icmp .ge 12) (n := 3) (q := (21, [some (.ref p0), some (.int i1)], [])) (jq qX8_letter 10 rfl) (jo_icF (jz_geF c9))) ?_
        refine Eq.trans (jb_nx (i := .aload_n 0) (n := 1) (q := (22, [some (.ref p0), some (.int i1)], [.ref p0])) (jq qX8_letter 11 rfl) rfl) ?_
        obtain ⟨a10, e11, H⟩ := jbd H
        refine Eq.trans (jb_nx (i := .getfield 9) (n := 3) (q := (25, [some (.ref p0), some (.int i1)], [.ref a10])) (jq qX8_letter 12 rfl) (jo_gf rfl (jr_R_inv e11))) ?_
        refine Eq.trans (jb_nx (i := .iload_n 1) (n := 1) (q := (26, [some (.ref p0), some (.int i1)], [.int i1, .ref a10])) (jq qX8_letter 13 rfl) rfl) ?_
        obtain ⟨x12, e13, H⟩ := jbd H
        refine Eq.trans (jb_nx (i := .baload) (n := 1) (q := (27, [some (.ref p0), some (.int i1)], [.int x12])) (jq qX8_letter 14 rfl) (jo_bal e13)) ?_
        refine Eq.trans (jb_nx (i := .goto 4) (n := 3) (q := (31, [some (.ref p0), some (.int i1)], [.int x12])) (jq qX8_letter 15 rfl) rfl) ?_
        exact Eq.trans (jb_rt (i := .ireturn) (n := 1) (jq qX8_letter 17 rfl) (jo_iret rfl rfl)) H
      · rw [if_neg c9] at H
        refine Eq.trans (jb_nx (i := .if_icmp .ge 12) (n := 3) (q := (30, [some (.ref p0), some (.int i1)], [])) (jq qX8_letter 10 rfl) (jo_icT (jz_geT c9) rfl)) ?_
        refine Eq.trans (jb_nx (i := .iconst 0) (n := 1) (q := (31, [some (.ref p0), some (.int i1)], [.int 0])) (jq qX8_letter 16 rfl) rfl) ?_
        exact Eq.trans (jb_rt (i := .ireturn) (n := 1) (jq qX8_letter 17 rfl) (jo_iret rfl rfl)) H
    · rw [if_neg c4] at H
      refine Eq.trans (jb_nx (i := .if_icmp .ge 21) (n := 3) (q := (30, [some (.ref p0), some (.int i1)], [])) (jq qX8_letter 5 rfl) (jo_icT (jz_geT c4) rfl)) ?_
      refine Eq.trans (jb_nx (i := .iconst 0) (n := 1) (q := (31, [some (.ref p0), some (.int i1)], [.int 0])) (jq qX8_letter 16 rfl) rfl) ?_
      exact Eq.trans (jb_rt (i := .ireturn) (n := 1) (jq qX8_letter 17 rfl) (jo_iret rfl rfl)) H
/-! MaskPlays$Text beginningOf (I)I -/
def tX8_beginningOf : List (Nat × Instr × Nat) := [(0, .iload_n 1, 1), (1, .ifCond .lt 21, 3), (4, .iload_n 1, 1), (5, .aload_n 0, 1), (6, .getfield 15, 3), (9, .arraylength, 1), (10, .if_icmp .ge 12, 3), (13, .aload_n 0, 1), (14, .getfield 15, 3), (17, .iload_n 1, 1), (18, .iaload, 1), (19, .goto 4, 3), (22, .iconst 0, 1), (23, .ireturn, 1)]
set_option maxRecDepth 100000 in
theorem qX8_beginningOf : ∀ q ∈ tX8_beginningOf, decode cX8_beginningOf q.1 = .ok (q.2.1, q.2.2) := by decide +kernel
theorem gX8_beginningOf {d : Nat} {p0 : Nat} {i1 : Int32} {h : jm_H} {r : jm_R} (H : ((if i1 < 0 then some (.inl (some (.int 0)), h) else (jr_R h p0 8 2 2).bind fun a2 => (jm_len h a2).bind fun n4 => (if i1 < (Int32.ofNat n4) then (jr_R h p0 8 2 2).bind fun a7 => (jm_ali h a7 0 i1).bind fun x9 => some (.inl (some (.int x9)), h) else some (.inl (some (.int 0)), h)))) = some r) : jm_D (d + 1) mX8_beginningOf [.ref p0, .int i1] h = some r := by
  rw [jm_D_body (Nat.le_of_ble_eq_true rfl)]
  show jm_B d mX8_beginningOf (0, [some (.ref p0), some (.int i1)], []) h = some r
  refine Eq.trans (jb_nx (i := .iload_n 1) (n := 1) (q := (1, [some (.ref p0), some (.int i1)], [.int i1])) (jq qX8_beginningOf 0 rfl) rfl) ?_
  by_cases c1 : i1 < 0
  · rw [if_pos c1] at H
    refine Eq.trans (jb_nx (i := .ifCond .lt 21) (n := 3) (q := (22, [some (.ref p0), some (.int i1)], [])) (jq qX8_beginningOf 1 rfl) (jo_ifT (jz_ltT c1) rfl)) ?_
    refine Eq.trans (jb_nx (i := .iconst 0) (n := 1) (q := (23, [some (.ref p0), some (.int i1)], [.int 0])) (jq qX8_beginningOf 12 rfl) rfl) ?_
    exact Eq.trans (jb_rt (i := .ireturn) (n := 1) (jq qX8_beginningOf 13 rfl) (jo_iret rfl rfl)) H
  · rw [if_neg c1] at H
    refine Eq.trans (jb_nx (i := .ifCond .lt 21) (n := 3) (q := (4, [some (.ref p0), some (.int i1)], [])) (jq qX8_beginningOf 1 rfl) (jo_ifF (jz_ltF c1))) ?_
    refine Eq.trans (jb_nx (i := .iload_n 1) (n := 1) (q := (5, [some (.ref p0), some (.int i1)], [.int i1])) (jq qX8_beginningOf 2 rfl) rfl) ?_
    refine Eq.trans (jb_nx (i := .aload_n 0) (n := 1) (q := (6, [some (.ref p0), some (.int i1)], [.ref p0, .int i1])) (jq qX8_beginningOf 3 rfl) rfl) ?_
    obtain ⟨a2, e3, H⟩ := jbd H
    refine Eq.trans (jb_nx (i := .getfield 15) (n := 3) (q := (9, [some (.ref p0), some (.int i1)], [.ref a2, .int i1])) (jq qX8_beginningOf 4 rfl) (jo_gf rfl (jr_R_inv e3))) ?_
    obtain ⟨n4, e5, H⟩ := jbd H
    refine Eq.trans (jb_nx (i := .arraylength) (n := 1) (q := (10, [some (.ref p0), some (.int i1)], [.int (Int32.ofNat n4), .int i1])) (jq qX8_beginningOf 5 rfl) (jo_len e5)) ?_
    by_cases c6 : i1 < (Int32.ofNat n4)
    · rw [if_pos c6] at H
      refine Eq.trans (jb_nx (i := .if_icmp .ge 12) (n := 3) (q := (13, [some (.ref p0), some (.int i1)], [])) (jq qX8_beginningOf 6 rfl) (jo_icF (jz_geF c6))) ?_
      refine Eq.trans (jb_nx (i := .aload_n 0) (n := 1) (q := (14, [some (.ref p0), some (.int i1)], [.ref p0])) (jq qX8_beginningOf 7 rfl) rfl) ?_
      obtain ⟨a7, e8, H⟩ := jbd H
      refine Eq.trans (jb_nx (i := .getfield 15) (n := 3) (q := (17, [some (.ref p0), some (.int i1)], [.ref a7])) (jq qX8_beginningOf 8 rfl) (jo_gf rfl (jr_R_inv e8))) ?_
      refine Eq.trans (jb_nx (i := .iload_n 1) (n := 1) (q := (18, [some (.ref p0), some (.int i1)], [.int i1, .ref a7])) (jq qX8_beginningOf 9 rfl) rfl) ?_
      obtain ⟨x9, e10, H⟩ := jbd H
      refine Eq.trans (jb_nx (i := .iaload) (n := 1) (q := (19, [some (.ref p0), some (.int i1)], [.int x9])) (jq qX8_beginningOf 10 rfl) (jo_ial e10)) ?_
      refine Eq.trans (jb_nx (i := .goto 4) (n := 3) (q := (23, [some (.ref p0), some (.int i1)], [.int x9])) (jq qX8_beginningOf 11 rfl) rfl) ?_
      exact Eq.trans (jb_rt (i := .ireturn) (n := 1) (jq qX8_beginningOf 13 rfl) (jo_iret rfl rfl)) H
    · rw [if_neg c6] at H
      refine Eq.trans (jb_nx (i := .if_icmp .ge 12) (n := 3) (q := (22, [some (.ref p0), some (.int i1)], [])) (jq qX8_beginningOf 6 rfl) (jo_icT (jz_geT c6) rfl)) ?_
      refine Eq.trans (jb_nx (i := .iconst 0) (n := 1) (q := (23, [some (.ref p0), some (.int i1)], [.int 0])) (jq qX8_beginningOf 12 rfl) rfl) ?_
      exact Eq.trans (jb_rt (i := .ireturn) (n := 1) (jq qX8_beginningOf 13 rfl) (jo_iret rfl rfl)) H
