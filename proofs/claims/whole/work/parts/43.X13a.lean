/-! ===== LEVEL 2: X13 ===== -/
/-! MaskPlaysModel <init> ()V -/
def tX13_init : List (Nat × Instr × Nat) := [(0, .aload_n 0, 1), (1, .invokespecial 1, 3), (4, .aload_n 0, 1), (5, .sipush 2000, 3), (8, .newarray .int, 2), (10, .putfield 9, 3), (13, .aload_n 0, 1), (14, .iconst (-1), 1), (15, .putfield 13, 3), (18, .aload_n 0, 1), (19, .new 17, 3), (22, .dup, 1), (23, .invokespecial 19, 3), (26, .putfield 20, 3), (29, .aload_n 0, 1), (30, .sipush 1800, 3), (33, .newarray .long, 2), (35, .putfield 24, 3), (38, .aload_n 0, 1), (39, .bipush 12, 2), (41, .newarray .int, 2), (43, .putfield 28, 3), (46, .aload_n 0, 1), (47, .bipush 12, 2), (49, .newarray .int, 2), (51, .putfield 31, 3), (54, .aload_n 0, 1), (55, .sipush 1800, 3), (58, .newarray .long, 2), (60, .putfield 34, 3), (63, .aload_n 0, 1), (64, .bipush 12, 2), (66, .newarray .int, 2), (68, .putfield 37, 3), (71, .aload_n 0, 1), (72, .bipush 12, 2), (74, .newarray .int, 2), (76, .putfield 40, 3), (79, .aload_n 0, 1), (80, .sipush 301, 3), (83, .newarray .long, 2), (85, .putfield 43, 3), (88, .aload_n 0, 1), (89, .sipush 301, 3), (92, .newarray .long, 2), (94, .putfield 46, 3), (97, .aload_n 0, 1), (98, .sipush 301, 3), (101, .newarray .long, 2), (103, .putfield 49, 3), (106, .aload_n 0, 1), (107, .sipush 301, 3), (110, .newarray .boolean, 2), (112, .putfield 52, 3), (115, .aload_n 0, 1), (116, .sipush 4000, 3), (119, .newarray .int, 2), (121, .putfield 56, 3), (124, .aload_n 0, 1), (125, .sipush 301, 3), (128, .newarray .int, 2), (130, .putfield 59, 3), (133, .aload_n 0, 1), (134, .sipush 301, 3), (137, .newarray .int, 2), (139, .putfield 62, 3), (142, .aload_n 0, 1), (143, .sipush 800, 3), (146, .newarray .int, 2), (148, .putfield 65, 3), (151, .return_, 1)]
set_option maxRecDepth 100000 in
theorem qX13_init : ∀ q ∈ tX13_init, decode cX13_init q.1 = .ok (q.2.1, q.2.2) := by decide +kernel
theorem gX13_init {d : Nat} {p0 : Nat} {h : jm_H} {r : jm_R} (H : (jm_U p0 (jl_newa h 0 2000 fun a2 h3 => (jm_pf h3 p0 12 1 2 (.ref a2)).bind fun h6 => (jm_pf h6 p0 12 3 0 (.int (-1))).bind fun h8 => jl_new h8 11 [.null, .null, .null, .null, .null, .null, .int 0, .null, .int 0, .null, .null, .null, .int 0, .null, .null, .null, .null, .null, .null, .null, .int 0, .null] 22 fun a10 h11 => jm_U a10 (jc_V (jm_D d mX12_init [.ref a10] h11) (fun h14 => (jm_pf h14 p0 12 4 2 (.ref a10)).bind fun h16 => jl_newa h16 1 1800 fun a18 h19 => (jm_pf h19 p0 12 8 2 (.ref a18)).bind fun h22 => jl_newa h22 0 12 fun a24 h25 => (jm_pf h25 p0 12 9 2 (.ref a24)).bind fun h28 => jl_newa h28 0 12 fun a30 h31 => (jm_pf h31 p0 12 10 2 (.ref a30)).bind fun h34 => jl_newa h34 1 1800 fun a36 h37 => (jm_pf h37 p0 12 11 2 (.ref a36)).bind fun h40 => jl_newa h40 0 12 fun a42 h43 => (jm_pf h43 p0 12 12 2 (.ref a42)).bind fun h46 => jl_newa h46 0 12 fun a48 h49 => (jm_pf h49 p0 12 13 2 (.ref a48)).bind fun h52 => jl_newa h52 1 301 fun a54 h55 => (jm_pf h55 p0 12 18 2 (.ref a54)).bind fun h58 => jl_newa h58 1 301 fun a60 h61 => (jm_pf h61 p0 12 20 2 (.ref a60)).bind fun h64 => jl_newa h64 1 301 fun a66 h67 => (jm_pf h67 p0 12 21 2 (.ref a66)).bind fun h70 => jl_newa h70 3 301 fun a72 h73 => (jm_pf h73 p0 12 22 2 (.ref a72)).bind fun h76 => jl_newa h76 0 4000 fun a78 h79 => (jm_pf h79 p0 12 23 2 (.ref a78)).bind fun h82 => jl_newa h82 0 301 fun a84 h85 => (jm_pf h85 p0 12 25 2 (.ref a84)).bind fun h88 => jl_newa h88 0 301 fun a90 h91 => (jm_pf h91 p0 12 26 2 (.ref a90)).bind fun h94 => jl_newa h94 0 800 fun a96 h97 => (jm_pf h97 p0 12 27 2 (.ref a96)).bind fun h100 => some (.inl none, h100)) (fun _ _ => none)))) = some r) : jm_D (d + 1) mX13_init [.ref p0] h = some r := by
  rw [jm_D_body (Nat.le_of_ble_eq_true rfl)]
  show jm_B d mX13_init (0, [some (.ref p0)], []) h = some r
  refine Eq.trans (jb_nx (i := .aload_n 0) (n := 1) (q := (1, [some (.ref p0)], [.ref p0])) (jq qX13_init 0 rfl) rfl) ?_
  obtain ⟨u1, H⟩ := jm_U_inv H
  refine Eq.trans (jb_nx (i := .invokespecial 1) (n := 3) (q := (4, [some (.ref p0)], [])) (jq qX13_init 1 rfl) (jo_oi (z := mX3_clear) rfl (Nat.le_of_ble_eq_true rfl) u1)) ?_
  refine Eq.trans (jb_nx (i := .aload_n 0) (n := 1) (q := (5, [some (.ref p0)], [.ref p0])) (jq qX13_init 2 rfl) rfl) ?_
  refine Eq.trans (jb_nx (i := .sipush 2000) (n := 3) (q := (8, [some (.ref p0)], [.int 2000, .ref p0])) (jq qX13_init 3 rfl) rfl) ?_
  obtain ⟨a2, h3, e4, e5, H⟩ := jl_newa_inv H
  refine Eq.trans (jb_nx (i := .newarray .int) (n := 2) (q := (10, [some (.ref p0)], [.ref a2, .ref p0])) (jq qX13_init 4 rfl) (jo_newb rfl e4 e5)) ?_
  obtain ⟨h6, e7, H⟩ := jbd H
  refine Eq.trans (jb_nx (i := .putfield 9) (n := 3) (q := (13, [some (.ref p0)], [])) (jq qX13_init 5 rfl) (jo_pf rfl (Or.inr ⟨rfl, rfl⟩) e7)) ?_
  refine Eq.trans (jb_nx (i := .aload_n 0) (n := 1) (q := (14, [some (.ref p0)], [.ref p0])) (jq qX13_init 6 rfl) rfl) ?_
  refine Eq.trans (jb_nx (i := .iconst (-1)) (n := 1) (q := (15, [some (.ref p0)], [.int (-1), .ref p0])) (jq qX13_init 7 rfl) rfl) ?_
  obtain ⟨h8, e9, H⟩ := jbd H
  refine Eq.trans (jb_nx (i := .putfield 13) (n := 3) (q := (18, [some (.ref p0)], [])) (jq qX13_init 8 rfl) (jo_pf rfl (Or.inl rfl) e9)) ?_
  refine Eq.trans (jb_nx (i := .aload_n 0) (n := 1) (q := (19, [some (.ref p0)], [.ref p0])) (jq qX13_init 9 rfl) rfl) ?_
  obtain ⟨a10, h11, e12, e13, H⟩ := jl_new_inv H
  refine Eq.trans (jb_nx (i := .new 17) (n := 3) (q := (22, [some (.ref p0)], [.ref a10, .ref p0])) (jq qX13_init 10 rfl) (jo_newo rfl (by decide) rfl rfl e12 e13)) ?_
  refine Eq.trans (jb_nx (i := .dup) (n := 1) (q := (23, [some (.ref p0)], [.ref a10, .ref a10, .ref p0])) (jq qX13_init 11 rfl) rfl) ?_
  obtain ⟨u102, H⟩ := jm_U_inv H
  rcases jcV H with ⟨h14, r15, H⟩ | ⟨_, _, _, H⟩
  · refine Eq.trans (jb_nx (i := .invokespecial 19) (n := 3) (q := (26, [some (.ref p0)], [.ref a10, .ref p0])) (jq qX13_init 12 rfl) (jo_ci (y := mX12_init) (w := 3) (by decide) rfl (Nat.le_of_ble_eq_true rfl) rfl (Nat.le_of_ble_eq_true rfl) u102 rfl r15)) ?_
    obtain ⟨h16, e17, H⟩ := jbd H
    refine Eq.trans (jb_nx (i := .putfield 20) (n := 3) (q := (29, [some (.ref p0)], [])) (jq qX13_init 13 rfl) (jo_pf rfl (Or.inl rfl) e17)) ?_
    refine Eq.trans (jb_nx (i := .aload_n 0) (n := 1) (q := (30, [some (.ref p0)], [.ref p0])) (jq qX13_init 14 rfl) rfl) ?_
    refine Eq.trans (jb_nx (i := .sipush 1800) (n := 3) (q := (33, [some (.ref p0)], [.int 1800, .ref p0])) (jq qX13_init 15 rfl) rfl) ?_
    obtain ⟨a18, h19, e20, e21, H⟩ := jl_newa_inv H
    refine Eq.trans (jb_nx (i := .newarray .long) (n := 2) (q := (35, [some (.ref p0)], [.ref a18, .ref p0])) (jq qX13_init 16 rfl) (jo_newb rfl e20 e21)) ?_
    obtain ⟨h22, e23, H⟩ := jbd H
    refine Eq.trans (jb_nx (i := .putfield 24) (n := 3) (q := (38, [some (.ref p0)], [])) (jq qX13_init 17 rfl) (jo_pf rfl (Or.inr ⟨rfl, rfl⟩) e23)) ?_
    refine Eq.trans (jb_nx (i := .aload_n 0) (n := 1) (q := (39, [some (.ref p0)], [.ref p0])) (jq qX13_init 18 rfl) rfl) ?_
    refine Eq.trans (jb_nx (i := .bipush 12) (n := 2) (q := (41, [some (.ref p0)], [.int 12, .ref p0])) (jq qX13_init 19 rfl) rfl) ?_
    obtain ⟨a24, h25, e26, e27, H⟩ := jl_newa_inv H
    refine Eq.trans (jb_nx (i := .newarray .int) (n := 2) (q := (43, [some (.ref p0)], [.ref a24, .ref p0])) (jq qX13_init 20 rfl) (jo_newb rfl e26 e27)) ?_
    obtain ⟨h28, e29, H⟩ := jbd H
    refine Eq.trans (jb_nx (i := .putfield 28) (n := 3) (q := (46, [some (.ref p0)], [])) (jq qX13_init 21 rfl) (jo_pf rfl (Or.inr ⟨rfl, rfl⟩) e29)) ?_
    refine Eq.trans (jb_nx (i := .aload_n 0) (n := 1) (q := (47, [some (.ref p0)], [.ref p0])) (jq qX13_init 22 rfl) rfl) ?_
    refine Eq.trans (jb_nx (i := .bipush 12) (n := 2) (q := (49, [some (.ref p0)], [.int 12, .ref p0])) (jq qX13_init 23 rfl) rfl) ?_
    obtain ⟨a30, h31, e32, e33, H⟩ := jl_newa_inv H
    refine Eq.trans (jb_nx (i := .newarray .int) (n := 2) (q := (51, [some (.ref p0)], [.ref a30, .ref p0])) (jq qX13_init 24 rfl) (jo_newb rfl e32 e33)) ?_
    obtain ⟨h34, e35, H⟩ := jbd H
    refine Eq.trans (jb_nx (i := .putfield 31) (n := 3) (q := (54, [some (.ref p0)], [])) (jq qX13_init 25 rfl) (jo_pf rfl (Or.inr ⟨rfl, rfl⟩) e35)) ?_
    refine Eq.trans (jb_nx (i := .aload_n 0) (n := 1) (q := (55, [some (.ref p0)], [.ref p0])) (jq qX13_init 26 rfl) rfl) ?_
    refine Eq.trans (jb_nx (i := .sipush 1800) (n := 3) (q := (58, [some (.ref p0)], [.int 1800, .ref p0])) (jq qX13_init 27 rfl) rfl) ?_
    obtain ⟨a36, h37, e38, e39, H⟩ := jl_newa_inv H
    refine Eq.trans (jb_nx (i := .newarray .long) (n := 2) (q := (60, [some (.ref p0)], [.ref a36, .ref p0])) (jq qX13_init 28 rfl) (jo_newb rfl e38 e39)) ?_
    obtain ⟨h40, e41, H⟩ := jbd H
    refine Eq.trans (jb_nx (i := .putfield 34) (n := 3) (q := (63, [some (.ref p0)], [])) (jq qX13_init 29 rfl) (jo_pf rfl (Or.inr ⟨rfl, rfl⟩) e41)) ?_
    refine Eq.trans (jb_nx (i := .aload_n 0) (n := 1) (q := (64, [some (.ref p0)], [.ref p0])) (jq qX13_init 30 rfl) rfl) ?_
    refine Eq.trans (jb_nx (i := .bipush 12) (n := 2) (q := (66, [some (.ref p0)], [.int 12, .ref p0])) (jq qX13_init 31 rfl) rfl) ?_
    obtain ⟨a42, h43, e44, e45, H⟩ := jl_newa_inv H
    refine Eq.trans (jb_nx (i := .newarray .int) (n := 2) (q := (68, [some (.ref p0)], [.ref a42, .ref p0])) (jq qX13_init 32 rfl) (jo_newb rfl e44 e45)) ?_
    obtain ⟨h46, e47, H⟩ := jbd H
    refine Eq.trans (jb_nx (i := .putfield 37) (n := 3) (q := (71, [some (.ref p0)], [])) (jq qX13_init 33 rfl) (jo_pf rfl (Or.inr ⟨rfl, rfl⟩) e47)) ?_
    refine Eq.trans (jb_nx (i := .aload_n 0) (n := 1) (q := (72, [some (.ref p0)], [.ref p0])) (jq qX13_init 34 rfl) rfl) ?_
    refine Eq.trans (jb_nx (i := .bipush 12) (n := 2) (q := (74, [some (.ref p0)], [.int 12, .ref p0])) (jq qX13_init 35 rfl) rfl) ?_
    obtain ⟨a48, h49, e50, e51, H⟩ := jl_newa_inv H
    refine Eq.trans (jb_nx (i := .newarray .int) (n := 2) (q := (76, [some (.ref p0)], [.ref a48, .ref p0])) (jq qX13_init 36 rfl) (jo_newb rfl e50 e51)) ?_
    obtain ⟨h52, e53, H⟩ := jbd H
    refine Eq.trans (jb_nx (i := .putfield 40) (n := 3) (q := (79, [some (.ref p0)], [])) (jq qX13_init 37 rfl) (jo_pf rfl (Or.inr ⟨rfl, rfl⟩) e53)) ?_
    refine Eq.trans (jb_nx (i := .aload_n 0) (n := 1) (q := (80, [some (.ref p0)], [.ref p0])) (jq qX13_init 38 rfl) rfl) ?_
    refine Eq.trans (jb_nx (i := .sipush 301) (n := 3) (q := (83, [some (.ref p0)], [.int 301, .ref p0])) (jq qX13_init 39 rfl) rfl) ?_
    obtain ⟨a54, h55, e56, e57, H⟩ := jl_newa_inv H
    refine Eq.trans (jb_nx (i := .newarray .long) (n := 2) (q := (85, [some (.ref p0)], [.ref a54, .ref p0])) (jq qX13_init 40 rfl) (jo_newb rfl e56 e57)) ?_
    obtain ⟨h58, e59, H⟩ := jbd H
    refine Eq.trans (jb_nx (i := .putfield 43) (n := 3) (q := (88, [some (.ref p0)], [])) (jq qX13_init 41 rfl) (jo_pf rfl (Or.inr ⟨rfl, rfl⟩) e59)) ?_
    refine Eq.trans (jb_nx (i := .aload_n 0) (n := 1) (q := (89, [some (.ref p0)], [.ref p0])) (jq qX13_init 42 rfl) rfl) ?_
    refine Eq.trans (jb_nx (i := .sipush 301) (n := 3) (q := (92, [some (.ref p0)], [.int 301, .ref p0])) (jq qX13_init 43 rfl) rfl) ?_
    obtain ⟨a60, h61, e62, e63, H⟩ := jl_newa_inv H
    refine Eq.trans (jb_nx (i := .newarray .long) (n := 2) (q := (94, [some (.ref p0)], [.ref a60, .ref p0])) (jq qX13_init 44 rfl) (jo_newb rfl e62 e63)) ?_
    obtain ⟨h64, e65, H⟩ := jbd H
    refine Eq.trans (jb_nx (i := .putfield 46) (n := 3) (q := (97, [some (.ref p0)], [])) (jq qX13_init 45 rfl) (jo_pf rfl (Or.inr ⟨rfl, rfl⟩) e65)) ?_
    refine Eq.trans (jb_nx (i := .aload_n 0) (n := 1) (q := (98, [some (.ref p0)], [.ref p0])) (jq qX13_init 46 rfl) rfl) ?_
    refine Eq.trans (jb_nx (i := .sipush 301) (n := 3) (q := (101, [some (.ref p0)], [.int 301, .ref p0])) (jq qX13_init 47 rfl) rfl) ?_
    obtain ⟨a66, h67, e68, e69, H⟩ := jl_newa_inv H
    refine Eq.trans (jb_nx (i := .newarray .long) (n := 2) (q := (103, [some (.ref p0)], [.ref a66, .ref p0])) (jq qX13_init 48 rfl) (jo_newb rfl e68 e69)) ?_
    obtain ⟨h70, e71, H⟩ := jbd H
    refine Eq.trans (jb_nx (i := .putfield 49) (n := 3) (q := (106, [some (.ref p0)], [])) (jq qX13_init 49 rfl) (jo_pf rfl (Or.inr ⟨rfl, rfl⟩) e71)) ?_
    refine Eq.trans (jb_nx (i := .aload_n 0) (n := 1) (q := (107, [some (.ref p0)], [.ref p0])) (jq qX13_init 50 rfl) rfl) ?_
    refine Eq.trans (jb_nx (i := .sipush 301) (n := 3) (q := (110, [some (.ref p0)], [.int 301, .ref p0])) (jq qX13_init 51 rfl) rfl) ?_
    obtain ⟨a72, h73, e74, e75, H⟩ := jl_newa_inv H
    refine Eq.trans (jb_nx (i := .newarray .boolean) (n := 2) (q := (112, [some (.ref p0)], [.ref a72, .ref p0])) (jq qX13_init 52 rfl) (jo_newb rfl e74 e75)) ?_
    obtain ⟨h76, e77, H⟩ := jbd H
    refine Eq.trans (jb_nx (i := .putfield 52) (n := 3) (q := (115, [some (.ref p0)], [])) (jq qX13_init 53 rfl) (jo_pf rfl (Or.inr ⟨rfl, rfl⟩) e77)) ?_
    refine Eq.trans (jb_nx (i := .aload_n 0) (n := 1) (q := (116, [some (.ref p0)], [.ref p0])) (jq qX13_init 54 rfl) rfl) ?_
    refine Eq.trans (jb_nx (i := .sipush 4000) (n := 3) (q := (119, [some (.ref p0)], [.int 4000, .ref p0])) (jq qX13_init 55 rfl) rfl) ?_
    obtain ⟨a78, h79, e80, e81, H⟩ := jl_newa_inv H
    refine Eq.trans (jb_nx (i := .newarray .int) (n := 2) (q := (121, [some (.ref p0)], [.ref a78, .ref p0])) (jq qX13_init 56 rfl) (jo_newb rfl e80 e81)) ?_
    obtain ⟨h82, e83, H⟩ := jbd H
    refine Eq.trans (jb_nx (i := .putfield 56) (n := 3) (q := (124, [some (.ref p0)], [])) (jq qX13_init 57 rfl) (jo_pf rfl (Or.inr ⟨rfl, rfl⟩) e83)) ?_
    refine Eq.trans (jb_nx (i := .aload_n 0) (n := 1) (q := (125, [some (.ref p0)], [.ref p0])) (jq qX13_init 58 rfl) rfl) ?_
    refine Eq.trans (jb_nx (i := .sipush 301) (n := 3) (q := (128, [some (.ref p0)], [.int 301, .ref p0])) (jq qX13_init 59 rfl) rfl) ?_
    obtain ⟨a84, h85, e86, e87, H⟩ := jl_newa_inv H
    refine Eq.trans (jb_nx (i := .newarray .int) (n := 2) (q := (130, [some (.ref p0)], [.ref a84, .ref p0])) (jq qX13_init 60 rfl) (jo_newb rfl e86 e87)) ?_
    obtain ⟨h88, e89, H⟩ := jbd H
    refine Eq.trans (jb_nx (i := .putfield 59) (n := 3) (q := (133, [some (.ref p0)], [])) (jq qX13_init 61 rfl) (jo_pf rfl (Or.inr ⟨rfl, rfl⟩) e89)) ?_
    refine Eq.trans (jb_nx (i := .aload_n 0) (n := 1) (q := (134, [some (.ref p0)], [.ref p0])) (jq qX13_init 62 rfl) rfl) ?_
    refine Eq.trans (jb_nx (i := .sipush 301) (n := 3) (q := (137, [some (.ref p0)], [.int 301, .ref p0])) (jq qX13_init 63 rfl) rfl) ?_
    obtain ⟨a90, h91, e92, e93, H⟩ := jl_newa_inv H
    refine Eq.trans (jb_nx (i := .newarray .int) (n := 2) (q := (139, [some (.ref p0)], [.ref a90, .ref p0])) (jq qX13_init 64 rfl) (jo_newb rfl e92 e93)) ?_
    obtain ⟨h94, e95, H⟩ := jbd H
    refine Eq.trans (jb_nx (i := .putfield 62) (n := 3) (q := (142, [some (.ref p0)], [])) (jq qX13_init 65 rfl) (jo_pf rfl (Or.inr ⟨rfl, rfl⟩) e95)) ?_
    refine Eq.trans (jb_nx (i := .aload_n 0) (n := 1) (q := (143, [some (.ref p0)], [.ref p0])) (jq qX13_init 66 rfl) rfl) ?_
    refine Eq.trans (jb_nx (i := .sipush 800) (n := 3) (q := (146, [some (.ref p0)], [.int 800, .ref p0])) (jq qX13_init 67 rfl) rfl) ?_
    obtain ⟨a96, h97, e98, e99, H⟩ := jl_newa_inv H
    refine Eq.trans (jb_nx (i := .newarray .int) (n := 2) (q := (148, [some (.ref p0)], [.ref a96, .ref p0])) (jq qX13_init 68 rfl) (jo_newb rfl e98 e99)) ?_
    obtain ⟨h100, e101, H⟩ := jbd H
    refine Eq.trans (jb_nx (i := .putfield 65) (n := 3) (q := (151, [some (.ref p0)], [])) (jq qX13_init 69 rfl) (jo_pf rfl (Or.inr ⟨rfl, rfl⟩) e101)) ?_
    exact Eq.trans (jb_rt (i := .return_) (n := 1) (jq qX13_init 70 rfl) rfl) H
  · cases H
/-! MaskPlaysModel thrown ()I -/
def tX13_thrown : List (Nat × Instr × Nat) := [(0, .aload_n 0, 1), (1, .getfield 68, 3), (4, .ireturn, 1)]
set_option maxRecDepth 100000 in
theorem qX13_thrown : ∀ q ∈ tX13_thrown, decode cX13_thrown q.1 = .ok (q.2.1, q.2.2) := by decide +kernel
theorem gX13_thrown {d : Nat} {p0 : Nat} {h : jm_H} {r : jm_R} (H : ((jr_I h p0 12 0 0).bind fun x1 => some (.inl (some (.int x1)), h)) = some r) : jm_D (d + 1) mX13_thrown [.ref p0] h = some r := by
  rw [jm_D_body (Nat.le_of_ble_eq_true rfl)]
  show jm_B d mX13_thrown (0, [some (.ref p0)], []) h = some r
  refine Eq.trans (jb_nx (i := .aload_n 0) (n := 1) (q := (1, [some (.ref p0)], [.ref p0])) (jq qX13_thrown 0 rfl) rfl) ?_
  obtain ⟨x1, e2, H⟩ := jbd H
  refine Eq.trans (jb_nx (i := .getfield 68) (n := 3) (q := (4, [some (.ref p0)], [.int x1])) (jq qX13_thrown 1 rfl) (jo_gf rfl (jr_I_inv e2))) ?_
  exact Eq.trans (jb_rt (i := .ireturn) (n := 1) (jq qX13_thrown 2 rfl) (jo_iret rfl rfl)) H
/-! MaskPlaysModel feed (IIIII)I -/
def tX13_feed : List (Nat × Instr × Nat) := [(0, .aload_n 0, 1), (1, .iconst 0, 1), (2, .putfield 68, 3), (5, .aload_n 0, 1), (6, .getfield 291, 3), (9, .sipush 1980, 3), (12, .if_icmp .le 9, 3), (15, .aload_n 0, 1), (16, .iconst 1, 1), (17, .invokevirtual 463, 3), (20, .ireturn, 1), (21, .iconst 5, 1), (22, .newarray .int, 2), (24, .dup, 1), (25, .iconst 0, 1), (26, .iload_n 1, 1), (27, .iastore, 1), (28, .dup, 1), (29, .iconst 1, 1), (30, .iload_n 2, 1), (31, .iastore, 1), (32, .dup, 1), (33, .iconst 2, 1), (34, .iload_n 3, 1), (35, .iastore, 1), (36, .dup, 1), (37, .iconst 3, 1), (38, .iload 4, 2), (40, .iastore, 1), (41, .dup, 1), (42, .iconst 4, 1), (43, .iload 5, 2), (45, .iastore, 1), (46, .astore 6, 2), (48, .iconst 0, 1), (49, .istore 7, 2), (51, .iload 7, 2), (53, .bipush 20, 2), (55, .if_icmp .ge 43, 3), (58, .aload_n 0, 1), (59, .getfield 9, 3), (62, .aload_n 0, 1), (63, .getfield 291, 3), (66, .iload 7, 2), (68, .iadd, 1), (69, .aload 6, 2), (71, .iload 7, 2), (73, .iconst 4, 1), (74, .idiv, 1), (75, .iaload, 1), (76, .bipush 24, 2), (78, .bipush 8, 2), (80, .iload 7, 2), (82, .iconst 4, 1), (83, .irem, 1), (84, .imul, 1), (85, .isub, 1), (86, .ishr, 1), (87, .sipush 255, 3), (90, .iand, 1), (91, .iastore, 1), (92, .iinc 7 1, 3), (95, .goto (-44), 3), (98, .aload_n 0, 1), (99, .dup, 1), (100, .getfield 291, 3), (103, .bipush 20, 2), (105, .iadd, 1), (106, .putfield 291, 3), (109, .aload_n 0, 1), (110, .getfield 291, 3), (113, .ireturn, 1)]
set_option maxRecDepth 100000 in
theorem qX13_feed : ∀ q ∈ tX13_feed, decode cX13_feed q.1 = .ok (q.2.1, q.2.2) := by decide +kernel
noncomputable def kX13_feed_51 (d : Nat) (p0 : Nat) (o1 : Option Value) (o2 : Option Value) (o3 : Option Value) (o4 : Option Value) (o5 : Option Value) (p6 : Nat) (i7 : Int32) (h : jm_H) : Option jm_R := jm_B d mX13_feed (51, [some (.ref p0), o1, o2, o3, o4, o5, some (.ref p6), some (.int i7)], []) h
theorem gX13_feed_51 {d : Nat} {p0 : Nat} {o1 : Option Value} {o2 : Option Value} {o3 : Option Value} {o4 : Option Value} {o5 : Option Value} {p6 : Nat} {i7 : Int32} {h : jm_H} {r : jm_R} (H : ((if i7 < 20 then (jr_R h p0 12 1 2).bind fun a33 => (jr_I h p0 12 2 0).bind fun x35 => (jm_ali h p6 0 (i7 / 4)).bind fun x37 => (jm_asi h a33 0 (x35 + i7) ((x37 >>> ((24 - (8 * (i7 - i7 / 4 * 4))) &&& 31)) &&& 255)).bind fun h39 => kX13_feed_51 d p0 o1 o2 o3 o4 o5 p6 (i7 + 1) h39 else (jr_I h p0 12 2 0).bind fun x27 => (jm_pf h p0 12 2 0 (.int (x27 + 20))).bind fun h29 => (jr_I h29 p0 12 2 0).bind fun x31 => some (.inl (some (.int x31)), h29))) = some r) : kX13_feed_51 d p0 o1 o2 o3 o4 o5 p6 i7 h = some r := by
  show jm_B d mX13_feed (51, [some (.ref p0), o1, o2, o3, o4, o5, some (.ref p6), some (.int i7)], []) h = some r
  refine Eq.trans (jb_nx (i := .iload 7) (n := 2) (q := (53, [some (.ref p0), o1, o2, o3, o4, o5, some (.ref p6), some (.int i7)], [.int i7])) (jq qX13_feed 36 rfl) rfl) ?_
  refine Eq.trans (jb_nx (i := .bipush 20) (n := 2) (q := (55, [some (.ref p0), o1, o2, o3, o4, o5, some (.ref p6), some (.int i7)], [.int 20, .int i7])) (jq qX13_feed 37 rfl) rfl) ?_
  by_cases c26 : i7 < 20
  · rw [if_pos c26] at H
    refine Eq.trans (jb_nx (i := .if_icmp .ge 43) (n := 3) (q := (58, [some (.ref p0), o1, o2, o3, o4, o5, some (.ref p6), some (.int i7)], [])) (jq qX13_feed 38 rfl) (jo_icF (jz_geF c26))) ?_
    refine Eq.trans (jb_nx (i := .aload_n 0) (n := 1) (q := (59, [some (.ref p0), o1, o2, o3, o4, o5, some (.ref p6), some (.int i7)], [.ref p0])) (jq qX13_feed 39 rfl) rfl) ?_
    obtain ⟨a33, e34, H⟩ := jbd H
    refine Eq.trans (jb_nx (i := .getfield 9) (n := 3) (q := (62, [some (.ref p0), o1, o2, o3, o4, o5, some (.ref p6), some (.int i7)], [.ref a33])) (jq qX13_feed 40 rfl) (jo_gf rfl (jr_R_inv e34))) ?_
    refine Eq.trans (jb_nx (i := .aload_n 0) (n := 1) (q := (63, [some (.ref p0), o1, o2, o3, o4, o5, some (.ref p6), some (.int i7)], [.ref p0, .ref a33])) (jq qX13_feed 41 rfl) rfl) ?_
    obtain ⟨x35, e36, H⟩ := jbd H
    refine Eq.trans (jb_nx (i := .getfield 291) (n := 3) (q := (66, [some (.ref p0), o1, o2, o3, o4, o5, some (.ref p6), some (.int i7)], [.int x35, .ref a33])) (jq qX13_feed 42 rfl) (jo_gf rfl (jr_I_inv e36))) ?_
    refine Eq.trans (jb_nx (i := .iload 7) (n := 2) (q := (68, [some (.ref p0), o1, o2, o3, o4, o5, some (.ref p6), some (.int i7)], [.int i7, .int x35, .ref a33])) (jq qX13_feed 43 rfl) rfl) ?_
    refine Eq.trans (jb_nx (i := .iadd) (n := 1) (q := (69, [some (.ref p0), o1, o2, o3, o4, o5, some (.ref p6), some (.int i7)], [.int (x35 + i7), .ref a33])) (jq qX13_feed 44 rfl) rfl) ?_
    refine Eq.trans (jb_nx (i := .aload 6) (n := 2) (q := (71, [some (.ref p0), o1, o2, o3, o4, o5, some (.ref p6), some (.int i7)], [.ref p6, .int (x35 + i7), .ref a33])) (jq qX13_feed 45 rfl) rfl) ?_
    refine Eq.trans (jb_nx (i := .iload 7) (n := 2) (q := (73, [some (.ref p0), o1, o2, o3, o4, o5, some (.ref p6), some (.int i7)], [.int i7, .ref p6, .int (x35 + i7), .ref a33])) (jq qX13_feed 46 rfl) rfl) ?_
    refine Eq.trans (jb_nx (i := .iconst 4) (n := 1) (q := (74, [some (.ref p0), o1, o2, o3, o4, o5, some (.ref p6), some (.int i7)], [.int 4, .int i7, .ref p6, .int (x35 + i7), .ref a33])) (jq qX13_feed 47 rfl) rfl) ?_
    refine Eq.trans (jb_nx (i := .idiv) (n := 1) (q := (75, [some (.ref p0), o1, o2, o3, o4, o5, some (.ref p6), some (.int i7)], [.int (i7 / 4), .ref p6, .int (x35 + i7), .ref a33])) (jq qX13_feed 48 rfl) (jo_idiv (by decide))) ?_
    obtain ⟨x37, e38, H⟩ := jbd H
    refine Eq.trans (jb_nx (i := .iaload) (n := 1) (q := (76, [some (.ref p0), o1, o2, o3, o4, o5, some (.ref p6), some (.int i7)], [.int x37, .int (x35 + i7), .ref a33])) (jq qX13_feed 49 rfl) (jo_ial e38)) ?_
    refine Eq.trans (jb_nx (i := .bipush 24) (n := 2) (q := (78, [some (.ref p0), o1, o2, o3, o4, o5, some (.ref p6), some (.int i7)], [.int 24, .int x37, .int (x35 + i7), .ref a33])) (jq qX13_feed 50 rfl) rfl) ?_
    refine Eq.trans (jb_nx (i := .bipush 8) (n := 2) (q := (80, [some (.ref p0), o1, o2, o3, o4, o5, some (.ref p6), some (.int i7)], [.int 8, .int 24, .int x37, .int (x35 + i7), .ref a33])) (jq qX13_feed 51 rfl) rfl) ?_
    refine Eq.trans (jb_nx (i := .iload 7) (n := 2) (q := (82, [some (.ref p0), o1, o2, o3, o4, o5, some (.ref p6), some (.int i7)], [.int i7, .int 8, .int 24, .int x37, .int (x35 + i7), .ref a33])) (jq qX13_feed 52 rfl) rfl) ?_
    refine Eq.trans (jb_nx (i := .iconst 4) (n := 1) (q := (83, [some (.ref p0), o1, o2, o3, o4, o5, some (.ref p6), some (.int i7)], [.int 4, .int i7, .int 8, .int 24, .int x37, .int (x35 + i7), .ref a33])) (jq qX13_feed 53 rfl) rfl) ?_
    refine Eq.trans (jb_nx (i := .irem) (n := 1) (q := (84, [some (.ref p0), o1, o2, o3, o4, o5, some (.ref p6), some (.int i7)], [.int (i7 - i7 / 4 * 4), .int 8, .int 24, .int x37, .int (x35 + i7), .ref a33])) (jq qX13_feed 54 rfl) (jo_irem (by decide))) ?_
    refine Eq.trans (jb_nx (i := .imul) (n := 1) (q := (85, [some (.ref p0), o1, o2, o3, o4, o5, some (.ref p6), some (.int i7)], [.int (8 * (i7 - i7 / 4 * 4)), .int 24, .int x37, .int (x35 + i7), .ref a33])) (jq qX13_feed 55 rfl) rfl) ?_
    refine Eq.trans (jb_nx (i := .isub) (n := 1) (q := (86, [some (.ref p0), o1, o2, o3, o4, o5, some (.ref p6), some (.int i7)], [.int (24 - (8 * (i7 - i7 / 4 * 4))), .int x37, .int (x35 + i7), .ref a33])) (jq qX13_feed 56 rfl) rfl) ?_
    refine Eq.trans (jb_nx (i := .ishr) (n := 1) (q := (87, [some (.ref p0), o1, o2, o3, o4, o5, some (.ref p6), some (.int i7)], [.int (x37 >>> ((24 - (8 * (i7 - i7 / 4 * 4))) &&& 31)), .int (x35 + i7), .ref a33])) (jq qX13_feed 57 rfl) rfl) ?_
    refine Eq.trans (jb_nx (i := .sipush 255) (n := 3) (q := (90, [some (.ref p0), o1, o2, o3, o4, o5, some (.ref p6), some (.int i7)], [.int 255, .int (x37 >>> ((24 - (8 * (i7 - i7 / 4 * 4))) &&& 31)), .int (x35 + i7), .ref a33])) (jq qX13_feed 58 rfl) rfl) ?_
    refine Eq.trans (jb_nx (i := .iand) (n := 1) (q := (91, [some (.ref p0), o1, o2, o3, o4, o5, some (.ref p6), some (.int i7)], [.int ((x37 >>> ((24 - (8 * (i7 - i7 / 4 * 4))) &&& 31)) &&& 255), .int (x35 + i7), .ref a33])) (jq qX13_feed 59 rfl) rfl) ?_
    obtain ⟨h39, e40, H⟩ := jbd H
    refine Eq.trans (jb_nx (i := .iastore) (n := 1) (q := (92, [some (.ref p0), o1, o2, o3, o4, o5, some (.ref p6), some (.int i7)], [])) (jq qX13_feed 60 rfl) (jo_ias e40)) ?_
    refine Eq.trans (jb_nx (i := .iinc 7 1) (n := 3) (q := (95, [some (.ref p0), o1, o2, o3, o4, o5, some (.ref p6), some (.int (i7 + 1))], [])) (jq qX13_feed 61 rfl) rfl) ?_
    refine Eq.trans (jb_nx (i := .goto (-44)) (n := 3) (q := (51, [some (.ref p0), o1, o2, o3, o4, o5, some (.ref p6), some (.int (i7 + 1))], [])) (jq qX13_feed 62 rfl) rfl) ?_
    exact H
  · rw [if_neg c26] at H
    refine Eq.trans (jb_nx (i := .if_icmp .ge 43) (n := 3) (q := (98, [some (.ref p0), o1, o2, o3, o4, o5, some (.ref p6), some (.int i7)], [])) (jq qX13_feed 38 rfl) (jo_icT (jz_geT c26) rfl)) ?_
    refine Eq.trans (jb_nx (i := .aload_n 0) (n := 1) (q := (99, [some (.ref p0), o1, o2, o3, o4, o5, some (.ref p6), some (.int i7)], [.ref p0])) (jq qX13_feed 63 rfl) rfl) ?_
    refine Eq.trans (jb_nx (i := .dup) (n := 1) (q := (100, [some (.ref p0), o1, o2, o3, o4, o5, some (.ref p6), some (.int i7)], [.ref p0, .ref p0])) (jq qX13_feed 64 rfl) rfl) ?_
    obtain ⟨x27, e28, H⟩ := jbd H
    refine Eq.trans (jb_nx (i := .getfield 291) (n := 3) (q := (103, [some (.ref p0), o1, o2, o3, o4, o5, some (.ref p6), some (.int i7)], [.int x27, .ref p0])) (jq qX13_feed 65 rfl) (jo_gf rfl (jr_I_inv e28))) ?_
    refine Eq.trans (jb_nx (i := .bipush 20) (n := 2) (q := (105, [some (.ref p0), o1, o2, o3, o4, o5, some (.ref p6), some (.int i7)], [.int 20, .int x27, .ref p0])) (jq qX13_feed 66 rfl) rfl) ?_
    refine Eq.trans (jb_nx (i := .iadd) (n := 1) (q := (106, [some (.ref p0), o1, o2, o3, o4, o5, some (.ref p6), some (.int i7)], [.int (x27 + 20), .ref p0])) (jq qX13_feed 67 rfl) rfl) ?_
    obtain ⟨h29, e30, H⟩ := jbd H
    refine Eq.trans (jb_nx (i := .putfield 291) (n := 3) (q := (109, [some (.ref p0), o1, o2, o3, o4, o5, some (.ref p6), some (.int i7)], [])) (jq qX13_feed 68 rfl) (jo_pf rfl (Or.inl rfl) e30)) ?_
    refine Eq.trans (jb_nx (i := .aload_n 0) (n := 1) (q := (110, [some (.ref p0), o1, o2, o3, o4, o5, some (.ref p6), some (.int i7)], [.ref p0])) (jq qX13_feed 69 rfl) rfl) ?_
    obtain ⟨x31, e32, H⟩ := jbd H
    refine Eq.trans (jb_nx (i := .getfield 291) (n := 3) (q := (113, [some (.ref p0), o1, o2, o3, o4, o5, some (.ref p6), some (.int i7)], [.int x31])) (jq qX13_feed 70 rfl) (jo_gf rfl (jr_I_inv e32))) ?_
    exact Eq.trans (jb_rt (i := .ireturn) (n := 1) (jq qX13_feed 71 rfl) (jo_iret rfl rfl)) H
theorem gX13_feed {d : Nat} {p0 : Nat} {i1 : Int32} {i2 : Int32} {i3 : Int32} {i4 : Int32} {i5 : Int32} {h : jm_H} {r : jm_R} (H : ((jm_pf h p0 12 0 0 (.int 0)).bind fun h1 => (jr_I h1 p0 12 2 0).bind fun x3 => (if 1980 < x3 then jm_O h1 p0 13 (jc_I (jm_D d mX13_no [.ref p0, .int 1] h1) (fun x22 h20 => some (.inl (some (.int x22)), h20)) jx) else jl_newa h1 0 5 fun a6 h7 => (jm_asi h7 a6 0 0 i1).bind fun h10 => (jm_asi h10 a6 0 1 i2).bind fun h12 => (jm_asi h12 a6 0 2 i3).bind fun h14 => (jm_asi h14 a6 0 3 i4).bind fun h16 => (jm_asi h16 a6 0 4 i5).bind fun h18 => kX13_feed_51 d p0 (some (.int i1)) (some (.int i2)) (some (.int i3)) (some (.int i4)) (some (.int i5)) a6 0 h18)) = some r) : jm_D (d + 1) mX13_feed [.ref p0, .int i1, .int i2, .int i3, .int i4, .int i5] h = some r := by
  rw [jm_D_body (Nat.le_of_ble_eq_true rfl)]
  show jm_B d mX13_feed (0, [some (.ref p0), some (.int i1), some (.int i2), some (.int i3), some (.int i4), some (.int i5), none, none], []) h = some r
  refine Eq.trans (jb_nx (i := .aload_n 0) (n := 1) (q := (1, [some (.ref p0), some (.int i1), some (.int i2), some (.int i3), some (.int i4), some (.int i5), none, none], [.ref p0])) (jq qX13_feed 0 rfl) rfl) ?_
  refine Eq.trans (jb_nx (i := .iconst 0) (n := 1) (q := (2, [some (.ref p0), some (.int i1), some (.int i2), some (.int i3), some (.int i4), some (.int i5), none, none], [.int 0, .ref p0])) (jq qX13_feed 1 rfl) rfl) ?_
  obtain ⟨h1, e2, H⟩ := jbd H
  refine Eq.trans (jb_nx (i := .putfield 68) (n := 3) (q := (5, [some (.ref p0), some (.int i1), some (.int i2), some (.int i3), some (.int i4), some (.int i5), none, none], [])) (jq qX13_feed 2 rfl) (jo_pf rfl (Or.inl rfl) e2)) ?_
  refine Eq.trans (jb_nx (i := .aload_n 0) (n := 1) (q := (6, [some (.ref p0), some (.int i1), some (.int i2), some (.int i3), some (.int i4), some (.int i5), none, none], [.ref p0])) (jq qX13_feed 3 rfl) rfl) ?_
  obtain ⟨x3, e4, H⟩ := jbd H
  refine Eq.trans (jb_nx (i := .getfield 291) (n := 3) (q := (9, [some (.ref p0), some (.int i1), some (.int i2), some (.int i3), some (.int i4), some (.int i5), none, none], [.int x3])) (jq qX13_feed 4 rfl) (jo_gf rfl (jr_I_inv e4))) ?_
  refine Eq.trans (jb_nx (i := .sipush 1980) (n := 3) (q := (12, [some (.ref p0), some (.int i1), some (.int i2), some (.int i3), some (.int i4), some (.int i5), none, none], [.int 1980, .int x3])) (jq qX13_feed 5 rfl) rfl) ?_
  by_cases c5 : 1980 < x3
  · rw [if_pos c5] at H
    refine Eq.trans (jb_nx (i := .if_icmp .le 9) (n := 3) (q := (15, [some (.ref p0), some (.int i1), some (.int i2), some (.int i3), some (.int i4), some (.int i5), none, none], [])) (jq qX13_feed 6 rfl) (jo_icF (jz_leF c5))) ?_
    refine Eq.trans (jb_nx (i := .aload_n 0) (n := 1) (q := (16, [some (.ref p0), some (.int i1), some (.int i2), some (.int i3), some (.int i4), some (.int i5), none, none], [.ref p0])) (jq qX13_feed 7 rfl) rfl) ?_
    refine Eq.trans (jb_nx (i := .iconst 1) (n := 1) (q := (17, [some (.ref p0), some (.int i1), some (.int i2), some (.int i3), some (.int i4), some (.int i5), none, none], [.int 1, .ref p0])) (jq qX13_feed 8 rfl) rfl) ?_
    obtain ⟨b23, H⟩ := jm_O_inv H
    rcases jcI H with ⟨x22, h20, r21, H⟩ | ⟨w24, h25, r21, H⟩
    · refine Eq.trans (jb_nx (i := .invokevirtual 463) (n := 3) (q := (20, [some (.ref p0), some (.int i1), some (.int i2), some (.int i3), some (.int i4), some (.int i5), none, none], [.int x22])) (jq qX13_feed 9 rfl) (jo_cv (y := mX13_no) rfl (Nat.le_of_ble_eq_true rfl) rfl (Nat.le_of_ble_eq_true rfl) b23 rfl r21 jo_ret)) ?_
      exact Eq.trans (jb_rt (i := .ireturn) (n := 1) (jq qX13_feed 10 rfl) (jo_iret rfl rfl)) H
    · exact Eq.trans (jb_rt (i := .invokevirtual 463) (n := 3) (jq qX13_feed 9 rfl) (jo_cv (y := mX13_no) rfl (Nat.le_of_ble_eq_true rfl) rfl (Nat.le_of_ble_eq_true rfl) b23 rfl r21 (jo_exn rfl))) H
  · rw [if_neg c5] at H
    refine Eq.trans (jb_nx (i := .if_icmp .le 9) (n := 3) (q := (21, [some (.ref p0), some (.int i1), some (.int i2), some (.int i3), some (.int i4), some (.int i5), none, none], [])) (jq qX13_feed 6 rfl) (jo_icT (jz_leT c5) rfl)) ?_
    refine Eq.trans (jb_nx (i := .iconst 5) (n := 1) (q := (22, [some (.ref p0), some (.int i1), some (.int i2), some (.int i3), some (.int i4), some (.int i5), none, none], [.int 5])) (jq qX13_feed 11 rfl) rfl) ?_
    obtain ⟨a6, h7, e8, e9, H⟩ := jl_newa_inv H
    refine Eq.trans (jb_nx (i := .newarray .int) (n := 2) (q := (24, [some (.ref p0), some (.int i1), some (.int i2), some (.int i3), some (.int i4), some (.int i5), none, none], [.ref a6])) (jq qX13_feed 12 rfl) (jo_newb rfl e8 e9)) ?_
    refine Eq.trans (jb_nx (i := .dup) (n := 1) (q := (25, [some (.ref p0), some (.int i1), some (.int i2), some (.int i3), some (.int i4), some (.int i5), none, none], [.ref a6, .ref a6])) (jq qX13_feed 13 rfl) rfl) ?_
    refine Eq.trans (jb_nx (i := .iconst 0) (n := 1) (q := (26, [some (.ref p0), some (.int i1), some (.int i2), some (.int i3), some (.int i4), some (.int i5), none, none], [.int 0, .ref a6, .ref a6])) (jq qX13_feed 14 rfl) rfl) ?_
    refine Eq.trans (jb_nx (i := .iload_n 1) (n := 1) (q := (27, [some (.ref p0), some (.int i1), some (.int i2), some (.int i3), some (.int i4), some (.int i5), none, none], [.int i1, .int 0, .ref a6, .ref a6])) (jq qX13_feed 15 rfl) rfl) ?_
    obtain ⟨h10, e11, H⟩ := jbd H
    refine Eq.trans (jb_nx (i := .iastore) (n := 1) (q := (28, [some (.ref p0), some (.int i1), some (.int i2), some (.int i3), some (.int i4), some (.int i5), none, none], [.ref a6])) (jq qX13_feed 16 rfl) (jo_ias e11)) ?_
    refine Eq.trans (jb_nx (i := .dup) (n := 1) (q := (29, [some (.ref p0), some (.int i1), some (.int i2), some (.int i3), some (.int i4), some (.int i5), none, none], [.ref a6, .ref a6])) (jq qX13_feed 17 rfl) rfl) ?_
    refine Eq.trans (jb_nx (i := .iconst 1) (n := 1) (q := (30, [some (.ref p0), some (.int i1), some (.int i2), some (.int i3), some (.int i4), some (.int i5), none, none], [.int 1, .ref a6, .ref a6])) (jq qX13_feed 18 rfl) rfl) ?_
    refine Eq.trans (jb_nx (i := .iload_n 2) (n := 1) (q := (31, [some (.ref p0), some (.int i1), some (.int i2), some (.int i3), some (.int i4), some (.int i5), none, none], [.int i2, .int 1, .ref a6, .ref a6])) (jq qX13_feed 19 rfl) rfl) ?_
    obtain ⟨h12, e13, H⟩ := jbd H
    refine Eq.trans (jb_nx (i := .iastore) (n := 1) (q := (32, [some (.ref p0), some (.int i1), some (.int i2), some (.int i3), some (.int i4), some (.int i5), none, none], [.ref a6])) (jq qX13_feed 20 rfl) (jo_ias e13)) ?_
    refine Eq.trans (jb_nx (i := .dup) (n := 1) (q := (33, [some (.ref p0), some (.int i1), some (.int i2), some (.int i3), some (.int i4), some (.int i5), none, none], [.ref a6, .ref a6])) (jq qX13_feed 21 rfl) rfl) ?_
    refine Eq.trans (jb_nx (i := .iconst 2) (n := 1) (q := (34, [some (.ref p0), some (.int i1), some (.int i2), some (.int i3), some (.int i4), some (.int i5), none, none], [.int 2, .ref a6, .ref a6])) (jq qX13_feed 22 rfl) rfl) ?_
    refine Eq.trans (jb_nx (i := .iload_n 3) (n := 1) (q := (35, [some (.ref p0), some (.int i1), some (.int i2), some (.int i3), some (.int i4), some (.int i5), none, none], [.int i3, .int 2, .ref a6, .ref a6])) (jq qX13_feed 23 rfl) rfl) ?_
    obtain ⟨h14, e15, H⟩ := jbd H
    refine Eq.trans (jb_nx (i := .iastore) (n := 1) (q := (36, [some (.ref p0), some (.int i1), some (.int i2), some (.int i3), some (.int i4), some (.int i5), none, none], [.ref a6])) (jq qX13_feed 24 rfl) (jo_ias e15)) ?_
    refine Eq.trans (jb_nx (i := .dup) (n := 1) (q := (37, [some (.ref p0), some (.int i1), some (.int i2), some (.int i3), some (.int i4), some (.int i5), none, none], [.ref a6, .ref a6])) (jq qX13_feed 25 rfl) rfl) ?_
    refine Eq.trans (jb_nx (i := .iconst 3) (n := 1) (q := (38, [some (.ref p0), some (.int i1), some (.int i2), some (.int i3), some (.int i4), some (.int i5), none, none], [.int 3, .ref a6, .ref a6])) (jq qX13_feed 26 rfl) rfl) ?_
    refine Eq.trans (jb_nx (i := .iload 4) (n := 2) (q := (40, [some (.ref p0), some (.int i1), some (.int i2), some (.int i3), some (.int i4), some (.int i5), none, none], [.int i4, .int 3, .ref a6, .ref a6])) (jq qX13_feed 27 rfl) rfl) ?_
    obtain ⟨h16, e17, H⟩ := jbd H
    refine Eq.trans (jb_nx (i := .iastore) (n := 1) (q := (41, [some (.ref p0), some (.int i1), some (.int i2), some (.int i3), some (.int i4), some (.int i5), none, none], [.ref a6])) (jq qX13_feed 28 rfl) (jo_ias e17)) ?_
    refine Eq.trans (jb_nx (i := .dup) (n := 1) (q := (42, [some (.ref p0), some (.int i1), some (.int i2), some (.int i3), some (.int i4), some (.int i5), none, none], [.ref a6, .ref a6])) (jq qX13_feed 29 rfl) rfl) ?_
    refine Eq.trans (jb_nx (i := .iconst 4) (n := 1) (q := (43, [some (.ref p0), some (.int i1), some (.int i2), some (.int i3), some (.int i4), some (.int i5), none, none], [.int 4, .ref a6, .ref a6])) (jq qX13_feed 30 rfl) rfl) ?_
    refine Eq.trans (jb_nx (i := .iload 5) (n := 2) (q := (45, [some (.ref p0), some (.int i1), some (.int i2), some (.int i3), some (.int i4), some (.int i5), none, none], [.int i5, .int 4, .ref a6, .ref a6])) (jq qX13_feed 31 rfl) rfl) ?_
    obtain ⟨h18, e19, H⟩ := jbd H
    refine Eq.trans (jb_nx (i := .iastore) (n := 1) (q := (46, [some (.ref p0), some (.int i1), some (.int i2), some (.int i3), some (.int i4), some (.int i5), none, none], [.ref a6])) (jq qX13_feed 32 rfl) (jo_ias e19)) ?_
    refine Eq.trans (jb_nx (i := .astore 6) (n := 2) (q := (48, [some (.ref p0), some (.int i1), some (.int i2), some (.int i3), some (.int i4), some (.int i5), some (.ref a6), none], [])) (jq qX13_feed 33 rfl) rfl) ?_
    refine Eq.trans (jb_nx (i := .iconst 0) (n := 1) (q := (49, [some (.ref p0), some (.int i1), some (.int i2), some (.int i3), some (.int i4), some (.int i5), some (.ref a6), none], [.int 0])) (jq qX13_feed 34 rfl) rfl) ?_
    refine Eq.trans (jb_nx (i := .istore 7) (n := 2) (q := (51, [some (.ref p0), some (.int i1), some (.int i2), some (.int i3), some (.int i4), some (.int i5), some (.ref a6), some (.int 0)], [])) (jq qX13_feed 35 rfl) rfl) ?_
    exact H
/-! MaskPlaysModel no (I)I -/
def tX13_no : List (Nat × Instr × Nat) := [(0, .aload_n 0, 1), (1, .iload_n 1, 1), (2, .putfield 68, 3), (5, .iconst 0, 1), (6, .ireturn, 1)]
set_option maxRecDepth 100000 in
theorem qX13_no : ∀ q ∈ tX13_no, decode cX13_no q.1 = .ok (q.2.1, q.2.2) := by decide +kernel
theorem gX13_no {d : Nat} {p0 : Nat} {i1 : Int32} {h : jm_H} {r : jm_R} (H : ((jm_pf h p0 12 0 0 (.int i1)).bind fun h1 => some (.inl (some (.int 0)), h1)) = some r) : jm_D (d + 1) mX13_no [.ref p0, .int i1] h = some r := by
  rw [jm_D_body (Nat.le_of_ble_eq_true rfl)]
  show jm_B d mX13_no (0, [some (.ref p0), some (.int i1)], []) h = some r
  refine Eq.trans (jb_nx (i := .aload_n 0) (n := 1) (q := (1, [some (.ref p0), some (.int i1)], [.ref p0])) (jq qX13_no 0 rfl) rfl) ?_
  refine Eq.trans (jb_nx (i := .iload_n 1) (n := 1) (q := (2, [some (.ref p0), some (.int i1)], [.int i1, .ref p0])) (jq qX13_no 1 rfl) rfl) ?_
  obtain ⟨h1, e2, H⟩ := jbd H
  refine Eq.trans (jb_nx (i := .putfield 68) (n := 3) (q := (5, [some (.ref p0), some (.int i1)], [])) (jq qX13_no 2 rfl) (jo_pf rfl (Or.inl rfl) e2)) ?_
  refine Eq.trans (jb_nx (i := .iconst 0) (n := 1) (q := (6, [some (.ref p0), some (.int i1)], [.int 0])) (jq qX13_no 3 rfl) rfl) ?_
  exact Eq.trans (jb_rt (i := .ireturn) (n := 1) (jq qX13_no 4 rfl) (jo_iret rfl rfl)) H
/-! MaskPlaysModel trim (I)I -/
def tX13_trim : List (Nat × Instr × Nat) := [(0, .aload_n 0, 1), (1, .iconst 0, 1), (2, .putfield 68, 3), (5, .iload_n 1, 1), (6, .iconst 0, 1), (7, .aload_n 0, 1), (8, .getfield 291, 3), (11, .invokestatic 74, 3), (14, .ifCond .ne 9, 3), (17, .aload_n 0, 1), (18, .iconst 1, 1), (19, .invokevirtual 463, 3), (22, .ireturn, 1), (23, .aload_n 0, 1), (24, .iload_n 1, 1), (25, .putfield 291, 3), (28, .iload_n 1, 1), (29, .ireturn, 1)]
set_option maxRecDepth 100000 in
theorem qX13_trim : ∀ q ∈ tX13_trim, decode cX13_trim q.1 = .ok (q.2.1, q.2.2) := by decide +kernel
theorem gX13_trim {d : Nat} {p0 : Nat} {i1 : Int32} {h : jm_H} {r : jm_R} (H : ((jm_pf h p0 12 0 0 (.int 0)).bind fun h1 => (jr_I h1 p0 12 2 0).bind fun x3 => jc_I (jm_D d mX13_isIn [.int i1, .int 0, .int x3] h1) (fun x7 h5 => (if x7 = 0 then jm_O h5 p0 13 (jc_I (jm_D d mX13_no [.ref p0, .int 1] h5) (fun x13 h11 => some (.inl (some (.int x13)), h11)) jx) else (jm_pf h5 p0 12 2 0 (.int i1)).bind fun h9 => some (.inl (some (.int i1)), h9))) jx) = some r) : jm_D (d + 1) mX13_trim [.ref p0, .int i1] h = some r := by
  rw [jm_D_body (Nat.le_of_ble_eq_true rfl)]
  show jm_B d mX13_trim (0, [some (.ref p0), some (.int i1)], []) h = some r
  refine Eq.trans (jb_nx (i := .aload_n 0) (n := 1) (q := (1, [some (.ref p0), some (.int i1)], [.ref p0])) (jq qX13_trim 0 rfl) rfl) ?_
  refine Eq.trans (jb_nx (i := .iconst 0) (n := 1) (q := (2, [some (.ref p0), some (.int i1)], [.int 0, .ref p0])) (jq qX13_trim 1 rfl) rfl) ?_
  obtain ⟨h1, e2, H⟩ := jbd H
  refine Eq.trans (jb_nx (i := .putfield 68) (n := 3) (q := (5, [some (.ref p0), some (.int i1)], [])) (jq qX13_trim 2 rfl) (jo_pf rfl (Or.inl rfl) e2)) ?_
  refine Eq.trans (jb_nx (i := .iload_n 1) (n := 1) (q := (6, [some (.ref p0), some (.int i1)], [.int i1])) (jq qX13_trim 3 rfl) rfl) ?_
  refine Eq.trans (jb_nx (i := .iconst 0) (n := 1) (q := (7, [some (.ref p0), some (.int i1)], [.int 0, .int i1])) (jq qX13_trim 4 rfl) rfl) ?_
  refine Eq.trans (jb_nx (i := .aload_n 0) (n := 1) (q := (8, [some (.ref p0), some (.int i1)], [.ref p0, .int 0, .int i1])) (jq qX13_trim 5 rfl) rfl) ?_
  obtain ⟨x3, e4, H⟩ := jbd H
  refine Eq.trans (jb_nx (i := .getfield 291) (n := 3) (q := (11, [some (.ref p0), some (.int i1)], [.int x3, .int 0, .int i1])) (jq qX13_trim 6 rfl) (jo_gf rfl (jr_I_inv e4))) ?_
  rcases jcI H with ⟨x7, h5, r6, H⟩ | ⟨w17, h18, r6, H⟩
  · refine Eq.trans (jb_nx (i := .invokestatic 74) (n := 3) (q := (14, [some (.ref p0), some (.int i1)], [.int x7])) (jq qX13_trim 7 rfl) (jo_cs (y := mX13_isIn) (w := 1) (by decide) rfl (Nat.le_of_ble_eq_true rfl) rfl (Nat.le_of_ble_eq_true rfl) rfl r6 jo_ret)) ?_
    by_cases c8 : x7 = 0
    · rw [if_pos c8] at H
      refine Eq.trans (jb_nx (i := .ifCond .ne 9) (n := 3) (q := (17, [some (.ref p0), some (.int i1)], [])) (jq qX13_trim 8 rfl) (jo_ifF (jz_neF c8))) ?_
      refine Eq.trans (jb_nx (i := .aload_n 0) (n := 1) (q := (18, [some (.ref p0), some (.int i1)], [.ref p0])) (jq qX13_trim 9 rfl) rfl) ?_
      refine Eq.trans (jb_nx (i := .iconst 1) (n := 1) (q := (19, [some (.ref p0), some (.int i1)], [.int 1, .ref p0])) (jq qX13_trim 10 rfl) rfl) ?_
      obtain ⟨b14, H⟩ := jm_O_inv H
      rcases jcI H with ⟨x13, h11, r12, H⟩ | ⟨w15, h16, r12, H⟩
      · refine Eq.trans (jb_nx (i := .invokevirtual 463) (n := 3) (q := (22, [some (.ref p0), some (.int i1)], [.int x13])) (jq qX13_trim 11 rfl) (jo_cv (y := mX13_no) rfl (Nat.le_of_ble_eq_true rfl) rfl (Nat.le_of_ble_eq_true rfl) b14 rfl r12 jo_ret)) ?_
        exact Eq.trans (jb_rt (i := .ireturn) (n := 1) (jq qX13_trim 12 rfl) (jo_iret rfl rfl)) H
      · exact Eq.trans (jb_rt (i := .invokevirtual 463) (n := 3) (jq qX13_trim 11 rfl) (jo_cv (y := mX13_no) rfl (Nat.le_of_ble_eq_true rfl) rfl (Nat.le_of_ble_eq_true rfl) b14 rfl r12 (jo_exn rfl))) H
    · rw [if_neg c8] at H
      refine Eq.trans (jb_nx (i := .ifCond .ne 9) (n := 3) (q := (23, [some (.ref p0), some (.int i1)], [])) (jq qX13_trim 8 rfl) (jo_ifT (jz_neT c8) rfl)) ?_
      refine Eq.trans (jb_nx (i := .aload_n 0) (n := 1) (q := (24, [some (.ref p0), some (.int i1)], [.ref p0])) (jq qX13_trim 13 rfl) rfl) ?_
      refine Eq.trans (jb_nx (i := .iload_n 1) (n := 1) (q := (25, [some (.ref p0), some (.int i1)], [.int i1, .ref p0])) (jq qX13_trim 14 rfl) rfl) ?_
      obtain ⟨h9, e10, H⟩ := jbd H
      refine Eq.trans (jb_nx (i := .putfield 291) (n := 3) (q := (28, [some (.ref p0), some (.int i1)], [])) (jq qX13_trim 15 rfl) (jo_pf rfl (Or.inl rfl) e10)) ?_
      refine Eq.trans (jb_nx (i := .iload_n 1) (n := 1) (q := (29, [some (.ref p0), some (.int i1)], [.int i1])) (jq qX13_trim 16 rfl) rfl) ?_
      exact Eq.trans (jb_rt (i := .ireturn) (n := 1) (jq qX13_trim 17 rfl) (jo_iret rfl rfl)) H
  · exact Eq.trans (jb_rt (i := .invokestatic 74) (n := 3) (jq qX13_trim 7 rfl) (jo_cs (y := mX13_isIn) (w := 1) (by decide) rfl (Nat.le_of_ble_eq_true rfl) rfl (Nat.le_of_ble_eq_true rfl) rfl r6 (jo_exn rfl))) H
/-! MaskPlaysModel isIn (III)Z -/
def tX13_isIn : List (Nat × Instr × Nat) := [(0, .iload_n 0, 1), (1, .iload_n 1, 1), (2, .if_icmp .lt 12, 3), (5, .iload_n 0, 1), (6, .iload_n 2, 1), (7, .if_icmp .gt 7, 3), (10, .iconst 1, 1), (11, .goto 4, 3), (14, .iconst 0, 1), (15, .ireturn, 1)]
set_option maxRecDepth 100000 in
theorem qX13_isIn : ∀ q ∈ tX13_isIn, decode cX13_isIn q.1 = .ok (q.2.1, q.2.2) := by decide +kernel
theorem gX13_isIn {d : Nat} {i0 : Int32} {i1 : Int32} {i2 : Int32} {h : jm_H} {r : jm_R} (H : ((if i0 < i1 then some (.inl (some (.int 0)), h) else (if i2 < i0 then some (.inl (some (.int 0)), h) else some (.inl (some (.int 1)), h)))) = some r) : jm_D (d + 1) mX13_isIn [.int i0, .int i1, .int i2] h = some r := by
  rw [jm_D_body (Nat.le_of_ble_eq_true rfl)]
  show jm_B d mX13_isIn (0, [some (.int i0), some (.int i1), some (.int i2)], []) h = some r
  refine Eq.trans (jb_nx (i := .iload_n 0) (n := 1) (q := (1, [some (.int i0), some (.int i1), some (.int i2)], [.int i0])) (jq qX13_isIn 0 rfl) rfl) ?_
  refine Eq.trans (jb_nx (i := .iload_n 1) (n := 1) (q := (2, [some (.int i0), some (.int i1), some (.int i2)], [.int i1, .int i0])) (jq qX13_isIn 1 rfl) rfl) ?_
  by_cases c1 : i0 < i1
  · rw [if_pos c1] at H
    refine Eq.trans (jb_nx (i := .if_icmp .lt 12) (n := 3) (q := (14, [some (.int i0), some (.int i1), some (.int i2)], [])) (jq qX13_isIn 2 rfl) (jo_icT (jz_ltT c1) rfl)) ?_
    refine Eq.trans (jb_nx (i := .iconst 0) (n := 1) (q := (15, [some (.int i0), some (.int i1), some (.int i2)], [.int 0])) (jq qX13_isIn 8 rfl) rfl) ?_
    exact Eq.trans (jb_rt (i := .ireturn) (n := 1) (jq qX13_isIn 9 rfl) (jo_iret rfl (by decide))) H
  · rw [if_neg c1] at H
    refine Eq.trans (jb_nx (i := .if_icmp .lt 12) (n := 3) (q := (5, [some (.int i0), some (.int i1), some (.int i2)], [])) (jq qX13_isIn 2 rfl) (jo_icF (jz_ltF c1))) ?_
    refine Eq.trans (jb_nx (i := .iload_n 0) (n := 1) (q := (6, [some (.int i0), some (.int i1), some (.int i2)], [.int i0])) (jq qX13_isIn 3 rfl) rfl) ?_
    refine Eq.trans (jb_nx (i := .iload_n 2) (n := 1) (q := (7, [some (.int i0), some (.int i1), some (.int i2)], [.int i2, .int i0])) (jq qX13_isIn 4 rfl) rfl) ?_
    by_cases c2 : i2 < i0
    · rw [if_pos c2] at H
      refine Eq.trans (jb_nx (i := .if_icmp .gt 7) (n := 3) (q := (14, [some (.int i0), some (.int i1), some (.int i2)], [])) (jq qX13_isIn 5 rfl) (jo_icT (jz_gtT c2) rfl)) ?_
      refine Eq.trans (jb_nx (i := .iconst 0) (n := 1) (q := (15, [some (.int i0), some (.int i1), some (.int i2)], [.int 0])) (jq qX13_isIn 8 rfl) rfl) ?_
      exact Eq.trans (jb_rt (i := .ireturn) (n := 1) (jq qX13_isIn 9 rfl) (jo_iret rfl (by decide))) H
    · rw [if_neg c2] at H
      refine Eq.trans (jb_nx (i := .if_icmp .gt 7) (n := 3) (q := (10, [some (.int i0), some (.int i1), some (.int i2)], [])) (jq qX13_isIn 5 rfl) (jo_icF (jz_gtF c2))) ?_
      refine Eq.trans (jb_nx (i := .iconst 1) (n := 1) (q := (11, [some (.int i0), some (.int i1), some (.int i2)], [.int 1])) (jq qX13_isIn 6 rfl) rfl) ?_
      refine Eq.trans (jb_nx (i := .goto 4) (n := 3) (q := (15, [some (.int i0), some (.int i1), some (.int i2)], [.int 1])) (jq qX13_isIn 7 rfl) rfl) ?_
      exact Eq.trans (jb_rt (i := .ireturn) (n := 1) (jq qX13_isIn 9 rfl) (jo_iret rfl (by decide))) H
/-! MaskPlaysModel teach ()I -/
def tX13_teach : List (Nat × Instr × Nat) := [(0, .aload_n 0, 1), (1, .iconst 0, 1), (2, .putfield 68, 3), (5, .aload_n 0, 1), (6, .iconst (-1), 1), (7, .putfield 13, 3), (10, .new 17, 3), (13, .dup, 1), (14, .invokespecial 19, 3), (17, .astore_n 1, 1), (18, .aload_n 0, 1), (19, .aload_n 1, 1), (20, .invokevirtual 466, 3), (23, .istore_n 2, 1), (24, .aload_n 0, 1), (25, .iconst 0, 1), (26, .putfield 291, 3), (29, .iload_n 2, 1), (30, .ifCond .le 5, 3), (33, .iload_n 2, 1), (34, .ireturn, 1), (35, .aload_n 0, 1), (36, .aload_n 1, 1), (37, .putfield 20, 3), (40, .iconst 0, 1), (41, .istore_n 3, 1), (42, .iload_n 3, 1), (43, .aload_n 0, 1), (44, .getfield 20, 3), (47, .getfield 71, 3), (50, .if_icmp .ge 26, 3), (53, .aload_n 0, 1), (54, .iload_n 3, 1), (55, .invokevirtual 157, 3), (58, .aload_n 0, 1), (59, .iload_n 3, 1), (60, .invokevirtual 257, 3), (63, .aload_n 0, 1), (64, .getfield 31, 3), (67, .iload_n 3, 1), (68, .iconst 0, 1), (69, .iastore, 1), (70, .iinc 3 1, 3), (73, .goto (-31), 3), (76, .aload_n 0, 1), (77, .iconst 0, 1), (78, .putfield 192, 3), (81, .aload_n 0, 1), (82, .iconst 0, 1), (83, .putfield 279, 3), (86, .iconst 0, 1), (87, .ireturn, 1)]
set_option maxRecDepth 100000 in
theorem qX13_teach : ∀ q ∈ tX13_teach, decode cX13_teach q.1 = .ok (q.2.1, q.2.2) := by decide +kernel
noncomputable def kX13_teach_42 (d : Nat) (p0 : Nat) (o1 : Option Value) (o2 : Option Value) (i3 : Int32) (h : jm_H) : Option jm_R := jm_B d mX13_teach (42, [some (.ref p0), o1, o2, some (.int i3)], []) h
theorem gX13_teach_42 {d : Nat} {p0 : Nat} {o1 : Option Value} {o2 : Option Value} {i3 : Int32} {h : jm_H} {r : jm_R} (H : ((jr_R h p0 12 4 2).bind fun a23 => (jr_I h a23 11 8 0).bind fun x25 => (if i3 < x25 then jm_O h p0 13 (jc_V (jm_D d mX13_takeUpTold [.ref p0, .int i3] h) (fun h32 => jm_O h32 p0 13 (jc_V (jm_D d mX13_putDown [.ref p0, .int i3] h32) (fun h34 => (jr_R h34 p0 12 10 2).bind fun a36 => (jm_asi h34 a36 0 i3 0).bind fun h38 => kX13_teach_42 d p0 o1 (jm_dm o2) (i3 + 1) h38) jx)) jx) else (jm_pf h p0 12 14 0 (.int 0)).bind fun h28 => (jm_pf h28 p0 12 15 0 (.int 0)).bind fun h30 => some (.inl (some (.int 0)), h30))) = some r) : kX13_teach_42 d p0 o1 o2 i3 h = some r := by
  show jm_B d mX13_teach (42, [some (.ref p0), o1, o2, some (.int i3)], []) h = some r
  refine Eq.trans (jb_nx (i := .iload_n 3) (n := 1) (q := (43, [some (.ref p0), o1, o2, some (.int i3)], [.int i3])) (jq qX13_teach 26 rfl) rfl) ?_
  refine Eq.trans (jb_nx (i := .aload_n 0) (n := 1) (q := (44, [some (.ref p0), o1, o2, some (.int i3)], [.ref p0, .int i3])) (jq qX13_teach 27 rfl) rfl) ?_
  obtain ⟨a23, e24, H⟩ := jbd H
  refine Eq.trans (jb_nx (i := .getfield 20) (n := 3) (q := (47, [some (.ref p0), o1, o2, some (.int i3)], [.ref a23, .int i3])) (jq qX13_teach 28 rfl) (jo_gf rfl (jr_R_inv e24))) ?_
  obtain ⟨x25, e26, H⟩ := jbd H
  refine Eq.trans (jb_nx (i := .getfield 71) (n := 3) (q := (50, [some (.ref p0), o1, o2, some (.int i3)], [.int x25, .int i3])) (jq qX13_teach 29 rfl) (jo_gf rfl (jr_I_inv e26))) ?_
  by_cases c27 : i3 < x25
  · rw [if_pos c27] at H
    refine Eq.trans (jb_nx (i := .if_icmp .ge 26) (n := 3) (q := (53, [some (.ref p0), o1, o2, some (.int i3)], [])) (jq qX13_teach 30 rfl) (jo_icF (jz_geF c27))) ?_
    refine Eq.trans (jb_nx (i := .aload_n 0) (n := 1) (q := (54, [some (.ref p0), o1, o2, some (.int i3)], [.ref p0])) (jq qX13_teach 31 rfl) rfl) ?_
    refine Eq.trans (jb_nx (i := .iload_n 3) (n := 1) (q := (55, [some (.ref p0), o1, o2, some (.int i3)], [.int i3, .ref p0])) (jq qX13_teach 32 rfl) rfl) ?_
    obtain ⟨b43, H⟩ := jm_O_inv H
    rcases jcV H with ⟨h32, r33, H⟩ | ⟨w44, h45, r33, H⟩
    · refine Eq.trans (jb_nx (i := .invokevirtual 157) (n := 3) (q := (58, [some (.ref p0), o1, o2, some (.int i3)], [])) (jq qX13_teach 33 rfl) (jo_cv (y := mX13_takeUpTold) rfl (Nat.le_of_ble_eq_true rfl) rfl (Nat.le_of_ble_eq_true rfl) b43 rfl r33 jo_ret)) ?_
      refine Eq.trans (jb_nx (i := .aload_n 0) (n := 1) (q := (59, [some (.ref p0), o1, o2, some (.int i3)], [.ref p0])) (jq qX13_teach 34 rfl) rfl) ?_
      refine Eq.trans (jb_nx (i := .iload_n 3) (n := 1) (q := (60, [some (.ref p0), o1, o2, some (.int i3)], [.int i3, .ref p0])) (jq qX13_teach 35 rfl) rfl) ?_
      obtain ⟨b40, H⟩ := jm_O_inv H
      rcases jcV H with ⟨h34, r35, H⟩ | ⟨w41, h42, r35, H⟩
      · refine Eq.trans (jb_nx (i := .invokevirtual 257) (n := 3) (q := (63, [some (.ref p0), o1, o2, some (.int i3)], [])) (jq qX13_teach 36 rfl) (jo_cv (y := mX13_putDown) rfl (Nat.le_of_ble_eq_true rfl) rfl (Nat.le_of_ble_eq_true rfl) b40 rfl r35 jo_ret)) ?_
        refine Eq.trans (jb_nx (i := .aload_n 0) (n := 1) (q := (64, [some (.ref p0), o1, o2, some (.int i3)], [.ref p0])) (jq qX13_teach 37 rfl) rfl) ?_
        obtain ⟨a36, e37, H⟩ := jbd H
        refine Eq.trans (jb_nx (i := .getfield 31) (n := 3) (q := (67, [some (.ref p0), o1, o2, some (.int i3)], [.ref a36])) (jq qX13_teach 38 rfl) (jo_gf rfl (jr_R_inv e37))) ?_
        refine Eq.trans (jb_nx (i := .iload_n 3) (n := 1) (q := (68, [some (.ref p0), o1, o2, some (.int i3)], [.int i3, .ref a36])) (jq qX13_teach 39 rfl) rfl) ?_
        refine Eq.trans (jb_nx (i := .iconst 0) (n := 1) (q := (69, [some (.ref p0), o1, o2, some (.int i3)], [.int 0, .int i3, .ref a36])) (jq qX13_teach 40 rfl) rfl) ?_
        obtain ⟨h38, e39, H⟩ := jbd H
        refine Eq.trans (jb_nx (i := .iastore) (n := 1) (q := (70, [some (.ref p0), o1, o2, some (.int i3)], [])) (jq qX13_teach 41 rfl) (jo_ias e39)) ?_
        refine Eq.trans (jb_nx (i := .iinc 3 1) (n := 3) (q := (73, [some (.ref p0), o1, (jm_dm o2), some (.int (i3 + 1))], [])) (jq qX13_teach 42 rfl) rfl) ?_
        refine Eq.trans (jb_nx (i := .goto (-31)) (n := 3) (q := (42, [some (.ref p0), o1, (jm_dm o2), some (.int (i3 + 1))], [])) (jq qX13_teach 43 rfl) rfl) ?_
        exact H
      · exact Eq.trans (jb_rt (i := .invokevirtual 257) (n := 3) (jq qX13_teach 36 rfl) (jo_cv (y := mX13_putDown) rfl (Nat.le_of_ble_eq_true rfl) rfl (Nat.le_of_ble_eq_true rfl) b40 rfl r35 (jo_exn rfl))) H
    · exact Eq.trans (jb_rt (i := .invokevirtual 157) (n := 3) (jq qX13_teach 33 rfl) (jo_cv (y := mX13_takeUpTold) rfl (Nat.le_of_ble_eq_true rfl) rfl (Nat.le_of_ble_eq_true rfl) b43 rfl r33 (jo_exn rfl))) H
  · rw [if_neg c27] at H
    refine Eq.trans (jb_nx (i := .if_icmp .ge 26) (n := 3) (q := (76, [some (.ref p0), o1, o2, some (.int i3)], [])) (jq qX13_teach 30 rfl) (jo_icT (jz_geT c27) rfl)) ?_
    refine Eq.trans (jb_nx (i := .aload_n 0) (n := 1) (q := (77, [some (.ref p0), o1, o2, some (.int i3)], [.ref p0])) (jq qX13_teach 44 rfl) rfl) ?_
    refine Eq.trans (jb_nx (i := .iconst 0) (n := 1) (q := (78, [some (.ref p0), o1, o2, some (.int i3)], [.int 0, .ref p0])) (jq qX13_teach 45 rfl) rfl) ?_
    obtain ⟨h28, e29, H⟩ := jbd H
    refine Eq.trans (jb_nx (i := .putfield 192) (n := 3) (q := (81, [some (.ref p0), o1, o2, some (.int i3)], [])) (jq qX13_teach 46 rfl) (jo_pf rfl (Or.inl rfl) e29)) ?_
    refine Eq.trans (jb_nx (i := .aload_n 0) (n := 1) (q := (82, [some (.ref p0), o1, o2, some (.int i3)], [.ref p0])) (jq qX13_teach 47 rfl) rfl) ?_
    refine Eq.trans (jb_nx (i := .iconst 0) (n := 1) (q := (83, [some (.ref p0), o1, o2, some (.int i3)], [.int 0, .ref p0])) (jq qX13_teach 48 rfl) rfl) ?_
    obtain ⟨h30, e31, H⟩ := jbd H
    refine Eq.trans (jb_nx (i := .putfield 279) (n := 3) (q := (86, [some (.ref p0), o1, o2, some (.int i3)], [])) (jq qX13_teach 49 rfl) (jo_pf rfl (Or.inl rfl) e31)) ?_
    refine Eq.trans (jb_nx (i := .iconst 0) (n := 1) (q := (87, [some (.ref p0), o1, o2, some (.int i3)], [.int 0])) (jq qX13_teach 50 rfl) rfl) ?_
    exact Eq.trans (jb_rt (i := .ireturn) (n := 1) (jq qX13_teach 51 rfl) (jo_iret rfl rfl)) H
theorem gX13_teach {d : Nat} {p0 : Nat} {h : jm_H} {r : jm_R} (H : ((jm_pf h p0 12 0 0 (.int 0)).bind fun h1 => (jm_pf h1 p0 12 3 0 (.int (-1))).bind fun h3 => jl_new h3 11 [.null, .null, .null, .null, .null, .null, .int 0, .null, .int 0, .null, .null, .null, .int 0, .null, .null, .null, .null, .null, .null, .null, .int 0, .null] 22 fun a5 h6 => jm_U a5 (jc_V (jm_D d mX12_init [.ref a5] h6) (fun h9 => jm_O h9 p0 13 (jc_I (jm_D d mX13_read [.ref p0, .ref a5] h9) (fun x13 h11 => (jm_pf h11 p0 12 2 0 (.int 0)).bind fun h14 => (if 0 < x13 then some (.inl (some (.int x13)), h14) else (jm_pf h14 p0 12 4 2 (.ref a5)).bind fun h17 => kX13_teach_42 d p0 (some (.ref a5)) (some (.int x13)) 0 h17)) jx)) (fun _ _ => none))) = some r) : jm_D (d + 1) mX13_teach [.ref p0] h = some r := by
  rw [jm_D_body (Nat.le_of_ble_eq_true rfl)]
  show jm_B d mX13_teach (0, [some (.ref p0), none, none, none], []) h = some r
  refine Eq.trans (jb_nx (i := .aload_n 0) (n := 1) (q := (1, [some (.ref p0), none, none, none], [.ref p0])) (jq qX13_teach 0 rfl) rfl) ?_
  refine Eq.trans (jb_nx (i := .iconst 0) (n := 1) (q := (2, [some (.ref p0), none, none, none], [.int 0, .ref p0])) (jq qX13_teach 1 rfl) rfl) ?_
  obtain ⟨h1, e2, H⟩ := jbd H
  refine Eq.trans (jb_nx (i := .putfield 68) (n := 3) (q := (5, [some (.ref p0), none, none, none], [])) (jq qX13_teach 2 rfl) (jo_pf rfl (Or.inl rfl) e2)) ?_
  refine Eq.trans (jb_nx (i := .aload_n 0) (n := 1) (q := (6, [some (.ref p0), none, none, none], [.ref p0])) (jq qX13_teach 3 rfl) rfl) ?_
  refine Eq.trans (jb_nx (i := .iconst (-1)) (n := 1) (q := (7, [some (.ref p0), none, none, none], [.int (-1), .ref p0])) (jq qX13_teach 4 rfl) rfl) ?_
  obtain ⟨h3, e4, H⟩ := jbd H
  refine Eq.trans (jb_nx (i := .putfield 13) (n := 3) (q := (10, [some (.ref p0), none, none, none], [])) (jq qX13_teach 5 rfl) (jo_pf rfl (Or.inl rfl) e4)) ?_
  obtain ⟨a5, h6, e7, e8, H⟩ := jl_new_inv H
  refine Eq.trans (jb_nx (i := .new 17) (n := 3) (q := (13, [some (.ref p0), none, none, none], [.ref a5])) (jq qX13_teach 6 rfl) (jo_newo rfl (by decide) rfl rfl e7 e8)) ?_
  refine Eq.trans (jb_nx (i := .dup) (n := 1) (q := (14, [some (.ref p0), none, none, none], [.ref a5, .ref a5])) (jq qX13_teach 7 rfl) rfl) ?_
  obtain ⟨u22, H⟩ := jm_U_inv H
  rcases jcV H with ⟨h9, r10, H⟩ | ⟨_, _, _, H⟩
  · refine Eq.trans (jb_nx (i := .invokespecial 19) (n := 3) (q := (17, [some (.ref p0), none, none, none], [.ref a5])) (jq qX13_teach 8 rfl) (jo_ci (y := mX12_init) (w := 3) (by decide) rfl (Nat.le_of_ble_eq_true rfl) rfl (Nat.le_of_ble_eq_true rfl) u22 rfl r10)) ?_
    refine Eq.trans (jb_nx (i := .astore_n 1) (n := 1) (q := (18, [some (.ref p0), some (.ref a5), none, none], [])) (jq qX13_teach 9 rfl) rfl) ?_
    refine Eq.trans (jb_nx (i := .aload_n 0) (n := 1) (q := (19, [some (.ref p0), some (.ref a5), none, none], [.ref p0])) (jq qX13_teach 10 rfl) rfl) ?_
    refine Eq.trans (jb_nx (i := .aload_n 1) (n := 1) (q := (20, [some (.ref p0), some (.ref a5), none, none], [.ref a5, .ref p0])) (jq qX13_teach 11 rfl) rfl) ?_
    obtain ⟨b19, H⟩ := jm_O_inv H
    rcases jcI H with ⟨x13, h11, r12, H⟩ | ⟨w20, h21, r12, H⟩
    · refine Eq.trans (jb_nx (i := .invokevirtual 466) (n := 3) (q := (23, [some (.ref p0), some (.ref a5), none, none], [.int x13])) (jq qX13_teach 12 rfl) (jo_cv (y := mX13_read) rfl (Nat.le_of_ble_eq_true rfl) rfl (Nat.le_of_ble_eq_true rfl) b19 rfl r12 jo_ret)) ?_
      refine Eq.trans (jb_nx (i := .istore_n 2) (n := 1) (q := (24, [some (.ref p0), some (.ref a5), some (.int x13), none], [])) (jq qX13_teach 13 rfl) rfl) ?_
      refine Eq.trans (jb_nx (i := .aload_n 0) (n := 1) (q := (25, [some (.ref p0), some (.ref a5), some (.int x13), none], [.ref p0])) (jq qX13_teach 14 rfl) rfl) ?_
      refine Eq.trans (jb_nx (i := .iconst 0) (n := 1) (q := (26, [some (.ref p0), some (.ref a5), some (.int x13), none], [.int 0, .ref p0])) (jq qX13_teach 15 rfl) rfl) ?_
      obtain ⟨h14, e15, H⟩ := jbd H
      refine Eq.trans (jb_nx (i := .putfield 291) (n := 3) (q := (29, [some (.ref p0), some (.ref a5), some (.int x13), none], [])) (jq qX13_teach 16 rfl) (jo_pf rfl (Or.inl rfl) e15)) ?_
      refine Eq.trans (jb_nx (i := .iload_n 2) (n := 1) (q := (30, [some (.ref p0), some (.ref a5), some (.int x13), none], [.int x13])) (jq qX13_teach 17 rfl) rfl) ?_
      by_cases c16 : 0 < x13
      · rw [if_pos c16] at H
        refine Eq.trans (jb_nx (i := .ifCond .le 5) (n := 3) (q := (33, [some (.ref p0), some (.ref a5), some (.int x13), none], [])) (jq qX13_teach 18 rfl) (jo_ifF (jz_leF c16))) ?_
        refine Eq.trans (jb_nx (i := .iload_n 2) (n := 1) (q := (34, [some (.ref p0), some (.ref a5), some (.int x13), none], [.int x13])) (jq qX13_teach 19 rfl) rfl) ?_
        exact Eq.trans (jb_rt (i := .ireturn) (n := 1) (jq qX13_teach 20 rfl) (jo_iret rfl rfl)) H
      · rw [if_neg c16] at H
        refine Eq.trans (jb_nx (i := .ifCond .le 5) (n := 3) (q := (35, [some (.ref p0), some (.ref a5), some (.int x13), none], [])) (jq qX13_teach 18 rfl) (jo_ifT (jz_leT c16) rfl)) ?_
        refine Eq.trans (jb_nx (i := .aload_n 0) (n := 1) (q := (36, [some (.ref p0), some (.ref a5), some (.int x13), none], [.ref p0])) (jq qX13_teach 21 rfl) rfl) ?_
        refine Eq.trans (jb_nx (i := .aload_n 1) (n := 1) (q := (37, [some (.ref p0), some (.ref a5), some (.int x13), none], [.ref a5, .ref p0])) (jq qX13_teach 22 rfl) rfl) ?_
        obtain ⟨h17, e18, H⟩ := jbd H
        refine Eq.trans (jb_nx (i := .putfield 20) (n := 3) (q := (40, [some (.ref p0), some (.ref a5), some (.int x13), none], [])) (jq qX13_teach 23 rfl) (jo_pf rfl (Or.inl rfl) e18)) ?_
        refine Eq.trans (jb_nx (i := .iconst 0) (n := 1) (q := (41, [some (.ref p0), some (.ref a5), some (.int x13), none], [.int 0])) (jq qX13_teach 24 rfl) rfl) ?_
        refine Eq.trans (jb_nx (i := .istore_n 3) (n := 1) (q := (42, [some (.ref p0), some (.ref a5), some (.int x13), some (.int 0)], [])) (jq qX13_teach 25 rfl) rfl) ?_
        exact H
    · exact Eq.trans (jb_rt (i := .invokevirtual 466) (n := 3) (jq qX13_teach 12 rfl) (jo_cv (y := mX13_read) rfl (Nat.le_of_ble_eq_true rfl) rfl (Nat.le_of_ble_eq_true rfl) b19 rfl r12 (jo_exn rfl))) H
  · cases H
/-! MaskPlaysModel read (LMaskPlaysModel$Book;)I -/
def tX13_read : List (Nat × Instr × Nat) := [(0, .aload_n 0, 1), (1, .aload_n 1, 1), (2, .invokevirtual 450, 3), (5, .aload_n 0, 1), (6, .iconst 0, 1), (7, .putfield 329, 3), (10, .aload_n 0, 1), (11, .iconst 0, 1), (12, .putfield 344, 3), (15, .aload_n 0, 1), (16, .iconst (-1), 1), (17, .putfield 338, 3), (20, .aload_n 0, 1), (21, .iconst 0, 1), (22, .putfield 434, 3), (25, .aload_n 0, 1), (26, .aload_n 1, 1), (27, .invokevirtual 454, 3), (30, .ifCond .ne 18, 3), (33, .aload_n 0, 1), (34, .aload_n 1, 1), (35, .getfield 320, 3), (38, .aload_n 0, 1), (39, .getfield 329, 3), (42, .iaload, 1), (43, .putfield 13, 3), (46, .iconst 1, 1), (47, .ireturn, 1), (48, .iconst 0, 1), (49, .istore_n 2, 1), (50, .iload_n 2, 1), (51, .aload_n 0, 1), (52, .getfield 329, 3), (55, .if_icmp .ge 35, 3), (58, .aload_n 0, 1), (59, .aload_n 1, 1), (60, .iload_n 2, 1), (61, .invokevirtual 457, 3), (64, .istore_n 3, 1), (65, .iload_n 3, 1), (66, .ifCond .ne 6, 3), (69, .goto 15, 3), (72, .aload_n 0, 1), (73, .aload_n 1, 1), (74, .getfield 320, 3), (77, .iload_n 2, 1), (78, .iaload, 1), (79, .putfield 13, 3), (82, .iload_n 3, 1), (83, .ireturn, 1), (84, .iinc 2 1, 3), (87, .goto (-37), 3), (90, .aload_n 0, 1), (91, .aload_n 1, 1), (92, .invokevirtual 460, 3), (95, .iconst 0, 1), (96, .ireturn, 1)]
set_option maxRecDepth 100000 in
theorem qX13_read : ∀ q ∈ tX13_read, decode cX13_read q.1 = .ok (q.2.1, q.2.2) := by decide +kernel
noncomputable def kX13_read_50 (d : Nat) (p0 : Nat) (p1 : Nat) (i2 : Int32) (o3 : Option Value) (h : jm_H) : Option jm_R := jm_B d mX13_read (50, [some (.ref p0), some (.ref p1), some (.int i2), o3], []) h
theorem gX13_read_50 {d : Nat} {p0 : Nat} {p1 : Nat} {i2 : Int32} {o3 : Option Value} {h : jm_H} {r : jm_R} (H : ((jr_I h p0 12 5 0).bind fun x29 => (if i2 < x29 then jm_O h p0 13 (jc_I (jm_D d mX13_errorOf [.ref p0, .ref p1, .int i2] h) (fun x39 h37 => (if x39 = 0 then kX13_read_50 d p0 p1 (i2 + 1) (some (.int x39)) h37 else (jr_R h37 p1 11 1 2).bind fun a41 => (jm_ali h37 a41 0 i2).bind fun x43 => (jm_pf h37 p0 12 3 0 (.int x43)).bind fun h45 => some (.inl (some (.int x39)), h45))) jx) else jm_O h p0 13 (jc_V (jm_D d mX13_settle [.ref p0, .ref p1] h) (fun h32 => some (.inl (some (.int 0)), h32)) jx))) = some r) : kX13_read_50 d p0 p1 i2 o3 h = some r := by
  show jm_B d mX13_read (50, [some (.ref p0), some (.ref p1), some (.int i2), o3], []) h = some r
  refine Eq.trans (jb_nx (i := .iload_n 2) (n := 1) (q := (51, [some (.ref p0), some (.ref p1), some (.int i2), o3], [.int i2])) (jq qX13_read 30 rfl) rfl) ?_
  refine Eq.trans (jb_nx (i := .aload_n 0) (n := 1) (q := (52, [some (.ref p0), some (.ref p1), some (.int i2), o3], [.ref p0, .int i2])) (jq qX13_read 31 rfl) rfl) ?_
  obtain ⟨x29, e30, H⟩ := jbd H
  refine Eq.trans (jb_nx (i := .getfield 329) (n := 3) (q := (55, [some (.ref p0), some (.ref p1), some (.int i2), o3], [.int x29, .int i2])) (jq qX13_read 32 rfl) (jo_gf rfl (jr_I_inv e30))) ?_
  by_cases c31 : i2 < x29
  · rw [if_pos c31] at H
    refine Eq.trans (jb_nx (i := .if_icmp .ge 35) (n := 3) (q := (58, [some (.ref p0), some (.ref p1), some (.int i2), o3], [])) (jq qX13_read 33 rfl) (jo_icF (jz_geF c31))) ?_
    refine Eq.trans (jb_nx (i := .aload_n 0) (n := 1) (q := (59, [some (.ref p0), some (.ref p1), some (.int i2), o3], [.ref p0])) (jq qX13_read 34 rfl) rfl) ?_
    refine Eq.trans (jb_nx (i := .aload_n 1) (n := 1) (q := (60, [some (.ref p0), some (.ref p1), some (.int i2), o3], [.ref p1, .ref p0])) (jq qX13_read 35 rfl) rfl) ?_
    refine Eq.trans (jb_nx (i := .iload_n 2) (n := 1) (q := (61, [some (.ref p0), some (.ref p1), some (.int i2), o3], [.int i2, .ref p1, .ref p0])) (jq qX13_read 36 rfl) rfl) ?_
    obtain ⟨b47, H⟩ := jm_O_inv H
    rcases jcI H with ⟨x39, h37, r38, H⟩ | ⟨w48, h49, r38, H⟩
    · refine Eq.trans (jb_nx (i := .invokevirtual 457) (n := 3) (q := (64, [some (.ref p0), some (.ref p1), some (.int i2), o3], [.int x39])) (jq qX13_read 37 rfl) (jo_cv (y := mX13_errorOf) rfl (Nat.le_of_ble_eq_true rfl) rfl (Nat.le_of_ble_eq_true rfl) b47 rfl r38 jo_ret)) ?_
      refine Eq.trans (jb_nx (i := .istore_n 3) (n := 1) (q := (65, [some (.ref p0), some (.ref p1), some (.int i2), some (.int x39)], [])) (jq qX13_read 38 rfl) rfl) ?_
      refine Eq.trans (jb_nx (i := .iload_n 3) (n := 1) (q := (66, [some (.ref p0), some (.ref p1), some (.int i2), some (.int x39)], [.int x39])) (jq qX13_read 39 rfl) rfl) ?_
      by_cases c40 : x39 = 0
      · rw [if_pos c40] at H
        refine Eq.trans (jb_nx (i := .ifCond .ne 6) (n := 3) (q := (69, [some (.ref p0), some (.ref p1), some (.int i2), some (.int x39)], [])) (jq qX13_read 40 rfl) (jo_ifF (jz_neF c40))) ?_
        refine Eq.trans (jb_nx (i := .goto 15) (n := 3) (q := (84, [some (.ref p0), some (.ref p1), some (.int i2), some (.int x39)], [])) (jq qX13_read 41 rfl) rfl) ?_
        refine Eq.trans (jb_nx (i := .iinc 2 1) (n := 3) (q := (87, [some (.ref p0), some (.ref p1), some (.int (i2 + 1)), some (.int x39)], [])) (jq qX13_read 50 rfl) rfl) ?_
        refine Eq.trans (jb_nx (i := .goto (-37)) (n := 3) (q := (50, [some (.ref p0), some (.ref p1), some (.int (i2 + 1)), some (.int x39)], [])) (jq qX13_read 51 rfl) rfl) ?_
        exact H
      · rw [if_neg c40] at H
        refine Eq.trans (jb_nx (i := .ifCond .ne 6) (n := 3) (q := (72, [some (.ref p0), some (.ref p1), some (.int i2), some (.int x39)], [])) (jq qX13_read 40 rfl) (jo_ifT (jz_neT c40) rfl)) ?_
        refine Eq.trans (jb_nx (i := .aload_n 0) (n := 1) (q := (73, [some (.ref p0), some (.ref p1), some (.int i2), some (.int x39)], [.ref p0])) (jq qX13_read 42 rfl) rfl) ?_
        refine Eq.trans (jb_nx (i := .aload_n 1) (n := 1) (q := (74, [some (.ref p0), some (.ref p1), some (.int i2), some (.int x39)], [.ref p1, .ref p0])) (jq qX13_read 43 rfl) rfl) ?_
        obtain ⟨a41, e42, H⟩ := jbd H
        refine Eq.trans (jb_nx (i := .getfield 320) (n := 3) (q := (77, [some (.ref p0), some (.ref p1), some (.int i2), some (.int x39)], [.ref a41, .ref p0])) (jq qX13_read 44 rfl) (jo_gf rfl (jr_R_inv e42))) ?_
        refine Eq.trans (jb_nx (i := .iload_n 2) (n := 1) (q := (78, [some (.ref p0), some (.ref p1), some (.int i2), some (.int x39)], [.int i2, .ref a41, .ref p0])) (jq qX13_read 45 rfl) rfl) ?_
        obtain ⟨x43, e44, H⟩ := jbd H
        refine Eq.trans (jb_nx (i := .iaload) (n := 1) (q := (79, [some (.ref p0), some (.ref p1), some (.int i2), some (.int x39)], [.int x43, .ref p0])) (jq qX13_read 46 rfl) (jo_ial e44)) ?_
        obtain ⟨h45, e46, H⟩ := jbd H
        refine Eq.trans (jb_nx (i := .putfield 13) (n := 3) (q := (82, [some (.ref p0), some (.ref p1), some (.int i2), some (.int x39)], [])) (jq qX13_read 47 rfl) (jo_pf rfl (Or.inl rfl) e46)) ?_
        refine Eq.trans (jb_nx (i := .iload_n 3) (n := 1) (q := (83, [some (.ref p0), some (.ref p1), some (.int i2), some (.int x39)], [.int x39])) (jq qX13_read 48 rfl) rfl) ?_
        exact Eq.trans (jb_rt (i := .ireturn) (n := 1) (jq qX13_read 49 rfl) (jo_iret rfl rfl)) H
    · exact Eq.trans (jb_rt (i := .invokevirtual 457) (n := 3) (jq qX13_read 37 rfl) (jo_cv (y := mX13_errorOf) rfl (Nat.le_of_ble_eq_true rfl) rfl (Nat.le_of_ble_eq_true rfl) b47 rfl r38 (jo_exn rfl))) H
  · rw [if_neg c31] at H
    refine Eq.trans (jb_nx (i := .if_icmp .ge 35) (n := 3) (q := (90, [some (.ref p0), some (.ref p1), some (.int i2), o3], [])) (jq qX13_read 33 rfl) (jo_icT (jz_geT c31) rfl)) ?_
    refine Eq.trans (jb_nx (i := .aload_n 0) (n := 1) (q := (91, [some (.ref p0), some (.ref p1), some (.int i2), o3], [.ref p0])) (jq qX13_read 52 rfl) rfl) ?_
    refine Eq.trans (jb_nx (i := .aload_n 1) (n := 1) (q := (92, [some (.ref p0), some (.ref p1), some (.int i2), o3], [.ref p1, .ref p0])) (jq qX13_read 53 rfl) rfl) ?_
    obtain ⟨b34, H⟩ := jm_O_inv H
    rcases jcV H with ⟨h32, r33, H⟩ | ⟨w35, h36, r33, H⟩
    · refine Eq.trans (jb_nx (i := .invokevirtual 460) (n := 3) (q := (95, [some (.ref p0), some (.ref p1), some (.int i2), o3], [])) (jq qX13_read 54 rfl) (jo_cv (y := mX13_settle) rfl (Nat.le_of_ble_eq_true rfl) rfl (Nat.le_of_ble_eq_true rfl) b34 rfl r33 jo_ret)) ?_
      refine Eq.trans (jb_nx (i := .iconst 0) (n := 1) (q := (96, [some (.ref p0), some (.ref p1), some (.int i2), o3], [.int 0])) (jq qX13_read 55 rfl) rfl) ?_
      exact Eq.trans (jb_rt (i := .ireturn) (n := 1) (jq qX13_read 56 rfl) (jo_iret rfl rfl)) H
    · exact Eq.trans (jb_rt (i := .invokevirtual 460) (n := 3) (jq qX13_read 54 rfl) (jo_cv (y := mX13_settle) rfl (Nat.le_of_ble_eq_true rfl) rfl (Nat.le_of_ble_eq_true rfl) b34 rfl r33 (jo_exn rfl))) H
theorem gX13_read {d : Nat} {p0 : Nat} {p1 : Nat} {h : jm_H} {r : jm_R} (H : (jm_O h p0 13 (jc_V (jm_D d mX13_cutIntoTokens [.ref p0, .ref p1] h) (fun h1 => (jm_pf h1 p0 12 5 0 (.int 0)).bind fun h3 => (jm_pf h3 p0 12 6 0 (.int 0)).bind fun h5 => (jm_pf h5 p0 12 7 0 (.int (-1))).bind fun h7 => (jm_pf h7 p0 12 29 0 (.int 0)).bind fun h9 => jm_O h9 p0 13 (jc_I (jm_D d mX13_isBook [.ref p0, .ref p1] h9) (fun x13 h11 => (if x13 = 0 then (jr_R h11 p1 11 1 2).bind fun a15 => (jr_I h11 p0 12 5 0).bind fun x17 => (jm_ali h11 a15 0 x17).bind fun x19 => (jm_pf h11 p0 12 3 0 (.int x19)).bind fun h21 => some (.inl (some (.int 1)), h21) else kX13_read_50 d p0 p1 0 none h11)) jx)) jx)) = some r) : jm_D (d + 1) mX13_read [.ref p0, .ref p1] h = some r := by
  rw [jm_D_body (Nat.le_of_ble_eq_true rfl)]
  show jm_B d mX13_read (0, [some (.ref p0), some (.ref p1), none, none], []) h = some r
  refine Eq.trans (jb_nx (i := .aload_n 0) (n := 1) (q := (1, [some (.ref p0), some (.ref p1), none, none], [.ref p0])) (jq qX13_read 0 rfl) rfl) ?_
  refine Eq.trans (jb_nx (i := .aload_n 1) (n := 1) (q := (2, [some (.ref p0), some (.ref p1), none, none], [.ref p1, .ref p0])) (jq qX13_read 1 rfl) rfl) ?_
  obtain ⟨b26, H⟩ := jm_O_inv H
  rcases jcV H with ⟨h1, r2, H⟩ | ⟨w27, h28, r2, H⟩
  · refine Eq.trans (jb_nx (i := .invokevirtual 450) (n := 3) (q := (5, [some (.ref p0), some (.ref p1), none, none], [])) (jq qX13_read 2 rfl) (jo_cv (y := mX13_cutIntoTokens) rfl (Nat.le_of_ble_eq_true rfl) rfl (Nat.le_of_ble_eq_true rfl) b26 rfl r2 jo_ret)) ?_
    refine Eq.trans (jb_nx (i := .aload_n 0) (n := 1) (q := (6, [some (.ref p0), some (.ref p1), none, none], [.ref p0])) (jq qX13_read 3 rfl) rfl) ?_
    refine Eq.trans (jb_nx (i := .iconst 0) (n := 1) (q := (7, [some (.ref p0), some (.ref p1), none, none], [.int 0, .ref p0])) (jq qX13_read 4 rfl) rfl) ?_
    obtain ⟨h3, e4, H⟩ := jbd H
    refine Eq.trans (jb_nx (i := .putfield 329) (n := 3) (q := (10, [some (.ref p0), some (.ref p1), none, none], [])) (jq qX13_read 5 rfl) (jo_pf rfl (Or.inl rfl) e4)) ?_
    refine Eq.trans (jb_nx (i := .aload_n 0) (n := 1) (q := (11, [some (.ref p0), some (.ref p1), none, none], [.ref p0])) (jq qX13_read 6 rfl) rfl) ?_
    refine Eq.trans (jb_nx (i := .iconst 0) (n := 1) (q := (12, [some (.ref p0), some (.ref p1), none, none], [.int 0, .ref p0])) (jq qX13_read 7 rfl) rfl) ?_
    obtain ⟨h5, e6, H⟩ := jbd H
    refine Eq.trans (jb_nx (i := .putfield 344) (n := 3) (q := (15, [some (.ref p0), some (.ref p1), none, none], [])) (jq qX13_read 8 rfl) (jo_pf rfl (Or.inl rfl) e6)) ?_
    refine Eq.trans (jb_nx (i := .aload_n 0) (n := 1) (q := (16, [some (.ref p0), some (.ref p1), none, none], [.ref p0])) (jq qX13_read 9 rfl) rfl) ?_
    refine Eq.trans (jb_nx (i := .iconst (-1)) (n := 1) (q := (17, [some (.ref p0), some (.ref p1), none, none], [.int (-1), .ref p0])) (jq qX13_read 10 rfl) rfl) ?_
    obtain ⟨h7, e8, H⟩ := jbd H
    refine Eq.trans (jb_nx (i := .putfield 338) (n := 3) (q := (20, [some (.ref p0), some (.ref p1), none, none], [])) (jq qX13_read 11 rfl) (jo_pf rfl (Or.inl rfl) e8)) ?_
    refine Eq.trans (jb_nx (i := .aload_n 0) (n := 1) (q := (21, [some (.ref p0), some (.ref p1), none, none], [.ref p0])) (jq qX13_read 12 rfl) rfl) ?_
    refine Eq.trans (jb_nx (i := .iconst 0) (n := 1) (q := (22, [some (.ref p0), some (.ref p1), none, none], [.int 0, .ref p0])) (jq qX13_read 13 rfl) rfl) ?_
    obtain ⟨h9, e10, H⟩ := jbd H
    refine Eq.trans (jb_nx (i := .putfield 434) (n := 3) (q := (25, [some (.ref p0), some (.ref p1), none, none], [])) (jq qX13_read 14 rfl) (jo_pf rfl (Or.inl rfl) e10)) ?_
    refine Eq.trans (jb_nx (i := .aload_n 0) (n := 1) (q := (26, [some (.ref p0), some (.ref p1), none, none], [.ref p0])) (jq qX13_read 15 rfl) rfl) ?_
    refine Eq.trans (jb_nx (i := .aload_n 1) (n := 1) (q := (27, [some (.ref p0), some (.ref p1), none, none], [.ref p1, .ref p0])) (jq qX13_read 16 rfl) rfl) ?_
    obtain ⟨b23, H⟩ := jm_O_inv H
    rcases jcI H with ⟨x13, h11, r12, H⟩ | ⟨w24, h25, r12, H⟩
    · refine Eq.trans (jb_nx (i := .invokevirtual 454) (n := 3) (q := (30, [some (.ref p0), some (.ref p1), none, none], [.int x13])) (jq qX13_read 17 rfl) (jo_cv (y := mX13_isBook) rfl (Nat.le_of_ble_eq_true rfl) rfl (Nat.le_of_ble_eq_true rfl) b23 rfl r12 jo_ret)) ?_
      by_cases c14 : x13 = 0
      · rw [if_pos c14] at H
        refine Eq.trans (jb_nx (i := .ifCond .ne 18) (n := 3) (q := (33, [some (.ref p0), some (.ref p1), none, none], [])) (jq qX13_read 18 rfl) (jo_ifF (jz_neF c14))) ?_
        refine Eq.trans (jb_nx (i := .aload_n 0) (n := 1) (q := (34, [some (.ref p0), some (.ref p1), none, none], [.ref p0])) (jq qX13_read 19 rfl) rfl) ?_
        refine Eq.trans (jb_nx (i := .aload_n 1) (n := 1) (q := (35, [some (.ref p0), some (.ref p1), none, none], [.ref p1, .ref p0])) (jq qX13_read 20 rfl) rfl) ?_
        obtain ⟨a15, e16, H⟩ := jbd H
        refine Eq.trans (jb_nx (i := .getfield 320) (n := 3) (q := (38, [some (.ref p0), some (.ref p1), none, none], [.ref a15, .ref p0])) (jq qX13_read 21 rfl) (jo_gf rfl (jr_R_inv e16))) ?_
        refine Eq.trans (jb_nx (i := .aload_n 0) (n := 1) (q := (39, [some (.ref p0), some (.ref p1), none, none], [.ref p0, .ref a15, .ref p0])) (jq qX13_read 22 rfl) rfl) ?_
        obtain ⟨x17, e18, H⟩ := jbd H
        refine Eq.trans (jb_nx (i := .getfield 329) (n := 3) (q := (42, [some (.ref p0), some (.ref p1), none, none], [.int x17, .ref a15, .ref p0])) (jq qX13_read 23 rfl) (jo_gf rfl (jr_I_inv e18))) ?_
        obtain ⟨x19, e20, H⟩ := jbd H
        refine Eq.trans (jb_nx (i := .iaload) (n := 1) (q := (43, [some (.ref p0), some (.ref p1), none, none], [.int x19, .ref p0])) (jq qX13_read 24 rfl) (jo_ial e20)) ?_
        obtain ⟨h21, e22, H⟩ := jbd H
        refine Eq.trans (jb_nx (i := .putfield 13) (n := 3) (q := (46, [some (.ref p0), some (.ref p1), none, none], [])) (jq qX13_read 25 rfl) (jo_pf rfl (Or.inl rfl) e22)) ?_
        refine Eq.trans (jb_nx (i := .iconst 1) (n := 1) (q := (47, [some (.ref p0), some (.ref p1), none, none], [.int 1])) (jq qX13_read 26 rfl) rfl) ?_
        exact Eq.trans (jb_rt (i := .ireturn) (n := 1) (jq qX13_read 27 rfl) (jo_iret rfl rfl)) H
      · rw [if_neg c14] at H
        refine Eq.trans (jb_nx (i := .ifCond .ne 18) (n := 3) (q := (48, [some (.ref p0), some (.ref p1), none, none], [])) (jq qX13_read 18 rfl) (jo_ifT (jz_neT c14) rfl)) ?_
        refine Eq.trans (jb_nx (i := .iconst 0) (n := 1) (q := (49, [some (.ref p0), some (.ref p1), none, none], [.int 0])) (jq qX13_read 28 rfl) rfl) ?_
        refine Eq.trans (jb_nx (i := .istore_n 2) (n := 1) (q := (50, [some (.ref p0), some (.ref p1), some (.int 0), none], [])) (jq qX13_read 29 rfl) rfl) ?_
        exact H
    · exact Eq.trans (jb_rt (i := .invokevirtual 454) (n := 3) (jq qX13_read 17 rfl) (jo_cv (y := mX13_isBook) rfl (Nat.le_of_ble_eq_true rfl) rfl (Nat.le_of_ble_eq_true rfl) b23 rfl r12 (jo_exn rfl))) H
  · exact Eq.trans (jb_rt (i := .invokevirtual 450) (n := 3) (jq qX13_read 2 rfl) (jo_cv (y := mX13_cutIntoTokens) rfl (Nat.le_of_ble_eq_true rfl) rfl (Nat.le_of_ble_eq_true rfl) b26 rfl r2 (jo_exn rfl))) H
/-! MaskPlaysModel cutIntoTokens (LMaskPlaysModel$Book;)V -/
def tX13_cutIntoTokens : List (Nat × Instr × Nat) := [(0, .iconst 0, 1), (1, .istore_n 2, 1), (2, .iconst 0, 1), (3, .istore_n 3, 1), (4, .iload_n 3, 1), (5, .sipush 400, 3), (8, .if_icmp .gt 116, 3), (11, .aload_n 0, 1), (12, .iload_n 2, 1), (13, .invokevirtual 294, 3), (16, .bipush 32, 2), (18, .if_icmp .eq 13, 3), (21, .aload_n 0, 1), (22, .iload_n 2, 1), (23, .invokevirtual 294, 3), (26, .bipush 10, 2), (28, .if_icmp .ne 9, 3), (31, .iinc 2 1, 3), (34, .goto (-23), 3), (37, .aload_n 0, 1), (38, .iload_n 2, 1), (39, .invokevirtual 317, 3), (42, .istore 4, 2), (44, .aload_n 1, 1), (45, .getfield 320, 3), (48, .iload_n 3, 1), (49, .iload_n 2, 1), (50, .iastore, 1), (51, .aload_n 1, 1), (52, .getfield 323, 3), (55, .iload_n 3, 1), (56, .aload_n 0, 1), (57, .aload_n 1, 1), (58, .iload_n 3, 1), (59, .iload_n 2, 1), (60, .iload 4, 2), (62, .invokevirtual 326, 3), (65, .iastore, 1), (66, .iload_n 3, 1), (67, .sipush 400, 3), (70, .if_icmp .ne 22, 3), (73, .aload_n 1, 1), (74, .getfield 323, 3), (77, .iload_n 3, 1), (78, .iaload, 1), (79, .bipush 33, 2), (81, .if_icmp .eq 11, 3), (84, .aload_n 1, 1), (85, .getfield 323, 3), (88, .iload_n 3, 1), (89, .bipush 32, 2), (91, .iastore, 1), (92, .aload_n 1, 1), (93, .getfield 323, 3), (96, .iload_n 3, 1), (97, .iaload, 1), (98, .bipush 32, 2), (100, .if_icmp .eq 14, 3), (103, .aload_n 1, 1), (104, .getfield 323, 3), (107, .iload_n 3, 1), (108, .iaload, 1), (109, .bipush 33, 2), (111, .if_icmp .ne 4, 3), (114, .return_, 1), (115, .iload 4, 2), (117, .istore_n 2, 1), (118, .iinc 3 1, 3), (121, .goto (-117), 3), (124, .return_, 1)]
set_option maxRecDepth 100000 in
theorem qX13_cutIntoTokens : ∀ q ∈ tX13_cutIntoTokens, decode cX13_cutIntoTokens q.1 = .ok (q.2.1, q.2.2) := by decide +kernel
noncomputable def kX13_cutIntoTokens_4 (d : Nat) (p0 : Nat) (p1 : Nat) (i2 : Int32) (i3 : Int32) (o4 : Option Value) (h : jm_H) : Option jm_R := jm_B d mX13_cutIntoTokens (4, [some (.ref p0), some (.ref p1), some (.int i2), some (.int i3), o4], []) h
noncomputable def kX13_cutIntoTokens_11 (d : Nat) (p0 : Nat) (p1 : Nat) (i2 : Int32) (i3 : Int32) (o4 : Option Value) (h : jm_H) : Option jm_R := jm_B d mX13_cutIntoTokens (11, [some (.ref p0), some (.ref p1), some (.int i2), some (.int i3), o4], []) h
noncomputable def kX13_cutIntoTokens_92 (d : Nat) (p0 : Nat) (p1 : Nat) (o2 : Option Value) (i3 : Int32) (i4 : Int32) (h : jm_H) : Option jm_R := jm_B d mX13_cutIntoTokens (92, [some (.ref p0), some (.ref p1), o2, some (.int i3), some (.int i4)], []) h
theorem gX13_cutIntoTokens_4 {d : Nat} {p0 : Nat} {p1 : Nat} {i2 : Int32} {i3 : Int32} {o4 : Option Value} {h : jm_H} {r : jm_R} (H : ((if 400 < i3 then some (.inl none, h) else kX13_cutIntoTokens_11 d p0 p1 i2 i3 o4 h)) = some r) : kX13_cutIntoTokens_4 d p0 p1 i2 i3 o4 h = some r := by
  show jm_B d mX13_cutIntoTokens (4, [some (.ref p0), some (.ref p1), some (.int i2), some (.int i3), o4], []) h = some r
  refine Eq.trans (jb_nx (i := .iload_n 3) (n := 1) (q := (5, [some (.ref p0), some (.ref p1), some (.int i2), some (.int i3), o4], [.int i3])) (jq qX13_cutIntoTokens 4 rfl) rfl) ?_
  refine Eq.trans (jb_nx (i := .sipush 400) (n := 3) (q := (8, [some (.ref p0), some (.ref p1), some (.int i2), some (.int i3), o4], [.int 400, .int i3])) (jq qX13_cutIntoTokens 5 rfl) rfl) ?_
  by_cases c1 : 400 < i3
  · rw [if_pos c1] at H
    refine Eq.trans (jb_nx (i := .if_icmp .gt 116) (n := 3) (q := (124, [some (.ref p0), some (.ref p1), some (.int i2), some (.int i3), o4], [])) (jq qX13_cutIntoTokens 6 rfl) (jo_icT (jz_gtT c1) rfl)) ?_
    exact Eq.trans (jb_rt (i := .return_) (n := 1) (jq qX13_cutIntoTokens 69 rfl) rfl) H
  · rw [if_neg c1] at H
    refine Eq.trans (jb_nx (i := .if_icmp .gt 116) (n := 3) (q := (11, [some (.ref p0), some (.ref p1), some (.int i2), some (.int i3), o4], [])) (jq qX13_cutIntoTokens 6 rfl) (jo_icF (jz_gtF c1))) ?_
    exact H
theorem gX13_cutIntoTokens_11 {d : Nat} {p0 : Nat} {p1 : Nat} {i2 : Int32} {i3 : Int32} {o4 : Option Value} {h : jm_H} {r : jm_R} (H : (jm_O h p0 13 (jc_I (jm_D d mX13_byteOf [.ref p0, .int i2] h) (fun x4 h2 => (if x4 = 32 then kX13_cutIntoTokens_11 d p0 p1 (i2 + 1) i3 o4 h2 else jm_O h2 p0 13 (jc_I (jm_D d mX13_byteOf [.ref p0, .int i2] h2) (fun x8 h6 => (if x8 = 10 then kX13_cutIntoTokens_11 d p0 p1 (i2 + 1) i3 o4 h6 else jm_O h6 p0 13 (jc_I (jm_D d mX13_endOf [.ref p0, .int i2] h6) (fun x12 h10 => (jr_R h10 p1 11 1 2).bind fun a13 => (jm_asi h10 a13 0 i3 i2).bind fun h15 => (jr_R h15 p1 11 0 2).bind fun a17 => jm_O h15 p0 13 (jc_I (jm_D d mX13_kindOf [.ref p0, .ref p1, .int i3, .int i2, .int x12] h15) (fun x21 h19 => (jm_asi h19 a17 0 i3 x21).bind fun h22 => (if i3 = 400 then (jr_R h22 p1 11 0 2).bind fun a25 => (jm_ali h22 a25 0 i3).bind fun x27 => (if x27 = 33 then kX13_cutIntoTokens_92 d p0 p1 (some (.int i2)) i3 x12 h22 else (jr_R h22 p1 11 0 2).bind fun a30 => (jm_asi h22 a30 0 i3 32).bind fun h32 => kX13_cutIntoTokens_92 d p0 p1 (some (.int i2)) i3 x12 h32) else kX13_cutIntoTokens_92 d p0 p1 (some (.int i2)) i3 x12 h22)) jx)) jx))) jx))) jx)) = some r) : kX13_cutIntoTokens_11 d p0 p1 i2 i3 o4 h = some r := by
  show jm_B d mX13_cutIntoTokens (11, [some (.ref p0), some (.ref p1), some (.int i2), some (.int i3), o4], []) h = some r
  refine Eq.trans (jb_nx (i := .aload_n 0) (n := 1) (q := (12, [some (.ref p0), some (.ref p1), some (.int i2), some (.int i3), o4], [.ref p0])) (jq qX13_cutIntoTokens 7 rfl) rfl) ?_
  refine Eq.trans (jb_nx (i := .iload_n 2) (n := 1) (q := (13, [some (.ref p0), some (.ref p1), some (.int i2), some (.int i3), o4], [.int i2, .ref p0])) (jq qX13_cutIntoTokens 8 rfl) rfl) ?_
  obtain ⟨b43, H⟩ := jm_O_inv H
  rcases jcI H with ⟨x4, h2, r3, H⟩ | ⟨w44, h45, r3, H⟩
  · refine Eq.trans (jb_nx (i := .invokevirtual 294) (n := 3) (q := (16, [some (.ref p0), some (.ref p1), some (.int i2), some (.int i3), o4], [.int x4])) (jq qX13_cutIntoTokens 9 rfl) (jo_cv (y := mX13_byteOf) rfl (Nat.le_of_ble_eq_true rfl) rfl (Nat.le_of_ble_eq_true rfl) b43 rfl r3 jo_ret)) ?_
    refine Eq.trans (jb_nx (i := .bipush 32) (n := 2) (q := (18, [some (.ref p0), some (.ref p1), some (.int i2), some (.int i3), o4], [.int 32, .int x4])) (jq qX13_cutIntoTokens 10 rfl) rfl) ?_
    by_cases c5 : x4 = 32
    · rw [if_pos c5] at H
      refine Eq.trans (jb_nx (i := .if_icmp .eq 13) (n := 3) (q := (31, [some (.ref p0), some (.ref p1), some (.int i2), some (.int i3), o4], [])) (jq qX13_cutIntoTokens 11 rfl) (jo_icT (jz_eqT c5) rfl)) ?_
      refine Eq.trans (jb_nx (i := .iinc 2 1) (n := 3) (q := (34, [some (.ref p0), some (.ref p1), some (.int (i2 + 1)), some (.int i3), o4], [])) (jq qX13_cutIntoTokens 17 rfl) rfl) ?_
      refine Eq.trans (jb_nx (i := .goto (-23)) (n := 3) (q := (11, [some (.ref p0), some (.ref p1), some (.int (i2 + 1)), some (.int i3), o4], [])) (jq qX13_cutIntoTokens 18 rfl) rfl) ?_
      exact H
    · rw [if_neg c5] at H
      refine Eq.trans (jb_nx (i := .if_icmp .eq 13) (n := 3) (q := (21, [some (.ref p0), some (.ref p1), some (.int i2), some (.int i3), o4], [])) (jq qX13_cutIntoTokens 11 rfl) (jo_icF (jz_eqF c5))) ?_
      refine Eq.trans (jb_nx (i := .aload_n 0) (n := 1) (q := (22, [some (.ref p0), some (.ref p1), some (.int i2), some (.int i3), o4], [.ref p0])) (jq qX13_cutIntoTokens 12 rfl) rfl) ?_
      refine Eq.trans (jb_nx (i := .iload_n 2) (n := 1) (q := (23, [some (.ref p0), some (.ref p1), some (.int i2), some (.int i3), o4], [.int i2, .ref p0])) (jq qX13_cutIntoTokens 13 rfl) rfl) ?_
      obtain ⟨b40, H⟩ := jm_O_inv H
      rcases jcI H with ⟨x8, h6, r7, H⟩ | ⟨w41, h42, r7, H⟩
      · refine Eq.trans (jb_nx (i := .invokevirtual 294) (n := 3) (q := (26, [some (.ref p0), some (.ref p1), some (.int i2), some (.int i3), o4], [.int x8])) (jq qX13_cutIntoTokens 14 rfl) (jo_cv (y := mX13_byteOf) rfl (Nat.le_of_ble_eq_true rfl) rfl (Nat.le_of_ble_eq_true rfl) b40 rfl r7 jo_ret)) ?_
        refine Eq.trans (jb_nx (i := .bipush 10) (n := 2) (q := (28, [some (.ref p0), some (.ref p1), some (.int i2), some (.int i3), o4], [.int 10, .int x8])) (jq qX13_cutIntoTokens 15 rfl) rfl) ?_
        by_cases c9 : x8 = 10
        · rw [if_pos c9] at H
          refine Eq.trans (jb_nx (i := .if_icmp .ne 9) (n := 3) (q := (31, [some (.ref p0), some (.ref p1), some (.int i2), some (.int i3), o4], [])) (jq qX13_cutIntoTokens 16 rfl) (jo_icF (jz_neF c9))) ?_
          refine Eq.trans (jb_nx (i := .iinc 2 1) (n := 3) (q := (34, [some (.ref p0), some (.ref p1), some (.int (i2 + 1)), some (.int i3), o4], [])) (jq qX13_cutIntoTokens 17 rfl) rfl) ?_
          refine Eq.trans (jb_nx (i := .goto (-23)) (n := 3) (q := (11, [some (.ref p0), some (.ref p1), some (.int (i2 + 1)), some (.int i3), o4], [])) (jq qX13_cutIntoTokens 18 rfl) rfl) ?_
          exact H
        · rw [if_neg c9] at H
          refine Eq.trans (jb_nx (i := .if_icmp .ne 9) (n := 3) (q := (37, [some (.ref p0), some (.ref p1), some (.int i2), some (.int i3), o4], [])) (jq qX13_cutIntoTokens 16 rfl) (jo_icT (jz_neT c9) rfl)) ?_
          refine Eq.trans (jb_nx (i := .aload_n 0) (n := 1) (q := (38, [some (.ref p0), some (.ref p1), some (.int i2), some (.int i3), o4], [.ref p0])) (jq qX13_cutIntoTokens 19 rfl) rfl) ?_
          refine Eq.trans (jb_nx (i := .iload_n 2) (n := 1) (q := (39, [some (.ref p0), some (.ref p1), some (.int i2), some (.int i3), o4], [.int i2, .ref p0])) (jq qX13_cutIntoTokens 20 rfl) rfl) ?_
          obtain ⟨b37, H⟩ := jm_O_inv H
          rcases jcI H with ⟨x12, h10, r11, H⟩ | ⟨w38, h39, r11, H⟩
          · refine Eq.trans (jb_nx (i := .invokevirtual 317) (n := 3) (q := (42, [some (.ref p0), some (.ref p1), some (.int i2), some (.int i3), o4], [.int x12])) (jq qX13_cutIntoTokens 21 rfl) (jo_cv (y := mX13_endOf) rfl (Nat.le_of_ble_eq_true rfl) rfl (Nat.le_of_ble_eq_true rfl) b37 rfl r11 jo_ret)) ?_
            refine Eq.trans (jb_nx (i := .istore 4) (n := 2) (q := (44, [some (.ref p0), some (.ref p1), some (.int i2), some (.int i3), some (.int x12)], [])) (jq qX13_cutIntoTokens 22 rfl) rfl) ?_
            refine Eq.trans (jb_nx (i := .aload_n 1) (n := 1) (q := (45, [some (.ref p0), some (.ref p1), some (.int i2), some (.int i3), some (.int x12)], [.ref p1])) (jq qX13_cutIntoTokens 23 rfl) rfl) ?_
            obtain ⟨a13, e14, H⟩ := jbd H
            refine Eq.trans (jb_nx (i := .getfield 320) (n := 3) (q := (48, [some (.ref p0), some (.ref p1), some (.int i2), some (.int i3), some (.int x12)], [.ref a13])) (jq qX13_cutIntoTokens 24 rfl) (jo_gf rfl (jr_R_inv e14))) ?_
            refine Eq.trans (jb_nx (i := .iload_n 3) (n := 1) (q := (49, [some (.ref p0), some (.ref p1), some (.int i2), some (.int i3), some (.int x12)], [.int i3, .ref a13])) (jq qX13_cutIntoTokens 25 rfl) rfl) ?_
            refine Eq.trans (jb_nx (i := .iload_n 2) (n := 1) (q := (50, [some (.ref p0), some (.ref p1), some (.int i2), some (.int i3), some (.int x12)], [.int i2, .int i3, .ref a13])) (jq qX13_cutIntoTokens 26 rfl) rfl) ?_
            obtain ⟨h15, e16, H⟩ := jbd H
            refine Eq.trans (jb_nx (i := .iastore) (n := 1) (q := (51, [some (.ref p0), some (.ref p1), some (.int i2), some (.int i3), some (.int x12)], [])) (jq qX13_cutIntoTokens 27 rfl) (jo_ias e16)) ?_
            refine Eq.trans (jb_nx (i := .aload_n 1) (n := 1) (q := (52, [some (.ref p0), some (.ref p1), some (.int i2), some (.int i3), some (.int x12)], [.ref p1])) (jq qX13_cutIntoTokens 28 rfl) rfl) ?_
            obtain ⟨a17, e18, H⟩ := jbd H
            refine Eq.trans (jb_nx (i := .getfield 323) (n := 3) (q := (55, [some (.ref p0), some (.ref p1), some (.int i2), some (.int i3), some (.int x12)], [.ref a17])) (jq qX13_cutIntoTokens 29 rfl) (jo_gf rfl (jr_R_inv e18))) ?_
            refine Eq.trans (jb_nx (i := .iload_n 3) (n := 1) (q := (56, [some (.ref p0), some (.ref p1), some (.int i2), some (.int i3), some (.int x12)], [.int i3, .ref a17])) (jq qX13_cutIntoTokens 30 rfl) rfl) ?_
            refine Eq.trans (jb_nx (i := .aload_n 0) (n := 1) (q := (57, [some (.ref p0), some (.ref p1), some (.int i2), some (.int i3), some (.int x12)], [.ref p0, .int i3, .ref a17])) (jq qX13_cutIntoTokens 31 rfl) rfl) ?_
            refine Eq.trans (jb_nx (i := .aload_n 1) (n := 1) (q := (58, [some (.ref p0), some (.ref p1), some (.int i2), some (.int i3), some (.int x12)], [.ref p1, .ref p0, .int i3, .ref a17])) (jq qX13_cutIntoTokens 32 rfl) rfl) ?_
            refine Eq.trans (jb_nx (i := .iload_n 3) (n := 1) (q := (59, [some (.ref p0), some (.ref p1), some (.int i2), some (.int i3), some (.int x12)], [.int i3, .ref p1, .ref p0, .int i3, .ref a17])) (jq qX13_cutIntoTokens 33 rfl) rfl) ?_
            refine Eq.trans (jb_nx (i := .iload_n 2) (n := 1) (q := (60, [some (.ref p0), some (.ref p1), some (.int i2), some (.int i3), some (.int x12)], [.int i2, .int i3, .ref p1, .ref p0, .int i3, .ref a17])) (jq qX13_cutIntoTokens 34 rfl) rfl) ?_
            refine Eq.trans (jb_nx (i := .iload 4) (n := 2) (q := (62, [some (.ref p0), some (.ref p1), some (.int i2), some (.int i3), some (.int x12)], [.int x12, .int i2, .int i3, .ref p1, .ref p0, .int i3, .ref a17])) (jq qX13_cutIntoTokens 35 rfl) rfl) ?_
            obtain ⟨b34, H⟩ := jm_O_inv H
            rcases jcI H with ⟨x21, h19, r20, H⟩ | ⟨w35, h36, r20, H⟩
            · refine Eq.trans (jb_nx (i := .invokevirtual 326) (n := 3) (q := (65, [some (.ref p0), some (.ref p1), some (.int i2), some (.int i3), some (.int x12)], [.int x21, .int i3, .ref a17])) (jq qX13_cutIntoTokens 36 rfl) (jo_cv (y := mX13_kindOf) rfl (Nat.le_of_ble_eq_true rfl) rfl (Nat.le_of_ble_eq_true rfl) b34 rfl r20 jo_ret)) ?_
              obtain ⟨h22, e23, H⟩ := jbd H
              refine Eq.trans (jb_nx (i := .iastore) (n := 1) (q := (66, [some (.ref p0), some (.ref p1), some (.int i2), some (.int i3), some (.int x12)], [])) (jq qX13_cutIntoTokens 37 rfl) (jo_ias e23)) ?_
              refine Eq.trans (jb_nx (i := .iload_n 3) (n := 1) (q := (67, [some (.ref p0), some (.ref p1), some (.int i2), some (.int i3), some (.int x12)], [.int i3])) (jq qX13_cutIntoTokens 38 rfl) rfl) ?_
              refine Eq.trans (jb_nx (i := .sipush 400) (n := 3) (q := (70, [some (.ref p0), some (.ref p1), some (.int i2), some (.int i3), some (.int x12)], [.int 400, .int i3])) (jq qX13_cutIntoTokens 39 rfl) rfl) ?_
              by_cases c24 : i3 = 400
              · rw [if_pos c24] at H
                refine Eq.trans (jb_nx (i := .if_icmp .ne 22) (n := 3) (q := (73, [some (.ref p0), some (.ref p1), some (.int i2), some (.int i3), some (.int x12)], [])) (jq qX13_cutIntoTokens 40 rfl) (jo_icF (jz_neF c24))) ?_
                refine Eq.trans (jb_nx (i := .aload_n 1) (n := 1) (q := (74, [some (.ref p0), some (.ref p1), some (.int i2), some (.int i3), some (.int x12)], [.ref p1])) (jq qX13_cutIntoTokens 41 rfl) rfl) ?_
                obtain ⟨a25, e26, H⟩ := jbd H
                refine Eq.trans (jb_nx (i := .getfield 323) (n := 3) (q := (77, [some (.ref p0), some (.ref p1), some (.int i2), some (.int i3), some (.int x12)], [.ref a25])) (jq qX13_cutIntoTokens 42 rfl) (jo_gf rfl (jr_R_inv e26))) ?_
                refine Eq.trans (jb_nx (i := .iload_n 3) (n := 1) (q := (78, [some (.ref p0), some (.ref p1), some (.int i2), some (.int i3), some (.int x12)], [.int i3, .ref a25])) (jq qX13_cutIntoTokens 43 rfl) rfl) ?_
                obtain ⟨x27, e28, H⟩ := jbd H
                refine Eq.trans (jb_nx (i := .iaload) (n := 1) (q := (79, [some (.ref p0), some (.ref p1), some (.int i2), some (.int i3), some (.int x12)], [.int x27])) (jq qX13_cutIntoTokens 44 rfl) (jo_ial e28)) ?_
                refine Eq.trans (jb_nx (i := .bipush 33) (n := 2) (q := (81, [some (.ref p0), some (.ref p1), some (.int i2), some (.int i3), some (.int x12)], [.int 33, .int x27])) (jq qX13_cutIntoTokens 45 rfl) rfl) ?_
                by_cases c29 : x27 = 33
                · rw [if_pos c29] at H
                  refine Eq.trans (jb_nx (i := .if_icmp .eq 11) (n := 3) (q := (92, [some (.ref p0), some (.ref p1), some (.int i2), some (.int i3), some (.int x12)], [])) (jq qX13_cutIntoTokens 46 rfl) (jo_icT (jz_eqT c29) rfl)) ?_
                  exact H
                · rw [if_neg c29] at H
                  refine Eq.trans (jb_nx (i := .if_icmp .eq 11) (n := 3) (q := (84, [some (.ref p0), some (.ref p1), some (.int i2), some (.int i3), some (.int x12)], [])) (jq qX13_cutIntoTokens 46 rfl) (jo_icF (jz_eqF c29))) ?_
                  refine Eq.trans (jb_nx (i := .aload_n 1) (n := 1) (q := (85, [some (.ref p0), some (.ref p1), some (.int i2), some (.int i3), some (.int x12)], [.ref p1])) (jq qX13_cutIntoTokens 47 rfl) rfl) ?_
                  obtain ⟨a30, e31, H⟩ := jbd H
                  refine Eq.trans (jb_nx (i := .getfield 323) (n := 3) (q := (88, [some (.ref p0), some (.ref p1), some (.int i2), some (.int i3), some (.int x12)], [.ref a30])) (jq qX13_cutIntoTokens 48 rfl) (jo_gf rfl (jr_R_inv e31))) ?_
                  refine Eq.trans (jb_nx (i := .iload_n 3) (n := 1) (q := (89, [some (.ref p0), some (.ref p1), some (.int i2), some (.int i3), some (.int x12)], [.int i3, .ref a30])) (jq qX13_cutIntoTokens 49 rfl) rfl) ?_
                  refine Eq.trans (jb_nx (i := .bipush 32) (n := 2) (q := (91, [some (.ref p0), some (.ref p1), some (.int i2), some (.int i3), some (.int x12)], [.int 32, .int i3, .ref a30])) (jq qX13_cutIntoTokens 50 rfl) rfl) ?_
                  obtain ⟨h32, e33, H⟩ := jbd H
                  refine Eq.trans (jb_nx (i := .iastore) (n := 1) (q := (92, [some (.ref p0), some (.ref p1), some (.int i2), some (.int i3), some (.int x12)], [])) (jq qX13_cutIntoTokens 51 rfl) (jo_ias e33)) ?_
                  exact H
              · rw [if_neg c24] at H
                refine Eq.trans (jb_nx (i := .if_icmp .ne 22) (n := 3) (q := (92, [some (.ref p0), some (.ref p1), some (.int i2), some (.int i3), some (.int x12)], [])) (jq qX13_cutIntoTokens 40 rfl) (jo_icT (jz_neT c24) rfl)) ?_
                exact H
            · exact Eq.trans (jb_rt (i := .invokevirtual 326) (n := 3) (jq qX13_cutIntoTokens 36 rfl) (jo_cv (y := mX13_kindOf) rfl (Nat.le_of_ble_eq_true rfl) rfl (Nat.le_of_ble_eq_true rfl) b34 rfl r20 (jo_exn rfl))) H
          · exact Eq.trans (jb_rt (i := .invokevirtual 317) (n := 3) (jq qX13_cutIntoTokens 21 rfl) (jo_cv (y := mX13_endOf) rfl (Nat.le_of_ble_eq_true rfl) rfl (Nat.le_of_ble_eq_true rfl) b37 rfl r11 (jo_exn rfl))) H
      · exact Eq.trans (jb_rt (i := .invokevirtual 294) (n := 3) (jq qX13_cutIntoTokens 14 rfl) (jo_cv (y := mX13_byteOf) rfl (Nat.le_of_ble_eq_true rfl) rfl (Nat.le_of_ble_eq_true rfl) b40 rfl r7 (jo_exn rfl))) H
  · exact Eq.trans (jb_rt (i := .invokevirtual 294) (n := 3) (jq qX13_cutIntoTokens 9 rfl) (jo_cv (y := mX13_byteOf) rfl (Nat.le_of_ble_eq_true rfl) rfl (Nat.le_of_ble_eq_true rfl) b43 rfl r3 (jo_exn rfl))) H
theorem gX13_cutIntoTokens_92 {d : Nat} {p0 : Nat} {p1 : Nat} {o2 : Option Value} {i3 : Int32} {i4 : Int32} {h : jm_H} {r : jm_R} (H : ((jr_R h p1 11 0 2).bind fun a46 => (jm_ali h a46 0 i3).bind fun x48 => (if x48 = 32 then some (.inl none, h) else (jr_R h p1 11 0 2).bind fun a51 => (jm_ali h a51 0 i3).bind fun x53 => (if x53 = 33 then some (.inl none, h) else kX13_cutIntoTokens_4 d p0 p1 i4 (i3 + 1) (some (.int i4)) h))) = some r) : kX13_cutIntoTokens_92 d p0 p1 o2 i3 i4 h = some r := by
  show jm_B d mX13_cutIntoTokens (92, [some (.ref p0), some (.ref p1), o2, some (.int i3), some (.int i4)], []) h = some r
  refine Eq.trans (jb_nx (i := .aload_n 1) (n := 1) (q := (93, [some (.ref p0), some (.ref p1), o2, some (.int i3), some (.int i4)], [.ref p1])) (jq qX13_cutIntoTokens 52 rfl) rfl) ?_
  obtain ⟨a46, e47, H⟩ := jbd H
  refine Eq.trans (jb_nx (i := .getfield 323) (n := 3) (q := (96, [some (.ref p0), some (.ref p1), o2, some (.int i3), some (.int i4)], [.ref a46])) (jq qX13_cutIntoTokens 53 rfl) (jo_gf rfl (jr_R_inv e47))) ?_
  refine Eq.trans (jb_nx (i := .iload_n 3) (n := 1) (q := (97, [some (.ref p0), some (.ref p1), o2, some (.int i3), some (.int i4)], [.int i3, .ref a46])) (jq qX13_cutIntoTokens 54 rfl) rfl) ?_
  obtain ⟨x48, e49, H⟩ := jbd H
  refine Eq.trans (jb_nx (i := .iaload) (n := 1) (q := (98, [some (.ref p0), some (.ref p1), o2, some (.int i3), some (.int i4)], [.int x48])) (jq qX13_cutIntoTokens 55 rfl) (jo_ial e49)) ?_
  refine Eq.trans (jb_nx (i := .bipush 32) (n := 2) (q := (100, [some (.ref p0), some (.ref p1), o2, some (.int i3), some (.int i4)], [.int 32, .int x48])) (jq qX13_cutIntoTokens 56 rfl) rfl) ?_
  by_cases c50 : x48 = 32
  · rw [if_pos c50] at H
    refine Eq.trans (jb_nx (i := .if_icmp .eq 14) (n := 3) (q := (114, [some (.ref p0), some (.ref p1), o2, some (.int i3), some (.int i4)], [])) (jq qX13_cutIntoTokens 57 rfl) (jo_icT (jz_eqT c50) rfl)) ?_
    exact Eq.trans (jb_rt (i := .return_) (n := 1) (jq qX13_cutIntoTokens 64 rfl) rfl) H
  · rw [if_neg c50] at H
    refine Eq.trans (jb_nx (i := .if_icmp .eq 14) (n := 3) (q := (103, [some (.ref p0), some (.ref p1), o2, some (.int i3), some (.int i4)], [])) (jq qX13_cutIntoTokens 57 rfl) (jo_icF (jz_eqF c50))) ?_
    refine Eq.trans (jb_nx (i := .aload_n 1) (n := 1) (q := (104, [some (.ref p0), some (.ref p1), o2, some (.int i3), some (.int i4)], [.ref p1])) (jq qX13_cutIntoTokens 58 rfl) rfl) ?_
    obtain ⟨a51, e52, H⟩ := jbd H
    refine Eq.trans (jb_nx (i := .getfield 323) (n := 3) (q := (107, [some (.ref p0), some (.ref p1), o2, some (.int i3), some (.int i4)], [.ref a51])) (jq qX13_cutIntoTokens 59 rfl) (jo_gf rfl (jr_R_inv e52))) ?_
    refine Eq.trans (jb_nx (i := .iload_n 3) (n := 1) (q := (108, [some (.ref p0), some (.ref p1), o2, some (.int i3), some (.int i4)], [.int i3, .ref a51])) (jq qX13_cutIntoTokens 60 rfl) rfl) ?_
    obtain ⟨x53, e54, H⟩ := jbd H
    refine Eq.trans (jb_nx (i := .iaload) (n := 1) (q := (109, [some (.ref p0), some (.ref p1), o2, some (.int i3), some (.int i4)], [.int x53])) (jq qX13_cutIntoTokens 61 rfl) (jo_ial e54)) ?_
    refine Eq.trans (jb_nx (i := .bipush 33) (n := 2) (q := (111, [some (.ref p0), some (.ref p1), o2, some (.int i3), some (.int i4)], [.int 33, .int x53])) (jq qX13_cutIntoTokens 62 rfl) rfl) ?_
    by_cases c55 : x53 = 33
    · rw [if_pos c55] at H
      refine Eq.trans (jb_nx (i := .if_icmp .ne 4) (n := 3) (q := (114, [some (.ref p0), some (.ref p1), o2, some (.int i3), some (.int i4)], [])) (jq qX13_cutIntoTokens 63 rfl) (jo_icF (jz_neF c55))) ?_
      exact Eq.trans (jb_rt (i := .return_) (n := 1) (jq qX13_cutIntoTokens 64 rfl) rfl) H
    · rw [if_neg c55] at H
      refine Eq.trans (jb_nx (i := .if_icmp .ne 4) (n := 3) (q := (115, [some (.ref p0), some (.ref p1), o2, some (.int i3), some (.int i4)], [])) (jq qX13_cutIntoTokens 63 rfl) (jo_icT (jz_neT c55) rfl)) ?_
      refine Eq.trans (jb_nx (i := .iload 4) (n := 2) (q := (117, [some (.ref p0), some (.ref p1), o2, some (.int i3), some (.int i4)], [.int i4])) (jq qX13_cutIntoTokens 65 rfl) rfl) ?_
      refine Eq.trans (jb_nx (i := .istore_n 2) (n := 1) (q := (118, [some (.ref p0), some (.ref p1), some (.int i4), some (.int i3), some (.int i4)], [])) (jq qX13_cutIntoTokens 66 rfl) rfl) ?_
      refine Eq.trans (jb_nx (i := .iinc 3 1) (n := 3) (q := (121, [some (.ref p0), some (.ref p1), some (.int i4), some (.int (i3 + 1)), some (.int i4)], [])) (jq qX13_cutIntoTokens 67 rfl) rfl) ?_
      refine Eq.trans (jb_nx (i := .goto (-117)) (n := 3) (q := (4, [some (.ref p0), some (.ref p1), some (.int i4), some (.int (i3 + 1)), some (.int i4)], [])) (jq qX13_cutIntoTokens 68 rfl) rfl) ?_
      exact H
theorem gX13_cutIntoTokens {d : Nat} {p0 : Nat} {p1 : Nat} {h : jm_H} {r : jm_R} (H : (kX13_cutIntoTokens_4 d p0 p1 0 0 none h) = some r) : jm_D (d + 1) mX13_cutIntoTokens [.ref p0, .ref p1] h = some r := by
  rw [jm_D_body (Nat.le_of_ble_eq_true rfl)]
  show jm_B d mX13_cutIntoTokens (0, [some (.ref p0), some (.ref p1), none, none, none], []) h = some r
  refine Eq.trans (jb_nx (i := .iconst 0) (n := 1) (q := (1, [some (.ref p0), some (.ref p1), none, none, none], [.int 0])) (jq qX13_cutIntoTokens 0 rfl) rfl) ?_
  refine Eq.trans (jb_nx (i := .istore_n 2) (n := 1) (q := (2, [some (.ref p0), some (.ref p1), some (.int 0), none, none], [])) (jq qX13_cutIntoTokens 1 rfl) rfl) ?_
  refine Eq.trans (jb_nx (i := .iconst 0) (n := 1) (q := (3, [some (.ref p0), some (.ref p1), some (.int 0), none, none], [.int 0])) (jq qX13_cutIntoTokens 2 rfl) rfl) ?_
  refine Eq.trans (jb_nx (i := .istore_n 3) (n := 1) (q := (4, [some (.ref p0), some (.ref p1), some (.int 0), some (.int 0), none], [])) (jq qX13_cutIntoTokens 3 rfl) rfl) ?_
  exact H
/-! MaskPlaysModel byteOf (I)I -/
def tX13_byteOf : List (Nat × Instr × Nat) := [(0, .iload_n 1, 1), (1, .aload_n 0, 1), (2, .getfield 291, 3), (5, .if_icmp .ge 12, 3), (8, .aload_n 0, 1), (9, .getfield 9, 3), (12, .iload_n 1, 1), (13, .iaload, 1), (14, .goto 4, 3), (17, .iconst (-1), 1), (18, .ireturn, 1)]
set_option maxRecDepth 100000 in
theorem qX13_byteOf : ∀ q ∈ tX13_byteOf, decode cX13_byteOf q.1 = .ok (q.2.1, q.2.2) := by decide +kernel
theorem gX13_byteOf {d : Nat} {p0 : Nat} {i1 : Int32} {h : jm_H} {r : jm_R} (H : ((jr_I h p0 12 2 0).bind fun x1 => (if i1 < x1 then (jr_R h p0 12 1 2).bind fun a4 => (jm_ali h a4 0 i1).bind fun x6 => some (.inl (some (.int x6)), h) else some (.inl (some (.int (-1))), h))) = some r) : jm_D (d + 1) mX13_byteOf [.ref p0, .int i1] h = some r := by
  rw [jm_D_body (Nat.le_of_ble_eq_true rfl)]
  show jm_B d mX13_byteOf (0, [some (.ref p0), some (.int i1)], []) h = some r
  refine Eq.trans (jb_nx (i := .iload_n 1) (n := 1) (q := (1, [some (.ref p0), some (.int i1)], [.int i1])) (jq qX13_byteOf 0 rfl) rfl) ?_
  refine Eq.trans (jb_nx (i := .aload_n 0) (n := 1) (q := (2, [some (.ref p0), some (.int i1)], [.ref p0, .int i1])) (jq qX13_byteOf 1 rfl) rfl) ?_
  obtain ⟨x1, e2, H⟩ := jbd H
  refine Eq.trans (jb_nx (i := .getfield 291) (n := 3) (q := (5, [some (.ref p0), some (.int i1)], [.int x1, .int i1])) (jq qX13_byteOf 2 rfl) (jo_gf rfl (jr_I_inv e2))) ?_
  by_cases c3 : i1 < x1
  · rw [if_pos c3] at H
    refine Eq.trans (jb_nx (i := .if_icmp .ge 12) (n := 3) (q := (8, [some (.ref p0), some (.int i1)], [])) (jq qX13_byteOf 3 rfl) (jo_icF (jz_geF c3))) ?_
    refine Eq.trans (jb_nx (i := .aload_n 0) (n := 1) (q := (9, [some (.ref p0), some (.int i1)], [.ref p0])) (jq qX13_byteOf 4 rfl) rfl) ?_
    obtain ⟨a4, e5, H⟩ := jbd H
    refine Eq.trans (jb_nx (i := .getfield 9) (n := 3) (q := (12, [some (.ref p0), some (.int i1)], [.ref a4])) (jq qX13_byteOf 5 rfl) (jo_gf rfl (jr_R_inv e5))) ?_
    refine Eq.trans (jb_nx (i := .iload_n 1) (n := 1) (q := (13, [some (.ref p0), some (.int i1)], [.int i1, .ref a4])) (jq qX13_byteOf 6 rfl) rfl) ?_
    obtain ⟨x6, e7, H⟩ := jbd H
    refine Eq.trans (jb_nx (i := .iaload) (n := 1) (q := (14, [some (.ref p0), some (.int i1)], [.int x6])) (jq qX13_byteOf 7 rfl) (jo_ial e7)) ?_
    refine Eq.trans (jb_nx (i := .goto 4) (n := 3) (q := (18, [some (.ref p0), some (.int i1)], [.int x6])) (jq qX13_byteOf 8 rfl) rfl) ?_
    exact Eq.trans (jb_rt (i := .ireturn) (n := 1) (jq qX13_byteOf 10 rfl) (jo_iret rfl rfl)) H
  · rw [if_neg c3] at H
    refine Eq.trans (jb_nx (i := .if_icmp .ge 12) (n := 3) (q := (17, [some (.ref p0), some (.int i1)], [])) (jq qX13_byteOf 3 rfl) (jo_icT (jz_geT c3) rfl)) ?_
    refine Eq.trans (jb_nx (i := .iconst (-1)) (n := 1) (q := (18, [some (.ref p0), some (.int i1)], [.int (-1)])) (jq qX13_byteOf 9 rfl) rfl) ?_
    exact Eq.trans (jb_rt (i := .ireturn) (n := 1) (jq qX13_byteOf 10 rfl) (jo_iret rfl rfl)) H
/-! MaskPlaysModel endOf (I)I -/
def tX13_endOf : List (Nat × Instr × Nat) := [(0, .aload_n 0, 1), (1, .iload_n 1, 1), (2, .invokevirtual 294, 3), (5, .istore_n 2, 1), (6, .iload_n 1, 1), (7, .iconst 1, 1), (8, .iadd, 1), (9, .istore_n 3, 1), (10, .iload_n 2, 1), (11, .invokestatic 297, 3), (14, .ifCond .eq 31, 3), (17, .aload_n 0, 1), (18, .iload_n 3, 1), (19, .invokevirtual 294, 3), (22, .invokestatic 297, 3), (25, .ifCond .ne 14, 3), (28, .aload_n 0, 1), (29, .iload_n 3, 1), (30, .invokevirtual 294, 3), (33, .invokestatic 300, 3), (36, .ifCond .eq 9, 3), (39, .iinc 3 1, 3), (42, .goto (-25), 3), (45, .iload_n 2, 1), (46, .invokestatic 300, 3), (49, .ifCond .eq 20, 3), (52, .aload_n 0, 1), (53, .iload_n 3, 1), (54, .invokevirtual 294, 3), (57, .invokestatic 300, 3), (60, .ifCond .eq 9, 3), (63, .iinc 3 1, 3), (66, .goto (-14), 3), (69, .iload_n 2, 1), (70, .bipush 60, 2), (72, .if_icmp .eq 9, 3), (75, .iload_n 2, 1), (76, .bipush 62, 2), (78, .if_icmp .ne 16, 3), (81, .aload_n 0, 1), (82, .iload_n 3, 1), (83, .invokevirtual 294, 3), (86, .bipush 61, 2), (88, .if_icmp .ne 6, 3), (91, .iinc 3 1, 3), (94, .iload_n 3, 1), (95, .ireturn, 1)]
set_option maxRecDepth 100000 in
theorem qX13_endOf : ∀ q ∈ tX13_endOf, decode cX13_endOf q.1 = .ok (q.2.1, q.2.2) := by decide +kernel
noncomputable def kX13_endOf_17 (d : Nat) (p0 : Nat) (o1 : Option Value) (i2 : Int32) (i3 : Int32) (h : jm_H) : Option jm_R := jm_B d mX13_endOf (17, [some (.ref p0), o1, some (.int i2), some (.int i3)], []) h
noncomputable def kX13_endOf_52 (d : Nat) (p0 : Nat) (o1 : Option Value) (i2 : Int32) (i3 : Int32) (h : jm_H) : Option jm_R := jm_B d mX13_endOf (52, [some (.ref p0), o1, some (.int i2), some (.int i3)], []) h
noncomputable def kX13_endOf_69 (d : Nat) (p0 : Nat) (o1 : Option Value) (i2 : Int32) (i3 : Int32) (h : jm_H) : Option jm_R := jm_B d mX13_endOf (69, [some (.ref p0), o1, some (.int i2), some (.int i3)], []) h
theorem gX13_endOf_17 {d : Nat} {p0 : Nat} {o1 : Option Value} {i2 : Int32} {i3 : Int32} {h : jm_H} {r : jm_R} (H : (jm_O h p0 13 (jc_I (jm_D d mX13_byteOf [.ref p0, .int i3] h) (fun x21 h19 => jc_I (jm_D d mX13_isSmall [.int x21] h19) (fun x24 h22 => (if x24 = 0 then jm_O h22 p0 13 (jc_I (jm_D d mX13_byteOf [.ref p0, .int i3] h22) (fun x28 h26 => jc_I (jm_D d mX13_isDigit [.int x28] h26) (fun x31 h29 => (if x31 = 0 then jc_I (jm_D d mX13_isDigit [.int i2] h29) (fun x35 h33 => (if x35 = 0 then kX13_endOf_69 d p0 o1 i2 i3 h33 else kX13_endOf_52 d p0 o1 i2 i3 h33)) jx else kX13_endOf_17 d p0 o1 i2 (i3 + 1) h29)) jx) jx) else kX13_endOf_17 d p0 o1 i2 (i3 + 1) h22)) jx) jx)) = some r) : kX13_endOf_17 d p0 o1 i2 i3 h = some r := by
  show jm_B d mX13_endOf (17, [some (.ref p0), o1, some (.int i2), some (.int i3)], []) h = some r
  refine Eq.trans (jb_nx (i := .aload_n 0) (n := 1) (q := (18, [some (.ref p0), o1, some (.int i2), some (.int i3)], [.ref p0])) (jq qX13_endOf 11 rfl) rfl) ?_
  refine Eq.trans (jb_nx (i := .iload_n 3) (n := 1) (q := (19, [some (.ref p0), o1, some (.int i2), some (.int i3)], [.int i3, .ref p0])) (jq qX13_endOf 12 rfl) rfl) ?_
  obtain ⟨b46, H⟩ := jm_O_inv H
  rcases jcI H with ⟨x21, h19, r20, H⟩ | ⟨w47, h48, r20, H⟩
  · refine Eq.trans (jb_nx (i := .invokevirtual 294) (n := 3) (q := (22, [some (.ref p0), o1, some (.int i2), some (.int i3)], [.int x21])) (jq qX13_endOf 13 rfl) (jo_cv (y := mX13_byteOf) rfl (Nat.le_of_ble_eq_true rfl) rfl (Nat.le_of_ble_eq_true rfl) b46 rfl r20 jo_ret)) ?_
    rcases jcI H with ⟨x24, h22, r23, H⟩ | ⟨w44, h45, r23, H⟩
    · refine Eq.trans (jb_nx (i := .invokestatic 297) (n := 3) (q := (25, [some (.ref p0), o1, some (.int i2), some (.int i3)], [.int x24])) (jq qX13_endOf 14 rfl) (jo_cs (y := mX13_isSmall) (w := 1) (by decide) rfl (Nat.le_of_ble_eq_true rfl) rfl (Nat.le_of_ble_eq_true rfl) rfl r23 jo_ret)) ?_
      by_cases c25 : x24 = 0
      · rw [if_pos c25] at H
        refine Eq.trans (jb_nx (i := .ifCond .ne 14) (n := 3) (q := (28, [some (.ref p0), o1, some (.int i2), some (.int i3)], [])) (jq qX13_endOf 15 rfl) (jo_ifF (jz_neF c25))) ?_
        refine Eq.trans (jb_nx (i := .aload_n 0) (n := 1) (q := (29, [some (.ref p0), o1, some (.int i2), some (.int i3)], [.ref p0])) (jq qX13_endOf 16 rfl) rfl) ?_
        refine Eq.trans (jb_nx (i := .iload_n 3) (n := 1) (q := (30, [some (.ref p0), o1, some (.int i2), some (.int i3)], [.int i3, .ref p0])) (jq qX13_endOf 17 rfl) rfl) ?_
        obtain ⟨b41, H⟩ := jm_O_inv H
        rcases jcI H with ⟨x28, h26, r27, H⟩ | ⟨w42, h43, r27, H⟩
        · refine Eq.trans (jb_nx (i := .invokevirtual 294) (n := 3) (q := (33, [some (.ref p0), o1, some (.int i2), some (.int i3)], [.int x28])) (jq qX13_endOf 18 rfl) (jo_cv (y := mX13_byteOf) rfl (Nat.le_of_ble_eq_true rfl) rfl (Nat.le_of_ble_eq_true rfl) b41 rfl r27 jo_ret)) ?_
          rcases jcI H with ⟨x31, h29, r30, H⟩ | ⟨w39, h40, r30, H⟩
          · refine Eq.trans (jb_nx (i := .invokestatic 300) (n := 3) (q := (36, [some (.ref p0), o1, some (.int i2), some (.int i3)], [.int x31])) (jq qX13_endOf 19 rfl) (jo_cs (y := mX13_isDigit) (w := 1) (by decide) rfl (Nat.le_of_ble_eq_true rfl) rfl (Nat.le_of_ble_eq_true rfl) rfl r30 jo_ret)) ?_
            by_cases c32 : x31 = 0
            · rw [if_pos c32] at H
              refine Eq.trans (jb_nx (i := .ifCond .eq 9) (n := 3) (q := (45, [some (.ref p0), o1, some (.int i2), some (.int i3)], [])) (jq qX13_endOf 20 rfl) (jo_ifT (jz_eqT c32) rfl)) ?_
              refine Eq.trans (jb_nx (i := .iload_n 2) (n := 1) (q := (46, [some (.ref p0), o1, some (.int i2), some (.int i3)], [.int i2])) (jq qX13_endOf 23 rfl) rfl) ?_
              rcases jcI H with ⟨x35, h33, r34, H⟩ | ⟨w37, h38, r34, H⟩
              · refine Eq.trans (jb_nx (i := .invokestatic 300) (n := 3) (q := (49, [some (.ref p0), o1, some (.int i2), some (.int i3)], [.int x35])) (jq qX13_endOf 24 rfl) (jo_cs (y := mX13_isDigit) (w := 1) (by decide) rfl (Nat.le_of_ble_eq_true rfl) rfl (Nat.le_of_ble_eq_true rfl) rfl r34 jo_ret)) ?_
                by_cases c36 : x35 = 0
                · rw [if_pos c36] at H
                  refine Eq.trans (jb_nx (i := .ifCond .eq 20) (n := 3) (q := (69, [some (.ref p0), o1, some (.int i2), some (.int i3)], [])) (jq qX13_endOf 25 rfl) (jo_ifT (jz_eqT c36) rfl)) ?_
                  exact H
                · rw [if_neg c36] at H
                  refine Eq.trans (jb_nx (i := .ifCond .eq 20) (n := 3) (q := (52, [some (.ref p0), o1, some (.int i2), some (.int i3)], [])) (jq qX13_endOf 25 rfl) (jo_ifF (jz_eqF c36))) ?_
                  exact H
              · exact Eq.trans (jb_rt (i := .invokestatic 300) (n := 3) (jq qX13_endOf 24 rfl) (jo_cs (y := mX13_isDigit) (w := 1) (by decide) rfl (Nat.le_of_ble_eq_true rfl) rfl (Nat.le_of_ble_eq_true rfl) rfl r34 (jo_exn rfl))) H
            · rw [if_neg c32] at H
              refine Eq.trans (jb_nx (i := .ifCond .eq 9) (n := 3) (q := (39, [some (.ref p0), o1, some (.int i2), some (.int i3)], [])) (jq qX13_endOf 20 rfl) (jo_ifF (jz_eqF c32))) ?_
              refine Eq.trans (jb_nx (i := .iinc 3 1) (n := 3) (q := (42, [some (.ref p0), o1, some (.int i2), some (.int (i3 + 1))], [])) (jq qX13_endOf 21 rfl) rfl) ?_
              refine Eq.trans (jb_nx (i := .goto (-25)) (n := 3) (q := (17, [some (.ref p0), o1, some (.int i2), some (.int (i3 + 1))], [])) (jq qX13_endOf 22 rfl) rfl) ?_
              exact H
          · exact Eq.trans (jb_rt (i := .invokestatic 300) (n := 3) (jq qX13_endOf 19 rfl) (jo_cs (y := mX13_isDigit) (w := 1) (by decide) rfl (Nat.le_of_ble_eq_true rfl) rfl (Nat.le_of_ble_eq_true rfl) rfl r30 (jo_exn rfl))) H
        · exact Eq.trans (jb_rt (i := .invokevirtual 294) (n := 3) (jq qX13_endOf 18 rfl) (jo_cv (y := mX13_byteOf) rfl (Nat.le_of_ble_eq_true rfl) rfl (Nat.le_of_ble_eq_true rfl) b41 rfl r27 (jo_exn rfl))) H
      · rw [if_neg c25] at H
        refine Eq.trans (jb_nx (i := .ifCond .ne 14) (n := 3) (q := (39, [some (.ref p0), o1, some (.int i2), some (.int i3)], [])) (jq qX13_endOf 15 rfl) (jo_ifT (jz_neT c25) rfl)) ?_
        refine Eq.trans (jb_nx (i := .iinc 3 1) (n := 3) (q := (42, [some (.ref p0), o1, some (.int i2), some (.int (i3 + 1))], [])) (jq qX13_endOf 21 rfl) rfl) ?_
        refine Eq.trans (jb_nx (i := .goto (-25)) (n := 3) (q := (17, [some (.ref p0), o1, some (.int i2), some (.int (i3 + 1))], [])) (jq qX13_endOf 22 rfl) rfl) ?_
        exact H
    · exact Eq.trans (jb_rt (i := .invokestatic 297) (n := 3) (jq qX13_endOf 14 rfl) (jo_cs (y := mX13_isSmall) (w := 1) (by decide) rfl (Nat.le_of_ble_eq_true rfl) rfl (Nat.le_of_ble_eq_true rfl) rfl r23 (jo_exn rfl))) H
  · exact Eq.trans (jb_rt (i := .invokevirtual 294) (n := 3) (jq qX13_endOf 13 rfl) (jo_cv (y := mX13_byteOf) rfl (Nat.le_of_ble_eq_true rfl) rfl (Nat.le_of_ble_eq_true rfl) b46 rfl r20 (jo_exn rfl))) H
theorem gX13_endOf_52 {d : Nat} {p0 : Nat} {o1 : Option Value} {i2 : Int32} {i3 : Int32} {h : jm_H} {r : jm_R} (H : (jm_O h p0 13 (jc_I (jm_D d mX13_byteOf [.ref p0, .int i3] h) (fun x51 h49 => jc_I (jm_D d mX13_isDigit [.int x51] h49) (fun x54 h52 => (if x54 = 0 then kX13_endOf_69 d p0 o1 i2 i3 h52 else kX13_endOf_52 d p0 o1 i2 (i3 + 1) h52)) jx) jx)) = some r) : kX13_endOf_52 d p0 o1 i2 i3 h = some r := by
  show jm_B d mX13_endOf (52, [some (.ref p0), o1, some (.int i2), some (.int i3)], []) h = some r
  refine Eq.trans (jb_nx (i := .aload_n 0) (n := 1) (q := (53, [some (.ref p0), o1, some (.int i2), some (.int i3)], [.ref p0])) (jq qX13_endOf 26 rfl) rfl) ?_
  refine Eq.trans (jb_nx (i := .iload_n 3) (n := 1) (q := (54, [some (.ref p0), o1, some (.int i2), some (.int i3)], [.int i3, .ref p0])) (jq qX13_endOf 27 rfl) rfl) ?_
  obtain ⟨b58, H⟩ := jm_O_inv H
  rcases jcI H with ⟨x51, h49, r50, H⟩ | ⟨w59, h60, r50, H⟩
  · refine Eq.trans (jb_nx (i := .invokevirtual 294) (n := 3) (q := (57, [some (.ref p0), o1, some (.int i2), some (.int i3)], [.int x51])) (jq qX13_endOf 28 rfl) (jo_cv (y := mX13_byteOf) rfl (Nat.le_of_ble_eq_true rfl) rfl (Nat.le_of_ble_eq_true rfl) b58 rfl r50 jo_ret)) ?_
    rcases jcI H with ⟨x54, h52, r53, H⟩ | ⟨w56, h57, r53, H⟩
    · refine Eq.trans (jb_nx (i := .invokestatic 300) (n := 3) (q := (60, [some (.ref p0), o1, some (.int i2), some (.int i3)], [.int x54])) (jq qX13_endOf 29 rfl) (jo_cs (y := mX13_isDigit) (w := 1) (by decide) rfl (Nat.le_of_ble_eq_true rfl) rfl (Nat.le_of_ble_eq_true rfl) rfl r53 jo_ret)) ?_
      by_cases c55 : x54 = 0
      · rw [if_pos c55] at H
        refine Eq.trans (jb_nx (i := .ifCond .eq 9) (n := 3) (q := (69, [some (.ref p0), o1, some (.int i2), some (.int i3)], [])) (jq qX13_endOf 30 rfl) (jo_ifT (jz_eqT c55) rfl)) ?_
        exact H
      · rw [if_neg c55] at H
        refine Eq.trans (jb_nx (i := .ifCond .eq 9) (n := 3) (q := (63, [some (.ref p0), o1, some (.int i2), some (.int i3)], [])) (jq qX13_endOf 30 rfl) (jo_ifF (jz_eqF c55))) ?_
        refine Eq.trans (jb_nx (i := .iinc 3 1) (n := 3) (q := (66, [some (.ref p0), o1, some (.int i2), some (.int (i3 + 1))], [])) (jq qX13_endOf 31 rfl) rfl) ?_
        refine Eq.trans (jb_nx (i := .goto (-14)) (n := 3) (q := (52, [some (.ref p0), o1, some (.int i2), some (.int (i3 + 1))], [])) (jq qX13_endOf 32 rfl) rfl) ?_
        exact H
    · exact Eq.trans (jb_rt (i := .invokestatic 300) (n := 3) (jq qX13_endOf 29 rfl) (jo_cs (y := mX13_isDigit) (w := 1) (by decide) rfl (Nat.le_of_ble_eq_true rfl) rfl (Nat.le_of_ble_eq_true rfl) rfl r53 (jo_exn rfl))) H
  · exact Eq.trans (jb_rt (i := .invokevirtual 294) (n := 3) (jq qX13_endOf 28 rfl) (jo_cv (y := mX13_byteOf) rfl (Nat.le_of_ble_eq_true rfl) rfl (Nat.le_of_ble_eq_true rfl) b58 rfl r50 (jo_exn rfl))) H
theorem gX13_endOf_69 {d : Nat} {p0 : Nat} {o1 : Option Value} {i2 : Int32} {i3 : Int32} {h : jm_H} {r : jm_R} (H : ((if i2 = 60 then jm_O h p0 13 (jc_I (jm_D d mX13_byteOf [.ref p0, .int i3] h) (fun x64 h62 => (if x64 = 61 then some (.inl (some (.int (i3 + 1))), h62) else some (.inl (some (.int i3)), h62))) jx) else (if i2 = 62 then jm_O h p0 13 (jc_I (jm_D d mX13_byteOf [.ref p0, .int i3] h) (fun x72 h70 => (if x72 = 61 then some (.inl (some (.int (i3 + 1))), h70) else some (.inl (some (.int i3)), h70))) jx) else some (.inl (some (.int i3)), h)))) = some r) : kX13_endOf_69 d p0 o1 i2 i3 h = some r := by
  show jm_B d mX13_endOf (69, [some (.ref p0), o1, some (.int i2), some (.int i3)], []) h = some r
  refine Eq.trans (jb_nx (i := .iload_n 2) (n := 1) (q := (70, [some (.ref p0), o1, some (.int i2), some (.int i3)], [.int i2])) (jq qX13_endOf 33 rfl) rfl) ?_
  refine Eq.trans (jb_nx (i := .bipush 60) (n := 2) (q := (72, [some (.ref p0), o1, some (.int i2), some (.int i3)], [.int 60, .int i2])) (jq qX13_endOf 34 rfl) rfl) ?_
  by_cases c61 : i2 = 60
  · rw [if_pos c61] at H
    refine Eq.trans (jb_nx (i := .if_icmp .eq 9) (n := 3) (q := (81, [some (.ref p0), o1, some (.int i2), some (.int i3)], [])) (jq qX13_endOf 35 rfl) (jo_icT (jz_eqT c61) rfl)) ?_
    refine Eq.trans (jb_nx (i := .aload_n 0) (n := 1) (q := (82, [some (.ref p0), o1, some (.int i2), some (.int i3)], [.ref p0])) (jq qX13_endOf 39 rfl) rfl) ?_
    refine Eq.trans (jb_nx (i := .iload_n 3) (n := 1) (q := (83, [some (.ref p0), o1, some (.int i2), some (.int i3)], [.int i3, .ref p0])) (jq qX13_endOf 40 rfl) rfl) ?_
    obtain ⟨b66, H⟩ := jm_O_inv H
    rcases jcI H with ⟨x64, h62, r63, H⟩ | ⟨w67, h68, r63, H⟩
    · refine Eq.trans (jb_nx (i := .invokevirtual 294) (n := 3) (q := (86, [some (.ref p0), o1, some (.int i2), some (.int i3)], [.int x64])) (jq qX13_endOf 41 rfl) (jo_cv (y := mX13_byteOf) rfl (Nat.le_of_ble_eq_true rfl) rfl (Nat.le_of_ble_eq_true rfl) b66 rfl r63 jo_ret)) ?_
      refine Eq.trans (jb_nx (i := .bipush 61) (n := 2) (q := (88, [some (.ref p0), o1, some (.int i2), some (.int i3)], [.int 61, .int x64])) (jq qX13_endOf 42 rfl) rfl) ?_
      by_cases c65 : x64 = 61
      · rw [if_pos c65] at H
        refine Eq.trans (jb_nx (i := .if_icmp .ne 6) (n := 3) (q := (91, [some (.ref p0), o1, some (.int i2), some (.int i3)], [])) (jq qX13_endOf 43 rfl) (jo_icF (jz_neF c65))) ?_
        refine Eq.trans (jb_nx (i := .iinc 3 1) (n := 3) (q := (94, [some (.ref p0), o1, some (.int i2), some (.int (i3 + 1))], [])) (jq qX13_endOf 44 rfl) rfl) ?_
        refine Eq.trans (jb_nx (i := .iload_n 3) (n := 1) (q := (95, [some (.ref p0), o1, some (.int i2), some (.int (i3 + 1))], [.int (i3 + 1)])) (jq qX13_endOf 45 rfl) rfl) ?_
        exact Eq.trans (jb_rt (i := .ireturn) (n := 1) (jq qX13_endOf 46 rfl) (jo_iret rfl rfl)) H
      · rw [if_neg c65] at H
        refine Eq.trans (jb_nx (i := .if_icmp .ne 6) (n := 3) (q := (94, [some (.ref p0), o1, some (.int i2), some (.int i3)], [])) (jq qX13_endOf 43 rfl) (jo_icT (jz_neT c65) rfl)) ?_
        refine Eq.trans (jb_nx (i := .iload_n 3) (n := 1) (q := (95, [some (.ref p0), o1, some (.int i2), some (.int i3)], [.int i3])) (jq qX13_endOf 45 rfl) rfl) ?_
        exact Eq.trans (jb_rt (i := .ireturn) (n := 1) (jq qX13_endOf 46 rfl) (jo_iret rfl rfl)) H
    · exact Eq.trans (jb_rt (i := .invokevirtual 294) (n := 3) (jq qX13_endOf 41 rfl) (jo_cv (y := mX13_byteOf) rfl (Nat.le_of_ble_eq_true rfl) rfl (Nat.le_of_ble_eq_true rfl) b66 rfl r63 (jo_exn rfl))) H
  · rw [if_neg c61] at H
    refine Eq.trans (jb_nx (i := .if_icmp .eq 9) (n := 3) (q := (75, [some (.ref p0), o1, some (.int i2), some (.int i3)], [])) (jq qX13_endOf 35 rfl) (jo_icF (jz_eqF c61))) ?_
    refine Eq.trans (jb_nx (i := .iload_n 2) (n := 1) (q := (76, [some (.ref p0), o1, some (.int i2), some (.int i3)], [.int i2])) (jq qX13_endOf 36 rfl) rfl) ?_
    refine Eq.trans (jb_nx (i := .bipush 62) (n := 2) (q := (78, [some (.ref p0), o1, some (.int i2), some (.int i3)], [.int 62, .int i2])) (jq qX13_endOf 37 rfl) rfl) ?_
    by_cases c69 : i2 = 62
    · rw [if_pos c69] at H
      refine Eq.trans (jb_nx (i := .if_icmp .ne 16) (n := 3) (q := (81, [some (.ref p0), o1, some (.int i2), some (.int i3)], [])) (jq qX13_endOf 38 rfl) (jo_icF (jz_neF c69))) ?_
      refine Eq.trans (jb_nx (i := .aload_n 0) (n := 1) (q := (82, [some (.ref p0), o1, some (.int i2), some (.int i3)], [.ref p0])) (jq qX13_endOf 39 rfl) rfl) ?_
      refine Eq.trans (jb_nx (i := .iload_n 3) (n := 1) (q := (83, [some (.ref p0), o1, some (.int i2), some (.int i3)], [.int i3, .ref p0])) (jq qX13_endOf 40 rfl) rfl) ?_
      obtain ⟨b74, H⟩ := jm_O_inv H
      rcases jcI H with ⟨x72, h70, r71, H⟩ | ⟨w75, h76, r71, H⟩
      · refine Eq.trans (jb_nx (i := .invokevirtual 294) (n := 3) (q := (86, [some (.ref p0), o1, some (.int i2), some (.int i3)], [.int x72])) (jq qX13_endOf 41 rfl) (jo_cv (y := mX13_byteOf) rfl (Nat.le_of_ble_eq_true rfl) rfl (Nat.le_of_ble_eq_true rfl) b74 rfl r71 jo_ret)) ?_
        refine Eq.trans (jb_nx (i := .bipush 61) (n := 2) (q := (88, [some (.ref p0), o1, some (.int i2), some (.int i3)], [.int 61, .int x72])) (jq qX13_endOf 42 rfl) rfl) ?_
        by_cases c73 : x72 = 61
        · rw [if_pos c73] at H
          refine Eq.trans (jb_nx (i := .if_icmp .ne 6) (n := 3) (q := (91, [some (.ref p0), o1, some (.int i2), some (.int i3)], [])) (jq qX13_endOf 43 rfl) (jo_icF (jz_neF c73))) ?_
          refine Eq.trans (jb_nx (i := .iinc 3 1) (n := 3) (q := (94, [some (.ref p0), o1, some (.int i2), some (.int (i3 + 1))], [])) (jq qX13_endOf 44 rfl) rfl) ?_
          refine Eq.trans (jb_nx (i := .iload_n 3) (n := 1) (q := (95, [some (.ref p0), o1, some (.int i2), some (.int (i3 + 1))], [.int (i3 + 1)])) (jq qX13_endOf 45 rfl) rfl) ?_
          exact Eq.trans (jb_rt (i := .ireturn) (n := 1) (jq qX13_endOf 46 rfl) (jo_iret rfl rfl)) H
        · rw [if_neg c73] at H
          refine Eq.trans (jb_nx (i := .if_icmp .ne 6) (n := 3) (q := (94, [some (.ref p0), o1, some (.int i2), some (.int i3)], [])) (jq qX13_endOf 43 rfl) (jo_icT (jz_neT c73) rfl)) ?_
          refine Eq.trans (jb_nx (i := .iload_n 3) (n := 1) (q := (95, [some (.ref p0), o1, some (.int i2), some (.int i3)], [.int i3])) (jq qX13_endOf 45 rfl) rfl) ?_
          exact Eq.trans (jb_rt (i := .ireturn) (n := 1) (jq qX13_endOf 46 rfl) (jo_iret rfl rfl)) H
      · exact Eq.trans (jb_rt (i := .invokevirtual 294) (n := 3) (jq qX13_endOf 41 rfl) (jo_cv (y := mX13_byteOf) rfl (Nat.le_of_ble_eq_true rfl) rfl (Nat.le_of_ble_eq_true rfl) b74 rfl r71 (jo_exn rfl))) H
    · rw [if_neg c69] at H
      refine Eq.trans (jb_nx (i := .if_icmp .ne 16) (n := 3) (q := (94, [some (.ref p0), o1, some (.int i2), some (.int i3)], [])) (jq qX13_endOf 38 rfl) (jo_icT (jz_neT c69) rfl)) ?_
      refine Eq.trans (jb_nx (i := .iload_n 3) (n := 1) (q := (95, [some (.ref p0), o1, some (.int i2), some (.int i3)], [.int i3])) (jq qX13_endOf 45 rfl) rfl) ?_
      exact Eq.trans (jb_rt (i := .ireturn) (n := 1) (jq qX13_endOf 46 rfl) (jo_iret rfl rfl)) H
theorem gX13_endOf {d : Nat} {p0 : Nat} {i1 : Int32} {h : jm_H} {r : jm_R} (H : (jm_O h p0 13 (jc_I (jm_D d mX13_byteOf [.ref p0, .int i1] h) (fun x3 h1 => jc_I (jm_D d mX13_isSmall [.int x3] h1) (fun x6 h4 => (if x6 = 0 then jc_I (jm_D d mX13_isDigit [.int x3] h4) (fun x10 h8 => (if x10 = 0 then kX13_endOf_69 d p0 (some (.int i1)) x3 (i1 + 1) h8 else kX13_endOf_52 d p0 (some (.int i1)) x3 (i1 + 1) h8)) jx else kX13_endOf_17 d p0 (some (.int i1)) x3 (i1 + 1) h4)) jx) jx)) = some r) : jm_D (d + 1) mX13_endOf [.ref p0, .int i1] h = some r := by
  rw [jm_D_body (Nat.le_of_ble_eq_true rfl)]
  show jm_B d mX13_endOf (0, [some (.ref p0), some (.int i1), none, none], []) h = some r
  refine Eq.trans (jb_nx (i := .aload_n 0) (n := 1) (q := (1, [some (.ref p0), some (.int i1), none, none], [.ref p0])) (jq qX13_endOf 0 rfl) rfl) ?_
  refine Eq.trans (jb_nx (i := .iload_n 1) (n := 1) (q := (2, [some (.ref p0), some (.int i1), none, none], [.int i1, .ref p0])) (jq qX13_endOf 1 rfl) rfl) ?_
  obtain ⟨b16, H⟩ := jm_O_inv H
  rcases jcI H with ⟨x3, h1, r2, H⟩ | ⟨w17, h18, r2, H⟩
  · refine Eq.trans (jb_nx (i := .invokevirtual 294) (n := 3) (q := (5, [some (.ref p0), some (.int i1), none, none], [.int x3])) (jq qX13_endOf 2 rfl) (jo_cv (y := mX13_byteOf) rfl (Nat.le_of_ble_eq_true rfl) rfl (Nat.le_of_ble_eq_true rfl) b16 rfl r2 jo_ret)) ?_
    refine Eq.trans (jb_nx (i := .istore_n 2) (n := 1) (q := (6, [some (.ref p0), some (.int i1), some (.int x3), none], [])) (jq qX13_endOf 3 rfl) rfl) ?_
    refine Eq.trans (jb_nx (i := .iload_n 1) (n := 1) (q := (7, [some (.ref p0), some (.int i1), some (.int x3), none], [.int i1])) (jq qX13_endOf 4 rfl) rfl) ?_
    refine Eq.trans (jb_nx (i := .iconst 1) (n := 1) (q := (8, [some (.ref p0), some (.int i1), some (.int x3), none], [.int 1, .int i1])) (jq qX13_endOf 5 rfl) rfl) ?_
    refine Eq.trans (jb_nx (i := .iadd) (n := 1) (q := (9, [some (.ref p0), some (.int i1), some (.int x3), none], [.int (i1 + 1)])) (jq qX13_endOf 6 rfl) rfl) ?_
    refine Eq.trans (jb_nx (i := .istore_n 3) (n := 1) (q := (10, [some (.ref p0), some (.int i1), some (.int x3), some (.int (i1 + 1))], [])) (jq qX13_endOf 7 rfl) rfl) ?_
    refine Eq.trans (jb_nx (i := .iload_n 2) (n := 1) (q := (11, [some (.ref p0), some (.int i1), some (.int x3), some (.int (i1 + 1))], [.int x3])) (jq qX13_endOf 8 rfl) rfl) ?_
    rcases jcI H with ⟨x6, h4, r5, H⟩ | ⟨w14, h15, r5, H⟩
    · refine Eq.trans (jb_nx (i := .invokestatic 297) (n := 3) (q := (14, [some (.ref p0), some (.int i1), some (.int x3), some (.int (i1 + 1))], [.int x6])) (jq qX13_endOf 9 rfl) (jo_cs (y := mX13_isSmall) (w := 1) (by decide) rfl (Nat.le_of_ble_eq_true rfl) rfl (Nat.le_of_ble_eq_true rfl) rfl r5 jo_ret)) ?_
      by_cases c7 : x6 = 0
      · rw [if_pos c7] at H
        refine Eq.trans (jb_nx (i := .ifCond .eq 31) (n := 3) (q := (45, [some (.ref p0), some (.int i1), some (.int x3), some (.int (i1 + 1))], [])) (jq qX13_endOf 10 rfl) (jo_ifT (jz_eqT c7) rfl)) ?_
        refine Eq.trans (jb_nx (i := .iload_n 2) (n := 1) (q := (46, [some (.ref p0), some (.int i1), some (.int x3), some (.int (i1 + 1))], [.int x3])) (jq qX13_endOf 23 rfl) rfl) ?_
        rcases jcI H with ⟨x10, h8, r9, H⟩ | ⟨w12, h13, r9, H⟩
        · refine Eq.trans (jb_nx (i := .invokestatic 300) (n := 3) (q := (49, [some (.ref p0), some (.int i1), some (.int x3), some (.int (i1 + 1))], [.int x10])) (jq qX13_endOf 24 rfl) (jo_cs (y := mX13_isDigit) (w := 1) (by decide) rfl (Nat.le_of_ble_eq_true rfl) rfl (Nat.le_of_ble_eq_true rfl) rfl r9 jo_ret)) ?_
          by_cases c11 : x10 = 0
          · rw [if_pos c11] at H
            refine Eq.trans (jb_nx (i := .ifCond .eq 20) (n := 3) (q := (69, [some (.ref p0), some (.int i1), some (.int x3), some (.int (i1 + 1))], [])) (jq qX13_endOf 25 rfl) (jo_ifT (jz_eqT c11) rfl)) ?_
            exact H
          · rw [if_neg c11] at H
            refine Eq.trans (jb_nx (i := .ifCond .eq 20) (n := 3) (q := (52, [some (.ref p0), some (.int i1), some (.int x3), some (.int (i1 + 1))], [])) (jq qX13_endOf 25 rfl) (jo_ifF (jz_eqF c11))) ?_
            exact H
        · exact Eq.trans (jb_rt (i := .invokestatic 300) (n := 3) (jq qX13_endOf 24 rfl) (jo_cs (y := mX13_isDigit) (w := 1) (by decide) rfl (Nat.le_of_ble_eq_true rfl) rfl (Nat.le_of_ble_eq_true rfl) rfl r9 (jo_exn rfl))) H
      · rw [if_neg c7] at H
        refine Eq.trans (jb_nx (i := .ifCond .eq 31) (n := 3) (q := (17, [some (.ref p0), some (.int i1), some (.int x3), some (.int (i1 + 1))], [])) (jq qX13_endOf 10 rfl) (jo_ifF (jz_eqF c7))) ?_
        exact H
    · exact Eq.trans (jb_rt (i := .invokestatic 297) (n := 3) (jq qX13_endOf 9 rfl) (jo_cs (y := mX13_isSmall) (w := 1) (by decide) rfl (Nat.le_of_ble_eq_true rfl) rfl (Nat.le_of_ble_eq_true rfl) rfl r5 (jo_exn rfl))) H
  · exact Eq.trans (jb_rt (i := .invokevirtual 294) (n := 3) (jq qX13_endOf 2 rfl) (jo_cv (y := mX13_byteOf) rfl (Nat.le_of_ble_eq_true rfl) rfl (Nat.le_of_ble_eq_true rfl) b16 rfl r2 (jo_exn rfl))) H
/-! MaskPlaysModel isSmall (I)Z -/
def tX13_isSmall : List (Nat × Instr × Nat) := [(0, .iload_n 0, 1), (1, .bipush 97, 2), (3, .if_icmp .lt 13, 3), (6, .iload_n 0, 1), (7, .bipush 122, 2), (9, .if_icmp .gt 7, 3), (12, .iconst 1, 1), (13, .goto 4, 3), (16, .iconst 0, 1), (17, .ireturn, 1)]
set_option maxRecDepth 100000 in
theorem qX13_isSmall : ∀ q ∈ tX13_isSmall, decode cX13_isSmall q.1 = .ok (q.2.1, q.2.2) := by decide +kernel
theorem gX13_isSmall {d : Nat} {i0 : Int32} {h : jm_H} {r : jm_R} (H : ((if i0 < 97 then some (.inl (some (.int 0)), h) else (if 122 < i0 then some (.inl (some (.int 0)), h) else some (.inl (some (.int 1)), h)))) = some r) : jm_D (d + 1) mX13_isSmall [.int i0] h = some r := by
  rw [jm_D_body (Nat.le_of_ble_eq_true rfl)]
  show jm_B d mX13_isSmall (0, [some (.int i0)], []) h = some r
  refine Eq.trans (jb_nx (i := .iload_n 0) (n := 1) (q := (1, [some (.int i0)], [.int i0])) (jq qX13_isSmall 0 rfl) rfl) ?_
  refine Eq.trans (jb_nx (i := .bipush 97) (n := 2) (q := (3, [some (.int i0)], [.int 97, .int i0])) (jq qX13_isSmall 1 rfl) rfl) ?_
  by_cases c1 : i0 < 97
  · rw [if_pos c1] at H
    refine Eq.trans (jb_nx (i := .if_icmp .lt 13) (n := 3) (q := (16, [some (.int i0)], [])) (jq qX13_isSmall 2 rfl) (jo_icT (jz_ltT c1) rfl)) ?_
    refine Eq.trans (jb_nx (i := .iconst 0) (n := 1) (q := (17, [some (.int i0)], [.int 0])) (jq qX13_isSmall 8 rfl) rfl) ?_
    exact Eq.trans (jb_rt (i := .ireturn) (n := 1) (jq qX13_isSmall 9 rfl) (jo_iret rfl (by decide))) H
  · rw [if_neg c1] at H
    refine Eq.trans (jb_nx (i := .if_icmp .lt 13) (n := 3) (q := (6, [some (.int i0)], [])) (jq qX13_isSmall 2 rfl) (jo_icF (jz_ltF c1))) ?_
    refine Eq.trans (jb_nx (i := .iload_n 0) (n := 1) (q := (7, [some (.int i0)], [.int i0])) (jq qX13_isSmall 3 rfl) rfl) ?_
    refine Eq.trans (jb_nx (i := .bipush 122) (n := 2) (q := (9, [some (.int i0)], [.int 122, .int i0])) (jq qX13_isSmall 4 rfl) rfl) ?_
    by_cases c2 : 122 < i0
    · rw [if_pos c2] at H
      refine Eq.trans (jb_nx (i := .if_icmp .gt 7) (n := 3) (q := (16, [some (.int i0)], [])) (jq qX13_isSmall 5 rfl) (jo_icT (jz_gtT c2) rfl)) ?_
      refine Eq.trans (jb_nx (i := .iconst 0) (n := 1) (q := (17, [some (.int i0)], [.int 0])) (jq qX13_isSmall 8 rfl) rfl) ?_
      exact Eq.trans (jb_rt (i := .ireturn) (n := 1) (jq qX13_isSmall 9 rfl) (jo_iret rfl (by decide))) H
    · rw [if_neg c2] at H
      refine Eq.trans (jb_nx (i := .if_icmp .gt 7) (n := 3) (q := (12, [some (.int i0)], [])) (jq qX13_isSmall 5 rfl) (jo_icF (jz_gtF c2))) ?_
      refine Eq.trans (jb_nx (i := .iconst 1) (n := 1) (q := (13, [some (.int i0)], [.int 1])) (jq qX13_isSmall 6 rfl) rfl) ?_
      refine Eq.trans (jb_nx (i := .goto 4) (n := 3) (q := (17, [some (.int i0)], [.int 1])) (jq qX13_isSmall 7 rfl) rfl) ?_
      exact Eq.trans (jb_rt (i := .ireturn) (n := 1) (jq qX13_isSmall 9 rfl) (jo_iret rfl (by decide))) H
/-! MaskPlaysModel isDigit (I)Z -/
def tX13_isDigit : List (Nat × Instr × Nat) := [(0, .iload_n 0, 1), (1, .bipush 48, 2), (3, .if_icmp .lt 13, 3), (6, .iload_n 0, 1), (7, .bipush 57, 2), (9, .if_icmp .gt 7, 3), (12, .iconst 1, 1), (13, .goto 4, 3), (16, .iconst 0, 1), (17, .ireturn, 1)]
set_option maxRecDepth 100000 in
theorem qX13_isDigit : ∀ q ∈ tX13_isDigit, decode cX13_isDigit q.1 = .ok (q.2.1, q.2.2) := by decide +kernel
theorem gX13_isDigit {d : Nat} {i0 : Int32} {h : jm_H} {r : jm_R} (H : ((if i0 < 48 then some (.inl (some (.int 0)), h) else (if 57 < i0 then some (.inl (some (.int 0)), h) else some (.inl (some (.int 1)), h)))) = some r) : jm_D (d + 1) mX13_isDigit [.int i0] h = some r := by
  rw [jm_D_body (Nat.le_of_ble_eq_true rfl)]
  show jm_B d mX13_isDigit (0, [some (.int i0)], []) h = some r
  refine Eq.trans (jb_nx (i := .iload_n 0) (n := 1) (q := (1, [some (.int i0)], [.int i0])) (jq qX13_isDigit 0 rfl) rfl) ?_
  refine Eq.trans (jb_nx (i := .bipush 48) (n := 2) (q := (3, [some (.int i0)], [.int 48, .int i0])) (jq qX13_isDigit 1 rfl) rfl) ?_
  by_cases c1 : i0 < 48
  · rw [if_pos c1] at H
    refine Eq.trans (jb_nx (i := .if_icmp .lt 13) (n := 3) (q := (16, [some (.int i0)], [])) (jq qX13_isDigit 2 rfl) (jo_icT (jz_ltT c1) rfl)) ?_
    refine Eq.trans (jb_nx (i := .iconst 0) (n := 1) (q := (17, [some (.int i0)], [.int 0])) (jq qX13_isDigit 8 rfl) rfl) ?_
    exact Eq.trans (jb_rt (i := .ireturn) (n := 1) (jq qX13_isDigit 9 rfl) (jo_iret rfl (by decide))) H
  · rw [if_neg c1] at H
    refine Eq.trans (jb_nx (i := .if_icmp .lt 13) (n := 3) (q := (6, [some (.int i0)], [])) (jq qX13_isDigit 2 rfl) (jo_icF (jz_ltF c1))) ?_
    refine Eq.trans (jb_nx (i := .iload_n 0) (n := 1) (q := (7, [some (.int i0)], [.int i0])) (jq qX13_isDigit 3 rfl) rfl) ?_
    refine Eq.trans (jb_nx (i := .bipush 57) (n := 2) (q := (9, [some (.int i0)], [.int 57, .int i0])) (jq qX13_isDigit 4 rfl) rfl) ?_
    by_cases c2 : 57 < i0
    · rw [if_pos c2] at H
      refine Eq.trans (jb_nx (i := .if_icmp .gt 7) (n := 3) (q := (16, [some (.int i0)], [])) (jq qX13_isDigit 5 rfl) (jo_icT (jz_gtT c2) rfl)) ?_
      refine Eq.trans (jb_nx (i := .iconst 0) (n := 1) (q := (17, [some (.int i0)], [.int 0])) (jq qX13_isDigit 8 rfl) rfl) ?_
      exact Eq.trans (jb_rt (i := .ireturn) (n := 1) (jq qX13_isDigit 9 rfl) (jo_iret rfl (by decide))) H
    · rw [if_neg c2] at H
      refine Eq.trans (jb_nx (i := .if_icmp .gt 7) (n := 3) (q := (12, [some (.int i0)], [])) (jq qX13_isDigit 5 rfl) (jo_icF (jz_gtF c2))) ?_
      refine Eq.trans (jb_nx (i := .iconst 1) (n := 1) (q := (13, [some (.int i0)], [.int 1])) (jq qX13_isDigit 6 rfl) rfl) ?_
      refine Eq.trans (jb_nx (i := .goto 4) (n := 3) (q := (17, [some (.int i0)], [.int 1])) (jq qX13_isDigit 7 rfl) rfl) ?_
      exact Eq.trans (jb_rt (i := .ireturn) (n := 1) (jq qX13_isDigit 9 rfl) (jo_iret rfl (by decide))) H
/-! MaskPlaysModel kindOf (LMaskPlaysModel$Book;III)I -/
def tX13_kindOf : List (Nat × Instr × Nat) := [(0, .aload_n 0, 1), (1, .iload_n 3, 1), (2, .invokevirtual 294, 3), (5, .istore 5, 2), (7, .iload 5, 2), (9, .iconst (-1), 1), (10, .if_icmp .ne 6, 3), (13, .bipush 33, 2), (15, .ireturn, 1), (16, .iload 5, 2), (18, .invokestatic 300, 3), (21, .ifCond .eq 27, 3), (24, .iload 4, 2), (26, .iload_n 3, 1), (27, .isub, 1), (28, .bipush 6, 2), (30, .if_icmp .le 8, 3), (33, .bipush 32, 2), (35, .goto 12, 3), (38, .aload_n 0, 1), (39, .aload_n 1, 1), (40, .iload_n 2, 1), (41, .iload_n 3, 1), (42, .iload 4, 2), (44, .invokevirtual 303, 3), (47, .ireturn, 1), (48, .iload 5, 2), (50, .invokestatic 297, 3), (53, .ifCond .eq 27, 3), (56, .iload 4, 2), (58, .iload_n 3, 1), (59, .isub, 1), (60, .bipush 10, 2), (62, .if_icmp .le 8, 3), (65, .bipush 32, 2), (67, .goto 12, 3), (70, .aload_n 0, 1), (71, .aload_n 1, 1), (72, .iload_n 2, 1), (73, .iload_n 3, 1), (74, .iload 4, 2), (76, .invokevirtual 307, 3), (79, .ireturn, 1), (80, .iload 4, 2), (82, .iload_n 3, 1), (83, .isub, 1), (84, .iconst 2, 1), (85, .if_icmp .ne 10, 3), (88, .sipush 256, 3), (91, .iload 5, 2), (93, .iadd, 1), (94, .ireturn, 1), (95, .iload 5, 2), (97, .bipush 40, 2), (99, .if_icmp .eq 87, 3), (102, .iload 5, 2), (104, .bipush 41, 2), (106, .if_icmp .eq 80, 3), (109, .iload 5, 2), (111, .bipush 91, 2), (113, .if_icmp .eq 73, 3), (116, .iload 5, 2), (118, .bipush 93, 2), (120, .if_icmp .eq 66, 3), (123, .iload 5, 2), (125, .bipush 59, 2), (127, .if_icmp .eq 59, 3), (130, .iload 5, 2), (132, .bipush 44, 2), (134, .if_icmp .eq 52, 3), (137, .iload 5, 2), (139, .bipush 43, 2), (141, .if_icmp .eq 45, 3), (144, .iload 5, 2), (146, .bipush 45, 2), (148, .if_icmp .eq 38, 3), (151, .iload 5, 2), (153, .bipush 42, 2), (155, .if_icmp .eq 31, 3), (158, .iload 5, 2), (160, .bipush 47, 2), (162, .if_icmp .eq 24, 3), (165, .iload 5, 2), (167, .bipush 60, 2), (169, .if_icmp .eq 17, 3), (172, .iload 5, 2), (174, .bipush 62, 2), (176, .if_icmp .eq 10, 3), (179, .iload 5, 2), (181, .bipush 61, 2), (183, .if_icmp .ne 8, 3), (186, .iload 5, 2), (188, .goto 5, 3), (191, .bipush 32, 2), (193, .ireturn, 1)]
set_option maxRecDepth 100000 in
theorem qX13_kindOf : ∀ q ∈ tX13_kindOf, decode cX13_kindOf q.1 = .ok (q.2.1, q.2.2) := by decide +kernel
noncomputable def kX13_kindOf_186 (d : Nat) (o0 : Option Value) (o1 : Option Value) (o2 : Option Value) (o3 : Option Value) (o4 : Option Value) (i5 : Int32) (h : jm_H) : Option jm_R := jm_B d mX13_kindOf (186, [o0, o1, o2, o3, o4, some (.int i5)], []) h
theorem gX13_kindOf_186 {d : Nat} {o0 : Option Value} {o1 : Option Value} {o2 : Option Value} {o3 : Option Value} {o4 : Option Value} {i5 : Int32} {h : jm_H} {r : jm_R} (H : (some (.inl (some (.int i5)), h)) = some r) : kX13_kindOf_186 d o0 o1 o2 o3 o4 i5 h = some r := by
  show jm_B d mX13_kindOf (186, [o0, o1, o2, o3, o4, some (.int i5)], []) h = some r
  refine Eq.trans (jb_nx (i := .iload 5) (n := 2) (q := (188, [o0, o1, o2, o3, o4, some (.int i5)], [.int i5])) (jq qX13_kindOf 91 rfl) rfl) ?_
  refine Eq.trans (jb_nx (i := .goto 5) (n := 3) (q := (193, [o0, o1, o2, o3, o4, some (.int i5)], [.int i5])) (jq qX13_kindOf 92 rfl) rfl) ?_
  exact Eq.trans (jb_rt (i := .ireturn) (n := 1) (jq qX13_kindOf 94 rfl) (jo_iret rfl rfl)) H
theorem gX13_kindOf {d : Nat} {p0 : Nat} {p1 : Nat} {i2 : Int32} {i3 : Int32} {i4 : Int32} {h : jm_H} {r : jm_R} (H : (jm_O h p0 13 (jc_I (jm_D d mX13_byteOf [.ref p0, .int i3] h) (fun x3 h1 => (if x3 = (-1) then some (.inl (some (.int 33)), h1) else jc_I (jm_D d mX13_isDigit [.int x3] h1) (fun x7 h5 => (if x7 = 0 then jc_I (jm_D d mX13_isSmall [.int x3] h5) (fun x11 h9 => (if x11 = 0 then (if (i4 - i3) = 2 then some (.inl (some (.int (256 + x3))), h9) else (if x3 = 40 then kX13_kindOf_186 d (some (.ref p0)) (some (.ref p1)) (some (.int i2)) (some (.int i3)) (some (.int i4)) x3 h9 else (if x3 = 41 then kX13_kindOf_186 d (some (.ref p0)) (some (.ref p1)) (some (.int i2)) (some (.int i3)) (some (.int i4)) x3 h9 else (if x3 = 91 then kX13_kindOf_186 d (some (.ref p0)) (some (.ref p1)) (some (.int i2)) (some (.int i3)) (some (.int i4)) x3 h9 else (if x3 = 93 then kX13_kindOf_186 d (some (.ref p0)) (some (.ref p1)) (some (.int i2)) (some (.int i3)) (some (.int i4)) x3 h9 else (if x3 = 59 then kX13_kindOf_186 d (some (.ref p0)) (some (.ref p1)) (some (.int i2)) (some (.int i3)) (some (.int i4)) x3 h9 else (if x3 = 44 then kX13_kindOf_186 d (some (.ref p0)) (some (.ref p1)) (some (.int i2)) (some (.int i3)) (some (.int i4)) x3 h9 else (if x3 = 43 then kX13_kindOf_186 d (some (.ref p0)) (some (.ref p1)) (some (.int i2)) (some (.int i3)) (some (.int i4)) x3 h9 else (if x3 = 45 then kX13_kindOf_186 d (some (.ref p0)) (some (.ref p1)) (some (.int i2)) (some (.int i3)) (some (.int i4)) x3 h9 else (if x3 = 42 then kX13_kindOf_186 d (some (.ref p0)) (some (.ref p1)) (some (.int i2)) (some (.int i3)) (some (.int i4)) x3 h9 else (if x3 = 47 then kX13_kindOf_186 d (some (.ref p0)) (some (.ref p1)) (some (.int i2)) (some (.int i3)) (some (.int i4)) x3 h9 else (if x3 = 60 then kX13_kindOf_186 d (some (.ref p0)) (some (.ref p1)) (some (.int i2)) (some (.int i3)) (some (.int i4)) x3 h9 else (if x3 = 62 then kX13_kindOf_186 d (some (.ref p0)) (some (.ref p1)) (some (.int i2)) (some (.int i3)) (some (.int i4)) x3 h9 else (if x3 = 61 then kX13_kindOf_186 d (some (.ref p0)) (some (.ref p1)) (some (.int i2)) (some (.int i3)) (some (.int i4)) x3 h9 else some (.inl (some (.int 32)), h9))))))))))))))) else (if 10 < (i4 - i3) then some (.inl (some (.int 32)), h9) else jm_O h9 p0 13 (jc_I (jm_D d mX13_wordAt [.ref p0, .ref p1, .int i2, .int i3, .int i4] h9) (fun x30 h28 => some (.inl (some (.int x30)), h28)) jx)))) jx else (if 6 < (i4 - i3) then some (.inl (some (.int 32)), h5) else jm_O h5 p0 13 (jc_I (jm_D d mX13_numberAt [.ref p0, .ref p1, .int i2, .int i3, .int i4] h5) (fun x39 h37 => some (.inl (some (.int x39)), h37)) jx)))) jx)) jx)) = some r) : jm_D (d + 1) mX13_kindOf [.ref p0, .ref p1, .int i2, .int i3, .int i4] h = some r := by
  rw [jm_D_body (Nat.le_of_ble_eq_true rfl)]
  show jm_B d mX13_kindOf (0, [some (.ref p0), some (.ref p1), some (.int i2), some (.int i3), some (.int i4), none], []) h = some r
  refine Eq.trans (jb_nx (i := .aload_n 0) (n := 1) (q := (1, [some (.ref p0), some (.ref p1), some (.int i2), some (.int i3), some (.int i4), none], [.ref p0])) (jq qX13_kindOf 0 rfl) rfl) ?_
  refine Eq.trans (jb_nx (i := .iload_n 3) (n := 1) (q := (2, [some (.ref p0), some (.ref p1), some (.int i2), some (.int i3), some (.int i4), none], [.int i3, .ref p0])) (jq qX13_kindOf 1 rfl) rfl) ?_
  obtain ⟨b45, H⟩ := jm_O_inv H
  rcases jcI H with ⟨x3, h1, r2, H⟩ | ⟨w46, h47, r2, H⟩
  · refine Eq.trans (jb_nx (i := .invokevirtual 294) (n := 3) (q := (5, [some (.ref p0), some (.ref p1), some (.int i2), some (.int i3), some (.int i4), none], [.int x3])) (jq qX13_kindOf 2 rfl) (jo_cv (y := mX13_byteOf) rfl (Nat.le_of_ble_eq_true rfl) rfl (Nat.le_of_ble_eq_true rfl) b45 rfl r2 jo_ret)) ?_
    refine Eq.trans (jb_nx (i := .istore 5) (n := 2) (q := (7, [some (.ref p0), some (.ref p1), some (.int i2), some (.int i3), some (.int i4), some (.int x3)], [])) (jq qX13_kindOf 3 rfl) rfl) ?_
    refine Eq.trans (jb_nx (i := .iload 5) (n := 2) (q := (9, [some (.ref p0), some (.ref p1), some (.int i2), some (.int i3), some (.int i4), some (.int x3)], [.int x3])) (jq qX13_kindOf 4 rfl) rfl) ?_
    refine Eq.trans (jb_nx (i := .iconst (-1)) (n := 1) (q := (10, [some (.ref p0), some (.ref p1), some (.int i2), some (.int i3), some (.int i4), some (.int x3)], [.int (-1), .int x3])) (jq qX13_kindOf 5 rfl) rfl) ?_
    by_cases c4 : x3 = (-1)
    · rw [if_pos c4] at H
      refine Eq.trans (jb_nx (i := .if_icmp .ne 6) (n := 3) (q := (13, [some (.ref p0), some (.ref p1), some (.int i2), some (.int i3), some (.int i4), some (.int x3)], [])) (jq qX13_kindOf 6 rfl) (jo_icF (jz_neF c4))) ?_
      refine Eq.trans (jb_nx (i := .bipush 33) (n := 2) (q := (15, [some (.ref p0), some (.ref p1), some (.int i2), some (.int i3), some (.int i4), some (.int x3)], [.int 33])) (jq qX13_kindOf 7 rfl) rfl) ?_
      exact Eq.trans (jb_rt (i := .ireturn) (n := 1) (jq qX13_kindOf 8 rfl) (jo_iret rfl rfl)) H
    · rw [if_neg c4] at H
      refine Eq.trans (jb_nx (i := .if_icmp .ne 6) (n := 3) (q := (16, [some (.ref p0), some (.ref p1), some (.int i2), some (.int i3), some (.int i4), some (.int x3)], [])) (jq qX13_kindOf 6 rfl) (jo_icT (jz_neT c4) rfl)) ?_
      refine Eq.trans (jb_nx (i := .iload 5) (n := 2) (q := (18, [some (.ref p0), some (.ref p1), some (.int i2), some (.int i3), some (.int i4), some (.int x3)], [.int x3])) (jq qX13_kindOf 9 rfl) rfl) ?_
      rcases jcI H with ⟨x7, h5, r6, H⟩ | ⟨w43, h44, r6, H⟩
      · refine Eq.trans (jb_nx (i := .invokestatic 300) (n := 3) (q := (21, [some (.ref p0), some (.ref p1), some (.int i2), some (.int i3), some (.int i4), some (.int x3)], [.int x7])) (jq qX13_kindOf 10 rfl) (jo_cs (y := mX13_isDigit) (w := 1) (by decide) rfl (Nat.le_of_ble_eq_true rfl) rfl (Nat.le_of_ble_eq_true rfl) rfl r6 jo_ret)) ?_
        by_cases c8 : x7 = 0
        · rw [if_pos c8] at H
          refine Eq.trans (jb_nx (i := .ifCond .eq 27) (n := 3) (q := (48, [some (.ref p0), some (.ref p1), some (.int i2), some (.int i3), some (.int i4), some (.int x3)], [])) (jq qX13_kindOf 11 rfl) (jo_ifT (jz_eqT c8) rfl)) ?_
          refine Eq.trans (jb_nx (i := .iload 5) (n := 2) (q := (50, [some (.ref p0), some (.ref p1), some (.int i2), some (.int i3), some (.int i4), some (.int x3)], [.int x3])) (jq qX13_kindOf 26 rfl) rfl) ?_
          rcases jcI H with ⟨x11, h9, r10, H⟩ | ⟨w34, h35, r10, H⟩
          · refine Eq.trans (jb_nx (i := .invokestatic 297) (n := 3) (q := (53, [some (.ref p0), some (.ref p1), some (.int i2), some (.int i3), some (.int i4), some (.int x3)], [.int x11])) (jq qX13_kindOf 27 rfl) (jo_cs (y := mX13_isSmall) (w := 1) (by decide) rfl (Nat.le_of_ble_eq_true rfl) rfl (Nat.le_of_ble_eq_true rfl) rfl r10 jo_ret)) ?_
            by_cases c12 : x11 = 0
            · rw [if_pos c12] at H
              refine Eq.trans (jb_nx (i := .ifCond .eq 27) (n := 3) (q := (80, [some (.ref p0), some (.ref p1), some (.int i2), some (.int i3), some (.int i4), some (.int x3)], [])) (jq qX13_kindOf 28 rfl) (jo_ifT (jz_eqT c12) rfl)) ?_
              refine Eq.trans (jb_nx (i := .iload 4) (n := 2) (q := (82, [some (.ref p0), some (.ref p1), some (.int i2), some (.int i3), some (.int i4), some (.int x3)], [.int i4])) (jq qX13_kindOf 43 rfl) rfl) ?_
              refine Eq.trans (jb_nx (i := .iload_n 3) (n := 1) (q := (83, [some (.ref p0), some (.ref p1), some (.int i2), some (.int i3), some (.int i4), some (.int x3)], [.int i3, .int i4])) (jq qX13_kindOf 44 rfl) rfl) ?_
              refine Eq.trans (jb_nx (i := .isub) (n := 1) (q := (84, [some (.ref p0), some (.ref p1), some (.int i2), some (.int i3), some (.int i4), some (.int x3)], [.int (i4 - i3)])) (jq qX13_kindOf 45 rfl) rfl) ?_
              refine Eq.trans (jb_nx (i := .iconst 2) (n := 1) (q := (85, [some (.ref p0), some (.ref p1), some (.int i2), some (.int i3), some (.int i4), some (.int x3)], [.int 2, .int (i4 - i3)])) (jq qX13_kindOf 46 rfl) rfl) ?_
              by_cases c13 : (i4 - i3) = 2
              · rw [if_pos c13] at H
                refine Eq.trans (jb_nx (i := .if_icmp .ne 10) (n := 3) (q := (88, [some (.ref p0), some (.ref p1), some (.int i2), some (.int i3), some (.int i4), some (.int x3)], [])) (jq qX13_kindOf 47 rfl) (jo_icF (jz_neF c13))) ?_
                refine Eq.trans (jb_nx (i := .sipush 256) (n := 3) (q := (91, [some (.ref p0), some (.ref p1), some (.int i2), some (.int i3), some (.int i4), some (.int x3)], [.int 256])) (jq qX13_kindOf 48 rfl) rfl) ?_
                refine Eq.trans (jb_nx (i := .iload 5) (n := 2) (q := (93, [some (.ref p0), some (.ref p1), some (.int i2), some (.int i3), some (.int i4), some (.int x3)], [.int x3, .int 256])) (jq qX13_kindOf 49 rfl) rfl) ?_
                refine Eq.trans (jb_nx (i := .iadd) (n := 1) (q := (94, [some (.ref p0), some (.ref p1), some (.int i2), some (.int i3), some (.int i4), some (.int x3)], [.int (256 + x3)])) (jq qX13_kindOf 50 rfl) rfl) ?_
                exact Eq.trans (jb_rt (i := .ireturn) (n := 1) (jq qX13_kindOf 51 rfl) (jo_iret rfl rfl)) H
              · rw [if_neg c13] at H
                refine Eq.trans (jb_nx (i := .if_icmp .ne 10) (n := 3) (q := (95, [some (.ref p0), some (.ref p1), some (.int i2), some (.int i3), some (.int i4), some (.int x3)], [])) (jq qX13_kindOf 47 rfl) (jo_icT (jz_neT c13) rfl)) ?_
                refine Eq.trans (jb_nx (i := .iload 5) (n := 2) (q := (97, [some (.ref p0), some (.ref p1), some (.int i2), some (.int i3), some (.int i4), some (.int x3)], [.int x3])) (jq qX13_kindOf 52 rfl) rfl) ?_
                refine Eq.trans (jb_nx (i := .bipush 40) (n := 2) (q := (99, [some (.ref p0), some (.ref p1), some (.int i2), some (.int i3), some (.int i4), some (.int x3)], [.int 40, .int x3])) (jq qX13_kindOf 53 rfl) rfl) ?_
                by_cases c14 : x3 = 40
                · rw [if_pos c14] at H
                  refine Eq.trans (jb_nx (i := .if_icmp .eq 87) (n := 3) (q := (186, [some (.ref p0), some (.ref p1), some (.int i2), some (.int i3), some (.int i4), some (.int x3)], [])) (jq qX13_kindOf 54 rfl) (jo_icT (jz_eqT c14) rfl)) ?_
                  exact H
                · rw [if_neg c14] at H
                  refine Eq.trans (jb_nx (i := .if_icmp .eq 87) (n := 3) (q := (102, [some (.ref p0), some (.ref p1), some (.int i2), some (.int i3), some (.int i4), some (.int x3)], [])) (jq qX13_kindOf 54 rfl) (jo_icF (jz_eqF c14))) ?_
                  refine Eq.trans (jb_nx (i := .iload 5) (n := 2) (q := (104, [some (.ref p0), some (.ref p1), some (.int i2), some (.int i3), some (.int i4), some (.int x3)], [.int x3])) (jq qX13_kindOf 55 rfl) rfl) ?_
                  refine Eq.trans (jb_nx (i := .bipush 41) (n := 2) (q := (106, [some (.ref p0), some (.ref p1), some (.int i2), some (.int i3), some (.int i4), some (.int x3)], [.int 41, .int x3])) (jq qX13_kindOf 56 rfl) rfl) ?_
                  by_cases c15 : x3 = 41
                  · rw [if_pos c15] at H
                    refine Eq.trans (jb_nx (i := .if_icmp .eq 80) (n := 3) (q := (186, [some (.ref p0), some (.ref p1), some (.int i2), some (.int i3), some (.int i4), some (.int x3)], [])) (jq qX13_kindOf 57 rfl) (jo_icT (jz_eqT c15) rfl)) ?_
                    exact H
                  · rw [if_neg c15] at H
                    refine Eq.trans (jb_nx (i := .if_icmp .eq 80) (n := 3) (q := (109, [some (.ref p0), some (.ref p1), some (.int i2), some (.int i3), some (.int i4), some (.int x3)], [])) (jq qX13_kindOf 57 rfl) (jo_icF (jz_eqF c15))) ?_
                    refine Eq.trans (jb_nx (i := .iload 5) (n := 2) (q := (111, [some (.ref p0), some (.ref p1), some (.int i2), some (.int i3), some (.int i4), some (.int x3)], [.int x3])) (jq qX13_kindOf 58 rfl) rfl) ?_
                    refine Eq.trans (jb_nx (i := .bipush 91) (n := 2) (q := (113, [some (.ref p0), some (.ref p1), some (.int i2), some (.int i3), some (.int i4), some (.int x3)], [.int 91, .int x3])) (jq qX13_kindOf 59 rfl) rfl) ?_
                    by_cases c16 : x3 = 91
                    · rw [if_pos c16] at H
                      refine Eq.trans (jb_nx (i := .if_icmp .eq 73) (n := 3) (q := (186, [some (.ref p0), some (.ref p1), some (.int i2), some (.int i3), some (.int i4), some (.int x3)], [])) (jq qX13_kindOf 60 rfl) (jo_icT (jz_eqT c16) rfl)) ?_
                      exact H
                    · rw [if_neg c16] at H
                      refine Eq.trans (jb_nx (i := .if_icmp .eq 73) (n := 3) (q := (116, [some (.ref p0), some (.ref p1), some (.int i2), some (.int i3), some (.int i4), some (.int x3)], [])) (jq qX13_kindOf 60 rfl) (jo_icF (jz_eqF c16))) ?_
                      refine Eq.trans (jb_nx (i := .iload 5) (n := 2) (q := (118, [some (.ref p0), some (.ref p1), some (.int i2), some (.int i3), some (.int i4), some (.int x3)], [.int x3])) (jq qX13_kindOf 61 rfl) rfl) ?_
                      refine Eq.trans (jb_nx (i := .bipush 93) (n := 2) (q := (120, [some (.ref p0), some (.ref p1), some (.int i2), some (.int i3), some (.int i4), some (.int x3)], [.int 93, .int x3])) (jq qX13_kindOf 62 rfl) rfl) ?_
                      by_cases c17 : x3 = 93
                      · rw [if_pos c17] at H
                        refine Eq.trans (jb_nx (i := .if_icmp .eq 66) (n := 3) (q := (186, [some (.ref p0), some (.ref p1), some (.int i2), some (.int i3), some (.int i4), some (.int x3)], [])) (jq qX13_kindOf 63 rfl) (jo_icT (jz_eqT c17) rfl)) ?_
                        exact H
                      · rw [if_neg c17] at H
                        refine Eq.trans (jb_nx (i := .if_icmp .eq 66) (n := 3) (q := (123, [some (.ref p0), some (.ref p1), some (.int i2), some (.int i3), some (.int i4), some (.int x3)], [])) (jq qX13_kindOf 63 rfl) (jo_icF (jz_eqF c17))) ?_
                        refine Eq.trans (jb_nx (i := .iload 5) (n := 2) (q := (125, [some (.ref p0), some (.ref p1), some (.int i2), some (.int i3), some (.int i4), some (.int x3)], [.int x3])) (jq qX13_kindOf 64 rfl) rfl) ?_
                        refine Eq.trans (jb_nx (i := .bipush 59) (n := 2) (q := (127, [some (.ref p0), some (.ref p1), some (.int i2), some (.int i3), some (.int i4), some (.int x3)], [.int 59, .int x3])) (jq qX13_kindOf 65 rfl) rfl) ?_
                        by_cases c18 : x3 = 59
                        · rw [if_pos c18] at H
                          refine Eq.trans (jb_nx (i := .if_icmp .eq 59) (n := 3) (q := (186, [some (.ref p0), some (.ref p1), some (.int i2), some (.int i3), some (.int i4), some (.int x3)], [])) (jq qX13_kindOf 66 rfl) (jo_icT (jz_eqT c18) rfl)) ?_
                          exact H
                        · rw [if_neg c18] at H
                          refine Eq.trans (jb_nx (i := .if_icmp .eq 59) (n := 3) (q := (130, [some (.ref p0), some (.ref p1), some (.int i2), some (.int i3), some (.int i4), some (.int x3)], [])) (jq qX13_kindOf 66 rfl) (jo_icF (jz_eqF c18))) ?_
                          refine Eq.trans (jb_nx (i := .iload 5) (n := 2) (q := (132, [some (.ref p0), some (.ref p1), some (.int i2), some (.int i3), some (.int i4), some (.int x3)], [.int x3])) (jq qX13_kindOf 67 rfl) rfl) ?_
                          refine Eq.trans (jb_nx (i := .bipush 44) (n := 2) (q := (134, [some (.ref p0), some (.ref p1), some (.int i2), some (.int i3), some (.int i4), some (.int x3)], [.int 44, .int x3])) (jq qX13_kindOf 68 rfl) rfl) ?_
                          by_cases c19 : x3 = 44
                          · rw [if_pos c19] at H
                            refine Eq.trans (jb_nx (i := .if_icmp .eq 52) (n := 3) (q := (186, [some (.ref p0), some (.ref p1), some (.int i2), some (.int i3), some (.int i4), some (.int x3)], [])) (jq qX13_kindOf 69 rfl) (jo_icT (jz_eqT c19) rfl)) ?_
                            exact H
                          · rw [if_neg c19] at H
                            refine Eq.trans (jb_nx (i := .if_icmp .eq 52) (n := 3) (q := (137, [some (.ref p0), some (.ref p1), some (.int i2), some (.int i3), some (.int i4), some (.int x3)], [])) (jq qX13_kindOf 69 rfl) (jo_icF (jz_eqF c19))) ?_
                            refine Eq.trans (jb_nx (i := .iload 5) (n := 2) (q := (139, [some (.ref p0), some (.ref p1), some (.int i2), some (.int i3), some (.int i4), some (.int x3)], [.int x3])) (jq qX13_kindOf 70 rfl) rfl) ?_
                            refine Eq.trans (jb_nx (i := .bipush 43) (n := 2) (q := (141, [some (.ref p0), some (.ref p1), some (.int i2), some (.int i3), some (.int i4), some (.int x3)], [.int 43, .int x3])) (jq qX13_kindOf 71 rfl) rfl) ?_
                            by_cases c20 : x3 = 43
                            · rw [if_pos c20] at H
                              refine Eq.trans (jb_nx (i := .if_icmp .eq 45) (n := 3) (q := (186, [some (.ref p0), some (.ref p1), some (.int i2), some (.int i3), some (.int i4), some (.int x3)], [])) (jq qX13_kindOf 72 rfl) (jo_icT (jz_eqT c20) rfl)) ?_
                              exact H
                            · rw [if_neg c20] at H
                              refine Eq.trans (jb_nx (i := .if_icmp .eq 45) (n := 3) (q := (144, [some (.ref p0), some (.ref p1), some (.int i2), some (.int i3), some (.int i4), some (.int x3)], [])) (jq qX13_kindOf 72 rfl) (jo_icF (jz_eqF c20))) ?_
                              refine Eq.trans (jb_nx (i := .iload 5) (n := 2) (q := (146, [some (.ref p0), some (.ref p1), some (.int i2), some (.int i3), some (.int i4), some (.int x3)], [.int x3])) (jq qX13_kindOf 73 rfl) rfl) ?_
                              refine Eq.trans (jb_nx (i := .bipush 45) (n := 2) (q := (148, [some (.ref p0), some (.ref p1), some (.int i2), some (.int i3), some (.int i4), some (.int x3)], [.int 45, .int x3])) (jq qX13_kindOf 74 rfl) rfl) ?_
                              by_cases c21 : x3 = 45
                              · rw [if_pos c21] at H
                                refine Eq.trans (jb_nx (i := .if_icmp .eq 38) (n := 3) (q := (186, [some (.ref p0), some (.ref p1), some (.int i2), some (.int i3), some (.int i4), some (.int x3)], [])) (jq qX13_kindOf 75 rfl) (jo_icT (jz_eqT c21) rfl)) ?_
                                exact H
                              · rw [if_neg c21] at H
                                refine Eq.trans (jb_nx (i := .if_icmp .eq 38) (n := 3) (q := (151, [some (.ref p0), some (.ref p1), some (.int i2), some (.int i3), some (.int i4), some (.int x3)], [])) (jq qX13_kindOf 75 rfl) (jo_icF (jz_eqF c21))) ?_
                                refine Eq.trans (jb_nx (i := .iload 5) (n := 2) (q := (153, [some (.ref p0), some (.ref p1), some (.int i2), some (.int i3), some (.int i4), some (.int x3)], [.int x3])) (jq qX13_kindOf 76 rfl) rfl) ?_
                                refine Eq.trans (jb_nx (i := .bipush 42) (n := 2) (q := (155, [some (.ref p0), some (.ref p1), some (.int i2), some (.int i3), some (.int i4), some (.int x3)], [.int 42, .int x3])) (jq qX13_kindOf 77 rfl) rfl) ?_
                                by_cases c22 : x3 = 42
                                · rw [if_pos c22] at H
                                  refine Eq.trans (jb_nx (i := .if_icmp .eq 31) (n := 3) (q := (186, [some (.ref p0), some (.ref p1), some (.int i2), some (.int i3), some (.int i4), some (.int x3)], [])) (jq qX13_kindOf 78 rfl) (jo_icT (jz_eqT c22) rfl)) ?_
                                  exact H
                                · rw [if_neg c22] at H
                                  refine Eq.trans (jb_nx (i := .if_icmp .eq 31) (n := 3) (q := (158, [some (.ref p0), some (.ref p1), some (.int i2), some (.int i3), some (.int i4), some (.int x3)], [])) (jq qX13_kindOf 78 rfl) (jo_icF (jz_eqF c22))) ?_
                                  refine Eq.trans (jb_nx (i := .iload 5) (n := 2) (q := (160, [some (.ref p0), some (.ref p1), some (.int i2), some (.int i3), some (.int i4), some (.int x3)], [.int x3])) (jq qX13_kindOf 79 rfl) rfl) ?_
                                  refine Eq.trans (jb_nx (i := .bipush 47) (n := 2) (q := (162, [some (.ref p0), some (.ref p1), some (.int i2), some (.int i3), some (.int i4), some (.int x3)], [.int 47, .int x3])) (jq qX13_kindOf 80 rfl) rfl) ?_
                                  by_cases c23 : x3 = 47
                                  · rw [if_pos c23] at H
                                    refine Eq.trans (jb_nx (i := .if_icmp .eq 24) (n := 3) (q := (186, [some (.ref p0), some (.ref p1), some (.int i2), some (.int i3), some (.int i4), some (.int x3)], [])) (jq qX13_kindOf 81 rfl) (jo_icT (jz_eqT c23) rfl)) ?_
                                    exact H
                                  · rw [if_neg c23] at H
                                    refine Eq.trans (jb_nx (i := .if_icmp .eq 24) (n := 3) (q := (165, [some (.ref p0), some (.ref p1), some (.int i2), some (.int i3), some (.int i4), some (.int x3)], [])) (jq qX13_kindOf 81 rfl) (jo_icF (jz_eqF c23))) ?_
                                    refine Eq.trans (jb_nx (i := .iload 5) (n := 2) (q := (167, [some (.ref p0), some (.ref p1), some (.int i2), some (.int i3), some (.int i4), some (.int x3)], [.int x3])) (jq qX13_kindOf 82 rfl) rfl) ?_
                                    refine Eq.trans (jb_nx (i := .bipush 60) (n := 2) (q := (169, [some (.ref p0), some (.ref p1), some (.int i2), some (.int i3), some (.int i4), some (.int x3)], [.int 60, .int x3])) (jq qX13_kindOf 83 rfl) rfl) ?_
                                    by_cases c24 : x3 = 60
                                    · rw [if_pos c24] at H
                                      refine Eq.trans (jb_nx (i := .if_icmp .eq 17) (n := 3) (q := (186, [some (.ref p0), some (.ref p1), some (.int i2), some (.int i3), some (.int i4), some (.int x3)], [])) (jq qX13_kindOf 84 rfl) (jo_icT (jz_eqT c24) rfl)) ?_
                                      exact H
                                    · rw [if_neg c24] at H
                                      refine Eq.trans (jb_nx (i := .if_icmp .eq 17) (n := 3) (q := (172, [some (.ref p0), some (.ref p1), some (.int i2), some (.int i3), some (.int i4), some (.int x3)], [])) (jq qX13_kindOf 84 rfl) (jo_icF (jz_eqF c24))) ?_
                                      refine Eq.trans (jb_nx (i := .iload 5) (n := 2) (q := (174, [some (.ref p0), some (.ref p1), some (.int i2), some (.int i3), some (.int i4), some (.int x3)], [.int x3])) (jq qX13_kindOf 85 rfl) rfl) ?_
                                      refine Eq.trans (jb_nx (i := .bipush 62) (n := 2) (q := (176, [some (.ref p0), some (.ref p1), some (.int i2), some (.int i3), some (.int i4), some (.int x3)], [.int 62, .int x3])) (jq qX13_kindOf 86 rfl) rfl) ?_
                                      by_cases c25 : x3 = 62
                                      · rw [if_pos c25] at H
                                        refine Eq.trans (jb_nx (i := .if_icmp .eq 10) (n := 3) (q := (186, [some (.ref p0), some (.ref p1), some (.int i2), some (.int i3), some (.int i4), some (.int x3)], [])) (jq qX13_kindOf 87 rfl) (jo_icT (jz_eqT c25) rfl)) ?_
                                        exact H
                                      · rw [if_neg c25] at H
                                        refine Eq.trans (jb_nx (i := .if_icmp .eq 10) (n := 3) (q := (179, [some (.ref p0), some (.ref p1), some (.int i2), some (.int i3), some (.int i4), some (.int x3)], [])) (jq qX13_kindOf 87 rfl) (jo_icF (jz_eqF c25))) ?_
                                        refine Eq.trans (jb_nx (i := .iload 5) (n := 2) (q := (181, [some (.ref p0), some (.ref p1), some (.int i2), some (.int i3), some (.int i4), some (.int x3)], [.int x3])) (jq qX13_kindOf 88 rfl) rfl) ?_
                                        refine Eq.trans (jb_nx (i := .bipush 61) (n := 2) (q := (183, [some (.ref p0), some (.ref p1), some (.int i2), some (.int i3), some (.int i4), some (.int x3)], [.int 61, .int x3])) (jq qX13_kindOf 89 rfl) rfl) ?_
                                        by_cases c26 : x3 = 61
                                        · rw [if_pos c26] at H
                                          refine Eq.trans (jb_nx (i := .if_icmp .ne 8) (n := 3) (q := (186, [some (.ref p0), some (.ref p1), some (.int i2), some (.int i3), some (.int i4), some (.int x3)], [])) (jq qX13_kindOf 90 rfl) (jo_icF (jz_neF c26))) ?_
                                          exact H
                                        · rw [if_neg c26] at H
                                          refine Eq.trans (jb_nx (i := .if_icmp .ne 8) (n := 3) (q := (191, [some (.ref p0), some (.ref p1), some (.int i2), some (.int i3), some (.int i4), some (.int x3)], [])) (jq qX13_kindOf 90 rfl) (jo_icT (jz_neT c26) rfl)) ?_
                                          refine Eq.trans (jb_nx (i := .bipush 32) (n := 2) (q := (193, [some (.ref p0), some (.ref p1), some (.int i2), some (.int i3), some (.int i4), some (.int x3)], [.int 32])) (jq qX13_kindOf 93 rfl) rfl) ?_
                                          exact Eq.trans (jb_rt (i := .ireturn) (n := 1) (jq qX13_kindOf 94 rfl) (jo_iret rfl rfl)) H
            · rw [if_neg c12] at H
              refine Eq.trans (jb_nx (i := .ifCond .eq 27) (n := 3) (q := (56, [some (.ref p0), some (.ref p1), some (.int i2), some (.int i3), some (.int i4), some (.int x3)], [])) (jq qX13_kindOf 28 rfl) (jo_ifF (jz_eqF c12))) ?_
              refine Eq.trans (jb_nx (i := .iload 4) (n := 2) (q := (58, [some (.ref p0), some (.ref p1), some (.int i2), some (.int i3), some (.int i4), some (.int x3)], [.int i4])) (jq qX13_kindOf 29 rfl) rfl) ?_
              refine Eq.trans (jb_nx (i := .iload_n 3) (n := 1) (q := (59, [some (.ref p0), some (.ref p1), some (.int i2), some (.int i3), some (.int i4), some (.int x3)], [.int i3, .int i4])) (jq qX13_kindOf 30 rfl) rfl) ?_
              refine Eq.trans (jb_nx (i := .isub) (n := 1) (q := (60, [some (.ref p0), some (.ref p1), some (.int i2), some (.int i3), some (.int i4), some (.int x3)], [.int (i4 - i3)])) (jq qX13_kindOf 31 rfl) rfl) ?_
              refine Eq.trans (jb_nx (i := .bipush 10) (n := 2) (q := (62, [some (.ref p0), some (.ref p1), some (.int i2), some (.int i3), some (.int i4), some (.int x3)], [.int 10, .int (i4 - i3)])) (jq qX13_kindOf 32 rfl) rfl) ?_
              by_cases c27 : 10 < (i4 - i3)
              · rw [if_pos c27] at H
                refine Eq.trans (jb_nx (i := .if_icmp .le 8) (n := 3) (q := (65, [some (.ref p0), some (.ref p1), some (.int i2), some (.int i3), some (.int i4), some (.int x3)], [])) (jq qX13_kindOf 33 rfl) (jo_icF (jz_leF c27))) ?_
                refine Eq.trans (jb_nx (i := .bipush 32) (n := 2) (q := (67, [some (.ref p0), some (.ref p1), some (.int i2), some (.int i3), some (.int i4), some (.int x3)], [.int 32])) (jq qX13_kindOf 34 rfl) rfl) ?_
                refine Eq.trans (jb_nx (i := .goto 12) (n := 3) (q := (79, [some (.ref p0), some (.ref p1), some (.int i2), some (.int i3), some (.int i4), some (.int x3)], [.int 32])) (jq qX13_kindOf 35 rfl) rfl) ?_
                exact Eq.trans (jb_rt (i := .ireturn) (n := 1) (jq qX13_kindOf 42 rfl) (jo_iret rfl rfl)) H
              · rw [if_neg c27] at H
                refine Eq.trans (jb_nx (i := .if_icmp .le 8) (n := 3) (q := (70, [some (.ref p0), some (.ref p1), some (.int i2), some (.int i3), some (.int i4), some (.int x3)], [])) (jq qX13_kindOf 33 rfl) (jo_icT (jz_leT c27) rfl)) ?_
                refine Eq.trans (jb_nx (i := .aload_n 0) (n := 1) (q := (71, [some (.ref p0), some (.ref p1), some (.int i2), some (.int i3), some (.int i4), some (.int x3)], [.ref p0])) (jq qX13_kindOf 36 rfl) rfl) ?_
                refine Eq.trans (jb_nx (i := .aload_n 1) (n := 1) (q := (72, [some (.ref p0), some (.ref p1), some (.int i2), some (.int i3), some (.int i4), some (.int x3)], [.ref p1, .ref p0])) (jq qX13_kindOf 37 rfl) rfl) ?_
                refine Eq.trans (jb_nx (i := .iload_n 2) (n := 1) (q := (73, [some (.ref p0), some (.ref p1), some (.int i2), some (.int i3), some (.int i4), some (.int x3)], [.int i2, .ref p1, .ref p0])) (jq qX13_kindOf 38 rfl) rfl) ?_
                refine Eq.trans (jb_nx (i := .iload_n 3) (n := 1) (q := (74, [some (.ref p0), some (.ref p1), some (.int i2), some (.int i3), some (.int i4), some (.int x3)], [.int i3, .int i2, .ref p1, .ref p0])) (jq qX13_kindOf 39 rfl) rfl) ?_
                refine Eq.trans (jb_nx (i := .iload 4) (n := 2) (q := (76, [some (.ref p0), some (.ref p1), some (.int i2), some (.int i3), some (.int i4), some (.int x3)], [.int i4, .int i3, .int i2, .ref p1, .ref p0])) (jq qX13_kindOf 40 rfl) rfl) ?_
                obtain ⟨b31, H⟩ := jm_O_inv H
                rcases jcI H with ⟨x30, h28, r29, H⟩ | ⟨w32, h33, r29, H⟩
                · refine Eq.trans (jb_nx (i := .invokevirtual 307) (n := 3) (q := (79, [some (.ref p0), some (.ref p1), some (.int i2), some (.int i3), some (.int i4), some (.int x3)], [.int x30])) (jq qX13_kindOf 41 rfl) (jo_cv (y := mX13_wordAt) rfl (Nat.le_of_ble_eq_true rfl) rfl (Nat.le_of_ble_eq_true rfl) b31 rfl r29 jo_ret)) ?_
                  exact Eq.trans (jb_rt (i := .ireturn) (n := 1) (jq qX13_kindOf 42 rfl) (jo_iret rfl rfl)) H
                · exact Eq.trans (jb_rt (i := .invokevirtual 307) (n := 3) (jq qX13_kindOf 41 rfl) (jo_cv (y := mX13_wordAt) rfl (Nat.le_of_ble_eq_true rfl) rfl (Nat.le_of_ble_eq_true rfl) b31 rfl r29 (jo_exn rfl))) H
          · exact Eq.trans (jb_rt (i := .invokestatic 297) (n := 3) (jq qX13_kindOf 27 rfl) (jo_cs (y := mX13_isSmall) (w := 1) (by decide) rfl (Nat.le_of_ble_eq_true rfl) rfl (Nat.le_of_ble_eq_true rfl) rfl r10 (jo_exn rfl))) H
        · rw [if_neg c8] at H
          refine Eq.trans (jb_nx (i := .ifCond .eq 27) (n := 3) (q := (24, [some (.ref p0), some (.ref p1), some (.int i2), some (.int i3), some (.int i4), some (.int x3)], [])) (jq qX13_kindOf 11 rfl) (jo_ifF (jz_eqF c8))) ?_
          refine Eq.trans (jb_nx (i := .iload 4) (n := 2) (q := (26, [some (.ref p0), some (.ref p1), some (.int i2), some (.int i3), some (.int i4), some (.int x3)], [.int i4])) (jq qX13_kindOf 12 rfl) rfl) ?_
          refine Eq.trans (jb_nx (i := .iload_n 3) (n := 1) (q := (27, [some (.ref p0), some (.ref p1), some (.int i2), some (.int i3), some (.int i4), some (.int x3)], [.int i3, .int i4])) (jq qX13_kindOf 13 rfl) rfl) ?_
          refine Eq.trans (jb_nx (i := .isub) (n := 1) (q := (28, [some (.ref p0), some (.ref p1), some (.int i2), some (.int i3), some (.int i4), some (.int x3)], [.int (i4 - i3)])) (jq qX13_kindOf 14 rfl) rfl) ?_
          refine Eq.trans (jb_nx (i := .bipush 6) (n := 2) (q := (30, [some (.ref p0), some (.ref p1), some (.int i2), some (.int i3), some (.int i4), some (.int x3)], [.int 6, .int (i4 - i3)])) (jq qX13_kindOf 15 rfl) rfl) ?_
          by_cases c36 : 6 < (i4 - i3)
          · rw [if_pos c36] at H
            refine Eq.trans (jb_nx (i := .if_icmp .le 8) (n := 3) (q := (33, [some (.ref p0), some (.ref p1), some (.int i2), some (.int i3), some (.int i4), some (.int x3)], [])) (jq qX13_kindOf 16 rfl) (jo_icF (jz_leF c36))) ?_
            refine Eq.trans (jb_nx (i := .bipush 32) (n := 2) (q := (35, [some (.ref p0), some (.ref p1), some (.int i2), some (.int i3), some (.int i4), some (.int x3)], [.int 32])) (jq qX13_kindOf 17 rfl) rfl) ?_
            refine Eq.trans (jb_nx (i := .goto 12) (n := 3) (q := (47, [some (.ref p0), some (.ref p1), some (.int i2), some (.int i3), some (.int i4), some (.int x3)], [.int 32])) (jq qX13_kindOf 18 rfl) rfl) ?_
            exact Eq.trans (jb_rt (i := .ireturn) (n := 1) (jq qX13_kindOf 25 rfl) (jo_iret rfl rfl)) H
          · rw [if_neg c36] at H
            refine Eq.trans (jb_nx (i := .if_icmp .le 8) (n := 3) (q := (38, [some (.ref p0), some (.ref p1), some (.int i2), some (.int i3), some (.int i4), some (.int x3)], [])) (jq qX13_kindOf 16 rfl) (jo_icT (jz_leT c36) rfl)) ?_
            refine Eq.trans (jb_nx (i := .aload_n 0) (n := 1) (q := (39, [some (.ref p0), some (.ref p1), some (.int i2), some (.int i3), some (.int i4), some (.int x3)], [.ref p0])) (jq qX13_kindOf 19 rfl) rfl) ?_
            refine Eq.trans (jb_nx (i := .aload_n 1) (n := 1) (q := (40, [some (.ref p0), some (.ref p1), some (.int i2), some (.int i3), some (.int i4), some (.int x3)], [.ref p1, .ref p0])) (jq qX13_kindOf 20 rfl) rfl) ?_
            refine Eq.trans (jb_nx (i := .iload_n 2) (n := 1) (q := (41, [some (.ref p0), some (.ref p1), some (.int i2), some (.int i3), some (.int i4), some (.int x3)], [.int i2, .ref p1, .ref p0])) (jq qX13_kindOf 21 rfl) rfl) ?_
            refine Eq.trans (jb_nx (i := .iload_n 3) (n := 1) (q := (42, [some (.ref p0), some (.ref p1), some (.int i2), some (.int i3), some (.int i4), some (.int x3)], [.int i3, .int i2, .ref p1, .ref p0])) (jq qX13_kindOf 22 rfl) rfl) ?_
            refine Eq.trans (jb_nx (i := .iload 4) (n := 2) (q := (44, [some (.ref p0), some (.ref p1), some (.int i2), some (.int i3), some (.int i4), some (.int x3)], [.int i4, .int i3, .int i2, .ref p1, .ref p0])) (jq qX13_kindOf 23 rfl) rfl) ?_
            obtain ⟨b40, H⟩ := jm_O_inv H
            rcases jcI H with ⟨x39, h37, r38, H⟩ | ⟨w41, h42, r38, H⟩
            · refine Eq.trans (jb_nx (i := .invokevirtual 303) (n := 3) (q := (47, [some (.ref p0), some (.ref p1), some (.int i2), some (.int i3), some (.int i4), some (.int x3)], [.int x39])) (jq qX13_kindOf 24 rfl) (jo_cv (y := mX13_numberAt) rfl (Nat.le_of_ble_eq_true rfl) rfl (Nat.le_of_ble_eq_true rfl) b40 rfl r38 jo_ret)) ?_
              exact Eq.trans (jb_rt (i := .ireturn) (n := 1) (jq qX13_kindOf 25 rfl) (jo_iret rfl rfl)) H
            · exact Eq.trans (jb_rt (i := .invokevirtual 303) (n := 3) (jq qX13_kindOf 24 rfl) (jo_cv (y := mX13_numberAt) rfl (Nat.le_of_ble_eq_true rfl) rfl (Nat.le_of_ble_eq_true rfl) b40 rfl r38 (jo_exn rfl))) H
      · exact Eq.trans (jb_rt (i := .invokestatic 300) (n := 3) (jq qX13_kindOf 10 rfl) (jo_cs (y := mX13_isDigit) (w := 1) (by decide) rfl (Nat.le_of_ble_eq_true rfl) rfl (Nat.le_of_ble_eq_true rfl) rfl r6 (jo_exn rfl))) H
  · exact Eq.trans (jb_rt (i := .invokevirtual 294) (n := 3) (jq qX13_kindOf 2 rfl) (jo_cv (y := mX13_byteOf) rfl (Nat.le_of_ble_eq_true rfl) rfl (Nat.le_of_ble_eq_true rfl) b45 rfl r2 (jo_exn rfl))) H
/-! MaskPlaysModel numberAt (LMaskPlaysModel$Book;III)I -/
def tX13_numberAt : List (Nat × Instr × Nat) := [(0, .iconst 0, 1), (1, .istore 5, 2), (3, .iload_n 3, 1), (4, .istore 6, 2), (6, .iload 6, 2), (8, .iload 4, 2), (10, .if_icmp .ge 27, 3), (13, .bipush 10, 2), (15, .iload 5, 2), (17, .imul, 1), (18, .aload_n 0, 1), (19, .getfield 9, 3), (22, .iload 6, 2), (24, .iaload, 1), (25, .iadd, 1), (26, .bipush 48, 2), (28, .isub, 1), (29, .istore 5, 2), (31, .iinc 6 1, 3), (34, .goto (-28), 3), (37, .aload_n 1, 1), (38, .getfield 310, 3), (41, .iload_n 2, 1), (42, .iload 5, 2), (44, .i2l, 1), (45, .lastore, 1), (46, .bipush 31, 2), (48, .ireturn, 1)]
set_option maxRecDepth 100000 in
theorem qX13_numberAt : ∀ q ∈ tX13_numberAt, decode cX13_numberAt q.1 = .ok (q.2.1, q.2.2) := by decide +kernel
noncomputable def kX13_numberAt_6 (d : Nat) (p0 : Nat) (p1 : Nat) (i2 : Int32) (o3 : Option Value) (i4 : Int32) (i5 : Int32) (i6 : Int32) (h : jm_H) : Option jm_R := jm_B d mX13_numberAt (6, [some (.ref p0), some (.ref p1), some (.int i2), o3, some (.int i4), some (.int i5), some (.int i6)], []) h
theorem gX13_numberAt_6 {d : Nat} {p0 : Nat} {p1 : Nat} {i2 : Int32} {o3 : Option Value} {i4 : Int32} {i5 : Int32} {i6 : Int32} {h : jm_H} {r : jm_R} (H : ((if i6 < i4 then (jr_R h p0 12 1 2).bind fun a6 => (jm_ali h a6 0 i6).bind fun x8 => kX13_numberAt_6 d p0 p1 i2 o3 i4 (((10 * i5) + x8) - 48) (i6 + 1) h else (jr_R h p1 11 3 2).bind fun a2 => (jm_asl h a2 i2 i5.toInt64).bind fun h4 => some (.inl (some (.int 31)), h4))) = some r) : kX13_numberAt_6 d p0 p1 i2 o3 i4 i5 i6 h = some r := by
  show jm_B d mX13_numberAt (6, [some (.ref p0), some (.ref p1), some (.int i2), o3, some (.int i4), some (.int i5), some (.int i6)], []) h = some r
  refine Eq.trans (jb_nx (i := .iload 6) (n := 2) (q := (8, [some (.ref p0), some (.ref p1), some (.int i2), o3, some (.int i4), some (.int i5), some (.int i6)], [.int i6])) (jq qX13_numberAt 4 rfl) rfl) ?_
  refine Eq.trans (jb_nx (i := .iload 4) (n := 2) (q := (10, [some (.ref p0), some (.ref p1), some (.int i2), o3, some (.int i4), some (.int i5), some (.int i6)], [.int i4, .int i6])) (jq qX13_numberAt 5 rfl) rfl) ?_
  by_cases c1 : i6 < i4
  · rw [if_pos c1] at H
    refine Eq.trans (jb_nx (i := .if_icmp .ge 27) (n := 3) (q := (13, [some (.ref p0), some (.ref p1), some (.int i2), o3, some (.int i4), some (.int i5), some (.int i6)], [])) (jq qX13_numberAt 6 rfl) (jo_icF (jz_geF c1))) ?_
    refine Eq.trans (jb_nx (i := .bipush 10) (n := 2) (q := (15, [some (.ref p0), some (.ref p1), some (.int i2), o3, some (.int i4), some (.int i5), some (.int i6)], [.int 10])) (jq qX13_numberAt 7 rfl) rfl) ?_
    refine Eq.trans (jb_nx (i := .iload 5) (n := 2) (q := (17, [some (.ref p0), some (.ref p1), some (.int i2), o3, some (.int i4), some (.int i5), some (.int i6)], [.int i5, .int 10])) (jq qX13_numberAt 8 rfl) rfl) ?_
    refine Eq.trans (jb_nx (i := .imul) (n := 1) (q := (18, [some (.ref p0), some (.ref p1), some (.int i2), o3, some (.int i4), some (.int i5), some (.int i6)], [.int (10 * i5)])) (jq qX13_numberAt 9 rfl) rfl) ?_
    refine Eq.trans (jb_nx (i := .aload_n 0) (n := 1) (q := (19, [some (.ref p0), some (.ref p1), some (.int i2), o3, some (.int i4), some (.int i5), some (.int i6)], [.ref p0, .int (10 * i5)])) (jq qX13_numberAt 10 rfl) rfl) ?_
    obtain ⟨a6, e7, H⟩ := jbd H
    refine Eq.trans (jb_nx (i := .getfield 9) (n := 3) (q := (22, [some (.ref p0), some (.ref p1), some (.int i2), o3, some (.int i4), some (.int i5), some (.int i6)], [.ref a6, .int (10 * i5)])) (jq qX13_numberAt 11 rfl) (jo_gf rfl (jr_R_inv e7))) ?_
    refine Eq.trans (jb_nx (i := .iload 6) (n := 2) (q := (24, [some (.ref p0), some (.ref p1), some (.int i2), o3, some (.int i4), some (.int i5), some (.int i6)], [.int i6, .ref a6, .int (10 * i5)])) (jq qX13_numberAt 12 rfl) rfl) ?_
    obtain ⟨x8, e9, H⟩ := jbd H
    refine Eq.trans (jb_nx (i := .iaload) (n := 1) (q := (25, [some (.ref p0), some (.ref p1), some (.int i2), o3, some (.int i4), some (.int i5), some (.int i6)], [.int x8, .int (10 * i5)])) (jq qX13_numberAt 13 rfl) (jo_ial e9)) ?_
    refine Eq.trans (jb_nx (i := .iadd) (n := 1) (q := (26, [some (.ref p0), some (.ref p1), some (.int i2), o3, some (.int i4), some (.int i5), some (.int i6)], [.int ((10 * i5) + x8)])) (jq qX13_numberAt 14 rfl) rfl) ?_
    refine Eq.trans (jb_nx (i := .bipush 48) (n := 2) (q := (28, [some (.ref p0), some (.ref p1), some (.int i2), o3, some (.int i4), some (.int i5), some (.int i6)], [.int 48, .int ((10 * i5) + x8)])) (jq qX13_numberAt 15 rfl) rfl) ?_
    refine Eq.trans (jb_nx (i := .isub) (n := 1) (q := (29, [some (.ref p0), some (.ref p1), some (.int i2), o3, some (.int i4), some (.int i5), some (.int i6)], [.int (((10 * i5) + x8) - 48)])) (jq qX13_numberAt 16 rfl) rfl) ?_
    refine Eq.trans (jb_nx (i := .istore 5) (n := 2) (q := (31, [some (.ref p0), some (.ref p1), some (.int i2), o3, some (.int i4), some (.int (((10 * i5) + x8) - 48)), some (.int i6)], [])) (jq qX13_numberAt 17 rfl) rfl) ?_
    refine Eq.trans (jb_nx (i := .iinc 6 1) (n := 3) (q := (34, [some (.ref p0), some (.ref p1), some (.int i2), o3, some (.int i4), some (.int (((10 * i5) + x8) - 48)), some (.int (i6 + 1))], [])) (jq qX13_numberAt 18 rfl) rfl) ?_
    refine Eq.trans (jb_nx (i := .goto (-28)) (n := 3) (q := (6, [some (.ref p0), some (.ref p1), some (.int i2), o3, some (.int i4), some (.int (((10 * i5) + x8) - 48)), some (.int (i6 + 1))], [])) (jq qX13_numberAt 19 rfl) rfl) ?_
    exact H
  · rw [if_neg c1] at H
    refine Eq.trans (jb_nx (i := .if_icmp .ge 27) (n := 3) (q := (37, [some (.ref p0), some (.ref p1), some (.int i2), o3, some (.int i4), some (.int i5), some (.int i6)], [])) (jq qX13_numberAt 6 rfl) (jo_icT (jz_geT c1) rfl)) ?_
    refine Eq.trans (jb_nx (i := .aload_n 1) (n := 1) (q := (38, [some (.ref p0), some (.ref p1), some (.int i2), o3, some (.int i4), some (.int i5), some (.int i6)], [.ref p1])) (jq qX13_numberAt 20 rfl) rfl) ?_
    obtain ⟨a2, e3, H⟩ := jbd H
    refine Eq.trans (jb_nx (i := .getfield 310) (n := 3) (q := (41, [some (.ref p0), some (.ref p1), some (.int i2), o3, some (.int i4), some (.int i5), some (.int i6)], [.ref a2])) (jq qX13_numberAt 21 rfl) (jo_gf rfl (jr_R_inv e3))) ?_
    refine Eq.trans (jb_nx (i := .iload_n 2) (n := 1) (q := (42, [some (.ref p0), some (.ref p1), some (.int i2), o3, some (.int i4), some (.int i5), some (.int i6)], [.int i2, .ref a2])) (jq qX13_numberAt 22 rfl) rfl) ?_
    refine Eq.trans (jb_nx (i := .iload 5) (n := 2) (q := (44, [some (.ref p0), some (.ref p1), some (.int i2), o3, some (.int i4), some (.int i5), some (.int i6)], [.int i5, .int i2, .ref a2])) (jq qX13_numberAt 23 rfl) rfl) ?_
    refine Eq.trans (jb_nx (i := .i2l) (n := 1) (q := (45, [some (.ref p0), some (.ref p1), some (.int i2), o3, some (.int i4), some (.int i5), some (.int i6)], [.long i5.toInt64, .int i2, .ref a2])) (jq qX13_numberAt 24 rfl) rfl) ?_
    obtain ⟨h4, e5, H⟩ := jbd H
    refine Eq.trans (jb_nx (i := .lastore) (n := 1) (q := (46, [some (.ref p0), some (.ref p1), some (.int i2), o3, some (.int i4), some (.int i5), some (.int i6)], [])) (jq qX13_numberAt 25 rfl) (jo_las e5)) ?_
    refine Eq.trans (jb_nx (i := .bipush 31) (n := 2) (q := (48, [some (.ref p0), some (.ref p1), some (.int i2), o3, some (.int i4), some (.int i5), some (.int i6)], [.int 31])) (jq qX13_numberAt 26 rfl) rfl) ?_
    exact Eq.trans (jb_rt (i := .ireturn) (n := 1) (jq qX13_numberAt 27 rfl) (jo_iret rfl rfl)) H
theorem gX13_numberAt {d : Nat} {p0 : Nat} {p1 : Nat} {i2 : Int32} {i3 : Int32} {i4 : Int32} {h : jm_H} {r : jm_R} (H : (kX13_numberAt_6 d p0 p1 i2 (some (.int i3)) i4 0 i3 h) = some r) : jm_D (d + 1) mX13_numberAt [.ref p0, .ref p1, .int i2, .int i3, .int i4] h = some r := by
  rw [jm_D_body (Nat.le_of_ble_eq_true rfl)]
  show jm_B d mX13_numberAt (0, [some (.ref p0), some (.ref p1), some (.int i2), some (.int i3), some (.int i4), none, none], []) h = some r
  refine Eq.trans (jb_nx (i := .iconst 0) (n := 1) (q := (1, [some (.ref p0), some (.ref p1), some (.int i2), some (.int i3), some (.int i4), none, none], [.int 0])) (jq qX13_numberAt 0 rfl) rfl) ?_
  refine Eq.trans (jb_nx (i := .istore 5) (n := 2) (q := (3, [some (.ref p0), some (.ref p1), some (.int i2), some (.int i3), some (.int i4), some (.int 0), none], [])) (jq qX13_numberAt 1 rfl) rfl) ?_
  refine Eq.trans (jb_nx (i := .iload_n 3) (n := 1) (q := (4, [some (.ref p0), some (.ref p1), some (.int i2), some (.int i3), some (.int i4), some (.int 0), none], [.int i3])) (jq qX13_numberAt 2 rfl) rfl) ?_
  refine Eq.trans (jb_nx (i := .istore 6) (n := 2) (q := (6, [some (.ref p0), some (.ref p1), some (.int i2), some (.int i3), some (.int i4), some (.int 0), some (.int i3)], [])) (jq qX13_numberAt 3 rfl) rfl) ?_
  exact H
/-! MaskPlaysModel wordAt (LMaskPlaysModel$Book;III)I -/
def tX13_wordAt : List (Nat × Instr × Nat) := [(0, .lconst 0, 1), (1, .lstore 5, 2), (3, .iload_n 3, 1), (4, .istore 7, 2), (6, .iload 7, 2), (8, .iload 4, 2), (10, .if_icmp .ge 60, 3), (13, .ldc2_w 102, 3), (16, .lload 5, 2), (18, .lmul, 1), (19, .aload_n 0, 1), (20, .getfield 9, 3), (23, .iload 7, 2), (25, .iaload, 1), (26, .invokestatic 297, 3), (29, .ifCond .eq 18, 3), (32, .aload_n 0, 1), (33, .getfield 9, 3), (36, .iload 7, 2), (38, .iaload, 1), (39, .bipush 97, 2), (41, .isub, 1), (42, .iconst 1, 1), (43, .iadd, 1), (44, .goto 16, 3), (47, .aload_n 0, 1), (48, .getfield 9, 3), (51, .iload 7, 2), (53, .iaload, 1), (54, .bipush 48, 2), (56, .isub, 1), (57, .bipush 27, 2), (59, .iadd, 1), (60, .i2l, 1), (61, .ladd, 1), (62, .lstore 5, 2), (64, .iinc 7 1, 3), (67, .goto (-61), 3), (70, .aload_n 1, 1), (71, .getfield 310, 3), (74, .iload_n 2, 1), (75, .lload 5, 2), (77, .lastore, 1), (78, .iconst 0, 1), (79, .istore 7, 2), (81, .iload 7, 2), (83, .getstatic 313, 3), (86, .arraylength, 1), (87, .if_icmp .ge 27, 3), (90, .getstatic 313, 3), (93, .iload 7, 2), (95, .aaload, 1), (96, .invokestatic 175, 3), (99, .lload 5, 2), (101, .lcmp, 1), (102, .ifCond .ne 6, 3), (105, .iload 7, 2), (107, .ireturn, 1), (108, .iinc 7 1, 3), (111, .goto (-30), 3), (114, .bipush 30, 2), (116, .ireturn, 1)]
set_option maxRecDepth 100000 in
theorem qX13_wordAt : ∀ q ∈ tX13_wordAt, decode cX13_wordAt q.1 = .ok (q.2.1, q.2.2) := by decide +kernel
noncomputable def kX13_wordAt_6 (d : Nat) (p0 : Nat) (p1 : Nat) (i2 : Int32) (o3 : Option Value) (i4 : Int32) (j5 : Int64) (i7 : Int32) (h : jm_H) : Option jm_R := jm_B d mX13_wordAt (6, [some (.ref p0), some (.ref p1), some (.int i2), o3, some (.int i4), some (.long j5), none, some (.int i7)], []) h
noncomputable def kX13_wordAt_81 (d : Nat) (o0 : Option Value) (o1 : Option Value) (o2 : Option Value) (o3 : Option Value) (o4 : Option Value) (j5 : Int64) (i7 : Int32) (h : jm_H) : Option jm_R := jm_B d mX13_wordAt (81, [o0, o1, o2, o3, o4, some (.long j5), none, some (.int i7)], []) h
theorem gX13_wordAt_6 {d : Nat} {p0 : Nat} {p1 : Nat} {i2 : Int32} {o3 : Option Value} {i4 : Int32} {j5 : Int64} {i7 : Int32} {h : jm_H} {r : jm_R} (H : ((if i7 < i4 then (jr_R h p0 12 1 2).bind fun a6 => (jm_ali h a6 0 i7).bind fun x8 => jc_I (jm_D d mX13_isSmall [.int x8] h) (fun x12 h10 => (if x12 = 0 then (jr_R h10 p0 12 1 2).bind fun a14 => (jm_ali h10 a14 0 i7).bind fun x16 => kX13_wordAt_6 d p0 p1 i2 o3 i4 ((37 * j5) + (Int32.toInt64 ((x16 - 48) + 27))) (i7 + 1) h10 else (jr_R h10 p0 12 1 2).bind fun a18 => (jm_ali h10 a18 0 i7).bind fun x20 => kX13_wordAt_6 d p0 p1 i2 o3 i4 ((37 * j5) + (Int32.toInt64 ((x20 - 97) + 1))) (i7 + 1) h10)) jx else (jr_R h p1 11 3 2).bind fun a2 => (jm_asl h a2 i2 j5).bind fun h4 => kX13_wordAt_81 d (some (.ref p0)) (some (.ref p1)) (some (.int i2)) o3 (some (.int i4)) j5 0 h4)) = some r) : kX13_wordAt_6 d p0 p1 i2 o3 i4 j5 i7 h = some r := by
  show jm_B d mX13_wordAt (6, [some (.ref p0), some (.ref p1), some (.int i2), o3, some (.int i4), some (.long j5), none, some (.int i7)], []) h = some r
  refine Eq.trans (jb_nx (i := .iload 7) (n := 2) (q := (8, [some (.ref p0), some (.ref p1), some (.int i2), o3, some (.int i4), some (.long j5), none, some (.int i7)], [.int i7])) (jq qX13_wordAt 4 rfl) rfl) ?_
  refine Eq.trans (jb_nx (i := .iload 4) (n := 2) (q := (10, [some (.ref p0), some (.ref p1), some (.int i2), o3, some (.int i4), some (.long j5), none, some (.int i7)], [.int i4, .int i7])) (jq qX13_wordAt 5 rfl) rfl) ?_
  by_cases c1 : i7 < i4
  · rw [if_pos c1] at H
    refine Eq.trans (jb_nx (i := .if_icmp .ge 60) (n := 3) (q := (13, [some (.ref p0), some (.ref p1), some (.int i2), o3, some (.int i4), some (.long j5), none, some (.int i7)], [])) (jq qX13_wordAt 6 rfl) (jo_icF (jz_geF c1))) ?_
    refine Eq.trans (jb_nx (i := .ldc2_w 102) (n := 3) (q := (16, [some (.ref p0), some (.ref p1), some (.int i2), o3, some (.int i4), some (.long j5), none, some (.int i7)], [.long 37])) (jq qX13_wordAt 7 rfl) rfl) ?_
    refine Eq.trans (jb_nx (i := .lload 5) (n := 2) (q := (18, [some (.ref p0), some (.ref p1), some (.int i2), o3, some (.int i4), some (.long j5), none, some (.int i7)], [.long j5, .long 37])) (jq qX13_wordAt 8 rfl) rfl) ?_
    refine Eq.trans (jb_nx (i := .lmul) (n := 1) (q := (19, [some (.ref p0), some (.ref p1), some (.int i2), o3, some (.int i4), some (.long j5), none, some (.int i7)], [.long (37 * j5)])) (jq qX13_wordAt 9 rfl) rfl) ?_
    refine Eq.trans (jb_nx (i := .aload_n 0) (n := 1) (q := (20, [some (.ref p0), some (.ref p1), some (.int i2), o3, some (.int i4), some (.long j5), none, some (.int i7)], [.ref p0, .long (37 * j5)])) (jq qX13_wordAt 10 rfl) rfl) ?_
    obtain ⟨a6, e7, H⟩ := jbd H
    refine Eq.trans (jb_nx (i := .getfield 9) (n := 3) (q := (23, [some (.ref p0), some (.ref p1), some (.int i2), o3, some (.int i4), some (.long j5), none, some (.int i7)], [.ref a6, .long (37 * j5)])) (jq qX13_wordAt 11 rfl) (jo_gf rfl (jr_R_inv e7))) ?_
    refine Eq.trans (jb_nx (i := .iload 7) (n := 2) (q := (25, [some (.ref p0), some (.ref p1), some (.int i2), o3, some (.int i4), some (.long j5), none, some (.int i7)], [.int i7, .ref a6, .long (37 * j5)])) (jq qX13_wordAt 12 rfl) rfl) ?_
    obtain ⟨x8, e9, H⟩ := jbd H
    refine Eq.trans (jb_nx (i := .iaload) (n := 1) (q := (26, [some (.ref p0), some (.ref p1), some (.int i2), o3, some (.int i4), some (.long j5), none, some (.int i7)], [.int x8, .long (37 * j5)])) (jq qX13_wordAt 13 rfl) (jo_ial e9)) ?_
    rcases jcI H with ⟨x12, h10, r11, H⟩ | ⟨w22, h23, r11, H⟩
    · refine Eq.trans (jb_nx (i := .invokestatic 297) (n := 3) (q := (29, [some (.ref p0), some (.ref p1), some (.int i2), o3, some (.int i4), some (.long j5), none, some (.int i7)], [.int x12, .long (37 * j5)])) (jq qX13_wordAt 14 rfl) (jo_cs (y := mX13_isSmall) (w := 1) (by decide) rfl (Nat.le_of_ble_eq_true rfl) rfl (Nat.le_of_ble_eq_true rfl) rfl r11 jo_ret)) ?_
      by_cases c13 : x12 = 0
      · rw [if_pos c13] at H
        refine Eq.trans (jb_nx (i := .ifCond .eq 18) (n := 3) (q := (47, [some (.ref p0), some (.ref p1), some (.int i2), o3, some (.int i4), some (.long j5), none, some (.int i7)], [.long (37 * j5)])) (jq qX13_wordAt 15 rfl) (jo_ifT (jz_eqT c13) rfl)) ?_
        refine Eq.trans (jb_nx (i := .aload_n 0) (n := 1) (q := (48, [some (.ref p0), some (.ref p1), some (.int i2), o3, some (.int i4), some (.long j5), none, some (.int i7)], [.ref p0, .long (37 * j5)])) (jq qX13_wordAt 25 rfl) rfl) ?_
        obtain ⟨a14, e15, H⟩ := jbd H
        refine Eq.trans (jb_nx (i := .getfield 9) (n := 3) (q := (51, [some (.ref p0), some (.ref p1), some (.int i2), o3, some (.int i4), some (.long j5), none, some (.int i7)], [.ref a14, .long (37 * j5)])) (jq qX13_wordAt 26 rfl) (jo_gf rfl (jr_R_inv e15))) ?_
        refine Eq.trans (jb_nx (i := .iload 7) (n := 2) (q := (53, [some (.ref p0), some (.ref p1), some (.int i2), o3, some (.int i4), some (.long j5), none, some (.int i7)], [.int i7, .ref a14, .long (37 * j5)])) (jq qX13_wordAt 27 rfl) rfl) ?_
        obtain ⟨x16, e17, H⟩ := jbd H
        refine Eq.trans (jb_nx (i := .iaload) (n := 1) (q := (54, [some (.ref p0), some (.ref p1), some (.int i2), o3, some (.int i4), some (.long j5), none, some (.int i7)], [.int x16, .long (37 * j5)])) (jq qX13_wordAt 28 rfl) (jo_ial e17)) ?_
        refine Eq.trans (jb_nx (i := .bipush 48) (n := 2) (q := (56, [some (.ref p0), some (.ref p1), some (.int i2), o3, some (.int i4), some (.long j5), none, some (.int i7)], [.int 48, .int x16, .long (37 * j5)])) (jq qX13_wordAt 29 rfl) rfl) ?_
        refine Eq.trans (jb_nx (i := .isub) (n := 1) (q := (57, [some (.ref p0), some (.ref p1), some (.int i2), o3, some (.int i4), some (.long j5), none, some (.int i7)], [.int (x16 - 48), .long (37 * j5)])) (jq qX13_wordAt 30 rfl) rfl) ?_
        refine Eq.trans (jb_nx (i := .bipush 27) (n := 2) (q := (59, [some (.ref p0), some (.ref p1), some (.int i2), o3, some (.int i4), some (.long j5), none, some (.int i7)], [.int 27, .int (x16 - 48), .long (37 * j5)])) (jq qX13_wordAt 31 rfl) rfl) ?_
        refine Eq.trans (jb_nx (i := .iadd) (n := 1) (q := (60, [some (.ref p0), some (.ref p1), some (.int i2), o3, some (.int i4), some (.long j5), none, some (.int i7)], [.int ((x16 - 48) + 27), .long (37 * j5)])) (jq qX13_wordAt 32 rfl) rfl) ?_
        refine Eq.trans (jb_nx (i := .i2l) (n := 1) (q := (61, [some (.ref p0), some (.ref p1), some (.int i2), o3, some (.int i4), some (.long j5), none, some (.int i7)], [.long (Int32.toInt64 ((x16 - 48) + 27)), .long (37 * j5)])) (jq qX13_wordAt 33 rfl) rfl) ?_
        refine Eq.trans (jb_nx (i := .ladd) (n := 1) (q := (62, [some (.ref p0), some (.ref p1), some (.int i2), o3, some (.int i4), some (.long j5), none, some (.int i7)], [.long ((37 * j5) + (Int32.toInt64 ((x16 - 48) + 27)))])) (jq qX13_wordAt 34 rfl) rfl) ?_
        refine Eq.trans (jb_nx (i := .lstore 5) (n := 2) (q := (64, [some (.ref p0), some (.ref p1), some (.int i2), o3, some (.int i4), some (.long ((37 * j5) + (Int32.toInt64 ((x16 - 48) + 27)))), none, some (.int i7)], [])) (jq qX13_wordAt 35 rfl) rfl) ?_
        refine Eq.trans (jb_nx (i := .iinc 7 1) (n := 3) (q := (67, [some (.ref p0), some (.ref p1), some (.int i2), o3, some (.int i4), some (.long ((37 * j5) + (Int32.toInt64 ((x16 - 48) + 27)))), none, some (.int (i7 + 1))], [])) (jq qX13_wordAt 36 rfl) rfl) ?_
        refine Eq.trans (jb_nx (i := .goto (-61)) (n := 3) (q := (6, [some (.ref p0), some (.ref p1), some (.int i2), o3, some (.int i4), some (.long ((37 * j5) + (Int32.toInt64 ((x16 - 48) + 27)))), none, some (.int (i7 + 1))], [])) (jq qX13_wordAt 37 rfl) rfl) ?_
        exact H
      · rw [if_neg c13] at H
        refine Eq.trans (jb_nx (i := .ifCond .eq 18) (n := 3) (q := (32, [some (.ref p0), some (.ref p1), some (.int i2), o3, some (.int i4), some (.long j5), none, some (.int i7)], [.long (37 * j5)])) (jq qX13_wordAt 15 rfl) (jo_ifF (jz_eqF c13))) ?_
        refine Eq.trans (jb_nx (i := .aload_n 0) (n := 1) (q := (33, [some (.ref p0), some (.ref p1), some (.int i2), o3, some (.int i4), some (.long j5), none, some (.int i7)], [.ref p0, .long (37 * j5)])) (jq qX13_wordAt 16 rfl) rfl) ?_
        obtain ⟨a18, e19, H⟩ := jbd H
        refine Eq.trans (jb_nx (i := .getfield 9) (n := 3) (q := (36, [some (.ref p0), some (.ref p1), some (.int i2), o3, some (.int i4), some (.long j5), none, some (.int i7)], [.ref a18, .long (37 * j5)])) (jq qX13_wordAt 17 rfl) (jo_gf rfl (jr_R_inv e19))) ?_
        refine Eq.trans (jb_nx (i := .iload 7) (n := 2) (q := (38, [some (.ref p0), some (.ref p1), some (.int i2), o3, some (.int i4), some (.long j5), none, some (.int i7)], [.int i7, .ref a18, .long (37 * j5)])) (jq qX13_wordAt 18 rfl) rfl) ?_
        obtain ⟨x20, e21, H⟩ := jbd H
        refine Eq.trans (jb_nx (i := .iaload) (n := 1) (q := (39, [some (.ref p0), some (.ref p1), some (.int i2), o3, some (.int i4), some (.long j5), none, some (.int i7)], [.int x20, .long (37 * j5)])) (jq qX13_wordAt 19 rfl) (jo_ial e21)) ?_
        refine Eq.trans (jb_nx (i := .bipush 97) (n := 2) (q := (41, [some (.ref p0), some (.ref p1), some (.int i2), o3, some (.int i4), some (.long j5), none, some (.int i7)], [.int 97, .int x20, .long (37 * j5)])) (jq qX13_wordAt 20 rfl) rfl) ?_
        refine Eq.trans (jb_nx (i := .isub) (n := 1) (q := (42, [some (.ref p0), some (.ref p1), some (.int i2), o3, some (.int i4), some (.long j5), none, some (.int i7)], [.int (x20 - 97), .long (37 * j5)])) (jq qX13_wordAt 21 rfl) rfl) ?_
        refine Eq.trans (jb_nx (i := .iconst 1) (n := 1) (q := (43, [some (.ref p0), some (.ref p1), some (.int i2), o3, some (.int i4), some (.long j5), none, some (.int i7)], [.int 1, .int (x20 - 97), .long (37 * j5)])) (jq qX13_wordAt 22 rfl) rfl) ?_
        refine Eq.trans (jb_nx (i := .iadd) (n := 1) (q := (44, [some (.ref p0), some (.ref p1), some (.int i2), o3, some (.int i4), some (.long j5), none, some (.int i7)], [.int ((x20 - 97) + 1), .long (37 * j5)])) (jq qX13_wordAt 23 rfl) rfl) ?_
        refine Eq.trans (jb_nx (i := .goto 16) (n := 3) (q := (60, [some (.ref p0), some (.ref p1), some (.int i2), o3, some (.int i4), some (.long j5), none, some (.int i7)], [.int ((x20 - 97) + 1), .long (37 * j5)])) (jq qX13_wordAt 24 rfl) rfl) ?_
        refine Eq.trans (jb_nx (i := .i2l) (n := 1) (q := (61, [some (.ref p0), some (.ref p1), some (.int i2), o3, some (.int i4), some (.long j5), none, some (.int i7)], [.long (Int32.toInt64 ((x20 - 97) + 1)), .long (37 * j5)])) (jq qX13_wordAt 33 rfl) rfl) ?_
        refine Eq.trans (jb_nx (i := .ladd) (n := 1) (q := (62, [some (.ref p0), some (.ref p1), some (.int i2), o3, some (.int i4), some (.long j5), none, some (.int i7)], [.long ((37 * j5) + (Int32.toInt64 ((x20 - 97) + 1)))])) (jq qX13_wordAt 34 rfl) rfl) ?_
        refine Eq.trans (jb_nx (i := .lstore 5) (n := 2) (q := (64, [some (.ref p0), some (.ref p1), some (.int i2), o3, some (.int i4), some (.long ((37 * j5) + (Int32.toInt64 ((x20 - 97) + 1)))), none, some (.int i7)], [])) (jq qX13_wordAt 35 rfl) rfl) ?_
        refine Eq.trans (jb_nx (i := .iinc 7 1) (n := 3) (q := (67, [some (.ref p0), some (.ref p1), some (.int i2), o3, some (.int i4), some (.long ((37 * j5) + (Int32.toInt64 ((x20 - 97) + 1)))), none, some (.int (i7 + 1))], [])) (jq qX13_wordAt 36 rfl) rfl) ?_
        refine Eq.trans (jb_nx (i := .goto (-61)) (n := 3) (q := (6, [some (.ref p0), some (.ref p1), some (.int i2), o3, some (.int i4), some (.long ((37 * j5) + (Int32.toInt64 ((x20 - 97) + 1)))), none, some (.int (i7 + 1))], [])) (jq qX13_wordAt 37 rfl) rfl) ?_
        exact H
    · exact Eq.trans (jb_rt (i := .invokestatic 297) (n := 3) (jq qX13_wordAt 14 rfl) (jo_cs (y := mX13_isSmall) (w := 1) (by decide) rfl (Nat.le_of_ble_eq_true rfl) rfl (Nat.le_of_ble_eq_true rfl) rfl r11 (jo_exn rfl))) H
  · rw [if_neg c1] at H
    refine Eq.trans (jb_nx (i := .if_icmp .ge 60) (n := 3) (q := (70, [some (.ref p0), some (.ref p1), some (.int i2), o3, some (.int i4), some (.long j5), none, some (.int i7)], [])) (jq qX13_wordAt 6 rfl) (jo_icT (jz_geT c1) rfl)) ?_
    refine Eq.trans (jb_nx (i := .aload_n 1) (n := 1) (q := (71, [some (.ref p0), some (.ref p1), some (.int i2), o3, some (.int i4), some (.long j5), none, some (.int i7)], [.ref p1])) (jq qX13_wordAt 38 rfl) rfl) ?_
    obtain ⟨a2, e3, H⟩ := jbd H
    refine Eq.trans (jb_nx (i := .getfield 310) (n := 3) (q := (74, [some (.ref p0), some (.ref p1), some (.int i2), o3, some (.int i4), some (.long j5), none, some (.int i7)], [.ref a2])) (jq qX13_wordAt 39 rfl) (jo_gf rfl (jr_R_inv e3))) ?_
    refine Eq.trans (jb_nx (i := .iload_n 2) (n := 1) (q := (75, [some (.ref p0), some (.ref p1), some (.int i2), o3, some (.int i4), some (.long j5), none, some (.int i7)], [.int i2, .ref a2])) (jq qX13_wordAt 40 rfl) rfl) ?_
    refine Eq.trans (jb_nx (i := .lload 5) (n := 2) (q := (77, [some (.ref p0), some (.ref p1), some (.int i2), o3, some (.int i4), some (.long j5), none, some (.int i7)], [.long j5, .int i2, .ref a2])) (jq qX13_wordAt 41 rfl) rfl) ?_
    obtain ⟨h4, e5, H⟩ := jbd H
    refine Eq.trans (jb_nx (i := .lastore) (n := 1) (q := (78, [some (.ref p0), some (.ref p1), some (.int i2), o3, some (.int i4), some (.long j5), none, some (.int i7)], [])) (jq qX13_wordAt 42 rfl) (jo_las e5)) ?_
    refine Eq.trans (jb_nx (i := .iconst 0) (n := 1) (q := (79, [some (.ref p0), some (.ref p1), some (.int i2), o3, some (.int i4), some (.long j5), none, some (.int i7)], [.int 0])) (jq qX13_wordAt 43 rfl) rfl) ?_
    refine Eq.trans (jb_nx (i := .istore 7) (n := 2) (q := (81, [some (.ref p0), some (.ref p1), some (.int i2), o3, some (.int i4), some (.long j5), none, some (.int 0)], [])) (jq qX13_wordAt 44 rfl) rfl) ?_
    exact H
theorem gX13_wordAt_81 {d : Nat} {o0 : Option Value} {o1 : Option Value} {o2 : Option Value} {o3 : Option Value} {o4 : Option Value} {j5 : Int64} {i7 : Int32} {h : jm_H} {r : jm_R} (H : ((jm_len h 80).bind fun n24 => (if i7 < (Int32.ofNat n24) then (jm_alr h 80 i7).bind fun a27 => jc_L (jm_D d mX13_nameOf [.ref a27] h) (fun y31 h29 => (if (lg_cmp y31 j5) = 0 then some (.inl (some (.int i7)), h29) else kX13_wordAt_81 d o0 o1 o2 o3 o4 j5 (i7 + 1) h29)) jx else some (.inl (some (.int 30)), h))) = some r) : kX13_wordAt_81 d o0 o1 o2 o3 o4 j5 i7 h = some r := by
  show jm_B d mX13_wordAt (81, [o0, o1, o2, o3, o4, some (.long j5), none, some (.int i7)], []) h = some r
  refine Eq.trans (jb_nx (i := .iload 7) (n := 2) (q := (83, [o0, o1, o2, o3, o4, some (.long j5), none, some (.int i7)], [.int i7])) (jq qX13_wordAt 45 rfl) rfl) ?_
  refine Eq.trans (jb_nx (i := .getstatic 313) (n := 3) (q := (86, [o0, o1, o2, o3, o4, some (.long j5), none, some (.int i7)], [.ref 80, .int i7])) (jq qX13_wordAt 46 rfl) rfl) ?_
  obtain ⟨n24, e25, H⟩ := jbd H
  refine Eq.trans (jb_nx (i := .arraylength) (n := 1) (q := (87, [o0, o1, o2, o3, o4, some (.long j5), none, some (.int i7)], [.int (Int32.ofNat n24), .int i7])) (jq qX13_wordAt 47 rfl) (jo_len e25)) ?_
  by_cases c26 : i7 < (Int32.ofNat n24)
  · rw [if_pos c26] at H
    refine Eq.trans (jb_nx (i := .if_icmp .ge 27) (n := 3) (q := (90, [o0, o1, o2, o3, o4, some (.long j5), none, some (.int i7)], [])) (jq qX13_wordAt 48 rfl) (jo_icF (jz_geF c26))) ?_
    refine Eq.trans (jb_nx (i := .getstatic 313) (n := 3) (q := (93, [o0, o1, o2, o3, o4, some (.long j5), none, some (.int i7)], [.ref 80])) (jq qX13_wordAt 49 rfl) rfl) ?_
    refine Eq.trans (jb_nx (i := .iload 7) (n := 2) (q := (95, [o0, o1, o2, o3, o4, some (.long j5), none, some (.int i7)], [.int i7, .ref 80])) (jq qX13_wordAt 50 rfl) rfl) ?_
    obtain ⟨a27, e28, H⟩ := jbd H
    refine Eq.trans (jb_nx (i := .aaload) (n := 1) (q := (96, [o0, o1, o2, o3, o4, some (.long j5), none, some (.int i7)], [.ref a27])) (jq qX13_wordAt 51 rfl) (jo_ral e28)) ?_
    rcases jcL H with ⟨y31, h29, r30, H⟩ | ⟨w33, h34, r30, H⟩
    · refine Eq.trans (jb_nx (i := .invokestatic 175) (n := 3) (q := (99, [o0, o1, o2, o3, o4, some (.long j5), none, some (.int i7)], [.long y31])) (jq qX13_wordAt 52 rfl) (jo_cs (y := mX13_nameOf) (w := 1) (by decide) rfl (Nat.le_of_ble_eq_true rfl) rfl (Nat.le_of_ble_eq_true rfl) rfl r30 jo_ret)) ?_
      refine Eq.trans (jb_nx (i := .lload 5) (n := 2) (q := (101, [o0, o1, o2, o3, o4, some (.long j5), none, some (.int i7)], [.long j5, .long y31])) (jq qX13_wordAt 53 rfl) rfl) ?_
      refine Eq.trans (jb_nx (i := .lcmp) (n := 1) (q := (102, [o0, o1, o2, o3, o4, some (.long j5), none, some (.int i7)], [.int (lg_cmp y31 j5)])) (jq qX13_wordAt 54 rfl) rfl) ?_
      by_cases c32 : (lg_cmp y31 j5) = 0
      · rw [if_pos c32] at H
        refine Eq.trans (jb_nx (i := .ifCond .ne 6) (n := 3) (q := (105, [o0, o1, o2, o3, o4, some (.long j5), none, some (.int i7)], [])) (jq qX13_wordAt 55 rfl) (jo_ifF (jz_neF c32))) ?_
        refine Eq.trans (jb_nx (i := .iload 7) (n := 2) (q := (107, [o0, o1, o2, o3, o4, some (.long j5), none, some (.int i7)], [.int i7])) (jq qX13_wordAt 56 rfl) rfl) ?_
        exact Eq.trans (jb_rt (i := .ireturn) (n := 1) (jq qX13_wordAt 57 rfl) (jo_iret rfl rfl)) H
      · rw [if_neg c32] at H
        refine Eq.trans (jb_nx (i := .ifCond .ne 6) (n := 3) (q := (108, [o0, o1, o2, o3, o4, some (.long j5), none, some (.int i7)], [])) (jq qX13_wordAt 55 rfl) (jo_ifT (jz_neT c32) rfl)) ?_
        refine Eq.trans (jb_nx (i := .iinc 7 1) (n := 3) (q := (111, [o0, o1, o2, o3, o4, some (.long j5), none, some (.int (i7 + 1))], [])) (jq qX13_wordAt 58 rfl) rfl) ?_
        refine Eq.trans (jb_nx (i := .goto (-30)) (n := 3) (q := (81, [o0, o1, o2, o3, o4, some (.long j5), none, some (.int (i7 + 1))], [])) (jq qX13_wordAt 59 rfl) rfl) ?_
        exact H
    · exact Eq.trans (jb_rt (i := .invokestatic 175) (n := 3) (jq qX13_wordAt 52 rfl) (jo_cs (y := mX13_nameOf) (w := 1) (by decide) rfl (Nat.le_of_ble_eq_true rfl) rfl (Nat.le_of_ble_eq_true rfl) rfl r30 (jo_exn rfl))) H
  · rw [if_neg c26] at H
    refine Eq.trans (jb_nx (i := .if_icmp .ge 27) (n := 3) (q := (114, [o0, o1, o2, o3, o4, some (.long j5), none, some (.int i7)], [])) (jq qX13_wordAt 48 rfl) (jo_icT (jz_geT c26) rfl)) ?_
    refine Eq.trans (jb_nx (i := .bipush 30) (n := 2) (q := (116, [o0, o1, o2, o3, o4, some (.long j5), none, some (.int i7)], [.int 30])) (jq qX13_wordAt 60 rfl) rfl) ?_
    exact Eq.trans (jb_rt (i := .ireturn) (n := 1) (jq qX13_wordAt 61 rfl) (jo_iret rfl rfl)) H
theorem gX13_wordAt {d : Nat} {p0 : Nat} {p1 : Nat} {i2 : Int32} {i3 : Int32} {i4 : Int32} {h : jm_H} {r : jm_R} (H : (kX13_wordAt_6 d p0 p1 i2 (some (.int i3)) i4 0 i3 h) = some r) : jm_D (d + 1) mX13_wordAt [.ref p0, .ref p1, .int i2, .int i3, .int i4] h = some r := by
  rw [jm_D_body (Nat.le_of_ble_eq_true rfl)]
  show jm_B d mX13_wordAt (0, [some (.ref p0), some (.ref p1), some (.int i2), some (.int i3), some (.int i4), none, none, none], []) h = some r
  refine Eq.trans (jb_nx (i := .lconst 0) (n := 1) (q := (1, [some (.ref p0), some (.ref p1), some (.int i2), some (.int i3), some (.int i4), none, none, none], [.long 0])) (jq qX13_wordAt 0 rfl) rfl) ?_
  refine Eq.trans (jb_nx (i := .lstore 5) (n := 2) (q := (3, [some (.ref p0), some (.ref p1), some (.int i2), some (.int i3), some (.int i4), some (.long 0), none, none], [])) (jq qX13_wordAt 1 rfl) rfl) ?_
  refine Eq.trans (jb_nx (i := .iload_n 3) (n := 1) (q := (4, [some (.ref p0), some (.ref p1), some (.int i2), some (.int i3), some (.int i4), some (.long 0), none, none], [.int i3])) (jq qX13_wordAt 2 rfl) rfl) ?_
  refine Eq.trans (jb_nx (i := .istore 7) (n := 2) (q := (6, [some (.ref p0), some (.ref p1), some (.int i2), some (.int i3), some (.int i4), some (.long 0), none, some (.int i3)], [])) (jq qX13_wordAt 3 rfl) rfl) ?_
  exact H
/-! MaskPlaysModel nameOf (Ljava/lang/String;)J -/
def tX13_nameOf : List (Nat × Instr × Nat) := [(0, .lconst 0, 1), (1, .lstore_n 1, 1), (2, .iconst 0, 1), (3, .istore_n 3, 1), (4, .iload_n 3, 1), (5, .aload_n 0, 1), (6, .invokevirtual 179, 3), (9, .if_icmp .ge 28, 3), (12, .ldc2_w 102, 3), (15, .lload_n 1, 1), (16, .lmul, 1), (17, .aload_n 0, 1), (18, .iload_n 3, 1), (19, .invokevirtual 183, 3), (22, .i2l, 1), (23, .ladd, 1), (24, .ldc2_w 187, 3), (27, .lsub, 1), (28, .lconst 1, 1), (29, .ladd, 1), (30, .lstore_n 1, 1), (31, .iinc 3 1, 3), (34, .goto (-30), 3), (37, .lload_n 1, 1), (38, .lreturn, 1)]
set_option maxRecDepth 100000 in
theorem qX13_nameOf : ∀ q ∈ tX13_nameOf, decode cX13_nameOf q.1 = .ok (q.2.1, q.2.2) := by decide +kernel
noncomputable def kX13_nameOf_4 (d : Nat) (p0 : Nat) (j1 : Int64) (i3 : Int32) (h : jm_H) : Option jm_R := jm_B d mX13_nameOf (4, [some (.ref p0), some (.long j1), none, some (.int i3)], []) h
theorem gX13_nameOf_4 {d : Nat} {p0 : Nat} {j1 : Int64} {i3 : Int32} {h : jm_H} {r : jm_R} (H : (jm_O h p0 14 (jc_I (jm_D d mJ0_length_8abf5 [.ref p0] h) (fun x3 h1 => (if i3 < x3 then jm_O h1 p0 14 (jc_I (jm_D d mJ0_charAt_5068e [.ref p0, .int i3] h1) (fun x7 h5 => kX13_nameOf_4 d p0 ((((37 * j1) + x7.toInt64) - 97) + 1) (i3 + 1) h5) jx) else some (.inl (some (.long j1)), h1))) jx)) = some r) : kX13_nameOf_4 d p0 j1 i3 h = some r := by
  show jm_B d mX13_nameOf (4, [some (.ref p0), some (.long j1), none, some (.int i3)], []) h = some r
  refine Eq.trans (jb_nx (i := .iload_n 3) (n := 1) (q := (5, [some (.ref p0), some (.long j1), none, some (.int i3)], [.int i3])) (jq qX13_nameOf 4 rfl) rfl) ?_
  refine Eq.trans (jb_nx (i := .aload_n 0) (n := 1) (q := (6, [some (.ref p0), some (.long j1), none, some (.int i3)], [.ref p0, .int i3])) (jq qX13_nameOf 5 rfl) rfl) ?_
  obtain ⟨b11, H⟩ := jm_O_inv H
  rcases jcI H with ⟨x3, h1, r2, H⟩ | ⟨w12, h13, r2, H⟩
  · refine Eq.trans (jb_nx (i := .invokevirtual 179) (n := 3) (q := (9, [some (.ref p0), some (.long j1), none, some (.int i3)], [.int x3, .int i3])) (jq qX13_nameOf 6 rfl) (jo_cv (y := mJ0_length_8abf5) rfl (Nat.le_of_ble_eq_true rfl) rfl (Nat.le_of_ble_eq_true rfl) b11 rfl r2 jo_ret)) ?_
    by_cases c4 : i3 < x3
    · rw [if_pos c4] at H
      refine Eq.trans (jb_nx (i := .if_icmp .ge 28) (n := 3) (q := (12, [some (.ref p0), some (.long j1), none, some (.int i3)], [])) (jq qX13_nameOf 7 rfl) (jo_icF (jz_geF c4))) ?_
      refine Eq.trans (jb_nx (i := .ldc2_w 102) (n := 3) (q := (15, [some (.ref p0), some (.long j1), none, some (.int i3)], [.long 37])) (jq qX13_nameOf 8 rfl) rfl) ?_
      refine Eq.trans (jb_nx (i := .lload_n 1) (n := 1) (q := (16, [some (.ref p0), some (.long j1), none, some (.int i3)], [.long j1, .long 37])) (jq qX13_nameOf 9 rfl) rfl) ?_
      refine Eq.trans (jb_nx (i := .lmul) (n := 1) (q := (17, [some (.ref p0), some (.long j1), none, some (.int i3)], [.long (37 * j1)])) (jq qX13_nameOf 10 rfl) rfl) ?_
      refine Eq.trans (jb_nx (i := .aload_n 0) (n := 1) (q := (18, [some (.ref p0), some (.long j1), none, some (.int i3)], [.ref p0, .long (37 * j1)])) (jq qX13_nameOf 11 rfl) rfl) ?_
      refine Eq.trans (jb_nx (i := .iload_n 3) (n := 1) (q := (19, [some (.ref p0), some (.long j1), none, some (.int i3)], [.int i3, .ref p0, .long (37 * j1)])) (jq qX13_nameOf 12 rfl) rfl) ?_
      obtain ⟨b8, H⟩ := jm_O_inv H
      rcases jcI H with ⟨x7, h5, r6, H⟩ | ⟨w9, h10, r6, H⟩
      · refine Eq.trans (jb_nx (i := .invokevirtual 183) (n := 3) (q := (22, [some (.ref p0), some (.long j1), none, some (.int i3)], [.int x7, .long (37 * j1)])) (jq qX13_nameOf 13 rfl) (jo_cv (y := mJ0_charAt_5068e) rfl (Nat.le_of_ble_eq_true rfl) rfl (Nat.le_of_ble_eq_true rfl) b8 rfl r6 jo_ret)) ?_
        refine Eq.trans (jb_nx (i := .i2l) (n := 1) (q := (23, [some (.ref p0), some (.long j1), none, some (.int i3)], [.long x7.toInt64, .long (37 * j1)])) (jq qX13_nameOf 14 rfl) rfl) ?_
        refine Eq.trans (jb_nx (i := .ladd) (n := 1) (q := (24, [some (.ref p0), some (.long j1), none, some (.int i3)], [.long ((37 * j1) + x7.toInt64)])) (jq qX13_nameOf 15 rfl) rfl) ?_
        refine Eq.trans (jb_nx (i := .ldc2_w 187) (n := 3) (q := (27, [some (.ref p0), some (.long j1), none, some (.int i3)], [.long 97, .long ((37 * j1) + x7.toInt64)])) (jq qX13_nameOf 16 rfl) rfl) ?_
        refine Eq.trans (jb_nx (i := .lsub) (n := 1) (q := (28, [some (.ref p0), some (.long j1), none, some (.int i3)], [.long (((37 * j1) + x7.toInt64) - 97)])) (jq qX13_nameOf 17 rfl) rfl) ?_
        refine Eq.trans (jb_nx (i := .lconst 1) (n := 1) (q := (29, [some (.ref p0), some (.long j1), none, some (.int i3)], [.long 1, .long (((37 * j1) + x7.toInt64) - 97)])) (jq qX13_nameOf 18 rfl) rfl) ?_
        refine Eq.trans (jb_nx (i := .ladd) (n := 1) (q := (30, [some (.ref p0), some (.long j1), none, some (.int i3)], [.long ((((37 * j1) + x7.toInt64) - 97) + 1)])) (jq qX13_nameOf 19 rfl) rfl) ?_
        refine Eq.trans (jb_nx (i := .lstore_n 1) (n := 1) (q := (31, [some (.ref p0), some (.long ((((37 * j1) + x7.toInt64) - 97) + 1)), none, some (.int i3)], [])) (jq qX13_nameOf 20 rfl) rfl) ?_
        refine Eq.trans (jb_nx (i := .iinc 3 1) (n := 3) (q := (34, [some (.ref p0), some (.long ((((37 * j1) + x7.toInt64) - 97) + 1)), none, some (.int (i3 + 1))], [])) (jq qX13_nameOf 21 rfl) rfl) ?_
        refine Eq.trans (jb_nx (i := .goto (-30)) (n := 3) (q := (4, [some (.ref p0), some (.long ((((37 * j1) + x7.toInt64) - 97) + 1)), none, some (.int (i3 + 1))], [])) (jq qX13_nameOf 22 rfl) rfl) ?_
        exact H
      · exact Eq.trans (jb_rt (i := .invokevirtual 183) (n := 3) (jq qX13_nameOf 13 rfl) (jo_cv (y := mJ0_charAt_5068e) rfl (Nat.le_of_ble_eq_true rfl) rfl (Nat.le_of_ble_eq_true rfl) b8 rfl r6 (jo_exn rfl))) H
    · rw [if_neg c4] at H
      refine Eq.trans (jb_nx (i := .if_icmp .ge 28) (n := 3) (q := (37, [some (.ref p0), some (.long j1), none, some (.int i3)], [])) (jq qX13_nameOf 7 rfl) (jo_icT (jz_geT c4) rfl)) ?_
      refine Eq.trans (jb_nx (i := .lload_n 1) (n := 1) (q := (38, [some (.ref p0), some (.long j1), none, some (.int i3)], [.long j1])) (jq qX13_nameOf 23 rfl) rfl) ?_
      exact Eq.trans (jb_rt (i := .lreturn) (n := 1) (jq qX13_nameOf 24 rfl) rfl) H
  · exact Eq.trans (jb_rt (i := .invokevirtual 179) (n := 3) (jq qX13_nameOf 6 rfl) (jo_cv (y := mJ0_length_8abf5) rfl (Nat.le_of_ble_eq_true rfl) rfl (Nat.le_of_ble_eq_true rfl) b11 rfl r2 (jo_exn rfl))) H
theorem gX13_nameOf {d : Nat} {p0 : Nat} {h : jm_H} {r : jm_R} (H : (kX13_nameOf_4 d p0 0 0 h) = some r) : jm_D (d + 1) mX13_nameOf [.ref p0] h = some r := by
  rw [jm_D_body (Nat.le_of_ble_eq_true rfl)]
  show jm_B d mX13_nameOf (0, [some (.ref p0), none, none, none], []) h = some r
  refine Eq.trans (jb_nx (i := .lconst 0) (n := 1) (q := (1, [some (.ref p0), none, none, none], [.long 0])) (jq qX13_nameOf 0 rfl) rfl) ?_
  refine Eq.trans (jb_nx (i := .lstore_n 1) (n := 1) (q := (2, [some (.ref p0), some (.long 0), none, none], [])) (jq qX13_nameOf 1 rfl) rfl) ?_
  refine Eq.trans (jb_nx (i := .iconst 0) (n := 1) (q := (3, [some (.ref p0), some (.long 0), none, none], [.int 0])) (jq qX13_nameOf 2 rfl) rfl) ?_
  refine Eq.trans (jb_nx (i := .istore_n 3) (n := 1) (q := (4, [some (.ref p0), some (.long 0), none, some (.int 0)], [])) (jq qX13_nameOf 3 rfl) rfl) ?_
  exact H
/-! MaskPlaysModel isBook (LMaskPlaysModel$Book;)Z -/
def tX13_isBook : List (Nat × Instr × Nat) := [(0, .aload_n 1, 1), (1, .getfield 323, 3), (4, .aload_n 0, 1), (5, .getfield 329, 3), (8, .iaload, 1), (9, .bipush 33, 2), (11, .if_icmp .eq 13, 3), (14, .aload_n 0, 1), (15, .aload_n 1, 1), (16, .invokevirtual 405, 3), (19, .ifCond .ne (-19), 3), (22, .iconst 0, 1), (23, .ireturn, 1), (24, .iconst 1, 1), (25, .ireturn, 1)]
set_option maxRecDepth 100000 in
theorem qX13_isBook : ∀ q ∈ tX13_isBook, decode cX13_isBook q.1 = .ok (q.2.1, q.2.2) := by decide +kernel
noncomputable def kX13_isBook_0 (d : Nat) (p0 : Nat) (p1 : Nat) (h : jm_H) : Option jm_R := jm_B d mX13_isBook (0, [some (.ref p0), some (.ref p1)], []) h
theorem gX13_isBook_0 {d : Nat} {p0 : Nat} {p1 : Nat} {h : jm_H} {r : jm_R} (H : ((jr_R h p1 11 0 2).bind fun a1 => (jr_I h p0 12 5 0).bind fun x3 => (jm_ali h a1 0 x3).bind fun x5 => (if x5 = 33 then some (.inl (some (.int 1)), h) else jm_O h p0 13 (jc_I (jm_D d mX13_isLine [.ref p0, .ref p1] h) (fun x10 h8 => (if x10 = 0 then some (.inl (some (.int 0)), h8) else kX13_isBook_0 d p0 p1 h8)) jx))) = some r) : kX13_isBook_0 d p0 p1 h = some r := by
  show jm_B d mX13_isBook (0, [some (.ref p0), some (.ref p1)], []) h = some r
  refine Eq.trans (jb_nx (i := .aload_n 1) (n := 1) (q := (1, [some (.ref p0), some (.ref p1)], [.ref p1])) (jq qX13_isBook 0 rfl) rfl) ?_
  obtain ⟨a1, e2, H⟩ := jbd H
  refine Eq.trans (jb_nx (i := .getfield 323) (n := 3) (q := (4, [some (.ref p0), some (.ref p1)], [.ref a1])) (jq qX13_isBook 1 rfl) (jo_gf rfl (jr_R_inv e2))) ?_
  refine Eq.trans (jb_nx (i := .aload_n 0) (n := 1) (q := (5, [some (.ref p0), some (.ref p1)], [.ref p0, .ref a1])) (jq qX13_isBook 2 rfl) rfl) ?_
  obtain ⟨x3, e4, H⟩ := jbd H
  refine Eq.trans (jb_nx (i := .getfield 329) (n := 3) (q := (8, [some (.ref p0), some (.ref p1)], [.int x3, .ref a1])) (jq qX13_isBook 3 rfl) (jo_gf rfl (jr_I_inv e4))) ?_
  obtain ⟨x5, e6, H⟩ := jbd H
  refine Eq.trans (jb_nx (i := .iaload) (n := 1) (q := (9, [some (.ref p0), some (.ref p1)], [.int x5])) (jq qX13_isBook 4 rfl) (jo_ial e6)) ?_
  refine Eq.trans (jb_nx (i := .bipush 33) (n := 2) (q := (11, [some (.ref p0), some (.ref p1)], [.int 33, .int x5])) (jq qX13_isBook 5 rfl) rfl) ?_
  by_cases c7 : x5 = 33
  · rw [if_pos c7] at H
    refine Eq.trans (jb_nx (i := .if_icmp .eq 13) (n := 3) (q := (24, [some (.ref p0), some (.ref p1)], [])) (jq qX13_isBook 6 rfl) (jo_icT (jz_eqT c7) rfl)) ?_
    refine Eq.trans (jb_nx (i := .iconst 1) (n := 1) (q := (25, [some (.ref p0), some (.ref p1)], [.int 1])) (jq qX13_isBook 13 rfl) rfl) ?_
    exact Eq.trans (jb_rt (i := .ireturn) (n := 1) (jq qX13_isBook 14 rfl) (jo_iret rfl (by decide))) H
  · rw [if_neg c7] at H
    refine Eq.trans (jb_nx (i := .if_icmp .eq 13) (n := 3) (q := (14, [some (.ref p0), some (.ref p1)], [])) (jq qX13_isBook 6 rfl) (jo_icF (jz_eqF c7))) ?_
    refine Eq.trans (jb_nx (i := .aload_n 0) (n := 1) (q := (15, [some (.ref p0), some (.ref p1)], [.ref p0])) (jq qX13_isBook 7 rfl) rfl) ?_
    refine Eq.trans (jb_nx (i := .aload_n 1) (n := 1) (q := (16, [some (.ref p0), some (.ref p1)], [.ref p1, .ref p0])) (jq qX13_isBook 8 rfl) rfl) ?_
    obtain ⟨b12, H⟩ := jm_O_inv H
    rcases jcI H with ⟨x10, h8, r9, H⟩ | ⟨w13, h14, r9, H⟩
    · refine Eq.trans (jb_nx (i := .invokevirtual 405) (n := 3) (q := (19, [some (.ref p0), some (.ref p1)], [.int x10])) (jq qX13_isBook 9 rfl) (jo_cv (y := mX13_isLine) rfl (Nat.le_of_ble_eq_true rfl) rfl (Nat.le_of_ble_eq_true rfl) b12 rfl r9 jo_ret)) ?_
      by_cases c11 : x10 = 0
      · rw [if_pos c11] at H
        refine Eq.trans (jb_nx (i := .ifCond .ne (-19)) (n := 3) (q := (22, [some (.ref p0), some (.ref p1)], [])) (jq qX13_isBook 10 rfl) (jo_ifF (jz_neF c11))) ?_
        refine Eq.trans (jb_nx (i := .iconst 0) (n := 1) (q := (23, [some (.ref p0), some (.ref p1)], [.int 0])) (jq qX13_isBook 11 rfl) rfl) ?_
        exact Eq.trans (jb_rt (i := .ireturn) (n := 1) (jq qX13_isBook 12 rfl) (jo_iret rfl (by decide))) H
      · rw [if_neg c11] at H
        refine Eq.trans (jb_nx (i := .ifCond .ne (-19)) (n := 3) (q := (0, [some (.ref p0), some (.ref p1)], [])) (jq qX13_isBook 10 rfl) (jo_ifT (jz_neT c11) rfl)) ?_
        exact H
    · exact Eq.trans (jb_rt (i := .invokevirtual 405) (n := 3) (jq qX13_isBook 9 rfl) (jo_cv (y := mX13_isLine) rfl (Nat.le_of_ble_eq_true rfl) rfl (Nat.le_of_ble_eq_true rfl) b12 rfl r9 (jo_exn rfl))) H
theorem gX13_isBook {d : Nat} {p0 : Nat} {p1 : Nat} {h : jm_H} {r : jm_R} (H : (kX13_isBook_0 d p0 p1 h) = some r) : jm_D (d + 1) mX13_isBook [.ref p0, .ref p1] h = some r := by
  rw [jm_D_body (Nat.le_of_ble_eq_true rfl)]
  show jm_B d mX13_isBook (0, [some (.ref p0), some (.ref p1)], []) h = some r
  exact H
/-! MaskPlaysModel isLine (LMaskPlaysModel$Book;)Z -/
def tX13_isLine : List (Nat × Instr × Nat) := [(0, .aload_n 1, 1), (1, .getfield 323, 3), (4, .aload_n 0, 1), (5, .getfield 329, 3), (8, .iaload, 1), (9, .istore_n 2, 1), (10, .iload_n 2, 1), (11, .ifCond .ne 38, 3), (14, .aload_n 0, 1), (15, .dup, 1), (16, .getfield 329, 3), (19, .iconst 1, 1), (20, .iadd, 1), (21, .putfield 329, 3), (24, .aload_n 0, 1), (25, .aload_n 1, 1), (26, .iconst 1, 1), (27, .invokevirtual 360, 3), (30, .ifCond .eq 17, 3), (33, .aload_n 0, 1), (34, .aload_n 1, 1), (35, .bipush 59, 2), (37, .invokevirtual 340, 3), (40, .ifCond .eq 7, 3), (43, .iconst 1, 1), (44, .goto 4, 3), (47, .iconst 0, 1), (48, .ireturn, 1), (49, .iload_n 2, 1), (50, .iconst 1, 1), (51, .if_icmp .ne 65, 3), (54, .aload_n 0, 1), (55, .dup, 1), (56, .getfield 329, 3), (59, .iconst 1, 1), (60, .iadd, 1), (61, .putfield 329, 3), (64, .aload_n 0, 1), (65, .iconst (-1), 1), (66, .putfield 338, 3), (69, .aload_n 0, 1), (70, .aload_n 1, 1), (71, .iconst 2, 1), (72, .invokevirtual 360, 3), (75, .ifCond .eq 20, 3), (78, .aload_n 0, 1), (79, .aload_n 1, 1), (80, .iconst 2, 1), (81, .invokevirtual 340, 3), (84, .ifCond .eq 11, 3), (87, .aload_n 0, 1), (88, .aload_n 1, 1), (89, .invokevirtual 366, 3), (92, .ifCond .ne 5, 3), (95, .iconst 0, 1), (96, .ireturn, 1), (97, .aload_n 1, 1), (98, .getfield 332, 3), (101, .aload_n 0, 1), (102, .getfield 329, 3), (105, .bipush 7, 2), (107, .iastore, 1), (108, .aload_n 0, 1), (109, .aload_n 1, 1), (110, .bipush 59, 2), (112, .invokevirtual 340, 3), (115, .ireturn, 1), (116, .iload_n 2, 1), (117, .iconst 4, 1), (118, .if_icmp .eq 14, 3), (121, .iload_n 2, 1), (122, .iconst 5, 1), (123, .if_icmp .eq 9, 3), (126, .iload_n 2, 1), (127, .bipush 7, 2), (129, .if_icmp .ne 16, 3), (132, .aload_n 0, 1), (133, .aload_n 1, 1), (134, .iload_n 2, 1), (135, .invokevirtual 402, 3), (138, .ifCond .eq 7, 3), (141, .iconst 1, 1), (142, .goto 4, 3), (145, .iconst 0, 1), (146, .ireturn, 1)]
set_option maxRecDepth 100000 in
theorem qX13_isLine : ∀ q ∈ tX13_isLine, decode cX13_isLine q.1 = .ok (q.2.1, q.2.2) := by decide +kernel
noncomputable def kX13_isLine_132 (d : Nat) (p0 : Nat) (p1 : Nat) (i2 : Int32) (h : jm_H) : Option jm_R := jm_B d mX13_isLine (132, [some (.ref p0), some (.ref p1), some (.int i2)], []) h
theorem gX13_isLine_132 {d : Nat} {p0 : Nat} {p1 : Nat} {i2 : Int32} {h : jm_H} {r : jm_R} (H : (jm_O h p0 13 (jc_I (jm_D d mX13_isNote [.ref p0, .ref p1, .int i2] h) (fun x72 h70 => (if x72 = 0 then some (.inl (some (.int 0)), h70) else some (.inl (some (.int 1)), h70))) jx)) = some r) : kX13_isLine_132 d p0 p1 i2 h = some r := by
  show jm_B d mX13_isLine (132, [some (.ref p0), some (.ref p1), some (.int i2)], []) h = some r
  refine Eq.trans (jb_nx (i := .aload_n 0) (n := 1) (q := (133, [some (.ref p0), some (.ref p1), some (.int i2)], [.ref p0])) (jq qX13_isLine 76 rfl) rfl) ?_
  refine Eq.trans (jb_nx (i := .aload_n 1) (n := 1) (q := (134, [some (.ref p0), some (.ref p1), some (.int i2)], [.ref p1, .ref p0])) (jq qX13_isLine 77 rfl) rfl) ?_
  refine Eq.trans (jb_nx (i := .iload_n 2) (n := 1) (q := (135, [some (.ref p0), some (.ref p1), some (.int i2)], [.int i2, .ref p1, .ref p0])) (jq qX13_isLine 78 rfl) rfl) ?_
  obtain ⟨b74, H⟩ := jm_O_inv H
  rcases jcI H with ⟨x72, h70, r71, H⟩ | ⟨w75, h76, r71, H⟩
  · refine Eq.trans (jb_nx (i := .invokevirtual 402) (n := 3) (q := (138, [some (.ref p0), some (.ref p1), some (.int i2)], [.int x72])) (jq qX13_isLine 79 rfl) (jo_cv (y := mX13_isNote) rfl (Nat.le_of_ble_eq_true rfl) rfl (Nat.le_of_ble_eq_true rfl) b74 rfl r71 jo_ret)) ?_
    by_cases c73 : x72 = 0
    · rw [if_pos c73] at H
      refine Eq.trans (jb_nx (i := .ifCond .eq 7) (n := 3) (q := (145, [some (.ref p0), some (.ref p1), some (.int i2)], [])) (jq qX13_isLine 80 rfl) (jo_ifT (jz_eqT c73) rfl)) ?_
      refine Eq.trans (jb_nx (i := .iconst 0) (n := 1) (q := (146, [some (.ref p0), some (.ref p1), some (.int i2)], [.int 0])) (jq qX13_isLine 83 rfl) rfl) ?_
      exact Eq.trans (jb_rt (i := .ireturn) (n := 1) (jq qX13_isLine 84 rfl) (jo_iret rfl (by decide))) H
    · rw [if_neg c73] at H
      refine Eq.trans (jb_nx (i := .ifCond .eq 7) (n := 3) (q := (141, [some (.ref p0), some (.ref p1), some (.int i2)], [])) (jq qX13_isLine 80 rfl) (jo_ifF (jz_eqF c73))) ?_
      refine Eq.trans (jb_nx (i := .iconst 1) (n := 1) (q := (142, [some (.ref p0), some (.ref p1), some (.int i2)], [.int 1])) (jq qX13_isLine 81 rfl) rfl) ?_
      refine Eq.trans (jb_nx (i := .goto 4) (n := 3) (q := (146, [some (.ref p0), some (.ref p1), some (.int i2)], [.int 1])) (jq qX13_isLine 82 rfl) rfl) ?_
      exact Eq.trans (jb_rt (i := .ireturn) (n := 1) (jq qX13_isLine 84 rfl) (jo_iret rfl (by decide))) H
  · exact Eq.trans (jb_rt (i := .invokevirtual 402) (n := 3) (jq qX13_isLine 79 rfl) (jo_cv (y := mX13_isNote) rfl (Nat.le_of_ble_eq_true rfl) rfl (Nat.le_of_ble_eq_true rfl) b74 rfl r71 (jo_exn rfl))) H
theorem gX13_isLine {d : Nat} {p0 : Nat} {p1 : Nat} {h : jm_H} {r : jm_R} (H : ((jr_R h p1 11 0 2).bind fun a1 => (jr_I h p0 12 5 0).bind fun x3 => (jm_ali h a1 0 x3).bind fun x5 => (if x5 = 0 then (jr_I h p0 12 5 0).bind fun x52 => (jm_pf h p0 12 5 0 (.int (x52 + 1))).bind fun h54 => jm_O h54 p0 13 (jc_I (jm_D d mX13_name [.ref p0, .ref p1, .int 1] h54) (fun x58 h56 => (if x58 = 0 then some (.inl (some (.int 0)), h56) else jm_O h56 p0 13 (jc_I (jm_D d mX13_eat [.ref p0, .ref p1, .int 59] h56) (fun x62 h60 => (if x62 = 0 then some (.inl (some (.int 0)), h60) else some (.inl (some (.int 1)), h60))) jx))) jx) else (if x5 = 1 then (jr_I h p0 12 5 0).bind fun x12 => (jm_pf h p0 12 5 0 (.int (x12 + 1))).bind fun h14 => (jm_pf h14 p0 12 7 0 (.int (-1))).bind fun h16 => jm_O h16 p0 13 (jc_I (jm_D d mX13_name [.ref p0, .ref p1, .int 2] h16) (fun x20 h18 => (if x20 = 0 then some (.inl (some (.int 0)), h18) else jm_O h18 p0 13 (jc_I (jm_D d mX13_eat [.ref p0, .ref p1, .int 2] h18) (fun x24 h22 => (if x24 = 0 then some (.inl (some (.int 0)), h22) else jm_O h22 p0 13 (jc_I (jm_D d mX13_isPart [.ref p0, .ref p1] h22) (fun x28 h26 => (if x28 = 0 then some (.inl (some (.int 0)), h26) else (jr_R h26 p1 11 2 2).bind fun a30 => (jr_I h26 p0 12 5 0).bind fun x32 => (jm_asi h26 a30 0 x32 7).bind fun h34 => jm_O h34 p0 13 (jc_I (jm_D d mX13_eat [.ref p0, .ref p1, .int 59] h34) (fun x38 h36 => jm_Y .boolean x38 (some (.inl (some (.int x38)), h36))) jx))) jx))) jx))) jx) else (if x5 = 4 then kX13_isLine_132 d p0 p1 x5 h else (if x5 = 5 then kX13_isLine_132 d p0 p1 x5 h else (if x5 = 7 then kX13_isLine_132 d p0 p1 x5 h else some (.inl (some (.int 0)), h))))))) = some r) : jm_D (d + 1) mX13_isLine [.ref p0, .ref p1] h = some r := by
  rw [jm_D_body (Nat.le_of_ble_eq_true rfl)]
  show jm_B d mX13_isLine (0, [some (.ref p0), some (.ref p1), none], []) h = some r
  refine Eq.trans (jb_nx (i := .aload_n 1) (n := 1) (q := (1, [some (.ref p0), some (.ref p1), none], [.ref p1])) (jq qX13_isLine 0 rfl) rfl) ?_
  obtain ⟨a1, e2, H⟩ := jbd H
  refine Eq.trans (jb_nx (i := .getfield 323) (n := 3) (q := (4, [some (.ref p0), some (.ref p1), none], [.ref a1])) (jq qX13_isLine 1 rfl) (jo_gf rfl (jr_R_inv e2))) ?_
  refine Eq.trans (jb_nx (i := .aload_n 0) (n := 1) (q := (5, [some (.ref p0), some (.ref p1), none], [.ref p0, .ref a1])) (jq qX13_isLine 2 rfl) rfl) ?_
  obtain ⟨x3, e4, H⟩ := jbd H
  refine Eq.trans (jb_nx (i := .getfield 329) (n := 3) (q := (8, [some (.ref p0), some (.ref p1), none], [.int x3, .ref a1])) (jq qX13_isLine 3 rfl) (jo_gf rfl (jr_I_inv e4))) ?_
  obtain ⟨x5, e6, H⟩ := jbd H
  refine Eq.trans (jb_nx (i := .iaload) (n := 1) (q := (9, [some (.ref p0), some (.ref p1), none], [.int x5])) (jq qX13_isLine 4 rfl) (jo_ial e6)) ?_
  refine Eq.trans (jb_nx (i := .istore_n 2) (n := 1) (q := (10, [some (.ref p0), some (.ref p1), some (.int x5)], [])) (jq qX13_isLine 5 rfl) rfl) ?_
  refine Eq.trans (jb_nx (i := .iload_n 2) (n := 1) (q := (11, [some (.ref p0), some (.ref p1), some (.int x5)], [.int x5])) (jq qX13_isLine 6 rfl) rfl) ?_
  by_cases c7 : x5 = 0
  · rw [if_pos c7] at H
    refine Eq.trans (jb_nx (i := .ifCond .ne 38) (n := 3) (q := (14, [some (.ref p0), some (.ref p1), some (.int x5)], [])) (jq qX13_isLine 7 rfl) (jo_ifF (jz_neF c7))) ?_
    refine Eq.trans (jb_nx (i := .aload_n 0) (n := 1) (q := (15, [some (.ref p0), some (.ref p1), some (.int x5)], [.ref p0])) (jq qX13_isLine 8 rfl) rfl) ?_
    refine Eq.trans (jb_nx (i := .dup) (n := 1) (q := (16, [some (.ref p0), some (.ref p1), some (.int x5)], [.ref p0, .ref p0])) (jq qX13_isLine 9 rfl) rfl) ?_
    obtain ⟨x52, e53, H⟩ := jbd H
    refine Eq.trans (jb_nx (i := .getfield 329) (n := 3) (q := (19, [some (.ref p0), some (.ref p1), some (.int x5)], [.int x52, .ref p0])) (jq qX13_isLine 10 rfl) (jo_gf rfl (jr_I_inv e53))) ?_
    refine Eq.trans (jb_nx (i := .iconst 1) (n := 1) (q := (20, [some (.ref p0), some (.ref p1), some (.int x5)], [.int 1, .int x52, .ref p0])) (jq qX13_isLine 11 rfl) rfl) ?_
    refine Eq.trans (jb_nx (i := .iadd) (n := 1) (q := (21, [some (.ref p0), some (.ref p1), some (.int x5)], [.int (x52 + 1), .ref p0])) (jq qX13_isLine 12 rfl) rfl) ?_
    obtain ⟨h54, e55, H⟩ := jbd H
    refine Eq.trans (jb_nx (i := .putfield 329) (n := 3) (q := (24, [some (.ref p0), some (.ref p1), some (.int x5)], [])) (jq qX13_isLine 13 rfl) (jo_pf rfl (Or.inl rfl) e55)) ?_
    refine Eq.trans (jb_nx (i := .aload_n 0) (n := 1) (q := (25, [some (.ref p0), some (.ref p1), some (.int x5)], [.ref p0])) (jq qX13_isLine 14 rfl) rfl) ?_
    refine Eq.trans (jb_nx (i := .aload_n 1) (n := 1) (q := (26, [some (.ref p0), some (.ref p1), some (.int x5)], [.ref p1, .ref p0])) (jq qX13_isLine 15 rfl) rfl) ?_
    refine Eq.trans (jb_nx (i := .iconst 1) (n := 1) (q := (27, [some (.ref p0), some (.ref p1), some (.int x5)], [.int 1, .ref p1, .ref p0])) (jq qX13_isLine 16 rfl) rfl) ?_
    obtain ⟨b67, H⟩ := jm_O_inv H
    rcases jcI H with ⟨x58, h56, r57, H⟩ | ⟨w68, h69, r57, H⟩
    · refine Eq.trans (jb_nx (i := .invokevirtual 360) (n := 3) (q := (30, [some (.ref p0), some (.ref p1), some (.int x5)], [.int x58])) (jq qX13_isLine 17 rfl) (jo_cv (y := mX13_name) rfl (Nat.le_of_ble_eq_true rfl) rfl (Nat.le_of_ble_eq_true rfl) b67 rfl r57 jo_ret)) ?_
      by_cases c59 : x58 = 0
      · rw [if_pos c59] at H
        refine Eq.trans (jb_nx (i := .ifCond .eq 17) (n := 3) (q := (47, [some (.ref p0), some (.ref p1), some (.int x5)], [])) (jq qX13_isLine 18 rfl) (jo_ifT (jz_eqT c59) rfl)) ?_
        refine Eq.trans (jb_nx (i := .iconst 0) (n := 1) (q := (48, [some (.ref p0), some (.ref p1), some (.int x5)], [.int 0])) (jq qX13_isLine 26 rfl) rfl) ?_
        exact Eq.trans (jb_rt (i := .ireturn) (n := 1) (jq qX13_isLine 27 rfl) (jo_iret rfl (by decide))) H
      · rw [if_neg c59] at H
        refine Eq.trans (jb_nx (i := .ifCond .eq 17) (n := 3) (q := (33, [some (.ref p0), some (.ref p1), some (.int x5)], [])) (jq qX13_isLine 18 rfl) (jo_ifF (jz_eqF c59))) ?_
        refine Eq.trans (jb_nx (i := .aload_n 0) (n := 1) (q := (34, [some (.ref p0), some (.ref p1), some (.int x5)], [.ref p0])) (jq qX13_isLine 19 rfl) rfl) ?_
        refine Eq.trans (jb_nx (i := .aload_n 1) (n := 1) (q := (35, [some (.ref p0), some (.ref p1), some (.int x5)], [.ref p1, .ref p0])) (jq qX13_isLine 20 rfl) rfl) ?_
        refine Eq.trans (jb_nx (i := .bipush 59) (n := 2) (q := (37, [some (.ref p0), some (.ref p1), some (.int x5)], [.int 59, .ref p1, .ref p0])) (jq qX13_isLine 21 rfl) rfl) ?_
        obtain ⟨b64, H⟩ := jm_O_inv H
        rcases jcI H with ⟨x62, h60, r61, H⟩ | ⟨w65, h66, r61, H⟩
        · refine Eq.trans (jb_nx (i := .invokevirtual 340) (n := 3) (q := (40, [some (.ref p0), some (.ref p1), some (.int x5)], [.int x62])) (jq qX13_isLine 22 rfl) (jo_cv (y := mX13_eat) rfl (Nat.le_of_ble_eq_true rfl) rfl (Nat.le_of_ble_eq_true rfl) b64 rfl r61 jo_ret)) ?_
          by_cases c63 : x62 = 0
          · rw [if_pos c63] at H
            refine Eq.trans (jb_nx (i := .ifCond .eq 7) (n := 3) (q := (47, [some (.ref p0), some (.ref p1), some (.int x5)], [])) (jq qX13_isLine 23 rfl) (jo_ifT (jz_eqT c63) rfl)) ?_
            refine Eq.trans (jb_nx (i := .iconst 0) (n := 1) (q := (48, [some (.ref p0), some (.ref p1), some (.int x5)], [.int 0])) (jq qX13_isLine 26 rfl) rfl) ?_
            exact Eq.trans (jb_rt (i := .ireturn) (n := 1) (jq qX13_isLine 27 rfl) (jo_iret rfl (by decide))) H
          · rw [if_neg c63] at H
            refine Eq.trans (jb_nx (i := .ifCond .eq 7) (n := 3) (q := (43, [some (.ref p0), some (.ref p1), some (.int x5)], [])) (jq qX13_isLine 23 rfl) (jo_ifF (jz_eqF c63))) ?_
            refine Eq.trans (jb_nx (i := .iconst 1) (n := 1) (q := (44, [some (.ref p0), some (.ref p1), some (.int x5)], [.int 1])) (jq qX13_isLine 24 rfl) rfl) ?_
            refine Eq.trans (jb_nx (i := .goto 4) (n := 3) (q := (48, [some (.ref p0), some (.ref p1), some (.int x5)], [.int 1])) (jq qX13_isLine 25 rfl) rfl) ?_
            exact Eq.trans (jb_rt (i := .ireturn) (n := 1) (jq qX13_isLine 27 rfl) (jo_iret rfl (by decide))) H
        · exact Eq.trans (jb_rt (i := .invokevirtual 340) (n := 3) (jq qX13_isLine 22 rfl) (jo_cv (y := mX13_eat) rfl (Nat.le_of_ble_eq_true rfl) rfl (Nat.le_of_ble_eq_true rfl) b64 rfl r61 (jo_exn rfl))) H
    · exact Eq.trans (jb_rt (i := .invokevirtual 360) (n := 3) (jq qX13_isLine 17 rfl) (jo_cv (y := mX13_name) rfl (Nat.le_of_ble_eq_true rfl) rfl (Nat.le_of_ble_eq_true rfl) b67 rfl r57 (jo_exn rfl))) H
  · rw [if_neg c7] at H
    refine Eq.trans (jb_nx (i := .ifCond .ne 38) (n := 3) (q := (49, [some (.ref p0), some (.ref p1), some (.int x5)], [])) (jq qX13_isLine 7 rfl) (jo_ifT (jz_neT c7) rfl)) ?_
    refine Eq.trans (jb_nx (i := .iload_n 2) (n := 1) (q := (50, [some (.ref p0), some (.ref p1), some (.int x5)], [.int x5])) (jq qX13_isLine 28 rfl) rfl) ?_
    refine Eq.trans (jb_nx (i := .iconst 1) (n := 1) (q := (51, [some (.ref p0), some (.ref p1), some (.int x5)], [.int 1, .int x5])) (jq qX13_isLine 29 rfl) rfl) ?_
    by_cases c8 : x5 = 1
    · rw [if_pos c8] at H
      refine Eq.trans (jb_nx (i := .if_icmp .ne 65) (n := 3) (q := (54, [some (.ref p0), some (.ref p1), some (.int x5)], [])) (jq qX13_isLine 30 rfl) (jo_icF (jz_neF c8))) ?_
      refine Eq.trans (jb_nx (i := .aload_n 0) (n := 1) (q := (55, [some (.ref p0), some (.ref p1), some (.int x5)], [.ref p0])) (jq qX13_isLine 31 rfl) rfl) ?_
      refine Eq.trans (jb_nx (i := .dup) (n := 1) (q := (56, [some (.ref p0), some (.ref p1), some (.int x5)], [.ref p0, .ref p0])) (jq qX13_isLine 32 rfl) rfl) ?_
      obtain ⟨x12, e13, H⟩ := jbd H
      refine Eq.trans (jb_nx (i := .getfield 329) (n := 3) (q := (59, [some (.ref p0), some (.ref p1), some (.int x5)], [.int x12, .ref p0])) (jq qX13_isLine 33 rfl) (jo_gf rfl (jr_I_inv e13))) ?_
      refine Eq.trans (jb_nx (i := .iconst 1) (n := 1) (q := (60, [some (.ref p0), some (.ref p1), some (.int x5)], [.int 1, .int x12, .ref p0])) (jq qX13_isLine 34 rfl) rfl) ?_
      refine Eq.trans (jb_nx (i := .iadd) (n := 1) (q := (61, [some (.ref p0), some (.ref p1), some (.int x5)], [.int (x12 + 1), .ref p0])) (jq qX13_isLine 35 rfl) rfl) ?_
      obtain ⟨h14, e15, H⟩ := jbd H
      refine Eq.trans (jb_nx (i := .putfield 329) (n := 3) (q := (64, [some (.ref p0), some (.ref p1), some (.int x5)], [])) (jq qX13_isLine 36 rfl) (jo_pf rfl (Or.inl rfl) e15)) ?_
      refine Eq.trans (jb_nx (i := .aload_n 0) (n := 1) (q := (65, [some (.ref p0), some (.ref p1), some (.int x5)], [.ref p0])) (jq qX13_isLine 37 rfl) rfl) ?_
      refine Eq.trans (jb_nx (i := .iconst (-1)) (n := 1) (q := (66, [some (.ref p0), some (.ref p1), some (.int x5)], [.int (-1), .ref p0])) (jq qX13_isLine 38 rfl) rfl) ?_
      obtain ⟨h16, e17, H⟩ := jbd H
      refine Eq.trans (jb_nx (i := .putfield 338) (n := 3) (q := (69, [some (.ref p0), some (.ref p1), some (.int x5)], [])) (jq qX13_isLine 39 rfl) (jo_pf rfl (Or.inl rfl) e17)) ?_
      refine Eq.trans (jb_nx (i := .aload_n 0) (n := 1) (q := (70, [some (.ref p0), some (.ref p1), some (.int x5)], [.ref p0])) (jq qX13_isLine 40 rfl) rfl) ?_
      refine Eq.trans (jb_nx (i := .aload_n 1) (n := 1) (q := (71, [some (.ref p0), some (.ref p1), some (.int x5)], [.ref p1, .ref p0])) (jq qX13_isLine 41 rfl) rfl) ?_
      refine Eq.trans (jb_nx (i := .iconst 2) (n := 1) (q := (72, [some (.ref p0), some (.ref p1), some (.int x5)], [.int 2, .ref p1, .ref p0])) (jq qX13_isLine 42 rfl) rfl) ?_
      obtain ⟨b49, H⟩ := jm_O_inv H
      rcases jcI H with ⟨x20, h18, r19, H⟩ | ⟨w50, h51, r19, H⟩
      · refine Eq.trans (jb_nx (i := .invokevirtual 360) (n := 3) (q := (75, [some (.ref p0), some (.ref p1), some (.int x5)], [.int x20])) (jq qX13_isLine 43 rfl) (jo_cv (y := mX13_name) rfl (Nat.le_of_ble_eq_true rfl) rfl (Nat.le_of_ble_eq_true rfl) b49 rfl r19 jo_ret)) ?_
        by_cases c21 : x20 = 0
        · rw [if_pos c21] at H
          refine Eq.trans (jb_nx (i := .ifCond .eq 20) (n := 3) (q := (95, [some (.ref p0), some (.ref p1), some (.int x5)], [])) (jq qX13_isLine 44 rfl) (jo_ifT (jz_eqT c21) rfl)) ?_
          refine Eq.trans (jb_nx (i := .iconst 0) (n := 1) (q := (96, [some (.ref p0), some (.ref p1), some (.int x5)], [.int 0])) (jq qX13_isLine 54 rfl) rfl) ?_
          exact Eq.trans (jb_rt (i := .ireturn) (n := 1) (jq qX13_isLine 55 rfl) (jo_iret rfl (by decide))) H
        · rw [if_neg c21] at H
          refine Eq.trans (jb_nx (i := .ifCond .eq 20) (n := 3) (q := (78, [some (.ref p0), some (.ref p1), some (.int x5)], [])) (jq qX13_isLine 44 rfl) (jo_ifF (jz_eqF c21))) ?_
          refine Eq.trans (jb_nx (i := .aload_n 0) (n := 1) (q := (79, [some (.ref p0), some (.ref p1), some (.int x5)], [.ref p0])) (jq qX13_isLine 45 rfl) rfl) ?_
          refine Eq.trans (jb_nx (i := .aload_n 1) (n := 1) (q := (80, [some (.ref p0), some (.ref p1), some (.int x5)], [.ref p1, .ref p0])) (jq qX13_isLine 46 rfl) rfl) ?_
          refine Eq.trans (jb_nx (i := .iconst 2) (n := 1) (q := (81, [some (.ref p0), some (.ref p1), some (.int x5)], [.int 2, .ref p1, .ref p0])) (jq qX13_isLine 47 rfl) rfl) ?_
          obtain ⟨b46, H⟩ := jm_O_inv H
          rcases jcI H with ⟨x24, h22, r23, H⟩ | ⟨w47, h48, r23, H⟩
          · refine Eq.trans (jb_nx (i := .invokevirtual 340) (n := 3) (q := (84, [some (.ref p0), some (.ref p1), some (.int x5)], [.int x24])) (jq qX13_isLine 48 rfl) (jo_cv (y := mX13_eat) rfl (Nat.le_of_ble_eq_true rfl) rfl (Nat.le_of_ble_eq_true rfl) b46 rfl r23 jo_ret)) ?_
            by_cases c25 : x24 = 0
            · rw [if_pos c25] at H
              refine Eq.trans (jb_nx (i := .ifCond .eq 11) (n := 3) (q := (95, [some (.ref p0), some (.ref p1), some (.int x5)], [])) (jq qX13_isLine 49 rfl) (jo_ifT (jz_eqT c25) rfl)) ?_
              refine Eq.trans (jb_nx (i := .iconst 0) (n := 1) (q := (96, [some (.ref p0), some (.ref p1), some (.int x5)], [.int 0])) (jq qX13_isLine 54 rfl) rfl) ?_
              exact Eq.trans (jb_rt (i := .ireturn) (n := 1) (jq qX13_isLine 55 rfl) (jo_iret rfl (by decide))) H
            · rw [if_neg c25] at H
              refine Eq.trans (jb_nx (i := .ifCond .eq 11) (n := 3) (q := (87, [some (.ref p0), some (.ref p1), some (.int x5)], [])) (jq qX13_isLine 49 rfl) (jo_ifF (jz_eqF c25))) ?_
              refine Eq.trans (jb_nx (i := .aload_n 0) (n := 1) (q := (88, [some (.ref p0), some (.ref p1), some (.int x5)], [.ref p0])) (jq qX13_isLine 50 rfl) rfl) ?_
              refine Eq.trans (jb_nx (i := .aload_n 1) (n := 1) (q := (89, [some (.ref p0), some (.ref p1), some (.int x5)], [.ref p1, .ref p0])) (jq qX13_isLine 51 rfl) rfl) ?_
              obtain ⟨b43, H⟩ := jm_O_inv H
              rcases jcI H with ⟨x28, h26, r27, H⟩ | ⟨w44, h45, r27, H⟩
              · refine Eq.trans (jb_nx (i := .invokevirtual 366) (n := 3) (q := (92, [some (.ref p0), some (.ref p1), some (.int x5)], [.int x28])) (jq qX13_isLine 52 rfl) (jo_cv (y := mX13_isPart) rfl (Nat.le_of_ble_eq_true rfl) rfl (Nat.le_of_ble_eq_true rfl) b43 rfl r27 jo_ret)) ?_
                by_cases c29 : x28 = 0
                · rw [if_pos c29] at H
                  refine Eq.trans (jb_nx (i := .ifCond .ne 5) (n := 3) (q := (95, [some (.ref p0), some (.ref p1), some (.int x5)], [])) (jq qX13_isLine 53 rfl) (jo_ifF (jz_neF c29))) ?_
                  refine Eq.trans (jb_nx (i := .iconst 0) (n := 1) (q := (96, [some (.ref p0), some (.ref p1), some (.int x5)], [.int 0])) (jq qX13_isLine 54 rfl) rfl) ?_
                  exact Eq.trans (jb_rt (i := .ireturn) (n := 1) (jq qX13_isLine 55 rfl) (jo_iret rfl (by decide))) H
                · rw [if_neg c29] at H
                  refine Eq.trans (jb_nx (i := .ifCond .ne 5) (n := 3) (q := (97, [some (.ref p0), some (.ref p1), some (.int x5)], [])) (jq qX13_isLine 53 rfl) (jo_ifT (jz_neT c29) rfl)) ?_
                  refine Eq.trans (jb_nx (i := .aload_n 1) (n := 1) (q := (98, [some (.ref p0), some (.ref p1), some (.int x5)], [.ref p1])) (jq qX13_isLine 56 rfl) rfl) ?_
                  obtain ⟨a30, e31, H⟩ := jbd H
                  refine Eq.trans (jb_nx (i := .getfield 332) (n := 3) (q := (101, [some (.ref p0), some (.ref p1), some (.int x5)], [.ref a30])) (jq qX13_isLine 57 rfl) (jo_gf rfl (jr_R_inv e31))) ?_
                  refine Eq.trans (jb_nx (i := .aload_n 0) (n := 1) (q := (102, [some (.ref p0), some (.ref p1), some (.int x5)], [.ref p0, .ref a30])) (jq qX13_isLine 58 rfl) rfl) ?_
                  obtain ⟨x32, e33, H⟩ := jbd H
                  refine Eq.trans (jb_nx (i := .getfield 329) (n := 3) (q := (105, [some (.ref p0), some (.ref p1), some (.int x5)], [.int x32, .ref a30])) (jq qX13_isLine 59 rfl) (jo_gf rfl (jr_I_inv e33))) ?_
                  refine Eq.trans (jb_nx (i := .bipush 7) (n := 2) (q := (107, [some (.ref p0), some (.ref p1), some (.int x5)], [.int 7, .int x32, .ref a30])) (jq qX13_isLine 60 rfl) rfl) ?_
                  obtain ⟨h34, e35, H⟩ := jbd H
                  refine Eq.trans (jb_nx (i := .iastore) (n := 1) (q := (108, [some (.ref p0), some (.ref p1), some (.int x5)], [])) (jq qX13_isLine 61 rfl) (jo_ias e35)) ?_
                  refine Eq.trans (jb_nx (i := .aload_n 0) (n := 1) (q := (109, [some (.ref p0), some (.ref p1), some (.int x5)], [.ref p0])) (jq qX13_isLine 62 rfl) rfl) ?_
                  refine Eq.trans (jb_nx (i := .aload_n 1) (n := 1) (q := (110, [some (.ref p0), some (.ref p1), some (.int x5)], [.ref p1, .ref p0])) (jq qX13_isLine 63 rfl) rfl) ?_
                  refine Eq.trans (jb_nx (i := .bipush 59) (n := 2) (q := (112, [some (.ref p0), some (.ref p1), some (.int x5)], [.int 59, .ref p1, .ref p0])) (jq qX13_isLine 64 rfl) rfl) ?_
                  obtain ⟨b40, H⟩ := jm_O_inv H
                  rcases jcI H with ⟨x38, h36, r37, H⟩ | ⟨w41, h42, r37, H⟩
                  · refine Eq.trans (jb_nx (i := .invokevirtual 340) (n := 3) (q := (115, [some (.ref p0), some (.ref p1), some (.int x5)], [.int x38])) (jq qX13_isLine 65 rfl) (jo_cv (y := mX13_eat) rfl (Nat.le_of_ble_eq_true rfl) rfl (Nat.le_of_ble_eq_true rfl) b40 rfl r37 jo_ret)) ?_
                    obtain ⟨u39, H⟩ := jm_Y_inv H
                    exact Eq.trans (jb_rt (i := .ireturn) (n := 1) (jq qX13_isLine 66 rfl) (jo_iret rfl u39)) H
                  · exact Eq.trans (jb_rt (i := .invokevirtual 340) (n := 3) (jq qX13_isLine 65 rfl) (jo_cv (y := mX13_eat) rfl (Nat.le_of_ble_eq_true rfl) rfl (Nat.le_of_ble_eq_true rfl) b40 rfl r37 (jo_exn rfl))) H
              · exact Eq.trans (jb_rt (i := .invokevirtual 366) (n := 3) (jq qX13_isLine 52 rfl) (jo_cv (y := mX13_isPart) rfl (Nat.le_of_ble_eq_true rfl) rfl (Nat.le_of_ble_eq_true rfl) b43 rfl r27 (jo_exn rfl))) H
          · exact Eq.trans (jb_rt (i := .invokevirtual 340) (n := 3) (jq qX13_isLine 48 rfl) (jo_cv (y := mX13_eat) rfl (Nat.le_of_ble_eq_true rfl) rfl (Nat.le_of_ble_eq_true rfl) b46 rfl r23 (jo_exn rfl))) H
      · exact Eq.trans (jb_rt (i := .invokevirtual 360) (n := 3) (jq qX13_isLine 43 rfl) (jo_cv (y := mX13_name) rfl (Nat.le_of_ble_eq_true rfl) rfl (Nat.le_of_ble_eq_true rfl) b49 rfl r19 (jo_exn rfl))) H
    · rw [if_neg c8] at H
      refine Eq.trans (jb_nx (i := .if_icmp .ne 65) (n := 3) (q := (116, [some (.ref p0), some (.ref p1), some (.int x5)], [])) (jq qX13_isLine 30 rfl) (jo_icT (jz_neT c8) rfl)) ?_
      refine Eq.trans (jb_nx (i := .iload_n 2) (n := 1) (q := (117, [some (.ref p0), some (.ref p1), some (.int x5)], [.int x5])) (jq qX13_isLine 67 rfl) rfl) ?_
      refine Eq.trans (jb_nx (i := .iconst 4) (n := 1) (q := (118, [some (.ref p0), some (.ref p1), some (.int x5)], [.int 4, .int x5])) (jq qX13_isLine 68 rfl) rfl) ?_
      by_cases c9 : x5 = 4
      · rw [if_pos c9] at H
        refine Eq.trans (jb_nx (i := .if_icmp .eq 14) (n := 3) (q := (132, [some (.ref p0), some (.ref p1), some (.int x5)], [])) (jq qX13_isLine 69 rfl) (jo_icT (jz_eqT c9) rfl)) ?_
        exact H
      · rw [if_neg c9] at H
        refine Eq.trans (jb_nx (i := .if_icmp .eq 14) (n := 3) (q := (121, [some (.ref p0), some (.ref p1), some (.int x5)], [])) (jq qX13_isLine 69 rfl) (jo_icF (jz_eqF c9))) ?_
        refine Eq.trans (jb_nx (i := .iload_n 2) (n := 1) (q := (122, [some (.ref p0), some (.ref p1), some (.int x5)], [.int x5])) (jq qX13_isLine 70 rfl) rfl) ?_
        refine Eq.trans (jb_nx (i := .iconst 5) (n := 1) (q := (123, [some (.ref p0), some (.ref p1), some (.int x5)], [.int 5, .int x5])) (jq qX13_isLine 71 rfl) rfl) ?_
        by_cases c10 : x5 = 5
        · rw [if_pos c10] at H
          refine Eq.trans (jb_nx (i := .if_icmp .eq 9) (n := 3) (q := (132, [some (.ref p0), some (.ref p1), some (.int x5)], [])) (jq qX13_isLine 72 rfl) (jo_icT (jz_eqT c10) rfl)) ?_
          exact H
        · rw [if_neg c10] at H
          refine Eq.trans (jb_nx (i := .if_icmp .eq 9) (n := 3) (q := (126, [some (.ref p0), some (.ref p1), some (.int x5)], [])) (jq qX13_isLine 72 rfl) (jo_icF (jz_eqF c10))) ?_
          refine Eq.trans (jb_nx (i := .iload_n 2) (n := 1) (q := (127, [some (.ref p0), some (.ref p1), some (.int x5)], [.int x5])) (jq qX13_isLine 73 rfl) rfl) ?_
          refine Eq.trans (jb_nx (i := .bipush 7) (n := 2) (q := (129, [some (.ref p0), some (.ref p1), some (.int x5)], [.int 7, .int x5])) (jq qX13_isLine 74 rfl) rfl) ?_
          by_cases c11 : x5 = 7
          · rw [if_pos c11] at H
            refine Eq.trans (jb_nx (i := .if_icmp .ne 16) (n := 3) (q := (132, [some (.ref p0), some (.ref p1), some (.int x5)], [])) (jq qX13_isLine 75 rfl) (jo_icF (jz_neF c11))) ?_
            exact H
          · rw [if_neg c11] at H
            refine Eq.trans (jb_nx (i := .if_icmp .ne 16) (n := 3) (q := (145, [some (.ref p0), some (.ref p1), some (.int x5)], [])) (jq qX13_isLine 75 rfl) (jo_icT (jz_neT c11) rfl)) ?_
            refine Eq.trans (jb_nx (i := .iconst 0) (n := 1) (q := (146, [some (.ref p0), some (.ref p1), some (.int x5)], [.int 0])) (jq qX13_isLine 83 rfl) rfl) ?_
            exact Eq.trans (jb_rt (i := .ireturn) (n := 1) (jq qX13_isLine 84 rfl) (jo_iret rfl (by decide))) H
/-! MaskPlaysModel name (LMaskPlaysModel$Book;I)Z -/
def tX13_name : List (Nat × Instr × Nat) := [(0, .aload_n 1, 1), (1, .getfield 332, 3), (4, .aload_n 0, 1), (5, .getfield 329, 3), (8, .iload_n 2, 1), (9, .iastore, 1), (10, .aload_n 1, 1), (11, .getfield 335, 3), (14, .aload_n 0, 1), (15, .getfield 329, 3), (18, .aload_n 0, 1), (19, .getfield 338, 3), (22, .iastore, 1), (23, .aload_n 0, 1), (24, .aload_n 1, 1), (25, .bipush 30, 2), (27, .invokevirtual 340, 3), (30, .ireturn, 1)]
set_option maxRecDepth 100000 in
theorem qX13_name : ∀ q ∈ tX13_name, decode cX13_name q.1 = .ok (q.2.1, q.2.2) := by decide +kernel
theorem gX13_name {d : Nat} {p0 : Nat} {p1 : Nat} {i2 : Int32} {h : jm_H} {r : jm_R} (H : ((jr_R h p1 11 2 2).bind fun a1 => (jr_I h p0 12 5 0).bind fun x3 => (jm_asi h a1 0 x3 i2).bind fun h5 => (jr_R h5 p1 11 4 2).bind fun a7 => (jr_I h5 p0 12 5 0).bind fun x9 => (jr_I h5 p0 12 7 0).bind fun x11 => (jm_asi h5 a7 0 x9 x11).bind fun h13 => jm_O h13 p0 13 (jc_I (jm_D d mX13_eat [.ref p0, .ref p1, .int 30] h13) (fun x17 h15 => jm_Y .boolean x17 (some (.inl (some (.int x17)), h15))) jx)) = some r) : jm_D (d + 1) mX13_name [.ref p0, .ref p1, .int i2] h = some r := by
  rw [jm_D_body (Nat.le_of_ble_eq_true rfl)]
  show jm_B d mX13_name (0, [some (.ref p0), some (.ref p1), some (.int i2)], []) h = some r
  refine Eq.trans (jb_nx (i := .aload_n 1) (n := 1) (q := (1, [some (.ref p0), some (.ref p1), some (.int i2)], [.ref p1])) (jq qX13_name 0 rfl) rfl) ?_
  obtain ⟨a1, e2, H⟩ := jbd H
  refine Eq.trans (jb_nx (i := .getfield 332) (n := 3) (q := (4, [some (.ref p0), some (.ref p1), some (.int i2)], [.ref a1])) (jq qX13_name 1 rfl) (jo_gf rfl (jr_R_inv e2))) ?_
  refine Eq.trans (jb_nx (i := .aload_n 0) (n := 1) (q := (5, [some (.ref p0), some (.ref p1), some (.int i2)], [.ref p0, .ref a1])) (jq qX13_name 2 rfl) rfl) ?_
  obtain ⟨x3, e4, H⟩ := jbd H
  refine Eq.trans (jb_nx (i := .getfield 329) (n := 3) (q := (8, [some (.ref p0), some (.ref p1), some (.int i2)], [.int x3, .ref a1])) (jq qX13_name 3 rfl) (jo_gf rfl (jr_I_inv e4))) ?_
  refine Eq.trans (jb_nx (i := .iload_n 2) (n := 1) (q := (9, [some (.ref p0), some (.ref p1), some (.int i2)], [.int i2, .int x3, .ref a1])) (jq qX13_name 4 rfl) rfl) ?_
  obtain ⟨h5, e6, H⟩ := jbd H
  refine Eq.trans (jb_nx (i := .iastore) (n := 1) (q := (10, [some (.ref p0), some (.ref p1), some (.int i2)], [])) (jq qX13_name 5 rfl) (jo_ias e6)) ?_
  refine Eq.trans (jb_nx (i := .aload_n 1) (n := 1) (q := (11, [some (.ref p0), some (.ref p1), some (.int i2)], [.ref p1])) (jq qX13_name 6 rfl) rfl) ?_
  obtain ⟨a7, e8, H⟩ := jbd H
  refine Eq.trans (jb_nx (i := .getfield 335) (n := 3) (q := (14, [some (.ref p0), some (.ref p1), some (.int i2)], [.ref a7])) (jq qX13_name 7 rfl) (jo_gf rfl (jr_R_inv e8))) ?_
  refine Eq.trans (jb_nx (i := .aload_n 0) (n := 1) (q := (15, [some (.ref p0), some (.ref p1), some (.int i2)], [.ref p0, .ref a7])) (jq qX13_name 8 rfl) rfl) ?_
  obtain ⟨x9, e10, H⟩ := jbd H
  refine Eq.trans (jb_nx (i := .getfield 329) (n := 3) (q := (18, [some (.ref p0), some (.ref p1), some (.int i2)], [.int x9, .ref a7])) (jq qX13_name 9 rfl) (jo_gf rfl (jr_I_inv e10))) ?_
  refine Eq.trans (jb_nx (i := .aload_n 0) (n := 1) (q := (19, [some (.ref p0), some (.ref p1), some (.int i2)], [.ref p0, .int x9, .ref a7])) (jq qX13_name 10 rfl) rfl) ?_
  obtain ⟨x11, e12, H⟩ := jbd H
  refine Eq.trans (jb_nx (i := .getfield 338) (n := 3) (q := (22, [some (.ref p0), some (.ref p1), some (.int i2)], [.int x11, .int x9, .ref a7])) (jq qX13_name 11 rfl) (jo_gf rfl (jr_I_inv e12))) ?_
  obtain ⟨h13, e14, H⟩ := jbd H
  refine Eq.trans (jb_nx (i := .iastore) (n := 1) (q := (23, [some (.ref p0), some (.ref p1), some (.int i2)], [])) (jq qX13_name 12 rfl) (jo_ias e14)) ?_
  refine Eq.trans (jb_nx (i := .aload_n 0) (n := 1) (q := (24, [some (.ref p0), some (.ref p1), some (.int i2)], [.ref p0])) (jq qX13_name 13 rfl) rfl) ?_
  refine Eq.trans (jb_nx (i := .aload_n 1) (n := 1) (q := (25, [some (.ref p0), some (.ref p1), some (.int i2)], [.ref p1, .ref p0])) (jq qX13_name 14 rfl) rfl) ?_
  refine Eq.trans (jb_nx (i := .bipush 30) (n := 2) (q := (27, [some (.ref p0), some (.ref p1), some (.int i2)], [.int 30, .ref p1, .ref p0])) (jq qX13_name 15 rfl) rfl) ?_
  obtain ⟨b19, H⟩ := jm_O_inv H
  rcases jcI H with ⟨x17, h15, r16, H⟩ | ⟨w20, h21, r16, H⟩
  · refine Eq.trans (jb_nx (i := .invokevirtual 340) (n := 3) (q := (30, [some (.ref p0), some (.ref p1), some (.int i2)], [.int x17])) (jq qX13_name 16 rfl) (jo_cv (y := mX13_eat) rfl (Nat.le_of_ble_eq_true rfl) rfl (Nat.le_of_ble_eq_true rfl) b19 rfl r16 jo_ret)) ?_
    obtain ⟨u18, H⟩ := jm_Y_inv H
    exact Eq.trans (jb_rt (i := .ireturn) (n := 1) (jq qX13_name 17 rfl) (jo_iret rfl u18)) H
  · exact Eq.trans (jb_rt (i := .invokevirtual 340) (n := 3) (jq qX13_name 16 rfl) (jo_cv (y := mX13_eat) rfl (Nat.le_of_ble_eq_true rfl) rfl (Nat.le_of_ble_eq_true rfl) b19 rfl r16 (jo_exn rfl))) H
/-! MaskPlaysModel eat (LMaskPlaysModel$Book;I)Z -/
def tX13_eat : List (Nat × Instr × Nat) := [(0, .aload_n 1, 1), (1, .getfield 323, 3), (4, .aload_n 0, 1), (5, .getfield 329, 3), (8, .iaload, 1), (9, .iload_n 2, 1), (10, .if_icmp .eq 5, 3), (13, .iconst 0, 1), (14, .ireturn, 1), (15, .aload_n 0, 1), (16, .dup, 1), (17, .getfield 329, 3), (20, .iconst 1, 1), (21, .iadd, 1), (22, .putfield 329, 3), (25, .iconst 1, 1), (26, .ireturn, 1)]
set_option maxRecDepth 100000 in
theorem qX13_eat : ∀ q ∈ tX13_eat, decode cX13_eat q.1 = .ok (q.2.1, q.2.2) := by decide +kernel
theorem gX13_eat {d : Nat} {p0 : Nat} {p1 : Nat} {i2 : Int32} {h : jm_H} {r : jm_R} (H : ((jr_R h p1 11 0 2).bind fun a1 => (jr_I h p0 12 5 0).bind fun x3 => (jm_ali h a1 0 x3).bind fun x5 => (if x5 = i2 then (jr_I h p0 12 5 0).bind fun x8 => (jm_pf h p0 12 5 0 (.int (x8 + 1))).bind fun h10 => some (.inl (some (.int 1)), h10) else some (.inl (some (.int 0)), h))) = some r) : jm_D (d + 1) mX13_eat [.ref p0, .ref p1, .int i2] h = some r := by
  rw [jm_D_body (Nat.le_of_ble_eq_true rfl)]
  show jm_B d mX13_eat (0, [some (.ref p0), some (.ref p1), some (.int i2)], []) h = some r
  refine Eq.trans (jb_nx (i := .aload_n 1) (n := 1) (q := (1, [some (.ref p0), some (.ref p1), some (.int i2)], [.ref p1])) (jq qX13_eat 0 rfl) rfl) ?_
  obtain ⟨a1, e2, H⟩ := jbd H
  refine Eq.trans (jb_nx (i := .getfield 323) (n := 3) (q := (4, [some (.ref p0), some (.ref p1), some (.int i2)], [.ref a1])) (jq qX13_eat 1 rfl) (jo_gf rfl (jr_R_inv e2))) ?_
  refine Eq.trans (jb_nx (i := .aload_n 0) (n := 1) (q := (5, [some (.ref p0), some (.ref p1), some (.int i2)], [.ref p0, .ref a1])) (jq qX13_eat 2 rfl) rfl) ?_
  obtain ⟨x3, e4, H⟩ := jbd H
  refine Eq.trans (jb_nx (i := .getfield 329) (n := 3) (q := (8, [some (.ref p0), some (.ref p1), some (.int i2)], [.int x3, .ref a1])) (jq qX13_eat 3 rfl) (jo_gf rfl (jr_I_inv e4))) ?_
  obtain ⟨x5, e6, H⟩ := jbd H
  refine Eq.trans (jb_nx (i := .iaload) (n := 1) (q := (9, [some (.ref p0), some (.ref p1), some (.int i2)], [.int x5])) (jq qX13_eat 4 rfl) (jo_ial e6)) ?_
  refine Eq.trans (jb_nx (i := .iload_n 2) (n := 1) (q := (10, [some (.ref p0), some (.ref p1), some (.int i2)], [.int i2, .int x5])) (jq qX13_eat 5 rfl) rfl) ?_
  by_cases c7 : x5 = i2
  · rw [if_pos c7] at H
    refine Eq.trans (jb_nx (i := .if_icmp .eq 5) (n := 3) (q := (15, [some (.ref p0), some (.ref p1), some (.int i2)], [])) (jq qX13_eat 6 rfl) (jo_icT (jz_eqT c7) rfl)) ?_
    refine Eq.trans (jb_nx (i := .aload_n 0) (n := 1) (q := (16, [some (.ref p0), some (.ref p1), some (.int i2)], [.ref p0])) (jq qX13_eat 9 rfl) rfl) ?_
    refine Eq.trans (jb_nx (i := .dup) (n := 1) (q := (17, [some (.ref p0), some (.ref p1), some (.int i2)], [.ref p0, .ref p0])) (jq qX13_eat 10 rfl) rfl) ?_
    obtain ⟨x8, e9, H⟩ := jbd H
    refine Eq.trans (jb_nx (i := .getfield 329) (n := 3) (q := (20, [some (.ref p0), some (.ref p1), some (.int i2)], [.int x8, .ref p0])) (jq qX13_eat 11 rfl) (jo_gf rfl (jr_I_inv e9))) ?_
    refine Eq.trans (jb_nx (i := .iconst 1) (n := 1) (q := (21, [some (.ref p0), some (.ref p1), some (.int i2)], [.int 1, .int x8, .ref p0])) (jq qX13_eat 12 rfl) rfl) ?_
    refine Eq.trans (jb_nx (i := .iadd) (n := 1) (q := (22, [some (.ref p0), some (.ref p1), some (.int i2)], [.int (x8 + 1), .ref p0])) (jq qX13_eat 13 rfl) rfl) ?_
    obtain ⟨h10, e11, H⟩ := jbd H
    refine Eq.trans (jb_nx (i := .putfield 329) (n := 3) (q := (25, [some (.ref p0), some (.ref p1), some (.int i2)], [])) (jq qX13_eat 14 rfl) (jo_pf rfl (Or.inl rfl) e11)) ?_
    refine Eq.trans (jb_nx (i := .iconst 1) (n := 1) (q := (26, [some (.ref p0), some (.ref p1), some (.int i2)], [.int 1])) (jq qX13_eat 15 rfl) rfl) ?_
    exact Eq.trans (jb_rt (i := .ireturn) (n := 1) (jq qX13_eat 16 rfl) (jo_iret rfl (by decide))) H
  · rw [if_neg c7] at H
    refine Eq.trans (jb_nx (i := .if_icmp .eq 5) (n := 3) (q := (13, [some (.ref p0), some (.ref p1), some (.int i2)], [])) (jq qX13_eat 6 rfl) (jo_icF (jz_eqF c7))) ?_
    refine Eq.trans (jb_nx (i := .iconst 0) (n := 1) (q := (14, [some (.ref p0), some (.ref p1), some (.int i2)], [.int 0])) (jq qX13_eat 7 rfl) rfl) ?_
    exact Eq.trans (jb_rt (i := .ireturn) (n := 1) (jq qX13_eat 8 rfl) (jo_iret rfl (by decide))) H
/-! MaskPlaysModel isPart (LMaskPlaysModel$Book;)Z -/
def tX13_isPart : List (Nat × Instr × Nat) := [(0, .aload_n 1, 1), (1, .getfield 323, 3), (4, .aload_n 0, 1), (5, .getfield 329, 3), (8, .iaload, 1), (9, .iconst 3, 1), (10, .if_icmp .ne 9, 3), (13, .aload_n 0, 1), (14, .aload_n 1, 1), (15, .invokevirtual 353, 3), (18, .ireturn, 1), (19, .aload_n 1, 1), (20, .getfield 323, 3), (23, .aload_n 0, 1), (24, .getfield 329, 3), (27, .iaload, 1), (28, .bipush 91, 2), (30, .if_icmp .ne 11, 3), (33, .aload_n 0, 1), (34, .aload_n 1, 1), (35, .invokevirtual 357, 3), (38, .goto 9, 3), (41, .aload_n 0, 1), (42, .aload_n 1, 1), (43, .iconst 4, 1), (44, .invokevirtual 360, 3), (47, .ireturn, 1)]
set_option maxRecDepth 100000 in
theorem qX13_isPart : ∀ q ∈ tX13_isPart, decode cX13_isPart q.1 = .ok (q.2.1, q.2.2) := by decide +kernel
theorem gX13_isPart {d : Nat} {p0 : Nat} {p1 : Nat} {h : jm_H} {r : jm_R} (H : ((jr_R h p1 11 0 2).bind fun a1 => (jr_I h p0 12 5 0).bind fun x3 => (jm_ali h a1 0 x3).bind fun x5 => (if x5 = 3 then jm_O h p0 13 (jc_I (jm_D d mX13_isMaskPart [.ref p0, .ref p1] h) (fun x31 h29 => jm_Y .boolean x31 (some (.inl (some (.int x31)), h29))) jx) else (jr_R h p1 11 0 2).bind fun a8 => (jr_I h p0 12 5 0).bind fun x10 => (jm_ali h a8 0 x10).bind fun x12 => (if x12 = 91 then jm_O h p0 13 (jc_I (jm_D d mX13_isScene [.ref p0, .ref p1] h) (fun x24 h22 => jm_Y .boolean x24 (some (.inl (some (.int x24)), h22))) jx) else jm_O h p0 13 (jc_I (jm_D d mX13_name [.ref p0, .ref p1, .int 4] h) (fun x17 h15 => jm_Y .boolean x17 (some (.inl (some (.int x17)), h15))) jx)))) = some r) : jm_D (d + 1) mX13_isPart [.ref p0, .ref p1] h = some r := by
  rw [jm_D_body (Nat.le_of_ble_eq_true rfl)]
  show jm_B d mX13_isPart (0, [some (.ref p0), some (.ref p1)], []) h = some r
  refine Eq.trans (jb_nx (i := .aload_n 1) (n := 1) (q := (1, [some (.ref p0), some (.ref p1)], [.ref p1])) (jq qX13_isPart 0 rfl) rfl) ?_
  obtain ⟨a1, e2, H⟩ := jbd H
  refine Eq.trans (jb_nx (i := .getfield 323) (n := 3) (q := (4, [some (.ref p0), some (.ref p1)], [.ref a1])) (jq qX13_isPart 1 rfl) (jo_gf rfl (jr_R_inv e2))) ?_
  refine Eq.trans (jb_nx (i := .aload_n 0) (n := 1) (q := (5, [some (.ref p0), some (.ref p1)], [.ref p0, .ref a1])) (jq qX13_isPart 2 rfl) rfl) ?_
  obtain ⟨x3, e4, H⟩ := jbd H
  refine Eq.trans (jb_nx (i := .getfield 329) (n := 3) (q := (8, [some (.ref p0), some (.ref p1)], [.int x3, .ref a1])) (jq qX13_isPart 3 rfl) (jo_gf rfl (jr_I_inv e4))) ?_
  obtain ⟨x5, e6, H⟩ := jbd H
  refine Eq.trans (jb_nx (i := .iaload) (n := 1) (q := (9, [some (.ref p0), some (.ref p1)], [.int x5])) (jq qX13_isPart 4 rfl) (jo_ial e6)) ?_
  refine Eq.trans (jb_nx (i := .iconst 3) (n := 1) (q := (10, [some (.ref p0), some (.ref p1)], [.int 3, .int x5])) (jq qX13_isPart 5 rfl) rfl) ?_
  by_cases c7 : x5 = 3
  · rw [if_pos c7] at H
    refine Eq.trans (jb_nx (i := .if_icmp .ne 9) (n := 3) (q := (13, [some (.ref p0), some (.ref p1)], [])) (jq qX13_isPart 6 rfl) (jo_icF (jz_neF c7))) ?_
    refine Eq.trans (jb_nx (i := .aload_n 0) (n := 1) (q := (14, [some (.ref p0), some (.ref p1)], [.ref p0])) (jq qX13_isPart 7 rfl) rfl) ?_
    refine Eq.trans (jb_nx (i := .aload_n 1) (n := 1) (q := (15, [some (.ref p0), some (.ref p1)], [.ref p1, .ref p0])) (jq qX13_isPart 8 rfl) rfl) ?_
    obtain ⟨b33, H⟩ := jm_O_inv H
    rcases jcI H with ⟨x31, h29, r30, H⟩ | ⟨w34, h35, r30, H⟩
    · refine Eq.trans (jb_nx (i := .invokevirtual 353) (n := 3) (q := (18, [some (.ref p0), some (.ref p1)], [.int x31])) (jq qX13_isPart 9 rfl) (jo_cv (y := mX13_isMaskPart) rfl (Nat.le_of_ble_eq_true rfl) rfl (Nat.le_of_ble_eq_true rfl) b33 rfl r30 jo_ret)) ?_
      obtain ⟨u32, H⟩ := jm_Y_inv H
      exact Eq.trans (jb_rt (i := .ireturn) (n := 1) (jq qX13_isPart 10 rfl) (jo_iret rfl u32)) H
    · exact Eq.trans (jb_rt (i := .invokevirtual 353) (n := 3) (jq qX13_isPart 9 rfl) (jo_cv (y := mX13_isMaskPart) rfl (Nat.le_of_ble_eq_true rfl) rfl (Nat.le_of_ble_eq_true rfl) b33 rfl r30 (jo_exn rfl))) H
  · rw [if_neg c7] at H
    refine Eq.trans (jb_nx (i := .if_icmp .ne 9) (n := 3) (q := (19, [some (.ref p0), some (.ref p1)], [])) (jq qX13_isPart 6 rfl) (jo_icT (jz_neT c7) rfl)) ?_
    refine Eq.trans (jb_nx (i := .aload_n 1) (n := 1) (q := (20, [some (.ref p0), some (.ref p1)], [.ref p1])) (jq qX13_isPart 11 rfl) rfl) ?_
    obtain ⟨a8, e9, H⟩ := jbd H
    refine Eq.trans (jb_nx (i := .getfield 323) (n := 3) (q := (23, [some (.ref p0), some (.ref p1)], [.ref a8])) (jq qX13_isPart 12 rfl) (jo_gf rfl (jr_R_inv e9))) ?_
    refine Eq.trans (jb_nx (i := .aload_n 0) (n := 1) (q := (24, [some (.ref p0), some (.ref p1)], [.ref p0, .ref a8])) (jq qX13_isPart 13 rfl) rfl) ?_
    obtain ⟨x10, e11, H⟩ := jbd H
    refine Eq.trans (jb_nx (i := .getfield 329) (n := 3) (q := (27, [some (.ref p0), some (.ref p1)], [.int x10, .ref a8])) (jq qX13_isPart 14 rfl) (jo_gf rfl (jr_I_inv e11))) ?_
    obtain ⟨x12, e13, H⟩ := jbd H
    refine Eq.trans (jb_nx (i := .iaload) (n := 1) (q := (28, [some (.ref p0), some (.ref p1)], [.int x12])) (jq qX13_isPart 15 rfl) (jo_ial e13)) ?_
    refine Eq.trans (jb_nx (i := .bipush 91) (n := 2) (q := (30, [some (.ref p0), some (.ref p1)], [.int 91, .int x12])) (jq qX13_isPart 16 rfl) rfl) ?_
    by_cases c14 : x12 = 91
    · rw [if_pos c14] at H
      refine Eq.trans (jb_nx (i := .if_icmp .ne 11) (n := 3) (q := (33, [some (.ref p0), some (.ref p1)], [])) (jq qX13_isPart 17 rfl) (jo_icF (jz_neF c14))) ?_
      refine Eq.trans (jb_nx (i := .aload_n 0) (n := 1) (q := (34, [some (.ref p0), some (.ref p1)], [.ref p0])) (jq qX13_isPart 18 rfl) rfl) ?_
      refine Eq.trans (jb_nx (i := .aload_n 1) (n := 1) (q := (35, [some (.ref p0), some (.ref p1)], [.ref p1, .ref p0])) (jq qX13_isPart 19 rfl) rfl) ?_
      obtain ⟨b26, H⟩ := jm_O_inv H
      rcases jcI H with ⟨x24, h22, r23, H⟩ | ⟨w27, h28, r23, H⟩
      · refine Eq.trans (jb_nx (i := .invokevirtual 357) (n := 3) (q := (38, [some (.ref p0), some (.ref p1)], [.int x24])) (jq qX13_isPart 20 rfl) (jo_cv (y := mX13_isScene) rfl (Nat.le_of_ble_eq_true rfl) rfl (Nat.le_of_ble_eq_true rfl) b26 rfl r23 jo_ret)) ?_
        refine Eq.trans (jb_nx (i := .goto 9) (n := 3) (q := (47, [some (.ref p0), some (.ref p1)], [.int x24])) (jq qX13_isPart 21 rfl) rfl) ?_
        obtain ⟨u25, H⟩ := jm_Y_inv H
        exact Eq.trans (jb_rt (i := .ireturn) (n := 1) (jq qX13_isPart 26 rfl) (jo_iret rfl u25)) H
      · exact Eq.trans (jb_rt (i := .invokevirtual 357) (n := 3) (jq qX13_isPart 20 rfl) (jo_cv (y := mX13_isScene) rfl (Nat.le_of_ble_eq_true rfl) rfl (Nat.le_of_ble_eq_true rfl) b26 rfl r23 (jo_exn rfl))) H
    · rw [if_neg c14] at H
      refine Eq.trans (jb_nx (i := .if_icmp .ne 11) (n := 3) (q := (41, [some (.ref p0), some (.ref p1)], [])) (jq qX13_isPart 17 rfl) (jo_icT (jz_neT c14) rfl)) ?_
      refine Eq.trans (jb_nx (i := .aload_n 0) (n := 1) (q := (42, [some (.ref p0), some (.ref p1)], [.ref p0])) (jq qX13_isPart 22 rfl) rfl) ?_
      refine Eq.trans (jb_nx (i := .aload_n 1) (n := 1) (q := (43, [some (.ref p0), some (.ref p1)], [.ref p1, .ref p0])) (jq qX13_isPart 23 rfl) rfl) ?_
      refine Eq.trans (jb_nx (i := .iconst 4) (n := 1) (q := (44, [some (.ref p0), some (.ref p1)], [.int 4, .ref p1, .ref p0])) (jq qX13_isPart 24 rfl) rfl) ?_
      obtain ⟨b19, H⟩ := jm_O_inv H
      rcases jcI H with ⟨x17, h15, r16, H⟩ | ⟨w20, h21, r16, H⟩
      · refine Eq.trans (jb_nx (i := .invokevirtual 360) (n := 3) (q := (47, [some (.ref p0), some (.ref p1)], [.int x17])) (jq qX13_isPart 25 rfl) (jo_cv (y := mX13_name) rfl (Nat.le_of_ble_eq_true rfl) rfl (Nat.le_of_ble_eq_true rfl) b19 rfl r16 jo_ret)) ?_
        obtain ⟨u18, H⟩ := jm_Y_inv H
        exact Eq.trans (jb_rt (i := .ireturn) (n := 1) (jq qX13_isPart 26 rfl) (jo_iret rfl u18)) H
      · exact Eq.trans (jb_rt (i := .invokevirtual 360) (n := 3) (jq qX13_isPart 25 rfl) (jo_cv (y := mX13_name) rfl (Nat.le_of_ble_eq_true rfl) rfl (Nat.le_of_ble_eq_true rfl) b19 rfl r16 (jo_exn rfl))) H
/-! MaskPlaysModel isMaskPart (LMaskPlaysModel$Book;)Z -/
def tX13_isMaskPart : List (Nat × Instr × Nat) := [(0, .aload_n 0, 1), (1, .dup, 1), (2, .getfield 329, 3), (5, .iconst 1, 1), (6, .iadd, 1), (7, .putfield 329, 3), (10, .aload_n 0, 1), (11, .getfield 338, 3), (14, .istore_n 2, 1), (15, .aload_n 0, 1), (16, .getfield 329, 3), (19, .istore_n 3, 1), (20, .aload_n 0, 1), (21, .aload_n 1, 1), (22, .iconst 3, 1), (23, .invokevirtual 360, 3), (26, .ifCond .ne 5, 3), (29, .iconst 0, 1), (30, .ireturn, 1), (31, .aload_n 0, 1), (32, .aload_n 1, 1), (33, .bipush 40, 2), (35, .invokevirtual 363, 3), (38, .ifCond .ne 5, 3), (41, .iconst 0, 1), (42, .ireturn, 1), (43, .aload_n 0, 1), (44, .iload_n 3, 1), (45, .putfield 338, 3), (48, .aload_n 0, 1), (49, .aload_n 1, 1), (50, .invokevirtual 366, 3), (53, .ifCond .ne 5, 3), (56, .iconst 0, 1), (57, .ireturn, 1), (58, .aload_n 0, 1), (59, .iload_n 2, 1), (60, .putfield 338, 3), (63, .aload_n 0, 1), (64, .aload_n 1, 1), (65, .bipush 41, 2), (67, .invokevirtual 369, 3), (70, .ireturn, 1)]
set_option maxRecDepth 100000 in
theorem qX13_isMaskPart : ∀ q ∈ tX13_isMaskPart, decode cX13_isMaskPart q.1 = .ok (q.2.1, q.2.2) := by decide +kernel
theorem gX13_isMaskPart {d : Nat} {p0 : Nat} {p1 : Nat} {h : jm_H} {r : jm_R} (H : ((jr_I h p0 12 5 0).bind fun x1 => (jm_pf h p0 12 5 0 (.int (x1 + 1))).bind fun h3 => (jr_I h3 p0 12 7 0).bind fun x5 => (jr_I h3 p0 12 5 0).bind fun x7 => jm_O h3 p0 13 (jc_I (jm_D d mX13_name [.ref p0, .ref p1, .int 3] h3) (fun x11 h9 => (if x11 = 0 then some (.inl (some (.int 0)), h9) else jm_O h9 p0 13 (jc_I (jm_D d mX13_deeper [.ref p0, .ref p1, .int 40] h9) (fun x15 h13 => (if x15 = 0 then some (.inl (some (.int 0)), h13) else (jm_pf h13 p0 12 7 0 (.int x7)).bind fun h17 => jm_O h17 p0 13 (jc_I (jm_D d mX13_isPart [.ref p0, .ref p1] h17) (fun x21 h19 => (if x21 = 0 then some (.inl (some (.int 0)), h19) else (jm_pf h19 p0 12 7 0 (.int x5)).bind fun h23 => jm_O h23 p0 13 (jc_I (jm_D d mX13_closes [.ref p0, .ref p1, .int 41] h23) (fun x27 h25 => jm_Y .boolean x27 (some (.inl (some (.int x27)), h25))) jx))) jx))) jx))) jx)) = some r) : jm_D (d + 1) mX13_isMaskPart [.ref p0, .ref p1] h = some r := by
  rw [jm_D_body (Nat.le_of_ble_eq_true rfl)]
  show jm_B d mX13_isMaskPart (0, [some (.ref p0), some (.ref p1), none, none], []) h = some r
  refine Eq.trans (jb_nx (i := .aload_n 0) (n := 1) (q := (1, [some (.ref p0), some (.ref p1), none, none], [.ref p0])) (jq qX13_isMaskPart 0 rfl) rfl) ?_
  refine Eq.trans (jb_nx (i := .dup) (n := 1) (q := (2, [some (.ref p0), some (.ref p1), none, none], [.ref p0, .ref p0])) (jq qX13_isMaskPart 1 rfl) rfl) ?_
  obtain ⟨x1, e2, H⟩ := jbd H
  refine Eq.trans (jb_nx (i := .getfield 329) (n := 3) (q := (5, [some (.ref p0), some (.ref p1), none, none], [.int x1, .ref p0])) (jq qX13_isMaskPart 2 rfl) (jo_gf rfl (jr_I_inv e2))) ?_
  refine Eq.trans (jb_nx (i := .iconst 1) (n := 1) (q := (6, [some (.ref p0), some (.ref p1), none, none], [.int 1, .int x1, .ref p0])) (jq qX13_isMaskPart 3 rfl) rfl) ?_
  refine Eq.trans (jb_nx (i := .iadd) (n := 1) (q := (7, [some (.ref p0), some (.ref p1), none, none], [.int (x1 + 1), .ref p0])) (jq qX13_isMaskPart 4 rfl) rfl) ?_
  obtain ⟨h3, e4, H⟩ := jbd H
  refine Eq.trans (jb_nx (i := .putfield 329) (n := 3) (q := (10, [some (.ref p0), some (.ref p1), none, none], [])) (jq qX13_isMaskPart 5 rfl) (jo_pf rfl (Or.inl rfl) e4)) ?_
  refine Eq.trans (jb_nx (i := .aload_n 0) (n := 1) (q := (11, [some (.ref p0), some (.ref p1), none, none], [.ref p0])) (jq qX13_isMaskPart 6 rfl) rfl) ?_
  obtain ⟨x5, e6, H⟩ := jbd H
  refine Eq.trans (jb_nx (i := .getfield 338) (n := 3) (q := (14, [some (.ref p0), some (.ref p1), none, none], [.int x5])) (jq qX13_isMaskPart 7 rfl) (jo_gf rfl (jr_I_inv e6))) ?_
  refine Eq.trans (jb_nx (i := .istore_n 2) (n := 1) (q := (15, [some (.ref p0), some (.ref p1), some (.int x5), none], [])) (jq qX13_isMaskPart 8 rfl) rfl) ?_
  refine Eq.trans (jb_nx (i := .aload_n 0) (n := 1) (q := (16, [some (.ref p0), some (.ref p1), some (.int x5), none], [.ref p0])) (jq qX13_isMaskPart 9 rfl) rfl) ?_
  obtain ⟨x7, e8, H⟩ := jbd H
  refine Eq.trans (jb_nx (i := .getfield 329) (n := 3) (q := (19, [some (.ref p0), some (.ref p1), some (.int x5), none], [.int x7])) (jq qX13_isMaskPart 10 rfl) (jo_gf rfl (jr_I_inv e8))) ?_
  refine Eq.trans (jb_nx (i := .istore_n 3) (n := 1) (q := (20, [some (.ref p0), some (.ref p1), some (.int x5), some (.int x7)], [])) (jq qX13_isMaskPart 11 rfl) rfl) ?_
  refine Eq.trans (jb_nx (i := .aload_n 0) (n := 1) (q := (21, [some (.ref p0), some (.ref p1), some (.int x5), some (.int x7)], [.ref p0])) (jq qX13_isMaskPart 12 rfl) rfl) ?_
  refine Eq.trans (jb_nx (i := .aload_n 1) (n := 1) (q := (22, [some (.ref p0), some (.ref p1), some (.int x5), some (.int x7)], [.ref p1, .ref p0])) (jq qX13_isMaskPart 13 rfl) rfl) ?_
  refine Eq.trans (jb_nx (i := .iconst 3) (n := 1) (q := (23, [some (.ref p0), some (.ref p1), some (.int x5), some (.int x7)], [.int 3, .ref p1, .ref p0])) (jq qX13_isMaskPart 14 rfl) rfl) ?_
  obtain ⟨b38, H⟩ := jm_O_inv H
  rcases jcI H with ⟨x11, h9, r10, H⟩ | ⟨w39, h40, r10, H⟩
  · refine Eq.trans (jb_nx (i := .invokevirtual 360) (n := 3) (q := (26, [some (.ref p0), some (.ref p1), some (.int x5), some (.int x7)], [.int x11])) (jq qX13_isMaskPart 15 rfl) (jo_cv (y := mX13_name) rfl (Nat.le_of_ble_eq_true rfl) rfl (Nat.le_of_ble_eq_true rfl) b38 rfl r10 jo_ret)) ?_
    by_cases c12 : x11 = 0
    · rw [if_pos c12] at H
      refine Eq.trans (jb_nx (i := .ifCond .ne 5) (n := 3) (q := (29, [some (.ref p0), some (.ref p1), some (.int x5), some (.int x7)], [])) (jq qX13_isMaskPart 16 rfl) (jo_ifF (jz_neF c12))) ?_
      refine Eq.trans (jb_nx (i := .iconst 0) (n := 1) (q := (30, [some (.ref p0), some (.ref p1), some (.int x5), some (.int x7)], [.int 0])) (jq qX13_isMaskPart 17 rfl) rfl) ?_
      exact Eq.trans (jb_rt (i := .ireturn) (n := 1) (jq qX13_isMaskPart 18 rfl) (jo_iret rfl (by decide))) H
    · rw [if_neg c12] at H
      refine Eq.trans (jb_nx (i := .ifCond .ne 5) (n := 3) (q := (31, [some (.ref p0), some (.ref p1), some (.int x5), some (.int x7)], [])) (jq qX13_isMaskPart 16 rfl) (jo_ifT (jz_neT c12) rfl)) ?_
      refine Eq.trans (jb_nx (i := .aload_n 0) (n := 1) (q := (32, [some (.ref p0), some (.ref p1), some (.int x5), some (.int x7)], [.ref p0])) (jq qX13_isMaskPart 19 rfl) rfl) ?_
      refine Eq.trans (jb_nx (i := .aload_n 1) (n := 1) (q := (33, [some (.ref p0), some (.ref p1), some (.int x5), some (.int x7)], [.ref p1, .ref p0])) (jq qX13_isMaskPart 20 rfl) rfl) ?_
      refine Eq.trans (jb_nx (i := .bipush 40) (n := 2) (q := (35, [some (.ref p0), some (.ref p1), some (.int x5), some (.int x7)], [.int 40, .ref p1, .ref p0])) (jq qX13_isMaskPart 21 rfl) rfl) ?_
      obtain ⟨b35, H⟩ := jm_O_inv H
      rcases jcI H with ⟨x15, h13, r14, H⟩ | ⟨w36, h37, r14, H⟩
      · refine Eq.trans (jb_nx (i := .invokevirtual 363) (n := 3) (q := (38, [some (.ref p0), some (.ref p1), some (.int x5), some (.int x7)], [.int x15])) (jq qX13_isMaskPart 22 rfl) (jo_cv (y := mX13_deeper) rfl (Nat.le_of_ble_eq_true rfl) rfl (Nat.le_of_ble_eq_true rfl) b35 rfl r14 jo_ret)) ?_
        by_cases c16 : x15 = 0
        · rw [if_pos c16] at H
          refine Eq.trans (jb_nx (i := .ifCond .ne 5) (n := 3) (q := (41, [some (.ref p0), some (.ref p1), some (.int x5), some (.int x7)], [])) (jq qX13_isMaskPart 23 rfl) (jo_ifF (jz_neF c16))) ?_
          refine Eq.trans (jb_nx (i := .iconst 0) (n := 1) (q := (42, [some (.ref p0), some (.ref p1), some (.int x5), some (.int x7)], [.int 0])) (jq qX13_isMaskPart 24 rfl) rfl) ?_
          exact Eq.trans (jb_rt (i := .ireturn) (n := 1) (jq qX13_isMaskPart 25 rfl) (jo_iret rfl (by decide))) H
        · rw [if_neg c16] at H
          refine Eq.trans (jb_nx (i := .ifCond .ne 5) (n := 3) (q := (43, [some (.ref p0), some (.ref p1), some (.int x5), some (.int x7)], [])) (jq qX13_isMaskPart 23 rfl) (jo_ifT (jz_neT c16) rfl)) ?_
          refine Eq.trans (jb_nx (i := .aload_n 0) (n := 1) (q := (44, [some (.ref p0), some (.ref p1), some (.int x5), some (.int x7)], [.ref p0])) (jq qX13_isMaskPart 26 rfl) rfl) ?_
          refine Eq.trans (jb_nx (i := .iload_n 3) (n := 1) (q := (45, [some (.ref p0), some (.ref p1), some (.int x5), some (.int x7)], [.int x7, .ref p0])) (jq qX13_isMaskPart 27 rfl) rfl) ?_
          obtain ⟨h17, e18, H⟩ := jbd H
          refine Eq.trans (jb_nx (i := .putfield 338) (n := 3) (q := (48, [some (.ref p0), some (.ref p1), some (.int x5), some (.int x7)], [])) (jq qX13_isMaskPart 28 rfl) (jo_pf rfl (Or.inl rfl) e18)) ?_
          refine Eq.trans (jb_nx (i := .aload_n 0) (n := 1) (q := (49, [some (.ref p0), some (.ref p1), some (.int x5), some (.int x7)], [.ref p0])) (jq qX13_isMaskPart 29 rfl) rfl) ?_
          refine Eq.trans (jb_nx (i := .aload_n 1) (n := 1) (q := (50, [some (.ref p0), some (.ref p1), some (.int x5), some (.int x7)], [.ref p1, .ref p0])) (jq qX13_isMaskPart 30 rfl) rfl) ?_
          obtain ⟨b32, H⟩ := jm_O_inv H
          rcases jcI H with ⟨x21, h19, r20, H⟩ | ⟨w33, h34, r20, H⟩
          · refine Eq.trans (jb_nx (i := .invokevirtual 366) (n := 3) (q := (53, [some (.ref p0), some (.ref p1), some (.int x5), some (.int x7)], [.int x21])) (jq qX13_isMaskPart 31 rfl) (jo_cv (y := mX13_isPart) rfl (Nat.le_of_ble_eq_true rfl) rfl (Nat.le_of_ble_eq_true rfl) b32 rfl r20 jo_ret)) ?_
            by_cases c22 : x21 = 0
            · rw [if_pos c22] at H
              refine Eq.trans (jb_nx (i := .ifCond .ne 5) (n := 3) (q := (56, [some (.ref p0), some (.ref p1), some (.int x5), some (.int x7)], [])) (jq qX13_isMaskPart 32 rfl) (jo_ifF (jz_neF c22))) ?_
              refine Eq.trans (jb_nx (i := .iconst 0) (n := 1) (q := (57, [some (.ref p0), some (.ref p1), some (.int x5), some (.int x7)], [.int 0])) (jq qX13_isMaskPart 33 rfl) rfl) ?_
              exact Eq.trans (jb_rt (i := .ireturn) (n := 1) (jq qX13_isMaskPart 34 rfl) (jo_iret rfl (by decide))) H
            · rw [if_neg c22] at H
              refine Eq.trans (jb_nx (i := .ifCond .ne 5) (n := 3) (q := (58, [some (.ref p0), some (.ref p1), some (.int x5), some (.int x7)], [])) (jq qX13_isMaskPart 32 rfl) (jo_ifT (jz_neT c22) rfl)) ?_
              refine Eq.trans (jb_nx (i := .aload_n 0) (n := 1) (q := (59, [some (.ref p0), some (.ref p1), some (.int x5), some (.int x7)], [.ref p0])) (jq qX13_isMaskPart 35 rfl) rfl) ?_
              refine Eq.trans (jb_nx (i := .iload_n 2) (n := 1) (q := (60, [some (.ref p0), some (.ref p1), some (.int x5), some (.int x7)], [.int x5, .ref p0])) (jq qX13_isMaskPart 36 rfl) rfl) ?_
              obtain ⟨h23, e24, H⟩ := jbd H
              refine Eq.trans (jb_nx (i := .putfield 338) (n := 3) (q := (63, [some (.ref p0), some (.ref p1), some (.int x5), some (.int x7)], [])) (jq qX13_isMaskPart 37 rfl) (jo_pf rfl (Or.inl rfl) e24)) ?_
              refine Eq.trans (jb_nx (i := .aload_n 0) (n := 1) (q := (64, [some (.ref p0), some (.ref p1), some (.int x5), some (.int x7)], [.ref p0])) (jq qX13_isMaskPart 38 rfl) rfl) ?_
              refine Eq.trans (jb_nx (i := .aload_n 1) (n := 1) (q := (65, [some (.ref p0), some (.ref p1), some (.int x5), some (.int x7)], [.ref p1, .ref p0])) (jq qX13_isMaskPart 39 rfl) rfl) ?_
              refine Eq.trans (jb_nx (i := .bipush 41) (n := 2) (q := (67, [some (.ref p0), some (.ref p1), some (.int x5), some (.int x7)], [.int 41, .ref p1, .ref p0])) (jq qX13_isMaskPart 40 rfl) rfl) ?_
              obtain ⟨b29, H⟩ := jm_O_inv H
              rcases jcI H with ⟨x27, h25, r26, H⟩ | ⟨w30, h31, r26, H⟩
              · refine Eq.trans (jb_nx (i := .invokevirtual 369) (n := 3) (q := (70, [some (.ref p0), some (.ref p1), some (.int x5), some (.int x7)], [.int x27])) (jq qX13_isMaskPart 41 rfl) (jo_cv (y := mX13_closes) rfl (Nat.le_of_ble_eq_true rfl) rfl (Nat.le_of_ble_eq_true rfl) b29 rfl r26 jo_ret)) ?_
                obtain ⟨u28, H⟩ := jm_Y_inv H
                exact Eq.trans (jb_rt (i := .ireturn) (n := 1) (jq qX13_isMaskPart 42 rfl) (jo_iret rfl u28)) H
              · exact Eq.trans (jb_rt (i := .invokevirtual 369) (n := 3) (jq qX13_isMaskPart 41 rfl) (jo_cv (y := mX13_closes) rfl (Nat.le_of_ble_eq_true rfl) rfl (Nat.le_of_ble_eq_true rfl) b29 rfl r26 (jo_exn rfl))) H
          · exact Eq.trans (jb_rt (i := .invokevirtual 366) (n := 3) (jq qX13_isMaskPart 31 rfl) (jo_cv (y := mX13_isPart) rfl (Nat.le_of_ble_eq_true rfl) rfl (Nat.le_of_ble_eq_true rfl) b32 rfl r20 (jo_exn rfl))) H
      · exact Eq.trans (jb_rt (i := .invokevirtual 363) (n := 3) (jq qX13_isMaskPart 22 rfl) (jo_cv (y := mX13_deeper) rfl (Nat.le_of_ble_eq_true rfl) rfl (Nat.le_of_ble_eq_true rfl) b35 rfl r14 (jo_exn rfl))) H
  · exact Eq.trans (jb_rt (i := .invokevirtual 360) (n := 3) (jq qX13_isMaskPart 15 rfl) (jo_cv (y := mX13_name) rfl (Nat.le_of_ble_eq_true rfl) rfl (Nat.le_of_ble_eq_true rfl) b38 rfl r10 (jo_exn rfl))) H
/-! MaskPlaysModel deeper (LMaskPlaysModel$Book;I)Z -/
def tX13_deeper : List (Nat × Instr × Nat) := [(0, .aload_n 0, 1), (1, .getfield 344, 3), (4, .bipush 8, 2), (6, .if_icmp .eq 12, 3), (9, .aload_n 0, 1), (10, .aload_n 1, 1), (11, .iload_n 2, 1), (12, .invokevirtual 340, 3), (15, .ifCond .ne 5, 3), (18, .iconst 0, 1), (19, .ireturn, 1), (20, .aload_n 0, 1), (21, .dup, 1), (22, .getfield 344, 3), (25, .iconst 1, 1), (26, .iadd, 1), (27, .putfield 344, 3), (30, .iconst 1, 1), (31, .ireturn, 1)]
set_option maxRecDepth 100000 in
theorem qX13_deeper : ∀ q ∈ tX13_deeper, decode cX13_deeper q.1 = .ok (q.2.1, q.2.2) := by decide +kernel
theorem gX13_deeper {d : Nat} {p0 : Nat} {p1 : Nat} {i2 : Int32} {h : jm_H} {r : jm_R} (H : ((jr_I h p0 12 6 0).bind fun x1 => (if x1 = 8 then some (.inl (some (.int 0)), h) else jm_O h p0 13 (jc_I (jm_D d mX13_eat [.ref p0, .ref p1, .int i2] h) (fun x6 h4 => (if x6 = 0 then some (.inl (some (.int 0)), h4) else (jr_I h4 p0 12 6 0).bind fun x8 => (jm_pf h4 p0 12 6 0 (.int (x8 + 1))).bind fun h10 => some (.inl (some (.int 1)), h10))) jx))) = some r) : jm_D (d + 1) mX13_deeper [.ref p0, .ref p1, .int i2] h = some r := by
  rw [jm_D_body (Nat.le_of_ble_eq_true rfl)]
  show jm_B d mX13_deeper (0, [some (.ref p0), some (.ref p1), some (.int i2)], []) h = some r
  refine Eq.trans (jb_nx (i := .aload_n 0) (n := 1) (q := (1, [some (.ref p0), some (.ref p1), some (.int i2)], [.ref p0])) (jq qX13_deeper 0 rfl) rfl) ?_
  obtain ⟨x1, e2, H⟩ := jbd H
  refine Eq.trans (jb_nx (i := .getfield 344) (n := 3) (q := (4, [some (.ref p0), some (.ref p1), some (.int i2)], [.int x1])) (jq qX13_deeper 1 rfl) (jo_gf rfl (jr_I_inv e2))) ?_
  refine Eq.trans (jb_nx (i := .bipush 8) (n := 2) (q := (6, [some (.ref p0), some (.ref p1), some (.int i2)], [.int 8, .int x1])) (jq qX13_deeper 2 rfl) rfl) ?_
  by_cases c3 : x1 = 8
  · rw [if_pos c3] at H
    refine Eq.trans (jb_nx (i := .if_icmp .eq 12) (n := 3) (q := (18, [some (.ref p0), some (.ref p1), some (.int i2)], [])) (jq qX13_deeper 3 rfl) (jo_icT (jz_eqT c3) rfl)) ?_
    refine Eq.trans (jb_nx (i := .iconst 0) (n := 1) (q := (19, [some (.ref p0), some (.ref p1), some (.int i2)], [.int 0])) (jq qX13_deeper 9 rfl) rfl) ?_
    exact Eq.trans (jb_rt (i := .ireturn) (n := 1) (jq qX13_deeper 10 rfl) (jo_iret rfl (by decide))) H
  · rw [if_neg c3] at H
    refine Eq.trans (jb_nx (i := .if_icmp .eq 12) (n := 3) (q := (9, [some (.ref p0), some (.ref p1), some (.int i2)], [])) (jq qX13_deeper 3 rfl) (jo_icF (jz_eqF c3))) ?_
    refine Eq.trans (jb_nx (i := .aload_n 0) (n := 1) (q := (10, [some (.ref p0), some (.ref p1), some (.int i2)], [.ref p0])) (jq qX13_deeper 4 rfl) rfl) ?_
    refine Eq.trans (jb_nx (i := .aload_n 1) (n := 1) (q := (11, [some (.ref p0), some (.ref p1), some (.int i2)], [.ref p1, .ref p0])) (jq qX13_deeper 5 rfl) rfl) ?_
    refine Eq.trans (jb_nx (i := .iload_n 2) (n := 1) (q := (12, [some (.ref p0), some (.ref p1), some (.int i2)], [.int i2, .ref p1, .ref p0])) (jq qX13_deeper 6 rfl) rfl) ?_
    obtain ⟨b12, H⟩ := jm_O_inv H
    rcases jcI H with ⟨x6, h4, r5, H⟩ | ⟨w13, h14, r5, H⟩
    · refine Eq.trans (jb_nx (i := .invokevirtual 340) (n := 3) (q := (15, [some (.ref p0), some (.ref p1), some (.int i2)], [.int x6])) (jq qX13_deeper 7 rfl) (jo_cv (y := mX13_eat) rfl (Nat.le_of_ble_eq_true rfl) rfl (Nat.le_of_ble_eq_true rfl) b12 rfl r5 jo_ret)) ?_
      by_cases c7 : x6 = 0
      · rw [if_pos c7] at H
        refine Eq.trans (jb_nx (i := .ifCond .ne 5) (n := 3) (q := (18, [some (.ref p0), some (.ref p1), some (.int i2)], [])) (jq qX13_deeper 8 rfl) (jo_ifF (jz_neF c7))) ?_
        refine Eq.trans (jb_nx (i := .iconst 0) (n := 1) (q := (19, [some (.ref p0), some (.ref p1), some (.int i2)], [.int 0])) (jq qX13_deeper 9 rfl) rfl) ?_
        exact Eq.trans (jb_rt (i := .ireturn) (n := 1) (jq qX13_deeper 10 rfl) (jo_iret rfl (by decide))) H
      · rw [if_neg c7] at H
        refine Eq.trans (jb_nx (i := .ifCond .ne 5) (n := 3) (q := (20, [some (.ref p0), some (.ref p1), some (.int i2)], [])) (jq qX13_deeper 8 rfl) (jo_ifT (jz_neT c7) rfl)) ?_
        refine Eq.trans (jb_nx (i := .aload_n 0) (n := 1) (q := (21, [some (.ref p0), some (.ref p1), some (.int i2)], [.ref p0])) (jq qX13_deeper 11 rfl) rfl) ?_
        refine Eq.trans (jb_nx (i := .dup) (n := 1) (q := (22, [some (.ref p0), some (.ref p1), some (.int i2)], [.ref p0, .ref p0])) (jq qX13_deeper 12 rfl) rfl) ?_
        obtain ⟨x8, e9, H⟩ := jbd H
        refine Eq.trans (jb_nx (i := .getfield 344) (n := 3) (q := (25, [some (.ref p0), some (.ref p1), some (.int i2)], [.int x8, .ref p0])) (jq qX13_deeper 13 rfl) (jo_gf rfl (jr_I_inv e9))) ?_
        refine Eq.trans (jb_nx (i := .iconst 1) (n := 1) (q := (26, [some (.ref p0), some (.ref p1), some (.int i2)], [.int 1, .int x8, .ref p0])) (jq qX13_deeper 14 rfl) rfl) ?_
        refine Eq.trans (jb_nx (i := .iadd) (n := 1) (q := (27, [some (.ref p0), some (.ref p1), some (.int i2)], [.int (x8 + 1), .ref p0])) (jq qX13_deeper 15 rfl) rfl) ?_
        obtain ⟨h10, e11, H⟩ := jbd H
        refine Eq.trans (jb_nx (i := .putfield 344) (n := 3) (q := (30, [some (.ref p0), some (.ref p1), some (.int i2)], [])) (jq qX13_deeper 16 rfl) (jo_pf rfl (Or.inl rfl) e11)) ?_
        refine Eq.trans (jb_nx (i := .iconst 1) (n := 1) (q := (31, [some (.ref p0), some (.ref p1), some (.int i2)], [.int 1])) (jq qX13_deeper 17 rfl) rfl) ?_
        exact Eq.trans (jb_rt (i := .ireturn) (n := 1) (jq qX13_deeper 18 rfl) (jo_iret rfl (by decide))) H
    · exact Eq.trans (jb_rt (i := .invokevirtual 340) (n := 3) (jq qX13_deeper 7 rfl) (jo_cv (y := mX13_eat) rfl (Nat.le_of_ble_eq_true rfl) rfl (Nat.le_of_ble_eq_true rfl) b12 rfl r5 (jo_exn rfl))) H
/-! MaskPlaysModel closes (LMaskPlaysModel$Book;I)Z -/
def tX13_closes : List (Nat × Instr × Nat) := [(0, .aload_n 0, 1), (1, .aload_n 1, 1), (2, .iload_n 2, 1), (3, .invokevirtual 340, 3), (6, .ifCond .ne 5, 3), (9, .iconst 0, 1), (10, .ireturn, 1), (11, .aload_n 0, 1), (12, .dup, 1), (13, .getfield 344, 3), (16, .iconst 1, 1), (17, .isub, 1), (18, .putfield 344, 3), (21, .iconst 1, 1), (22, .ireturn, 1)]
set_option maxRecDepth 100000 in
theorem qX13_closes : ∀ q ∈ tX13_closes, decode cX13_closes q.1 = .ok (q.2.1, q.2.2) := by decide +kernel
theorem gX13_closes {d : Nat} {p0 : Nat} {p1 : Nat} {i2 : Int32} {h : jm_H} {r : jm_R} (H : (jm_O h p0 13 (jc_I (jm_D d mX13_eat [.ref p0, .ref p1, .int i2] h) (fun x3 h1 => (if x3 = 0 then some (.inl (some (.int 0)), h1) else (jr_I h1 p0 12 6 0).bind fun x5 => (jm_pf h1 p0 12 6 0 (.int (x5 - 1))).bind fun h7 => some (.inl (some (.int 1)), h7))) jx)) = some r) : jm_D (d + 1) mX13_closes [.ref p0, .ref p1, .int i2] h = some r := by
  rw [jm_D_body (Nat.le_of_ble_eq_true rfl)]
  show jm_B d mX13_closes (0, [some (.ref p0), some (.ref p1), some (.int i2)], []) h = some r
  refine Eq.trans (jb_nx (i := .aload_n 0) (n := 1) (q := (1, [some (.ref p0), some (.ref p1), some (.int i2)], [.ref p0])) (jq qX13_closes 0 rfl) rfl) ?_
  refine Eq.trans (jb_nx (i := .aload_n 1) (n := 1) (q := (2, [some (.ref p0), some (.ref p1), some (.int i2)], [.ref p1, .ref p0])) (jq qX13_closes 1 rfl) rfl) ?_
  refine Eq.trans (jb_nx (i := .iload_n 2) (n := 1) (q := (3, [some (.ref p0), some (.ref p1), some (.int i2)], [.int i2, .ref p1, .ref p0])) (jq qX13_closes 2 rfl) rfl) ?_
  obtain ⟨b9, H⟩ := jm_O_inv H
  rcases jcI H with ⟨x3, h1, r2, H⟩ | ⟨w10, h11, r2, H⟩
  · refine Eq.trans (jb_nx (i := .invokevirtual 340) (n := 3) (q := (6, [some (.ref p0), some (.ref p1), some (.int i2)], [.int x3])) (jq qX13_closes 3 rfl) (jo_cv (y := mX13_eat) rfl (Nat.le_of_ble_eq_true rfl) rfl (Nat.le_of_ble_eq_true rfl) b9 rfl r2 jo_ret)) ?_
    by_cases c4 : x3 = 0
    · rw [if_pos c4] at H
      refine Eq.trans (jb_nx (i := .ifCond .ne 5) (n := 3) (q := (9, [some (.ref p0), some (.ref p1), some (.int i2)], [])) (jq qX13_closes 4 rfl) (jo_ifF (jz_neF c4))) ?_
      refine Eq.trans (jb_nx (i := .iconst 0) (n := 1) (q := (10, [some (.ref p0), some (.ref p1), some (.int i2)], [.int 0])) (jq qX13_closes 5 rfl) rfl) ?_
      exact Eq.trans (jb_rt (i := .ireturn) (n := 1) (jq qX13_closes 6 rfl) (jo_iret rfl (by decide))) H
    · rw [if_neg c4] at H
      refine Eq.trans (jb_nx (i := .ifCond .ne 5) (n := 3) (q := (11, [some (.ref p0), some (.ref p1), some (.int i2)], [])) (jq qX13_closes 4 rfl) (jo_ifT (jz_neT c4) rfl)) ?_
      refine Eq.trans (jb_nx (i := .aload_n 0) (n := 1) (q := (12, [some (.ref p0), some (.ref p1), some (.int i2)], [.ref p0])) (jq qX13_closes 7 rfl) rfl) ?_
      refine Eq.trans (jb_nx (i := .dup) (n := 1) (q := (13, [some (.ref p0), some (.ref p1), some (.int i2)], [.ref p0, .ref p0])) (jq qX13_closes 8 rfl) rfl) ?_
      obtain ⟨x5, e6, H⟩ := jbd H
      refine Eq.trans (jb_nx (i := .getfield 344) (n := 3) (q := (16, [some (.ref p0), some (.ref p1), some (.int i2)], [.int x5, .ref p0])) (jq qX13_closes 9 rfl) (jo_gf rfl (jr_I_inv e6))) ?_
      refine Eq.trans (jb_nx (i := .iconst 1) (n := 1) (q := (17, [some (.ref p0), some (.ref p1), some (.int i2)], [.int 1, .int x5, .ref p0])) (jq qX13_closes 10 rfl) rfl) ?_
      refine Eq.trans (jb_nx (i := .isub) (n := 1) (q := (18, [some (.ref p0), some (.ref p1), some (.int i2)], [.int (x5 - 1), .ref p0])) (jq qX13_closes 11 rfl) rfl) ?_
      obtain ⟨h7, e8, H⟩ := jbd H
      refine Eq.trans (jb_nx (i := .putfield 344) (n := 3) (q := (21, [some (.ref p0), some (.ref p1), some (.int i2)], [])) (jq qX13_closes 12 rfl) (jo_pf rfl (Or.inl rfl) e8)) ?_
      refine Eq.trans (jb_nx (i := .iconst 1) (n := 1) (q := (22, [some (.ref p0), some (.ref p1), some (.int i2)], [.int 1])) (jq qX13_closes 13 rfl) rfl) ?_
      exact Eq.trans (jb_rt (i := .ireturn) (n := 1) (jq qX13_closes 14 rfl) (jo_iret rfl (by decide))) H
  · exact Eq.trans (jb_rt (i := .invokevirtual 340) (n := 3) (jq qX13_closes 3 rfl) (jo_cv (y := mX13_eat) rfl (Nat.le_of_ble_eq_true rfl) rfl (Nat.le_of_ble_eq_true rfl) b9 rfl r2 (jo_exn rfl))) H
/-! MaskPlaysModel isScene (LMaskPlaysModel$Book;)Z -/
def tX13_isScene : List (Nat × Instr × Nat) := [(0, .aload_n 0, 1), (1, .getfield 329, 3), (4, .istore_n 2, 1), (5, .aload_n 0, 1), (6, .aload_n 1, 1), (7, .bipush 91, 2), (9, .invokevirtual 363, 3), (12, .ifCond .ne 5, 3), (15, .iconst 0, 1), (16, .ireturn, 1), (17, .iconst 0, 1), (18, .istore_n 3, 1), (19, .iload_n 3, 1), (20, .iconst 2, 1), (21, .if_icmp .lt 17, 3), (24, .aload_n 1, 1), (25, .getfield 323, 3), (28, .aload_n 0, 1), (29, .getfield 329, 3), (32, .iaload, 1), (33, .bipush 93, 2), (35, .if_icmp .eq 19, 3), (38, .aload_n 0, 1), (39, .aload_n 1, 1), (40, .invokevirtual 366, 3), (43, .ifCond .ne 5, 3), (46, .iconst 0, 1), (47, .ireturn, 1), (48, .iinc 3 1, 3), (51, .goto (-32), 3), (54, .aload_n 1, 1), (55, .getfield 372, 3), (58, .iload_n 2, 1), (59, .iload_n 3, 1), (60, .iastore, 1), (61, .aload_n 0, 1), (62, .aload_n 1, 1), (63, .bipush 93, 2), (65, .invokevirtual 369, 3), (68, .ireturn, 1)]
set_option maxRecDepth 100000 in
theorem qX13_isScene : ∀ q ∈ tX13_isScene, decode cX13_isScene q.1 = .ok (q.2.1, q.2.2) := by decide +kernel
noncomputable def kX13_isScene_19 (d : Nat) (p0 : Nat) (p1 : Nat) (i2 : Int32) (i3 : Int32) (h : jm_H) : Option jm_R := jm_B d mX13_isScene (19, [some (.ref p0), some (.ref p1), some (.int i2), some (.int i3)], []) h
theorem gX13_isScene_19 {d : Nat} {p0 : Nat} {p1 : Nat} {i2 : Int32} {i3 : Int32} {h : jm_H} {r : jm_R} (H : ((if i3 < 2 then jm_O h p0 13 (jc_I (jm_D d mX13_isPart [.ref p0, .ref p1] h) (fun x13 h11 => (if x13 = 0 then some (.inl (some (.int 0)), h11) else kX13_isScene_19 d p0 p1 i2 (i3 + 1) h11)) jx) else (jr_R h p1 11 0 2).bind fun a18 => (jr_I h p0 12 5 0).bind fun x20 => (jm_ali h a18 0 x20).bind fun x22 => (if x22 = 93 then (jr_R h p1 11 5 2).bind fun a25 => (jm_asi h a25 0 i2 i3).bind fun h27 => jm_O h27 p0 13 (jc_I (jm_D d mX13_closes [.ref p0, .ref p1, .int 93] h27) (fun x31 h29 => jm_Y .boolean x31 (some (.inl (some (.int x31)), h29))) jx) else jm_O h p0 13 (jc_I (jm_D d mX13_isPart [.ref p0, .ref p1] h) (fun x38 h36 => (if x38 = 0 then some (.inl (some (.int 0)), h36) else kX13_isScene_19 d p0 p1 i2 (i3 + 1) h36)) jx)))) = some r) : kX13_isScene_19 d p0 p1 i2 i3 h = some r := by
  show jm_B d mX13_isScene (19, [some (.ref p0), some (.ref p1), some (.int i2), some (.int i3)], []) h = some r
  refine Eq.trans (jb_nx (i := .iload_n 3) (n := 1) (q := (20, [some (.ref p0), some (.ref p1), some (.int i2), some (.int i3)], [.int i3])) (jq qX13_isScene 12 rfl) rfl) ?_
  refine Eq.trans (jb_nx (i := .iconst 2) (n := 1) (q := (21, [some (.ref p0), some (.ref p1), some (.int i2), some (.int i3)], [.int 2, .int i3])) (jq qX13_isScene 13 rfl) rfl) ?_
  by_cases c10 : i3 < 2
  · rw [if_pos c10] at H
    refine Eq.trans (jb_nx (i := .if_icmp .lt 17) (n := 3) (q := (38, [some (.ref p0), some (.ref p1), some (.int i2), some (.int i3)], [])) (jq qX13_isScene 14 rfl) (jo_icT (jz_ltT c10) rfl)) ?_
    refine Eq.trans (jb_nx (i := .aload_n 0) (n := 1) (q := (39, [some (.ref p0), some (.ref p1), some (.int i2), some (.int i3)], [.ref p0])) (jq qX13_isScene 22 rfl) rfl) ?_
    refine Eq.trans (jb_nx (i := .aload_n 1) (n := 1) (q := (40, [some (.ref p0), some (.ref p1), some (.int i2), some (.int i3)], [.ref p1, .ref p0])) (jq qX13_isScene 23 rfl) rfl) ?_
    obtain ⟨b15, H⟩ := jm_O_inv H
    rcases jcI H with ⟨x13, h11, r12, H⟩ | ⟨w16, h17, r12, H⟩
    · refine Eq.trans (jb_nx (i := .invokevirtual 366) (n := 3) (q := (43, [some (.ref p0), some (.ref p1), some (.int i2), some (.int i3)], [.int x13])) (jq qX13_isScene 24 rfl) (jo_cv (y := mX13_isPart) rfl (Nat.le_of_ble_eq_true rfl) rfl (Nat.le_of_ble_eq_true rfl) b15 rfl r12 jo_ret)) ?_
      by_cases c14 : x13 = 0
      · rw [if_pos c14] at H
        refine Eq.trans (jb_nx (i := .ifCond .ne 5) (n := 3) (q := (46, [some (.ref p0), some (.ref p1), some (.int i2), some (.int i3)], [])) (jq qX13_isScene 25 rfl) (jo_ifF (jz_neF c14))) ?_
        refine Eq.trans (jb_nx (i := .iconst 0) (n := 1) (q := (47, [some (.ref p0), some (.ref p1), some (.int i2), some (.int i3)], [.int 0])) (jq qX13_isScene 26 rfl) rfl) ?_
        exact Eq.trans (jb_rt (i := .ireturn) (n := 1) (jq qX13_isScene 27 rfl) (jo_iret rfl (by decide))) H
      · rw [if_neg c14] at H
        refine Eq.trans (jb_nx (i := .ifCond .ne 5) (n := 3) (q := (48, [some (.ref p0), some (.ref p1), some (.int i2), some (.int i3)], [])) (jq qX13_isScene 25 rfl) (jo_ifT (jz_neT c14) rfl)) ?_
        refine Eq.trans (jb_nx (i := .iinc 3 1) (n := 3) (q := (51, [some (.ref p0), some (.ref p1), some (.int i2), some (.int (i3 + 1))], [])) (jq qX13_isScene 28 rfl) rfl) ?_
        refine Eq.trans (jb_nx (i := .goto (-32)) (n := 3) (q := (19, [some (.ref p0), some (.ref p1), some (.int i2), some (.int (i3 + 1))], [])) (jq qX13_isScene 29 rfl) rfl) ?_
        exact H
    · exact Eq.trans (jb_rt (i := .invokevirtual 366) (n := 3) (jq qX13_isScene 24 rfl) (jo_cv (y := mX13_isPart) rfl (Nat.le_of_ble_eq_true rfl) rfl (Nat.le_of_ble_eq_true rfl) b15 rfl r12 (jo_exn rfl))) H
  · rw [if_neg c10] at H
    refine Eq.trans (jb_nx (i := .if_icmp .lt 17) (n := 3) (q := (24, [some (.ref p0), some (.ref p1), some (.int i2), some (.int i3)], [])) (jq qX13_isScene 14 rfl) (jo_icF (jz_ltF c10))) ?_
    refine Eq.trans (jb_nx (i := .aload_n 1) (n := 1) (q := (25, [some (.ref p0), some (.ref p1), some (.int i2), some (.int i3)], [.ref p1])) (jq qX13_isScene 15 rfl) rfl) ?_
    obtain ⟨a18, e19, H⟩ := jbd H
    refine Eq.trans (jb_nx (i := .getfield 323) (n := 3) (q := (28, [some (.ref p0), some (.ref p1), some (.int i2), some (.int i3)], [.ref a18])) (jq qX13_isScene 16 rfl) (jo_gf rfl (jr_R_inv e19))) ?_
    refine Eq.trans (jb_nx (i := .aload_n 0) (n := 1) (q := (29, [some (.ref p0), some (.ref p1), some (.int i2), some (.int i3)], [.ref p0, .ref a18])) (jq qX13_isScene 17 rfl) rfl) ?_
    obtain ⟨x20, e21, H⟩ := jbd H
    refine Eq.trans (jb_nx (i := .getfield 329) (n := 3) (q := (32, [some (.ref p0), some (.ref p1), some (.int i2), some (.int i3)], [.int x20, .ref a18])) (jq qX13_isScene 18 rfl) (jo_gf rfl (jr_I_inv e21))) ?_
    obtain ⟨x22, e23, H⟩ := jbd H
    refine Eq.trans (jb_nx (i := .iaload) (n := 1) (q := (33, [some (.ref p0), some (.ref p1), some (.int i2), some (.int i3)], [.int x22])) (jq qX13_isScene 19 rfl) (jo_ial e23)) ?_
    refine Eq.trans (jb_nx (i := .bipush 93) (n := 2) (q := (35, [some (.ref p0), some (.ref p1), some (.int i2), some (.int i3)], [.int 93, .int x22])) (jq qX13_isScene 20 rfl) rfl) ?_
    by_cases c24 : x22 = 93
    · rw [if_pos c24] at H
      refine Eq.trans (jb_nx (i := .if_icmp .eq 19) (n := 3) (q := (54, [some (.ref p0), some (.ref p1), some (.int i2), some (.int i3)], [])) (jq qX13_isScene 21 rfl) (jo_icT (jz_eqT c24) rfl)) ?_
      refine Eq.trans (jb_nx (i := .aload_n 1) (n := 1) (q := (55, [some (.ref p0), some (.ref p1), some (.int i2), some (.int i3)], [.ref p1])) (jq qX13_isScene 30 rfl) rfl) ?_
      obtain ⟨a25, e26, H⟩ := jbd H
      refine Eq.trans (jb_nx (i := .getfield 372) (n := 3) (q := (58, [some (.ref p0), some (.ref p1), some (.int i2), some (.int i3)], [.ref a25])) (jq qX13_isScene 31 rfl) (jo_gf rfl (jr_R_inv e26))) ?_
      refine Eq.trans (jb_nx (i := .iload_n 2) (n := 1) (q := (59, [some (.ref p0), some (.ref p1), some (.int i2), some (.int i3)], [.int i2, .ref a25])) (jq qX13_isScene 32 rfl) rfl) ?_
      refine Eq.trans (jb_nx (i := .iload_n 3) (n := 1) (q := (60, [some (.ref p0), some (.ref p1), some (.int i2), some (.int i3)], [.int i3, .int i2, .ref a25])) (jq qX13_isScene 33 rfl) rfl) ?_
      obtain ⟨h27, e28, H⟩ := jbd H
      refine Eq.trans (jb_nx (i := .iastore) (n := 1) (q := (61, [some (.ref p0), some (.ref p1), some (.int i2), some (.int i3)], [])) (jq qX13_isScene 34 rfl) (jo_ias e28)) ?_
      refine Eq.trans (jb_nx (i := .aload_n 0) (n := 1) (q := (62, [some (.ref p0), some (.ref p1), some (.int i2), some (.int i3)], [.ref p0])) (jq qX13_isScene 35 rfl) rfl) ?_
      refine Eq.trans (jb_nx (i := .aload_n 1) (n := 1) (q := (63, [some (.ref p0), some (.ref p1), some (.int i2), some (.int i3)], [.ref p1, .ref p0])) (jq qX13_isScene 36 rfl) rfl) ?_
      refine Eq.trans (jb_nx (i := .bipush 93) (n := 2) (q := (65, [some (.ref p0), some (.ref p1), some (.int i2), some (.int i3)], [.int 93, .ref p1, .ref p0])) (jq qX13_isScene 37 rfl) rfl) ?_
      obtain ⟨b33, H⟩ := jm_O_inv H
      rcases jcI H with ⟨x31, h29, r30, H⟩ | ⟨w34, h35, r30, H⟩
      · refine Eq.trans (jb_nx (i := .invokevirtual 369) (n := 3) (q := (68, [some (.ref p0), some (.ref p1), some (.int i2), some (.int i3)], [.int x31])) (jq qX13_isScene 38 rfl) (jo_cv (y := mX13_closes) rfl (Nat.le_of_ble_eq_true rfl) rfl (Nat.le_of_ble_eq_true rfl) b33 rfl r30 jo_ret)) ?_
        obtain ⟨u32, H⟩ := jm_Y_inv H
        exact Eq.trans (jb_rt (i := .ireturn) (n := 1) (jq qX13_isScene 39 rfl) (jo_iret rfl u32)) H
      · exact Eq.trans (jb_rt (i := .invokevirtual 369) (n := 3) (jq qX13_isScene 38 rfl) (jo_cv (y := mX13_closes) rfl (Nat.le_of_ble_eq_true rfl) rfl (Nat.le_of_ble_eq_true rfl) b33 rfl r30 (jo_exn rfl))) H
    · rw [if_neg c24] at H
      refine Eq.trans (jb_nx (i := .if_icmp .eq 19) (n := 3) (q := (38, [some (.ref p0), some (.ref p1), some (.int i2), some (.int i3)], [])) (jq qX13_isScene 21 rfl) (jo_icF (jz_eqF c24))) ?_
      refine Eq.trans (jb_nx (i := .aload_n 0) (n := 1) (q := (39, [some (.ref p0), some (.ref p1), some (.int i2), some (.int i3)], [.ref p0])) (jq qX13_isScene 22 rfl) rfl) ?_
      refine Eq.trans (jb_nx (i := .aload_n 1) (n := 1) (q := (40, [some (.ref p0), some (.ref p1), some (.int i2), some (.int i3)], [.ref p1, .ref p0])) (jq qX13_isScene 23 rfl) rfl) ?_
      obtain ⟨b40, H⟩ := jm_O_inv H
      rcases jcI H with ⟨x38, h36, r37, H⟩ | ⟨w41, h42, r37, H⟩
      · refine Eq.trans (jb_nx (i := .invokevirtual 366) (n := 3) (q := (43, [some (.ref p0), some (.ref p1), some (.int i2), some (.int i3)], [.int x38])) (jq qX13_isScene 24 rfl) (jo_cv (y := mX13_isPart) rfl (Nat.le_of_ble_eq_true rfl) rfl (Nat.le_of_ble_eq_true rfl) b40 rfl r37 jo_ret)) ?_
        by_cases c39 : x38 = 0
        · rw [if_pos c39] at H
          refine Eq.trans (jb_nx (i := .ifCond .ne 5) (n := 3) (q := (46, [some (.ref p0), some (.ref p1), some (.int i2), some (.int i3)], [])) (jq qX13_isScene 25 rfl) (jo_ifF (jz_neF c39))) ?_
          refine Eq.trans (jb_nx (i := .iconst 0) (n := 1) (q := (47, [some (.ref p0), some (.ref p1), some (.int i2), some (.int i3)], [.int 0])) (jq qX13_isScene 26 rfl) rfl) ?_
          exact Eq.trans (jb_rt (i := .ireturn) (n := 1) (jq qX13_isScene 27 rfl) (jo_iret rfl (by decide))) H
        · rw [if_neg c39] at H
          refine Eq.trans (jb_nx (i := .ifCond .ne 5) (n := 3) (q := (48, [some (.ref p0), some (.ref p1), some (.int i2), some (.int i3)], [])) (jq qX13_isScene 25 rfl) (jo_ifT (jz_neT c39) rfl)) ?_
          refine Eq.trans (jb_nx (i := .iinc 3 1) (n := 3) (q := (51, [some (.ref p0), some (.ref p1), some (.int i2), some (.int (i3 + 1))], [])) (jq qX13_isScene 28 rfl) rfl) ?_
          refine Eq.trans (jb_nx (i := .goto (-32)) (n := 3) (q := (19, [some (.ref p0), some (.ref p1), some (.int i2), some (.int (i3 + 1))], [])) (jq qX13_isScene 29 rfl) rfl) ?_
          exact H
      · exact Eq.trans (jb_rt (i := .invokevirtual 366) (n := 3) (jq qX13_isScene 24 rfl) (jo_cv (y := mX13_isPart) rfl (Nat.le_of_ble_eq_true rfl) rfl (Nat.le_of_ble_eq_true rfl) b40 rfl r37 (jo_exn rfl))) H
theorem gX13_isScene {d : Nat} {p0 : Nat} {p1 : Nat} {h : jm_H} {r : jm_R} (H : ((jr_I h p0 12 5 0).bind fun x1 => jm_O h p0 13 (jc_I (jm_D d mX13_deeper [.ref p0, .ref p1, .int 91] h) (fun x5 h3 => (if x5 = 0 then some (.inl (some (.int 0)), h3) else kX13_isScene_19 d p0 p1 x1 0 h3)) jx)) = some r) : jm_D (d + 1) mX13_isScene [.ref p0, .ref p1] h = some r := by
  rw [jm_D_body (Nat.le_of_ble_eq_true rfl)]
  show jm_B d mX13_isScene (0, [some (.ref p0), some (.ref p1), none, none], []) h = some r
  refine Eq.trans (jb_nx (i := .aload_n 0) (n := 1) (q := (1, [some (.ref p0), some (.ref p1), none, none], [.ref p0])) (jq qX13_isScene 0 rfl) rfl) ?_
  obtain ⟨x1, e2, H⟩ := jbd H
  refine Eq.trans (jb_nx (i := .getfield 329) (n := 3) (q := (4, [some (.ref p0), some (.ref p1), none, none], [.int x1])) (jq qX13_isScene 1 rfl) (jo_gf rfl (jr_I_inv e2))) ?_
  refine Eq.trans (jb_nx (i := .istore_n 2) (n := 1) (q := (5, [some (.ref p0), some (.ref p1), some (.int x1), none], [])) (jq qX13_isScene 2 rfl) rfl) ?_
  refine Eq.trans (jb_nx (i := .aload_n 0) (n := 1) (q := (6, [some (.ref p0), some (.ref p1), some (.int x1), none], [.ref p0])) (jq qX13_isScene 3 rfl) rfl) ?_
  refine Eq.trans (jb_nx (i := .aload_n 1) (n := 1) (q := (7, [some (.ref p0), some (.ref p1), some (.int x1), none], [.ref p1, .ref p0])) (jq qX13_isScene 4 rfl) rfl) ?_
  refine Eq.trans (jb_nx (i := .bipush 91) (n := 2) (q := (9, [some (.ref p0), some (.ref p1), some (.int x1), none], [.int 91, .ref p1, .ref p0])) (jq qX13_isScene 5 rfl) rfl) ?_
  obtain ⟨b7, H⟩ := jm_O_inv H
  rcases jcI H with ⟨x5, h3, r4, H⟩ | ⟨w8, h9, r4, H⟩
  · refine Eq.trans (jb_nx (i := .invokevirtual 363) (n := 3) (q := (12, [some (.ref p0), some (.ref p1), some (.int x1), none], [.int x5])) (jq qX13_isScene 6 rfl) (jo_cv (y := mX13_deeper) rfl (Nat.le_of_ble_eq_true rfl) rfl (Nat.le_of_ble_eq_true rfl) b7 rfl r4 jo_ret)) ?_
    by_cases c6 : x5 = 0
    · rw [if_pos c6] at H
      refine Eq.trans (jb_nx (i := .ifCond .ne 5) (n := 3) (q := (15, [some (.ref p0), some (.ref p1), some (.int x1), none], [])) (jq qX13_isScene 7 rfl) (jo_ifF (jz_neF c6))) ?_
      refine Eq.trans (jb_nx (i := .iconst 0) (n := 1) (q := (16, [some (.ref p0), some (.ref p1), some (.int x1), none], [.int 0])) (jq qX13_isScene 8 rfl) rfl) ?_
      exact Eq.trans (jb_rt (i := .ireturn) (n := 1) (jq qX13_isScene 9 rfl) (jo_iret rfl (by decide))) H
    · rw [if_neg c6] at H
      refine Eq.trans (jb_nx (i := .ifCond .ne 5) (n := 3) (q := (17, [some (.ref p0), some (.ref p1), some (.int x1), none], [])) (jq qX13_isScene 7 rfl) (jo_ifT (jz_neT c6) rfl)) ?_
      refine Eq.trans (jb_nx (i := .iconst 0) (n := 1) (q := (18, [some (.ref p0), some (.ref p1), some (.int x1), none], [.int 0])) (jq qX13_isScene 10 rfl) rfl) ?_
      refine Eq.trans (jb_nx (i := .istore_n 3) (n := 1) (q := (19, [some (.ref p0), some (.ref p1), some (.int x1), some (.int 0)], [])) (jq qX13_isScene 11 rfl) rfl) ?_
      exact H
  · exact Eq.trans (jb_rt (i := .invokevirtual 363) (n := 3) (jq qX13_isScene 6 rfl) (jo_cv (y := mX13_deeper) rfl (Nat.le_of_ble_eq_true rfl) rfl (Nat.le_of_ble_eq_true rfl) b7 rfl r4 (jo_exn rfl))) H
/-! MaskPlaysModel isNote (LMaskPlaysModel$Book;I)Z -/
def tX13_isNote : List (Nat × Instr × Nat) := [(0, .bipush 15, 2), (2, .aload_n 1, 1), (3, .getfield 273, 3), (6, .invokestatic 204, 3), (9, .istore_n 3, 1), (10, .aload_n 1, 1), (11, .getfield 332, 3), (14, .aload_n 0, 1), (15, .getfield 329, 3), (18, .bipush 6, 2), (20, .iastore, 1), (21, .aload_n 0, 1), (22, .dup, 1), (23, .getfield 329, 3), (26, .iconst 1, 1), (27, .iadd, 1), (28, .putfield 329, 3), (31, .aload_n 1, 1), (32, .getfield 244, 3), (35, .iload_n 3, 1), (36, .iload_n 2, 1), (37, .iastore, 1), (38, .aload_n 1, 1), (39, .getfield 238, 3), (42, .iload_n 3, 1), (43, .aload_n 0, 1), (44, .getfield 329, 3), (47, .iastore, 1), (48, .aload_n 0, 1), (49, .aload_n 1, 1), (50, .iconst 5, 1), (51, .invokevirtual 360, 3), (54, .ifCond .ne 5, 3), (57, .iconst 0, 1), (58, .ireturn, 1), (59, .iload_n 2, 1), (60, .iconst 5, 1), (61, .if_icmp .ne 36, 3), (64, .aload_n 0, 1), (65, .aload_n 1, 1), (66, .bipush 6, 2), (68, .invokevirtual 340, 3), (71, .ifCond .ne 5, 3), (74, .iconst 0, 1), (75, .ireturn, 1), (76, .aload_n 1, 1), (77, .getfield 247, 3), (80, .iload_n 3, 1), (81, .aload_n 0, 1), (82, .getfield 329, 3), (85, .iastore, 1), (86, .aload_n 0, 1), (87, .aload_n 1, 1), (88, .iconst 5, 1), (89, .invokevirtual 360, 3), (92, .ifCond .ne 5, 3), (95, .iconst 0, 1), (96, .ireturn, 1), (97, .aload_n 1, 1), (98, .getfield 216, 3), (101, .iload_n 3, 1), (102, .aload_n 1, 1), (103, .getfield 347, 3), (106, .iastore, 1), (107, .aload_n 1, 1), (108, .dup, 1), (109, .getfield 273, 3), (112, .iconst 1, 1), (113, .iadd, 1), (114, .putfield 273, 3), (117, .iload_n 2, 1), (118, .iconst 4, 1), (119, .if_icmp .ne 17, 3), (122, .aload_n 1, 1), (123, .getfield 323, 3), (126, .aload_n 0, 1), (127, .getfield 329, 3), (130, .iaload, 1), (131, .bipush 8, 2), (133, .if_icmp .ne 23, 3), (136, .aload_n 0, 1), (137, .aload_n 1, 1), (138, .bipush 8, 2), (140, .invokevirtual 340, 3), (143, .ifCond .eq 11, 3), (146, .aload_n 0, 1), (147, .aload_n 1, 1), (148, .invokevirtual 384, 3), (151, .ifCond .ne 5, 3), (154, .iconst 0, 1), (155, .ireturn, 1), (156, .aload_n 1, 1), (157, .getfield 219, 3), (160, .iload_n 3, 1), (161, .aload_n 1, 1), (162, .getfield 347, 3), (165, .iastore, 1), (166, .aload_n 0, 1), (167, .aload_n 1, 1), (168, .bipush 59, 2), (170, .invokevirtual 340, 3), (173, .ireturn, 1)]
set_option maxRecDepth 100000 in
theorem qX13_isNote : ∀ q ∈ tX13_isNote, decode cX13_isNote q.1 = .ok (q.2.1, q.2.2) := by decide +kernel
noncomputable def kX13_isNote_97 (d : Nat) (p0 : Nat) (p1 : Nat) (i2 : Int32) (i3 : Int32) (h : jm_H) : Option jm_R := jm_B d mX13_isNote (97, [some (.ref p0), some (.ref p1), some (.int i2), some (.int i3)], []) h
noncomputable def kX13_isNote_136 (d : Nat) (p0 : Nat) (p1 : Nat) (o2 : Option Value) (i3 : Int32) (h : jm_H) : Option jm_R := jm_B d mX13_isNote (136, [some (.ref p0), some (.ref p1), o2, some (.int i3)], []) h
theorem gX13_isNote_97 {d : Nat} {p0 : Nat} {p1 : Nat} {i2 : Int32} {i3 : Int32} {h : jm_H} {r : jm_R} (H : ((jr_R h p1 11 16 2).bind fun a51 => (jr_I h p1 11 20 0).bind fun x53 => (jm_asi h a51 0 i3 x53).bind fun h55 => (jr_I h55 p1 11 12 0).bind fun x57 => (jm_pf h55 p1 11 12 0 (.int (x57 + 1))).bind fun h59 => (if i2 = 4 then (jr_R h59 p1 11 0 2).bind fun a62 => (jr_I h59 p0 12 5 0).bind fun x64 => (jm_ali h59 a62 0 x64).bind fun x66 => (if x66 = 8 then kX13_isNote_136 d p0 p1 (some (.int i2)) i3 h59 else (jr_R h59 p1 11 17 2).bind fun a69 => (jr_I h59 p1 11 20 0).bind fun x71 => (jm_asi h59 a69 0 i3 x71).bind fun h73 => jm_O h73 p0 13 (jc_I (jm_D d mX13_eat [.ref p0, .ref p1, .int 59] h73) (fun x77 h75 => jm_Y .boolean x77 (some (.inl (some (.int x77)), h75))) jx)) else kX13_isNote_136 d p0 p1 (some (.int i2)) i3 h59)) = some r) : kX13_isNote_97 d p0 p1 i2 i3 h = some r := by
  show jm_B d mX13_isNote (97, [some (.ref p0), some (.ref p1), some (.int i2), some (.int i3)], []) h = some r
  refine Eq.trans (jb_nx (i := .aload_n 1) (n := 1) (q := (98, [some (.ref p0), some (.ref p1), some (.int i2), some (.int i3)], [.ref p1])) (jq qX13_isNote 58 rfl) rfl) ?_
  obtain ⟨a51, e52, H⟩ := jbd H
  refine Eq.trans (jb_nx (i := .getfield 216) (n := 3) (q := (101, [some (.ref p0), some (.ref p1), some (.int i2), some (.int i3)], [.ref a51])) (jq qX13_isNote 59 rfl) (jo_gf rfl (jr_R_inv e52))) ?_
  refine Eq.trans (jb_nx (i := .iload_n 3) (n := 1) (q := (102, [some (.ref p0), some (.ref p1), some (.int i2), some (.int i3)], [.int i3, .ref a51])) (jq qX13_isNote 60 rfl) rfl) ?_
  refine Eq.trans (jb_nx (i := .aload_n 1) (n := 1) (q := (103, [some (.ref p0), some (.ref p1), some (.int i2), some (.int i3)], [.ref p1, .int i3, .ref a51])) (jq qX13_isNote 61 rfl) rfl) ?_
  obtain ⟨x53, e54, H⟩ := jbd H
  refine Eq.trans (jb_nx (i := .getfield 347) (n := 3) (q := (106, [some (.ref p0), some (.ref p1), some (.int i2), some (.int i3)], [.int x53, .int i3, .ref a51])) (jq qX13_isNote 62 rfl) (jo_gf rfl (jr_I_inv e54))) ?_
  obtain ⟨h55, e56, H⟩ := jbd H
  refine Eq.trans (jb_nx (i := .iastore) (n := 1) (q := (107, [some (.ref p0), some (.ref p1), some (.int i2), some (.int i3)], [])) (jq qX13_isNote 63 rfl) (jo_ias e56)) ?_
  refine Eq.trans (jb_nx (i := .aload_n 1) (n := 1) (q := (108, [some (.ref p0), some (.ref p1), some (.int i2), some (.int i3)], [.ref p1])) (jq qX13_isNote 64 rfl) rfl) ?_
  refine Eq.trans (jb_nx (i := .dup) (n := 1) (q := (109, [some (.ref p0), some (.ref p1), some (.int i2), some (.int i3)], [.ref p1, .ref p1])) (jq qX13_isNote 65 rfl) rfl) ?_
  obtain ⟨x57, e58, H⟩ := jbd H
  refine Eq.trans (jb_nx (i := .getfield 273) (n := 3) (q := (112, [some (.ref p0), some (.ref p1), some (.int i2), some (.int i3)], [.int x57, .ref p1])) (jq qX13_isNote 66 rfl) (jo_gf rfl (jr_I_inv e58))) ?_
  refine Eq.trans (jb_nx (i := .iconst 1) (n := 1) (q := (113, [some (.ref p0), some (.ref p1), some (.int i2), some (.int i3)], [.int 1, .int x57, .ref p1])) (jq qX13_isNote 67 rfl) rfl) ?_
  refine Eq.trans (jb_nx (i := .iadd) (n := 1) (q := (114, [some (.ref p0), some (.ref p1), some (.int i2), some (.int i3)], [.int (x57 + 1), .ref p1])) (jq qX13_isNote 68 rfl) rfl) ?_
  obtain ⟨h59, e60, H⟩ := jbd H
  refine Eq.trans (jb_nx (i := .putfield 273) (n := 3) (q := (117, [some (.ref p0), some (.ref p1), some (.int i2), some (.int i3)], [])) (jq qX13_isNote 69 rfl) (jo_pf rfl (Or.inl rfl) e60)) ?_
  refine Eq.trans (jb_nx (i := .iload_n 2) (n := 1) (q := (118, [some (.ref p0), some (.ref p1), some (.int i2), some (.int i3)], [.int i2])) (jq qX13_isNote 70 rfl) rfl) ?_
  refine Eq.trans (jb_nx (i := .iconst 4) (n := 1) (q := (119, [some (.ref p0), some (.ref p1), some (.int i2), some (.int i3)], [.int 4, .int i2])) (jq qX13_isNote 71 rfl) rfl) ?_
  by_cases c61 : i2 = 4
  · rw [if_pos c61] at H
    refine Eq.trans (jb_nx (i := .if_icmp .ne 17) (n := 3) (q := (122, [some (.ref p0), some (.ref p1), some (.int i2), some (.int i3)], [])) (jq qX13_isNote 72 rfl) (jo_icF (jz_neF c61))) ?_
    refine Eq.trans (jb_nx (i := .aload_n 1) (n := 1) (q := (123, [some (.ref p0), some (.ref p1), some (.int i2), some (.int i3)], [.ref p1])) (jq qX13_isNote 73 rfl) rfl) ?_
    obtain ⟨a62, e63, H⟩ := jbd H
    refine Eq.trans (jb_nx (i := .getfield 323) (n := 3) (q := (126, [some (.ref p0), some (.ref p1), some (.int i2), some (.int i3)], [.ref a62])) (jq qX13_isNote 74 rfl) (jo_gf rfl (jr_R_inv e63))) ?_
    refine Eq.trans (jb_nx (i := .aload_n 0) (n := 1) (q := (127, [some (.ref p0), some (.ref p1), some (.int i2), some (.int i3)], [.ref p0, .ref a62])) (jq qX13_isNote 75 rfl) rfl) ?_
    obtain ⟨x64, e65, H⟩ := jbd H
    refine Eq.trans (jb_nx (i := .getfield 329) (n := 3) (q := (130, [some (.ref p0), some (.ref p1), some (.int i2), some (.int i3)], [.int x64, .ref a62])) (jq qX13_isNote 76 rfl) (jo_gf rfl (jr_I_inv e65))) ?_
    obtain ⟨x66, e67, H⟩ := jbd H
    refine Eq.trans (jb_nx (i := .iaload) (n := 1) (q := (131, [some (.ref p0), some (.ref p1), some (.int i2), some (.int i3)], [.int x66])) (jq qX13_isNote 77 rfl) (jo_ial e67)) ?_
    refine Eq.trans (jb_nx (i := .bipush 8) (n := 2) (q := (133, [some (.ref p0), some (.ref p1), some (.int i2), some (.int i3)], [.int 8, .int x66])) (jq qX13_isNote 78 rfl) rfl) ?_
    by_cases c68 : x66 = 8
    · rw [if_pos c68] at H
      refine Eq.trans (jb_nx (i := .if_icmp .ne 23) (n := 3) (q := (136, [some (.ref p0), some (.ref p1), some (.int i2), some (.int i3)], [])) (jq qX13_isNote 79 rfl) (jo_icF (jz_neF c68))) ?_
      exact H
    · rw [if_neg c68] at H
      refine Eq.trans (jb_nx (i := .if_icmp .ne 23) (n := 3) (q := (156, [some (.ref p0), some (.ref p1), some (.int i2), some (.int i3)], [])) (jq qX13_isNote 79 rfl) (jo_icT (jz_neT c68) rfl)) ?_
      refine Eq.trans (jb_nx (i := .aload_n 1) (n := 1) (q := (157, [some (.ref p0), some (.ref p1), some (.int i2), some (.int i3)], [.ref p1])) (jq qX13_isNote 91 rfl) rfl) ?_
      obtain ⟨a69, e70, H⟩ := jbd H
      refine Eq.trans (jb_nx (i := .getfield 219) (n := 3) (q := (160, [some (.ref p0), some (.ref p1), some (.int i2), some (.int i3)], [.ref a69])) (jq qX13_isNote 92 rfl) (jo_gf rfl (jr_R_inv e70))) ?_
      refine Eq.trans (jb_nx (i := .iload_n 3) (n := 1) (q := (161, [some (.ref p0), some (.ref p1), some (.int i2), some (.int i3)], [.int i3, .ref a69])) (jq qX13_isNote 93 rfl) rfl) ?_
      refine Eq.trans (jb_nx (i := .aload_n 1) (n := 1) (q := (162, [some (.ref p0), some (.ref p1), some (.int i2), some (.int i3)], [.ref p1, .int i3, .ref a69])) (jq qX13_isNote 94 rfl) rfl) ?_
      obtain ⟨x71, e72, H⟩ := jbd H
      refine Eq.trans (jb_nx (i := .getfield 347) (n := 3) (q := (165, [some (.ref p0), some (.ref p1), some (.int i2), some (.int i3)], [.int x71, .int i3, .ref a69])) (jq qX13_isNote 95 rfl) (jo_gf rfl (jr_I_inv e72))) ?_
      obtain ⟨h73, e74, H⟩ := jbd H
      refine Eq.trans (jb_nx (i := .iastore) (n := 1) (q := (166, [some (.ref p0), some (.ref p1), some (.int i2), some (.int i3)], [])) (jq qX13_isNote 96 rfl) (jo_ias e74)) ?_
      refine Eq.trans (jb_nx (i := .aload_n 0) (n := 1) (q := (167, [some (.ref p0), some (.ref p1), some (.int i2), some (.int i3)], [.ref p0])) (jq qX13_isNote 97 rfl) rfl) ?_
      refine Eq.trans (jb_nx (i := .aload_n 1) (n := 1) (q := (168, [some (.ref p0), some (.ref p1), some (.int i2), some (.int i3)], [.ref p1, .ref p0])) (jq qX13_isNote 98 rfl) rfl) ?_
      refine Eq.trans (jb_nx (i := .bipush 59) (n := 2) (q := (170, [some (.ref p0), some (.ref p1), some (.int i2), some (.int i3)], [.int 59, .ref p1, .ref p0])) (jq qX13_isNote 99 rfl) rfl) ?_
      obtain ⟨b79, H⟩ := jm_O_inv H
      rcases jcI H with ⟨x77, h75, r76, H⟩ | ⟨w80, h81, r76, H⟩
      · refine Eq.trans (jb_nx (i := .invokevirtual 340) (n := 3) (q := (173, [some (.ref p0), some (.ref p1), some (.int i2), some (.int i3)], [.int x77])) (jq qX13_isNote 100 rfl) (jo_cv (y := mX13_eat) rfl (Nat.le_of_ble_eq_true rfl) rfl (Nat.le_of_ble_eq_true rfl) b79 rfl r76 jo_ret)) ?_
        obtain ⟨u78, H⟩ := jm_Y_inv H
        exact Eq.trans (jb_rt (i := .ireturn) (n := 1) (jq qX13_isNote 101 rfl) (jo_iret rfl u78)) H
      · exact Eq.trans (jb_rt (i := .invokevirtual 340) (n := 3) (jq qX13_isNote 100 rfl) (jo_cv (y := mX13_eat) rfl (Nat.le_of_ble_eq_true rfl) rfl (Nat.le_of_ble_eq_true rfl) b79 rfl r76 (jo_exn rfl))) H
  · rw [if_neg c61] at H
    refine Eq.trans (jb_nx (i := .if_icmp .ne 17) (n := 3) (q := (136, [some (.ref p0), some (.ref p1), some (.int i2), some (.int i3)], [])) (jq qX13_isNote 72 rfl) (jo_icT (jz_neT c61) rfl)) ?_
    exact H
theorem gX13_isNote_136 {d : Nat} {p0 : Nat} {p1 : Nat} {o2 : Option Value} {i3 : Int32} {h : jm_H} {r : jm_R} (H : (jm_O h p0 13 (jc_I (jm_D d mX13_eat [.ref p0, .ref p1, .int 8] h) (fun x84 h82 => (if x84 = 0 then some (.inl (some (.int 0)), h82) else jm_O h82 p0 13 (jc_I (jm_D d mX13_isTest [.ref p0, .ref p1] h82) (fun x88 h86 => (if x88 = 0 then some (.inl (some (.int 0)), h86) else (jr_R h86 p1 11 17 2).bind fun a90 => (jr_I h86 p1 11 20 0).bind fun x92 => (jm_asi h86 a90 0 i3 x92).bind fun h94 => jm_O h94 p0 13 (jc_I (jm_D d mX13_eat [.ref p0, .ref p1, .int 59] h94) (fun x98 h96 => jm_Y .boolean x98 (some (.inl (some (.int x98)), h96))) jx))) jx))) jx)) = some r) : kX13_isNote_136 d p0 p1 o2 i3 h = some r := by
  show jm_B d mX13_isNote (136, [some (.ref p0), some (.ref p1), o2, some (.int i3)], []) h = some r
  refine Eq.trans (jb_nx (i := .aload_n 0) (n := 1) (q := (137, [some (.ref p0), some (.ref p1), o2, some (.int i3)], [.ref p0])) (jq qX13_isNote 80 rfl) rfl) ?_
  refine Eq.trans (jb_nx (i := .aload_n 1) (n := 1) (q := (138, [some (.ref p0), some (.ref p1), o2, some (.int i3)], [.ref p1, .ref p0])) (jq qX13_isNote 81 rfl) rfl) ?_
  refine Eq.trans (jb_nx (i := .bipush 8) (n := 2) (q := (140, [some (.ref p0), some (.ref p1), o2, some (.int i3)], [.int 8, .ref p1, .ref p0])) (jq qX13_isNote 82 rfl) rfl) ?_
  obtain ⟨b106, H⟩ := jm_O_inv H
  rcases jcI H with ⟨x84, h82, r83, H⟩ | ⟨w107, h108, r83, H⟩
  · refine Eq.trans (jb_nx (i := .invokevirtual 340) (n := 3) (q := (143, [some (.ref p0), some (.ref p1), o2, some (.int i3)], [.int x84])) (jq qX13_isNote 83 rfl) (jo_cv (y := mX13_eat) rfl (Nat.le_of_ble_eq_true rfl) rfl (Nat.le_of_ble_eq_true rfl) b106 rfl r83 jo_ret)) ?_
    by_cases c85 : x84 = 0
    · rw [if_pos c85] at H
      refine Eq.trans (jb_nx (i := .ifCond .eq 11) (n := 3) (q := (154, [some (.ref p0), some (.ref p1), o2, some (.int i3)], [])) (jq qX13_isNote 84 rfl) (jo_ifT (jz_eqT c85) rfl)) ?_
      refine Eq.trans (jb_nx (i := .iconst 0) (n := 1) (q := (155, [some (.ref p0), some (.ref p1), o2, some (.int i3)], [.int 0])) (jq qX13_isNote 89 rfl) rfl) ?_
      exact Eq.trans (jb_rt (i := .ireturn) (n := 1) (jq qX13_isNote 90 rfl) (jo_iret rfl (by decide))) H
    · rw [if_neg c85] at H
      refine Eq.trans (jb_nx (i := .ifCond .eq 11) (n := 3) (q := (146, [some (.ref p0), some (.ref p1), o2, some (.int i3)], [])) (jq qX13_isNote 84 rfl) (jo_ifF (jz_eqF c85))) ?_
      refine Eq.trans (jb_nx (i := .aload_n 0) (n := 1) (q := (147, [some (.ref p0), some (.ref p1), o2, some (.int i3)], [.ref p0])) (jq qX13_isNote 85 rfl) rfl) ?_
      refine Eq.trans (jb_nx (i := .aload_n 1) (n := 1) (q := (148, [some (.ref p0), some (.ref p1), o2, some (.int i3)], [.ref p1, .ref p0])) (jq qX13_isNote 86 rfl) rfl) ?_
      obtain ⟨b103, H⟩ := jm_O_inv H
      rcases jcI H with ⟨x88, h86, r87, H⟩ | ⟨w104, h105, r87, H⟩
      · refine Eq.trans (jb_nx (i := .invokevirtual 384) (n := 3) (q := (151, [some (.ref p0), some (.ref p1), o2, some (.int i3)], [.int x88])) (jq qX13_isNote 87 rfl) (jo_cv (y := mX13_isTest) rfl (Nat.le_of_ble_eq_true rfl) rfl (Nat.le_of_ble_eq_true rfl) b103 rfl r87 jo_ret)) ?_
        by_cases c89 : x88 = 0
        · rw [if_pos c89] at H
          refine Eq.trans (jb_nx (i := .ifCond .ne 5) (n := 3) (q := (154, [some (.ref p0), some (.ref p1), o2, some (.int i3)], [])) (jq qX13_isNote 88 rfl) (jo_ifF (jz_neF c89))) ?_
          refine Eq.trans (jb_nx (i := .iconst 0) (n := 1) (q := (155, [some (.ref p0), some (.ref p1), o2, some (.int i3)], [.int 0])) (jq qX13_isNote 89 rfl) rfl) ?_
          exact Eq.trans (jb_rt (i := .ireturn) (n := 1) (jq qX13_isNote 90 rfl) (jo_iret rfl (by decide))) H
        · rw [if_neg c89] at H
          refine Eq.trans (jb_nx (i := .ifCond .ne 5) (n := 3) (q := (156, [some (.ref p0), some (.ref p1), o2, some (.int i3)], [])) (jq qX13_isNote 88 rfl) (jo_ifT (jz_neT c89) rfl)) ?_
          refine Eq.trans (jb_nx (i := .aload_n 1) (n := 1) (q := (157, [some (.ref p0), some (.ref p1), o2, some (.int i3)], [.ref p1])) (jq qX13_isNote 91 rfl) rfl) ?_
          obtain ⟨a90, e91, H⟩ := jbd H
          refine Eq.trans (jb_nx (i := .getfield 219) (n := 3) (q := (160, [some (.ref p0), some (.ref p1), o2, some (.int i3)], [.ref a90])) (jq qX13_isNote 92 rfl) (jo_gf rfl (jr_R_inv e91))) ?_
          refine Eq.trans (jb_nx (i := .iload_n 3) (n := 1) (q := (161, [some (.ref p0), some (.ref p1), o2, some (.int i3)], [.int i3, .ref a90])) (jq qX13_isNote 93 rfl) rfl) ?_
          refine Eq.trans (jb_nx (i := .aload_n 1) (n := 1) (q := (162, [some (.ref p0), some (.ref p1), o2, some (.int i3)], [.ref p1, .int i3, .ref a90])) (jq qX13_isNote 94 rfl) rfl) ?_
          obtain ⟨x92, e93, H⟩ := jbd H
          refine Eq.trans (jb_nx (i := .getfield 347) (n := 3) (q := (165, [some (.ref p0), some (.ref p1), o2, some (.int i3)], [.int x92, .int i3, .ref a90])) (jq qX13_isNote 95 rfl) (jo_gf rfl (jr_I_inv e93))) ?_
          obtain ⟨h94, e95, H⟩ := jbd H
          refine Eq.trans (jb_nx (i := .iastore) (n := 1) (q := (166, [some (.ref p0), some (.ref p1), o2, some (.int i3)], [])) (jq qX13_isNote 96 rfl) (jo_ias e95)) ?_
          refine Eq.trans (jb_nx (i := .aload_n 0) (n := 1) (q := (167, [some (.ref p0), some (.ref p1), o2, some (.int i3)], [.ref p0])) (jq qX13_isNote 97 rfl) rfl) ?_
          refine Eq.trans (jb_nx (i := .aload_n 1) (n := 1) (q := (168, [some (.ref p0), some (.ref p1), o2, some (.int i3)], [.ref p1, .ref p0])) (jq qX13_isNote 98 rfl) rfl) ?_
          refine Eq.trans (jb_nx (i := .bipush 59) (n := 2) (q := (170, [some (.ref p0), some (.ref p1), o2, some (.int i3)], [.int 59, .ref p1, .ref p0])) (jq qX13_isNote 99 rfl) rfl) ?_
          obtain ⟨b100, H⟩ := jm_O_inv H
          rcases jcI H with ⟨x98, h96, r97, H⟩ | ⟨w101, h102, r97, H⟩
          · refine Eq.trans (jb_nx (i := .invokevirtual 340) (n := 3) (q := (173, [some (.ref p0), some (.ref p1), o2, some (.int i3)], [.int x98])) (jq qX13_isNote 100 rfl) (jo_cv (y := mX13_eat) rfl (Nat.le_of_ble_eq_true rfl) rfl (Nat.le_of_ble_eq_true rfl) b100 rfl r97 jo_ret)) ?_
            obtain ⟨u99, H⟩ := jm_Y_inv H
            exact Eq.trans (jb_rt (i := .ireturn) (n := 1) (jq qX13_isNote 101 rfl) (jo_iret rfl u99)) H
          · exact Eq.trans (jb_rt (i := .invokevirtual 340) (n := 3) (jq qX13_isNote 100 rfl) (jo_cv (y := mX13_eat) rfl (Nat.le_of_ble_eq_true rfl) rfl (Nat.le_of_ble_eq_true rfl) b100 rfl r97 (jo_exn rfl))) H
      · exact Eq.trans (jb_rt (i := .invokevirtual 384) (n := 3) (jq qX13_isNote 87 rfl) (jo_cv (y := mX13_isTest) rfl (Nat.le_of_ble_eq_true rfl) rfl (Nat.le_of_ble_eq_true rfl) b103 rfl r87 (jo_exn rfl))) H
  · exact Eq.trans (jb_rt (i := .invokevirtual 340) (n := 3) (jq qX13_isNote 83 rfl) (jo_cv (y := mX13_eat) rfl (Nat.le_of_ble_eq_true rfl) rfl (Nat.le_of_ble_eq_true rfl) b106 rfl r83 (jo_exn rfl))) H
theorem gX13_isNote {d : Nat} {p0 : Nat} {p1 : Nat} {i2 : Int32} {h : jm_H} {r : jm_R} (H : ((jr_I h p1 11 12 0).bind fun x1 => (jr_R h p1 11 2 2).bind fun a3 => (jr_I h p0 12 5 0).bind fun x5 => (jm_asi h a3 0 x5 6).bind fun h7 => (jr_I h7 p0 12 5 0).bind fun x9 => (jm_pf h7 p0 12 5 0 (.int (x9 + 1))).bind fun h11 => (jr_R h11 p1 11 13 2).bind fun a13 => (jm_asi h11 a13 0 (if x1 < 15 then x1 else 15) i2).bind fun h15 => (jr_R h15 p1 11 14 2).bind fun a17 => (jr_I h15 p0 12 5 0).bind fun x19 => (jm_asi h15 a17 0 (if x1 < 15 then x1 else 15) x19).bind fun h21 => jm_O h21 p0 13 (jc_I (jm_D d mX13_name [.ref p0, .ref p1, .int 5] h21) (fun x25 h23 => (if x25 = 0 then some (.inl (some (.int 0)), h23) else (if i2 = 5 then jm_O h23 p0 13 (jc_I (jm_D d mX13_eat [.ref p0, .ref p1, .int 6] h23) (fun x30 h28 => (if x30 = 0 then some (.inl (some (.int 0)), h28) else (jr_R h28 p1 11 15 2).bind fun a32 => (jr_I h28 p0 12 5 0).bind fun x34 => (jm_asi h28 a32 0 (if x1 < 15 then x1 else 15) x34).bind fun h36 => jm_O h36 p0 13 (jc_I (jm_D d mX13_name [.ref p0, .ref p1, .int 5] h36) (fun x40 h38 => (if x40 = 0 then some (.inl (some (.int 0)), h38) else kX13_isNote_97 d p0 p1 i2 (if x1 < 15 then x1 else 15) h38)) jx))) jx) else kX13_isNote_97 d p0 p1 i2 (if x1 < 15 then x1 else 15) h23))) jx)) = some r) : jm_D (d + 1) mX13_isNote [.ref p0, .ref p1, .int i2] h = some r := by
  rw [jm_D_body (Nat.le_of_ble_eq_true rfl)]
  show jm_B d mX13_isNote (0, [some (.ref p0), some (.ref p1), some (.int i2), none], []) h = some r
  refine Eq.trans (jb_nx (i := .bipush 15) (n := 2) (q := (2, [some (.ref p0), some (.ref p1), some (.int i2), none], [.int 15])) (jq qX13_isNote 0 rfl) rfl) ?_
  refine Eq.trans (jb_nx (i := .aload_n 1) (n := 1) (q := (3, [some (.ref p0), some (.ref p1), some (.int i2), none], [.ref p1, .int 15])) (jq qX13_isNote 1 rfl) rfl) ?_
  obtain ⟨x1, e2, H⟩ := jbd H
  refine Eq.trans (jb_nx (i := .getfield 273) (n := 3) (q := (6, [some (.ref p0), some (.ref p1), some (.int i2), none], [.int x1, .int 15])) (jq qX13_isNote 2 rfl) (jo_gf rfl (jr_I_inv e2))) ?_
  refine Eq.trans (jb_nx (i := .invokestatic 204) (n := 3) (q := (9, [some (.ref p0), some (.ref p1), some (.int i2), none], [.int (if x1 < 15 then x1 else 15)])) (jq qX13_isNote 3 rfl) (jo_mn (z := mX3_clear) rfl (Nat.le_of_ble_eq_true rfl))) ?_
  refine Eq.trans (jb_nx (i := .istore_n 3) (n := 1) (q := (10, [some (.ref p0), some (.ref p1), some (.int i2), some (.int (if x1 < 15 then x1 else 15))], [])) (jq qX13_isNote 4 rfl) rfl) ?_
  refine Eq.trans (jb_nx (i := .aload_n 1) (n := 1) (q := (11, [some (.ref p0), some (.ref p1), some (.int i2), some (.int (if x1 < 15 then x1 else 15))], [.ref p1])) (jq qX13_isNote 5 rfl) rfl) ?_
  obtain ⟨a3, e4, H⟩ := jbd H
  refine Eq.trans (jb_nx (i := .getfield 332) (n := 3) (q := (14, [some (.ref p0), some (.ref p1), some (.int i2), some (.int (if x1 < 15 then x1 else 15))], [.ref a3])) (jq qX13_isNote 6 rfl) (jo_gf rfl (jr_R_inv e4))) ?_
  refine Eq.trans (jb_nx (i := .aload_n 0) (n := 1) (q := (15, [some (.ref p0), some (.ref p1), some (.int i2), some (.int (if x1 < 15 then x1 else 15))], [.ref p0, .ref a3])) (jq qX13_isNote 7 rfl) rfl) ?_
  obtain ⟨x5, e6, H⟩ := jbd H
  refine Eq.trans (jb_nx (i := .getfield 329) (n := 3) (q := (18, [some (.ref p0), some (.ref p1), some (.int i2), some (.int (if x1 < 15 then x1 else 15))], [.int x5, .ref a3])) (jq qX13_isNote 8 rfl) (jo_gf rfl (jr_I_inv e6))) ?_
  refine Eq.trans (jb_nx (i := .bipush 6) (n := 2) (q := (20, [some (.ref p0), some (.ref p1), some (.int i2), some (.int (if x1 < 15 then x1 else 15))], [.int 6, .int x5, .ref a3])) (jq qX13_isNote 9 rfl) rfl) ?_
  obtain ⟨h7, e8, H⟩ := jbd H
  refine Eq.trans (jb_nx (i := .iastore) (n := 1) (q := (21, [some (.ref p0), some (.ref p1), some (.int i2), some (.int (if x1 < 15 then x1 else 15))], [])) (jq qX13_isNote 10 rfl) (jo_ias e8)) ?_
  refine Eq.trans (jb_nx (i := .aload_n 0) (n := 1) (q := (22, [some (.ref p0), some (.ref p1), some (.int i2), some (.int (if x1 < 15 then x1 else 15))], [.ref p0])) (jq qX13_isNote 11 rfl) rfl) ?_
  refine Eq.trans (jb_nx (i := .dup) (n := 1) (q := (23, [some (.ref p0), some (.ref p1), some (.int i2), some (.int (if x1 < 15 then x1 else 15))], [.ref p0, .ref p0])) (jq qX13_isNote 12 rfl) rfl) ?_
  obtain ⟨x9, e10, H⟩ := jbd H
  refine Eq.trans (jb_nx (i := .getfield 329) (n := 3) (q := (26, [some (.ref p0), some (.ref p1), some (.int i2), some (.int (if x1 < 15 then x1 else 15))], [.int x9, .ref p0])) (jq qX13_isNote 13 rfl) (jo_gf rfl (jr_I_inv e10))) ?_
  refine Eq.trans (jb_nx (i := .iconst 1) (n := 1) (q := (27, [some (.ref p0), some (.ref p1), some (.int i2), some (.int (if x1 < 15 then x1 else 15))], [.int 1, .int x9, .ref p0])) (jq qX13_isNote 14 rfl) rfl) ?_
  refine Eq.trans (jb_nx (i := .iadd) (n := 1) (q := (28, [some (.ref p0), some (.ref p1), some (.int i2), some (.int (if x1 < 15 then x1 else 15))], [.int (x9 + 1), .ref p0])) (jq qX13_isNote 15 rfl) rfl) ?_
  obtain ⟨h11, e12, H⟩ := jbd H
  refine Eq.trans (jb_nx (i := .putfield 329) (n := 3) (q := (31, [some (.ref p0), some (.ref p1), some (.int i2), some (.int (if x1 < 15 then x1 else 15))], [])) (jq qX13_isNote 16 rfl) (jo_pf rfl (Or.inl rfl) e12)) ?_
  refine Eq.trans (jb_nx (i := .aload_n 1) (n := 1) (q := (32, [some (.ref p0), some (.ref p1), some (.int i2), some (.int (if x1 < 15 then x1 else 15))], [.ref p1])) (jq qX13_isNote 17 rfl) rfl) ?_
  obtain ⟨a13, e14, H⟩ := jbd H
  refine Eq.trans (jb_nx (i := .getfield 244) (n := 3) (q := (35, [some (.ref p0), some (.ref p1), some (.int i2), some (.int (if x1 < 15 then x1 else 15))], [.ref a13])) (jq qX13_isNote 18 rfl) (jo_gf rfl (jr_R_inv e14))) ?_
  refine Eq.trans (jb_nx (i := .iload_n 3) (n := 1) (q := (36, [some (.ref p0), some (.ref p1), some (.int i2), some (.int (if x1 < 15 then x1 else 15))], [.int (if x1 < 15 then x1 else 15), .ref a13])) (jq qX13_isNote 19 rfl) rfl) ?_
  refine Eq.trans (jb_nx (i := .iload_n 2) (n := 1) (q := (37, [some (.ref p0), some (.ref p1), some (.int i2), some (.int (if x1 < 15 then x1 else 15))], [.int i2, .int (if x1 < 15 then x1 else 15), .ref a13])) (jq qX13_isNote 20 rfl) rfl) ?_
  obtain ⟨h15, e16, H⟩ := jbd H
  refine Eq.trans (jb_nx (i := .iastore) (n := 1) (q := (38, [some (.ref p0), some (.ref p1), some (.int i2), some (.int (if x1 < 15 then x1 else 15))], [])) (jq qX13_isNote 21 rfl) (jo_ias e16)) ?_
  refine Eq.trans (jb_nx (i := .aload_n 1) (n := 1) (q := (39, [some (.ref p0), some (.ref p1), some (.int i2), some (.int (if x1 < 15 then x1 else 15))], [.ref p1])) (jq qX13_isNote 22 rfl) rfl) ?_
  obtain ⟨a17, e18, H⟩ := jbd H
  refine Eq.trans (jb_nx (i := .getfield 238) (n := 3) (q := (42, [some (.ref p0), some (.ref p1), some (.int i2), some (.int (if x1 < 15 then x1 else 15))], [.ref a17])) (jq qX13_isNote 23 rfl) (jo_gf rfl (jr_R_inv e18))) ?_
  refine Eq.trans (jb_nx (i := .iload_n 3) (n := 1) (q := (43, [some (.ref p0), some (.ref p1), some (.int i2), some (.int (if x1 < 15 then x1 else 15))], [.int (if x1 < 15 then x1 else 15), .ref a17])) (jq qX13_isNote 24 rfl) rfl) ?_
  refine Eq.trans (jb_nx (i := .aload_n 0) (n := 1) (q := (44, [some (.ref p0), some (.ref p1), some (.int i2), some (.int (if x1 < 15 then x1 else 15))], [.ref p0, .int (if x1 < 15 then x1 else 15), .ref a17])) (jq qX13_isNote 25 rfl) rfl) ?_
  obtain ⟨x19, e20, H⟩ := jbd H
  refine Eq.trans (jb_nx (i := .getfield 329) (n := 3) (q := (47, [some (.ref p0), some (.ref p1), some (.int i2), some (.int (if x1 < 15 then x1 else 15))], [.int x19, .int (if x1 < 15 then x1 else 15), .ref a17])) (jq qX13_isNote 26 rfl) (jo_gf rfl (jr_I_inv e20))) ?_
  obtain ⟨h21, e22, H⟩ := jbd H
  refine Eq.trans (jb_nx (i := .iastore) (n := 1) (q := (48, [some (.ref p0), some (.ref p1), some (.int i2), some (.int (if x1 < 15 then x1 else 15))], [])) (jq qX13_isNote 27 rfl) (jo_ias e22)) ?_
  refine Eq.trans (jb_nx (i := .aload_n 0) (n := 1) (q := (49, [some (.ref p0), some (.ref p1), some (.int i2), some (.int (if x1 < 15 then x1 else 15))], [.ref p0])) (jq qX13_isNote 28 rfl) rfl) ?_
  refine Eq.trans (jb_nx (i := .aload_n 1) (n := 1) (q := (50, [some (.ref p0), some (.ref p1), some (.int i2), some (.int (if x1 < 15 then x1 else 15))], [.ref p1, .ref p0])) (jq qX13_isNote 29 rfl) rfl) ?_
  refine Eq.trans (jb_nx (i := .iconst 5) (n := 1) (q := (51, [some (.ref p0), some (.ref p1), some (.int i2), some (.int (if x1 < 15 then x1 else 15))], [.int 5, .ref p1, .ref p0])) (jq qX13_isNote 30 rfl) rfl) ?_
  obtain ⟨b48, H⟩ := jm_O_inv H
  rcases jcI H with ⟨x25, h23, r24, H⟩ | ⟨w49, h50, r24, H⟩
  · refine Eq.trans (jb_nx (i := .invokevirtual 360) (n := 3) (q := (54, [some (.ref p0), some (.ref p1), some (.int i2), some (.int (if x1 < 15 then x1 else 15))], [.int x25])) (jq qX13_isNote 31 rfl) (jo_cv (y := mX13_name) rfl (Nat.le_of_ble_eq_true rfl) rfl (Nat.le_of_ble_eq_true rfl) b48 rfl r24 jo_ret)) ?_
    by_cases c26 : x25 = 0
    · rw [if_pos c26] at H
      refine Eq.trans (jb_nx (i := .ifCond .ne 5) (n := 3) (q := (57, [some (.ref p0), some (.ref p1), some (.int i2), some (.int (if x1 < 15 then x1 else 15))], [])) (jq qX13_isNote 32 rfl) (jo_ifF (jz_neF c26))) ?_
      refine Eq.trans (jb_nx (i := .iconst 0) (n := 1) (q := (58, [some (.ref p0), some (.ref p1), some (.int i2), some (.int (if x1 < 15 then x1 else 15))], [.int 0])) (jq qX13_isNote 33 rfl) rfl) ?_
      exact Eq.trans (jb_rt (i := .ireturn) (n := 1) (jq qX13_isNote 34 rfl) (jo_iret rfl (by decide))) H
    · rw [if_neg c26] at H
      refine Eq.trans (jb_nx (i := .ifCond .ne 5) (n := 3) (q := (59, [some (.ref p0), some (.ref p1), some (.int i2), some (.int (if x1 < 15 then x1 else 15))], [])) (jq qX13_isNote 32 rfl) (jo_ifT (jz_neT c26) rfl)) ?_
      refine Eq.trans (jb_nx (i := .iload_n 2) (n := 1) (q := (60, [some (.ref p0), some (.ref p1), some (.int i2), some (.int (if x1 < 15 then x1 else 15))], [.int i2])) (jq qX13_isNote 35 rfl) rfl) ?_
      refine Eq.trans (jb_nx (i := .iconst 5) (n := 1) (q := (61, [some (.ref p0), some (.ref p1), some (.int i2), some (.int (if x1 < 15 then x1 else 15))], [.int 5, .int i2])) (jq qX13_isNote 36 rfl) rfl) ?_
      by_cases c27 : i2 = 5
      · rw [if_pos c27] at H
        refine Eq.trans (jb_nx (i := .if_icmp .ne 36) (n := 3) (q := (64, [some (.ref p0), some (.ref p1), some (.int i2), some (.int (if x1 < 15 then x1 else 15))], [])) (jq qX13_isNote 37 rfl) (jo_icF (jz_neF c27))) ?_
        refine Eq.trans (jb_nx (i := .aload_n 0) (n := 1) (q := (65, [some (.ref p0), some (.ref p1), some (.int i2), some (.int (if x1 < 15 then x1 else 15))], [.ref p0])) (jq qX13_isNote 38 rfl) rfl) ?_
        refine Eq.trans (jb_nx (i := .aload_n 1) (n := 1) (q := (66, [some (.ref p0), some (.ref p1), some (.int i2), some (.int (if x1 < 15 then x1 else 15))], [.ref p1, .ref p0])) (jq qX13_isNote 39 rfl) rfl) ?_
        refine Eq.trans (jb_nx (i := .bipush 6) (n := 2) (q := (68, [some (.ref p0), some (.ref p1), some (.int i2), some (.int (if x1 < 15 then x1 else 15))], [.int 6, .ref p1, .ref p0])) (jq qX13_isNote 40 rfl) rfl) ?_
        obtain ⟨b45, H⟩ := jm_O_inv H
        rcases jcI H with ⟨x30, h28, r29, H⟩ | ⟨w46, h47, r29, H⟩
        · refine Eq.trans (jb_nx (i := .invokevirtual 340) (n := 3) (q := (71, [some (.ref p0), some (.ref p1), some (.int i2), some (.int (if x1 < 15 then x1 else 15))], [.int x30])) (jq qX13_isNote 41 rfl) (jo_cv (y := mX13_eat) rfl (Nat.le_of_ble_eq_true rfl) rfl (Nat.le_of_ble_eq_true rfl) b45 rfl r29 jo_ret)) ?_
          by_cases c31 : x30 = 0
          · rw [if_pos c31] at H
            refine Eq.trans (jb_nx (i := .ifCond .ne 5) (n := 3) (q := (74, [some (.ref p0), some (.ref p1), some (.int i2), some (.int (if x1 < 15 then x1 else 15))], [])) (jq qX13_isNote 42 rfl) (jo_ifF (jz_neF c31))) ?_
            refine Eq.trans (jb_nx (i := .iconst 0) (n := 1) (q := (75, [some (.ref p0), some (.ref p1), some (.int i2), some (.int (if x1 < 15 then x1 else 15))], [.int 0])) (jq qX13_isNote 43 rfl) rfl) ?_
            exact Eq.trans (jb_rt (i := .ireturn) (n := 1) (jq qX13_isNote 44 rfl) (jo_iret rfl (by decide))) H
          · rw [if_neg c31] at H
            refine Eq.trans (jb_nx (i := .ifCond .ne 5) (n := 3) (q := (76, [some (.ref p0), some (.ref p1), some (.int i2), some (.int (if x1 < 15 then x1 else 15))], [])) (jq qX13_isNote 42 rfl) (jo_ifT (jz_neT c31) rfl)) ?_
            refine Eq.trans (jb_nx (i := .aload_n 1) (n := 1) (q := (77, [some (.ref p0), some (.ref p1), some (.int i2), some (.int (if x1 < 15 then x1 else 15))], [.ref p1])) (jq qX13_isNote 45 rfl) rfl) ?_
            obtain ⟨a32, e33, H⟩ := jbd H
            refine Eq.trans (jb_nx (i := .getfield 247) (n := 3) (q := (80, [some (.ref p0), some (.ref p1), some (.int i2), some (.int (if x1 < 15 then x1 else 15))], [.ref a32])) (jq qX13_isNote 46 rfl) (jo_gf rfl (jr_R_inv e33))) ?_
            refine Eq.trans (jb_nx (i := .iload_n 3) (n := 1) (q := (81, [some (.ref p0), some (.ref p1), some (.int i2), some (.int (if x1 < 15 then x1 else 15))], [.int (if x1 < 15 then x1 else 15), .ref a32])) (jq qX13_isNote 47 rfl) rfl) ?_
            refine Eq.trans (jb_nx (i := .aload_n 0) (n := 1) (q := (82, [some (.ref p0), some (.ref p1), some (.int i2), some (.int (if x1 < 15 then x1 else 15))], [.ref p0, .int (if x1 < 15 then x1 else 15), .ref a32])) (jq qX13_isNote 48 rfl) rfl) ?_
            obtain ⟨x34, e35, H⟩ := jbd H
            refine Eq.trans (jb_nx (i := .getfield 329) (n := 3) (q := (85, [some (.ref p0), some (.ref p1), some (.int i2), some (.int (if x1 < 15 then x1 else 15))], [.int x34, .int (if x1 < 15 then x1 else 15), .ref a32])) (jq qX13_isNote 49 rfl) (jo_gf rfl (jr_I_inv e35))) ?_
            obtain ⟨h36, e37, H⟩ := jbd H
            refine Eq.trans (jb_nx (i := .iastore) (n := 1) (q := (86, [some (.ref p0), some (.ref p1), some (.int i2), some (.int (if x1 < 15 then x1 else 15))], [])) (jq qX13_isNote 50 rfl) (jo_ias e37)) ?_
            refine Eq.trans (jb_nx (i := .aload_n 0) (n := 1) (q := (87, [some (.ref p0), some (.ref p1), some (.int i2), some (.int (if x1 < 15 then x1 else 15))], [.ref p0])) (jq qX13_isNote 51 rfl) rfl) ?_
            refine Eq.trans (jb_nx (i := .aload_n 1) (n := 1) (q := (88, [some (.ref p0), some (.ref p1), some (.int i2), some (.int (if x1 < 15 then x1 else 15))], [.ref p1, .ref p0])) (jq qX13_isNote 52 rfl) rfl) ?_
            refine Eq.trans (jb_nx (i := .iconst 5) (n := 1) (q := (89, [some (.ref p0), some (.ref p1), some (.int i2), some (.int (if x1 < 15 then x1 else 15))], [.int 5, .ref p1, .ref p0])) (jq qX13_isNote 53 rfl) rfl) ?_
            obtain ⟨b42, H⟩ := jm_O_inv H
            rcases jcI H with ⟨x40, h38, r39, H⟩ | ⟨w43, h44, r39, H⟩
            · refine Eq.trans (jb_nx (i := .invokevirtual 360) (n := 3) (q := (92, [some (.ref p0), some (.ref p1), some (.int i2), some (.int (if x1 < 15 then x1 else 15))], [.int x40])) (jq qX13_isNote 54 rfl) (jo_cv (y := mX13_name) rfl (Nat.le_of_ble_eq_true rfl) rfl (Nat.le_of_ble_eq_true rfl) b42 rfl r39 jo_ret)) ?_
              by_cases c41 : x40 = 0
              · rw [if_pos c41] at H
                refine Eq.trans (jb_nx (i := .ifCond .ne 5) (n := 3) (q := (95, [some (.ref p0), some (.ref p1), some (.int i2), some (.int (if x1 < 15 then x1 else 15))], [])) (jq qX13_isNote 55 rfl) (jo_ifF (jz_neF c41))) ?_
                refine Eq.trans (jb_nx (i := .iconst 0) (n := 1) (q := (96, [some (.ref p0), some (.ref p1), some (.int i2), some (.int (if x1 < 15 then x1 else 15))], [.int 0])) (jq qX13_isNote 56 rfl) rfl) ?_
                exact Eq.trans (jb_rt (i := .ireturn) (n := 1) (jq qX13_isNote 57 rfl) (jo_iret rfl (by decide))) H
              · rw [if_neg c41] at H
                refine Eq.trans (jb_nx (i := .ifCond .ne 5) (n := 3) (q := (97, [some (.ref p0), some (.ref p1), some (.int i2), some (.int (if x1 < 15 then x1 else 15))], [])) (jq qX13_isNote 55 rfl) (jo_ifT (jz_neT c41) rfl)) ?_
                exact H
            · exact Eq.trans (jb_rt (i := .invokevirtual 360) (n := 3) (jq qX13_isNote 54 rfl) (jo_cv (y := mX13_name) rfl (Nat.le_of_ble_eq_true rfl) rfl (Nat.le_of_ble_eq_true rfl) b42 rfl r39 (jo_exn rfl))) H
        · exact Eq.trans (jb_rt (i := .invokevirtual 340) (n := 3) (jq qX13_isNote 41 rfl) (jo_cv (y := mX13_eat) rfl (Nat.le_of_ble_eq_true rfl) rfl (Nat.le_of_ble_eq_true rfl) b45 rfl r29 (jo_exn rfl))) H
      · rw [if_neg c27] at H
        refine Eq.trans (jb_nx (i := .if_icmp .ne 36) (n := 3) (q := (97, [some (.ref p0), some (.ref p1), some (.int i2), some (.int (if x1 < 15 then x1 else 15))], [])) (jq qX13_isNote 37 rfl) (jo_icT (jz_neT c27) rfl)) ?_
        exact H
  · exact Eq.trans (jb_rt (i := .invokevirtual 360) (n := 3) (jq qX13_isNote 31 rfl) (jo_cv (y := mX13_name) rfl (Nat.le_of_ble_eq_true rfl) rfl (Nat.le_of_ble_eq_true rfl) b48 rfl r24 (jo_exn rfl))) H
/-! MaskPlaysModel isTest (LMaskPlaysModel$Book;)Z -/
def tX13_isTest : List (Nat × Instr × Nat) := [(0, .aload_n 0, 1), (1, .aload_n 1, 1), (2, .invokevirtual 375, 3), (5, .ifCond .ne 5, 3), (8, .iconst 0, 1), (9, .ireturn, 1), (10, .aload_n 0, 1), (11, .aload_n 1, 1), (12, .bipush 17, 2), (14, .invokevirtual 340, 3), (17, .ifCond .eq 25, 3), (20, .aload_n 0, 1), (21, .aload_n 1, 1), (22, .invokevirtual 375, 3), (25, .ifCond .ne 5, 3), (28, .iconst 0, 1), (29, .ireturn, 1), (30, .aload_n 0, 1), (31, .aload_n 1, 1), (32, .bipush 17, 2), (34, .iconst 0, 1), (35, .iconst (-1), 1), (36, .invokevirtual 378, 3), (39, .goto (-29), 3), (42, .iconst 1, 1), (43, .ireturn, 1)]
set_option maxRecDepth 100000 in
theorem qX13_isTest : ∀ q ∈ tX13_isTest, decode cX13_isTest q.1 = .ok (q.2.1, q.2.2) := by decide +kernel
noncomputable def kX13_isTest_10 (d : Nat) (p0 : Nat) (p1 : Nat) (h : jm_H) : Option jm_R := jm_B d mX13_isTest (10, [some (.ref p0), some (.ref p1)], []) h
theorem gX13_isTest_10 {d : Nat} {p0 : Nat} {p1 : Nat} {h : jm_H} {r : jm_R} (H : (jm_O h p0 13 (jc_I (jm_D d mX13_eat [.ref p0, .ref p1, .int 17] h) (fun x10 h8 => (if x10 = 0 then some (.inl (some (.int 1)), h8) else jm_O h8 p0 13 (jc_I (jm_D d mX13_isBoth [.ref p0, .ref p1] h8) (fun x14 h12 => (if x14 = 0 then some (.inl (some (.int 0)), h12) else jm_O h12 p0 13 (jc_V (jm_D d mX13_order [.ref p0, .ref p1, .int 17, .int 0, .int (-1)] h12) (fun h16 => kX13_isTest_10 d p0 p1 h16) jx))) jx))) jx)) = some r) : kX13_isTest_10 d p0 p1 h = some r := by
  show jm_B d mX13_isTest (10, [some (.ref p0), some (.ref p1)], []) h = some r
  refine Eq.trans (jb_nx (i := .aload_n 0) (n := 1) (q := (11, [some (.ref p0), some (.ref p1)], [.ref p0])) (jq qX13_isTest 6 rfl) rfl) ?_
  refine Eq.trans (jb_nx (i := .aload_n 1) (n := 1) (q := (12, [some (.ref p0), some (.ref p1)], [.ref p1, .ref p0])) (jq qX13_isTest 7 rfl) rfl) ?_
  refine Eq.trans (jb_nx (i := .bipush 17) (n := 2) (q := (14, [some (.ref p0), some (.ref p1)], [.int 17, .ref p1, .ref p0])) (jq qX13_isTest 8 rfl) rfl) ?_
  obtain ⟨b24, H⟩ := jm_O_inv H
  rcases jcI H with ⟨x10, h8, r9, H⟩ | ⟨w25, h26, r9, H⟩
  · refine Eq.trans (jb_nx (i := .invokevirtual 340) (n := 3) (q := (17, [some (.ref p0), some (.ref p1)], [.int x10])) (jq qX13_isTest 9 rfl) (jo_cv (y := mX13_eat) rfl (Nat.le_of_ble_eq_true rfl) rfl (Nat.le_of_ble_eq_true rfl) b24 rfl r9 jo_ret)) ?_
    by_cases c11 : x10 = 0
    · rw [if_pos c11] at H
      refine Eq.trans (jb_nx (i := .ifCond .eq 25) (n := 3) (q := (42, [some (.ref p0), some (.ref p1)], [])) (jq qX13_isTest 10 rfl) (jo_ifT (jz_eqT c11) rfl)) ?_
      refine Eq.trans (jb_nx (i := .iconst 1) (n := 1) (q := (43, [some (.ref p0), some (.ref p1)], [.int 1])) (jq qX13_isTest 24 rfl) rfl) ?_
      exact Eq.trans (jb_rt (i := .ireturn) (n := 1) (jq qX13_isTest 25 rfl) (jo_iret rfl (by decide))) H
    · rw [if_neg c11] at H
      refine Eq.trans (jb_nx (i := .ifCond .eq 25) (n := 3) (q := (20, [some (.ref p0), some (.ref p1)], [])) (jq qX13_isTest 10 rfl) (jo_ifF (jz_eqF c11))) ?_
      refine Eq.trans (jb_nx (i := .aload_n 0) (n := 1) (q := (21, [some (.ref p0), some (.ref p1)], [.ref p0])) (jq qX13_isTest 11 rfl) rfl) ?_
      refine Eq.trans (jb_nx (i := .aload_n 1) (n := 1) (q := (22, [some (.ref p0), some (.ref p1)], [.ref p1, .ref p0])) (jq qX13_isTest 12 rfl) rfl) ?_
      obtain ⟨b21, H⟩ := jm_O_inv H
      rcases jcI H with ⟨x14, h12, r13, H⟩ | ⟨w22, h23, r13, H⟩
      · refine Eq.trans (jb_nx (i := .invokevirtual 375) (n := 3) (q := (25, [some (.ref p0), some (.ref p1)], [.int x14])) (jq qX13_isTest 13 rfl) (jo_cv (y := mX13_isBoth) rfl (Nat.le_of_ble_eq_true rfl) rfl (Nat.le_of_ble_eq_true rfl) b21 rfl r13 jo_ret)) ?_
        by_cases c15 : x14 = 0
        · rw [if_pos c15] at H
          refine Eq.trans (jb_nx (i := .ifCond .ne 5) (n := 3) (q := (28, [some (.ref p0), some (.ref p1)], [])) (jq qX13_isTest 14 rfl) (jo_ifF (jz_neF c15))) ?_
          refine Eq.trans (jb_nx (i := .iconst 0) (n := 1) (q := (29, [some (.ref p0), some (.ref p1)], [.int 0])) (jq qX13_isTest 15 rfl) rfl) ?_
          exact Eq.trans (jb_rt (i := .ireturn) (n := 1) (jq qX13_isTest 16 rfl) (jo_iret rfl (by decide))) H
        · rw [if_neg c15] at H
          refine Eq.trans (jb_nx (i := .ifCond .ne 5) (n := 3) (q := (30, [some (.ref p0), some (.ref p1)], [])) (jq qX13_isTest 14 rfl) (jo_ifT (jz_neT c15) rfl)) ?_
          refine Eq.trans (jb_nx (i := .aload_n 0) (n := 1) (q := (31, [some (.ref p0), some (.ref p1)], [.ref p0])) (jq qX13_isTest 17 rfl) rfl) ?_
          refine Eq.trans (jb_nx (i := .aload_n 1) (n := 1) (q := (32, [some (.ref p0), some (.ref p1)], [.ref p1, .ref p0])) (jq qX13_isTest 18 rfl) rfl) ?_
          refine Eq.trans (jb_nx (i := .bipush 17) (n := 2) (q := (34, [some (.ref p0), some (.ref p1)], [.int 17, .ref p1, .ref p0])) (jq qX13_isTest 19 rfl) rfl) ?_
          refine Eq.trans (jb_nx (i := .iconst 0) (n := 1) (q := (35, [some (.ref p0), some (.ref p1)], [.int 0, .int 17, .ref p1, .ref p0])) (jq qX13_isTest 20 rfl) rfl) ?_
          refine Eq.trans (jb_nx (i := .iconst (-1)) (n := 1) (q := (36, [some (.ref p0), some (.ref p1)], [.int (-1), .int 0, .int 17, .ref p1, .ref p0])) (jq qX13_isTest 21 rfl) rfl) ?_
          obtain ⟨b18, H⟩ := jm_O_inv H
          rcases jcV H with ⟨h16, r17, H⟩ | ⟨w19, h20, r17, H⟩
          · refine Eq.trans (jb_nx (i := .invokevirtual 378) (n := 3) (q := (39, [some (.ref p0), some (.ref p1)], [])) (jq qX13_isTest 22 rfl) (jo_cv (y := mX13_order) rfl (Nat.le_of_ble_eq_true rfl) rfl (Nat.le_of_ble_eq_true rfl) b18 rfl r17 jo_ret)) ?_
            refine Eq.trans (jb_nx (i := .goto (-29)) (n := 3) (q := (10, [some (.ref p0), some (.ref p1)], [])) (jq qX13_isTest 23 rfl) rfl) ?_
            exact H
          · exact Eq.trans (jb_rt (i := .invokevirtual 378) (n := 3) (jq qX13_isTest 22 rfl) (jo_cv (y := mX13_order) rfl (Nat.le_of_ble_eq_true rfl) rfl (Nat.le_of_ble_eq_true rfl) b18 rfl r17 (jo_exn rfl))) H
      · exact Eq.trans (jb_rt (i := .invokevirtual 375) (n := 3) (jq qX13_isTest 13 rfl) (jo_cv (y := mX13_isBoth) rfl (Nat.le_of_ble_eq_true rfl) rfl (Nat.le_of_ble_eq_true rfl) b21 rfl r13 (jo_exn rfl))) H
  · exact Eq.trans (jb_rt (i := .invokevirtual 340) (n := 3) (jq qX13_isTest 9 rfl) (jo_cv (y := mX13_eat) rfl (Nat.le_of_ble_eq_true rfl) rfl (Nat.le_of_ble_eq_true rfl) b24 rfl r9 (jo_exn rfl))) H
theorem gX13_isTest {d : Nat} {p0 : Nat} {p1 : Nat} {h : jm_H} {r : jm_R} (H : (jm_O h p0 13 (jc_I (jm_D d mX13_isBoth [.ref p0, .ref p1] h) (fun x3 h1 => (if x3 = 0 then some (.inl (some (.int 0)), h1) else kX13_isTest_10 d p0 p1 h1)) jx)) = some r) : jm_D (d + 1) mX13_isTest [.ref p0, .ref p1] h = some r := by
  rw [jm_D_body (Nat.le_of_ble_eq_true rfl)]
  show jm_B d mX13_isTest (0, [some (.ref p0), some (.ref p1)], []) h = some r
  refine Eq.trans (jb_nx (i := .aload_n 0) (n := 1) (q := (1, [some (.ref p0), some (.ref p1)], [.ref p0])) (jq qX13_isTest 0 rfl) rfl) ?_
  refine Eq.trans (jb_nx (i := .aload_n 1) (n := 1) (q := (2, [some (.ref p0), some (.ref p1)], [.ref p1, .ref p0])) (jq qX13_isTest 1 rfl) rfl) ?_
  obtain ⟨b5, H⟩ := jm_O_inv H
  rcases jcI H with ⟨x3, h1, r2, H⟩ | ⟨w6, h7, r2, H⟩
  · refine Eq.trans (jb_nx (i := .invokevirtual 375) (n := 3) (q := (5, [some (.ref p0), some (.ref p1)], [.int x3])) (jq qX13_isTest 2 rfl) (jo_cv (y := mX13_isBoth) rfl (Nat.le_of_ble_eq_true rfl) rfl (Nat.le_of_ble_eq_true rfl) b5 rfl r2 jo_ret)) ?_
    by_cases c4 : x3 = 0
    · rw [if_pos c4] at H
      refine Eq.trans (jb_nx (i := .ifCond .ne 5) (n := 3) (q := (8, [some (.ref p0), some (.ref p1)], [])) (jq qX13_isTest 3 rfl) (jo_ifF (jz_neF c4))) ?_
      refine Eq.trans (jb_nx (i := .iconst 0) (n := 1) (q := (9, [some (.ref p0), some (.ref p1)], [.int 0])) (jq qX13_isTest 4 rfl) rfl) ?_
      exact Eq.trans (jb_rt (i := .ireturn) (n := 1) (jq qX13_isTest 5 rfl) (jo_iret rfl (by decide))) H
    · rw [if_neg c4] at H
      refine Eq.trans (jb_nx (i := .ifCond .ne 5) (n := 3) (q := (10, [some (.ref p0), some (.ref p1)], [])) (jq qX13_isTest 3 rfl) (jo_ifT (jz_neT c4) rfl)) ?_
      exact H
  · exact Eq.trans (jb_rt (i := .invokevirtual 375) (n := 3) (jq qX13_isTest 2 rfl) (jo_cv (y := mX13_isBoth) rfl (Nat.le_of_ble_eq_true rfl) rfl (Nat.le_of_ble_eq_true rfl) b5 rfl r2 (jo_exn rfl))) H
/-! MaskPlaysModel isBoth (LMaskPlaysModel$Book;)Z -/
def tX13_isBoth : List (Nat × Instr × Nat) := [(0, .aload_n 0, 1), (1, .aload_n 1, 1), (2, .invokevirtual 381, 3), (5, .ifCond .ne 5, 3), (8, .iconst 0, 1), (9, .ireturn, 1), (10, .aload_n 0, 1), (11, .aload_n 1, 1), (12, .bipush 16, 2), (14, .invokevirtual 340, 3), (17, .ifCond .eq 25, 3), (20, .aload_n 0, 1), (21, .aload_n 1, 1), (22, .invokevirtual 381, 3), (25, .ifCond .ne 5, 3), (28, .iconst 0, 1), (29, .ireturn, 1), (30, .aload_n 0, 1), (31, .aload_n 1, 1), (32, .bipush 16, 2), (34, .iconst 0, 1), (35, .iconst (-1), 1), (36, .invokevirtual 378, 3), (39, .goto (-29), 3), (42, .iconst 1, 1), (43, .ireturn, 1)]
set_option maxRecDepth 100000 in
theorem qX13_isBoth : ∀ q ∈ tX13_isBoth, decode cX13_isBoth q.1 = .ok (q.2.1, q.2.2) := by decide +kernel
noncomputable def kX13_isBoth_10 (d : Nat) (p0 : Nat) (p1 : Nat) (h : jm_H) : Option jm_R := jm_B d mX13_isBoth (10, [some (.ref p0), some (.ref p1)], []) h
theorem gX13_isBoth_10 {d : Nat} {p0 : Nat} {p1 : Nat} {h : jm_H} {r : jm_R} (H : (jm_O h p0 13 (jc_I (jm_D d mX13_eat [.ref p0, .ref p1, .int 16] h) (fun x10 h8 => (if x10 = 0 then some (.inl (some (.int 1)), h8) else jm_O h8 p0 13 (jc_I (jm_D d mX13_isSingle [.ref p0, .ref p1] h8) (fun x14 h12 => (if x14 = 0 then some (.inl (some (.int 0)), h12) else jm_O h12 p0 13 (jc_V (jm_D d mX13_order [.ref p0, .ref p1, .int 16, .int 0, .int (-1)] h12) (fun h16 => kX13_isBoth_10 d p0 p1 h16) jx))) jx))) jx)) = some r) : kX13_isBoth_10 d p0 p1 h = some r := by
  show jm_B d mX13_isBoth (10, [some (.ref p0), some (.ref p1)], []) h = some r
  refine Eq.trans (jb_nx (i := .aload_n 0) (n := 1) (q := (11, [some (.ref p0), some (.ref p1)], [.ref p0])) (jq qX13_isBoth 6 rfl) rfl) ?_
  refine Eq.trans (jb_nx (i := .aload_n 1) (n := 1) (q := (12, [some (.ref p0), some (.ref p1)], [.ref p1, .ref p0])) (jq qX13_isBoth 7 rfl) rfl) ?_
  refine Eq.trans (jb_nx (i := .bipush 16) (n := 2) (q := (14, [some (.ref p0), some (.ref p1)], [.int 16, .ref p1, .ref p0])) (jq qX13_isBoth 8 rfl) rfl) ?_
  obtain ⟨b24, H⟩ := jm_O_inv H
  rcases jcI H with ⟨x10, h8, r9, H⟩ | ⟨w25, h26, r9, H⟩
  · refine Eq.trans (jb_nx (i := .invokevirtual 340) (n := 3) (q := (17, [some (.ref p0), some (.ref p1)], [.int x10])) (jq qX13_isBoth 9 rfl) (jo_cv (y := mX13_eat) rfl (Nat.le_of_ble_eq_true rfl) rfl (Nat.le_of_ble_eq_true rfl) b24 rfl r9 jo_ret)) ?_
    by_cases c11 : x10 = 0
    · rw [if_pos c11] at H
      refine Eq.trans (jb_nx (i := .ifCond .eq 25) (n := 3) (q := (42, [some (.ref p0), some (.ref p1)], [])) (jq qX13_isBoth 10 rfl) (jo_ifT (jz_eqT c11) rfl)) ?_
      refine Eq.trans (jb_nx (i := .iconst 1) (n := 1) (q := (43, [some (.ref p0), some (.ref p1)], [.int 1])) (jq qX13_isBoth 24 rfl) rfl) ?_
      exact Eq.trans (jb_rt (i := .ireturn) (n := 1) (jq qX13_isBoth 25 rfl) (jo_iret rfl (by decide))) H
    · rw [if_neg c11] at H
      refine Eq.trans (jb_nx (i := .ifCond .eq 25) (n := 3) (q := (20, [some (.ref p0), some (.ref p1)], [])) (jq qX13_isBoth 10 rfl) (jo_ifF (jz_eqF c11))) ?_
      refine Eq.trans (jb_nx (i := .aload_n 0) (n := 1) (q := (21, [some (.ref p0), some (.ref p1)], [.ref p0])) (jq qX13_isBoth 11 rfl) rfl) ?_
      refine Eq.trans (jb_nx (i := .aload_n 1) (n := 1) (q := (22, [some (.ref p0), some (.ref p1)], [.ref p1, .ref p0])) (jq qX13_isBoth 12 rfl) rfl) ?_
      obtain ⟨b21, H⟩ := jm_O_inv H
      rcases jcI H with ⟨x14, h12, r13, H⟩ | ⟨w22, h23, r13, H⟩
      · refine Eq.trans (jb_nx (i := .invokevirtual 381) (n := 3) (q := (25, [some (.ref p0), some (.ref p1)], [.int x14])) (jq qX13_isBoth 13 rfl) (jo_cv (y := mX13_isSingle) rfl (Nat.le_of_ble_eq_true rfl) rfl (Nat.le_of_ble_eq_true rfl) b21 rfl r13 jo_ret)) ?_
        by_cases c15 : x14 = 0
        · rw [if_pos c15] at H
          refine Eq.trans (jb_nx (i := .ifCond .ne 5) (n := 3) (q := (28, [some (.ref p0), some (.ref p1)], [])) (jq qX13_isBoth 14 rfl) (jo_ifF (jz_neF c15))) ?_
          refine Eq.trans (jb_nx (i := .iconst 0) (n := 1) (q := (29, [some (.ref p0), some (.ref p1)], [.int 0])) (jq qX13_isBoth 15 rfl) rfl) ?_
          exact Eq.trans (jb_rt (i := .ireturn) (n := 1) (jq qX13_isBoth 16 rfl) (jo_iret rfl (by decide))) H
        · rw [if_neg c15] at H
          refine Eq.trans (jb_nx (i := .ifCond .ne 5) (n := 3) (q := (30, [some (.ref p0), some (.ref p1)], [])) (jq qX13_isBoth 14 rfl) (jo_ifT (jz_neT c15) rfl)) ?_
          refine Eq.trans (jb_nx (i := .aload_n 0) (n := 1) (q := (31, [some (.ref p0), some (.ref p1)], [.ref p0])) (jq qX13_isBoth 17 rfl) rfl) ?_
          refine Eq.trans (jb_nx (i := .aload_n 1) (n := 1) (q := (32, [some (.ref p0), some (.ref p1)], [.ref p1, .ref p0])) (jq qX13_isBoth 18 rfl) rfl) ?_
          refine Eq.trans (jb_nx (i := .bipush 16) (n := 2) (q := (34, [some (.ref p0), some (.ref p1)], [.int 16, .ref p1, .ref p0])) (jq qX13_isBoth 19 rfl) rfl) ?_
          refine Eq.trans (jb_nx (i := .iconst 0) (n := 1) (q := (35, [some (.ref p0), some (.ref p1)], [.int 0, .int 16, .ref p1, .ref p0])) (jq qX13_isBoth 20 rfl) rfl) ?_
          refine Eq.trans (jb_nx (i := .iconst (-1)) (n := 1) (q := (36, [some (.ref p0), some (.ref p1)], [.int (-1), .int 0, .int 16, .ref p1, .ref p0])) (jq qX13_isBoth 21 rfl) rfl) ?_
          obtain ⟨b18, H⟩ := jm_O_inv H
          rcases jcV H with ⟨h16, r17, H⟩ | ⟨w19, h20, r17, H⟩
          · refine Eq.trans (jb_nx (i := .invokevirtual 378) (n := 3) (q := (39, [some (.ref p0), some (.ref p1)], [])) (jq qX13_isBoth 22 rfl) (jo_cv (y := mX13_order) rfl (Nat.le_of_ble_eq_true rfl) rfl (Nat.le_of_ble_eq_true rfl) b18 rfl r17 jo_ret)) ?_
            refine Eq.trans (jb_nx (i := .goto (-29)) (n := 3) (q := (10, [some (.ref p0), some (.ref p1)], [])) (jq qX13_isBoth 23 rfl) rfl) ?_
            exact H
          · exact Eq.trans (jb_rt (i := .invokevirtual 378) (n := 3) (jq qX13_isBoth 22 rfl) (jo_cv (y := mX13_order) rfl (Nat.le_of_ble_eq_true rfl) rfl (Nat.le_of_ble_eq_true rfl) b18 rfl r17 (jo_exn rfl))) H
      · exact Eq.trans (jb_rt (i := .invokevirtual 381) (n := 3) (jq qX13_isBoth 13 rfl) (jo_cv (y := mX13_isSingle) rfl (Nat.le_of_ble_eq_true rfl) rfl (Nat.le_of_ble_eq_true rfl) b21 rfl r13 (jo_exn rfl))) H
  · exact Eq.trans (jb_rt (i := .invokevirtual 340) (n := 3) (jq qX13_isBoth 9 rfl) (jo_cv (y := mX13_eat) rfl (Nat.le_of_ble_eq_true rfl) rfl (Nat.le_of_ble_eq_true rfl) b24 rfl r9 (jo_exn rfl))) H
theorem gX13_isBoth {d : Nat} {p0 : Nat} {p1 : Nat} {h : jm_H} {r : jm_R} (H : (jm_O h p0 13 (jc_I (jm_D d mX13_isSingle [.ref p0, .ref p1] h) (fun x3 h1 => (if x3 = 0 then some (.inl (some (.int 0)), h1) else kX13_isBoth_10 d p0 p1 h1)) jx)) = some r) : jm_D (d + 1) mX13_isBoth [.ref p0, .ref p1] h = some r := by
  rw [jm_D_body (Nat.le_of_ble_eq_true rfl)]
  show jm_B d mX13_isBoth (0, [some (.ref p0), some (.ref p1)], []) h = some r
  refine Eq.trans (jb_nx (i := .aload_n 0) (n := 1) (q := (1, [some (.ref p0), some (.ref p1)], [.ref p0])) (jq qX13_isBoth 0 rfl) rfl) ?_
  refine Eq.trans (jb_nx (i := .aload_n 1) (n := 1) (q := (2, [some (.ref p0), some (.ref p1)], [.ref p1, .ref p0])) (jq qX13_isBoth 1 rfl) rfl) ?_
  obtain ⟨b5, H⟩ := jm_O_inv H
  rcases jcI H with ⟨x3, h1, r2, H⟩ | ⟨w6, h7, r2, H⟩
  · refine Eq.trans (jb_nx (i := .invokevirtual 381) (n := 3) (q := (5, [some (.ref p0), some (.ref p1)], [.int x3])) (jq qX13_isBoth 2 rfl) (jo_cv (y := mX13_isSingle) rfl (Nat.le_of_ble_eq_true rfl) rfl (Nat.le_of_ble_eq_true rfl) b5 rfl r2 jo_ret)) ?_
    by_cases c4 : x3 = 0
    · rw [if_pos c4] at H
      refine Eq.trans (jb_nx (i := .ifCond .ne 5) (n := 3) (q := (8, [some (.ref p0), some (.ref p1)], [])) (jq qX13_isBoth 3 rfl) (jo_ifF (jz_neF c4))) ?_
      refine Eq.trans (jb_nx (i := .iconst 0) (n := 1) (q := (9, [some (.ref p0), some (.ref p1)], [.int 0])) (jq qX13_isBoth 4 rfl) rfl) ?_
      exact Eq.trans (jb_rt (i := .ireturn) (n := 1) (jq qX13_isBoth 5 rfl) (jo_iret rfl (by decide))) H
    · rw [if_neg c4] at H
      refine Eq.trans (jb_nx (i := .ifCond .ne 5) (n := 3) (q := (10, [some (.ref p0), some (.ref p1)], [])) (jq qX13_isBoth 3 rfl) (jo_ifT (jz_neT c4) rfl)) ?_
      exact H
  · exact Eq.trans (jb_rt (i := .invokevirtual 381) (n := 3) (jq qX13_isBoth 2 rfl) (jo_cv (y := mX13_isSingle) rfl (Nat.le_of_ble_eq_true rfl) rfl (Nat.le_of_ble_eq_true rfl) b5 rfl r2 (jo_exn rfl))) H
