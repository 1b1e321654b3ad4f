/-! ===== LEVEL 2: X12 ===== -/
/-! MaskPlaysModel$Book <init> ()V -/
def tX12_init : List (Nat × Instr × Nat) := [(0, .aload_n 0, 1), (1, .invokespecial 3, 3), (4, .aload_n 0, 1), (5, .sipush 401, 3), (8, .newarray .int, 2), (10, .putfield 9, 3), (13, .aload_n 0, 1), (14, .sipush 401, 3), (17, .newarray .int, 2), (19, .putfield 15, 3), (22, .aload_n 0, 1), (23, .sipush 401, 3), (26, .newarray .int, 2), (28, .putfield 18, 3), (31, .aload_n 0, 1), (32, .sipush 401, 3), (35, .newarray .long, 2), (37, .putfield 21, 3), (40, .aload_n 0, 1), (41, .sipush 401, 3), (44, .newarray .int, 2), (46, .putfield 25, 3), (49, .aload_n 0, 1), (50, .sipush 401, 3), (53, .newarray .int, 2), (55, .putfield 28, 3), (58, .aload_n 0, 1), (59, .bipush 8, 2), (61, .newarray .long, 2), (63, .putfield 31, 3), (66, .aload_n 0, 1), (67, .bipush 12, 2), (69, .newarray .long, 2), (71, .putfield 34, 3), (74, .aload_n 0, 1), (75, .sipush 1800, 3), (78, .newarray .long, 2), (80, .putfield 37, 3), (83, .aload_n 0, 1), (84, .bipush 12, 2), (86, .newarray .int, 2), (88, .putfield 40, 3), (91, .aload_n 0, 1), (92, .bipush 16, 2), (94, .newarray .int, 2), (96, .putfield 43, 3), (99, .aload_n 0, 1), (100, .bipush 16, 2), (102, .newarray .int, 2), (104, .putfield 46, 3), (107, .aload_n 0, 1), (108, .bipush 16, 2), (110, .newarray .int, 2), (112, .putfield 49, 3), (115, .aload_n 0, 1), (116, .bipush 16, 2), (118, .newarray .int, 2), (120, .putfield 52, 3), (123, .aload_n 0, 1), (124, .bipush 16, 2), (126, .newarray .int, 2), (128, .putfield 55, 3), (131, .aload_n 0, 1), (132, .sipush 800, 3), (135, .newarray .int, 2), (137, .putfield 58, 3), (140, .aload_n 0, 1), (141, .sipush 800, 3), (144, .newarray .int, 2), (146, .putfield 61, 3), (149, .aload_n 0, 1), (150, .sipush 800, 3), (153, .newarray .int, 2), (155, .putfield 64, 3), (158, .return_, 1)]
set_option maxRecDepth 100000 in
theorem qX12_init : ∀ q ∈ tX12_init, decode cX12_init q.1 = .ok (q.2.1, q.2.2) := by decide +kernel
theorem gX12_init {d : Nat} {p0 : Nat} {h : jm_H} {r : jm_R} (H : (jm_U p0 (jl_newa h 0 401 fun a2 h3 => (jm_pf h3 p0 11 0 2 (.ref a2)).bind fun h6 => jl_newa h6 0 401 fun a8 h9 => (jm_pf h9 p0 11 1 2 (.ref a8)).bind fun h12 => jl_newa h12 0 401 fun a14 h15 => (jm_pf h15 p0 11 2 2 (.ref a14)).bind fun h18 => jl_newa h18 1 401 fun a20 h21 => (jm_pf h21 p0 11 3 2 (.ref a20)).bind fun h24 => jl_newa h24 0 401 fun a26 h27 => (jm_pf h27 p0 11 4 2 (.ref a26)).bind fun h30 => jl_newa h30 0 401 fun a32 h33 => (jm_pf h33 p0 11 5 2 (.ref a32)).bind fun h36 => jl_newa h36 1 8 fun a38 h39 => (jm_pf h39 p0 11 7 2 (.ref a38)).bind fun h42 => jl_newa h42 1 12 fun a44 h45 => (jm_pf h45 p0 11 9 2 (.ref a44)).bind fun h48 => jl_newa h48 1 1800 fun a50 h51 => (jm_pf h51 p0 11 10 2 (.ref a50)).bind fun h54 => jl_newa h54 0 12 fun a56 h57 => (jm_pf h57 p0 11 11 2 (.ref a56)).bind fun h60 => jl_newa h60 0 16 fun a62 h63 => (jm_pf h63 p0 11 13 2 (.ref a62)).bind fun h66 => jl_newa h66 0 16 fun a68 h69 => (jm_pf h69 p0 11 14 2 (.ref a68)).bind fun h72 => jl_newa h72 0 16 fun a74 h75 => (jm_pf h75 p0 11 15 2 (.ref a74)).bind fun h78 => jl_newa h78 0 16 fun a80 h81 => (jm_pf h81 p0 11 16 2 (.ref a80)).bind fun h84 => jl_newa h84 0 16 fun a86 h87 => (jm_pf h87 p0 11 17 2 (.ref a86)).bind fun h90 => jl_newa h90 0 800 fun a92 h93 => (jm_pf h93 p0 11 18 2 (.ref a92)).bind fun h96 => jl_newa h96 0 800 fun a98 h99 => (jm_pf h99 p0 11 19 2 (.ref a98)).bind fun h102 => jl_newa h102 0 800 fun a104 h105 => (jm_pf h105 p0 11 21 2 (.ref a104)).bind fun h108 => some (.inl none, h108))) = some r) : jm_D (d + 1) mX12_init [.ref p0] h = some r := by
  rw [jm_D_body (Nat.le_of_ble_eq_true rfl)]
  show jm_B d mX12_init (0, [some (.ref p0)], []) h = some r
  refine Eq.trans (jb_nx (i := .aload_n 0) (n := 1) (q := (1, [some (.ref p0)], [.ref p0])) (jq qX12_init 0 rfl) rfl) ?_
  obtain ⟨u1, H⟩ := jm_U_inv H
  refine Eq.trans (jb_nx (i := .invokespecial 3) (n := 3) (q := (4, [some (.ref p0)], [])) (jq qX12_init 1 rfl) (jo_oi (z := mX3_clear) rfl (Nat.le_of_ble_eq_true rfl) u1)) ?_
  refine Eq.trans (jb_nx (i := .aload_n 0) (n := 1) (q := (5, [some (.ref p0)], [.ref p0])) (jq qX12_init 2 rfl) rfl) ?_
  refine Eq.trans (jb_nx (i := .sipush 401) (n := 3) (q := (8, [some (.ref p0)], [.int 401, .ref p0])) (jq qX12_init 3 rfl) rfl) ?_
  obtain ⟨a2, h3, e4, e5, H⟩ := jl_newa_inv H
  refine Eq.trans (jb_nx (i := .newarray .int) (n := 2) (q := (10, [some (.ref p0)], [.ref a2, .ref p0])) (jq qX12_init 4 rfl) (jo_newb rfl e4 e5)) ?_
  obtain ⟨h6, e7, H⟩ := jbd H
  refine Eq.trans (jb_nx (i := .putfield 9) (n := 3) (q := (13, [some (.ref p0)], [])) (jq qX12_init 5 rfl) (jo_pf rfl (Or.inr ⟨rfl, rfl⟩) e7)) ?_
  refine Eq.trans (jb_nx (i := .aload_n 0) (n := 1) (q := (14, [some (.ref p0)], [.ref p0])) (jq qX12_init 6 rfl) rfl) ?_
  refine Eq.trans (jb_nx (i := .sipush 401) (n := 3) (q := (17, [some (.ref p0)], [.int 401, .ref p0])) (jq qX12_init 7 rfl) rfl) ?_
  obtain ⟨a8, h9, e10, e11, H⟩ := jl_newa_inv H
  refine Eq.trans (jb_nx (i := .newarray .int) (n := 2) (q := (19, [some (.ref p0)], [.ref a8, .ref p0])) (jq qX12_init 8 rfl) (jo_newb rfl e10 e11)) ?_
  obtain ⟨h12, e13, H⟩ := jbd H
  refine Eq.trans (jb_nx (i := .putfield 15) (n := 3) (q := (22, [some (.ref p0)], [])) (jq qX12_init 9 rfl) (jo_pf rfl (Or.inr ⟨rfl, rfl⟩) e13)) ?_
  refine Eq.trans (jb_nx (i := .aload_n 0) (n := 1) (q := (23, [some (.ref p0)], [.ref p0])) (jq qX12_init 10 rfl) rfl) ?_
  refine Eq.trans (jb_nx (i := .sipush 401) (n := 3) (q := (26, [some (.ref p0)], [.int 401, .ref p0])) (jq qX12_init 11 rfl) rfl) ?_
  obtain ⟨a14, h15, e16, e17, H⟩ := jl_newa_inv H
  refine Eq.trans (jb_nx (i := .newarray .int) (n := 2) (q := (28, [some (.ref p0)], [.ref a14, .ref p0])) (jq qX12_init 12 rfl) (jo_newb rfl e16 e17)) ?_
  obtain ⟨h18, e19, H⟩ := jbd H
  refine Eq.trans (jb_nx (i := .putfield 18) (n := 3) (q := (31, [some (.ref p0)], [])) (jq qX12_init 13 rfl) (jo_pf rfl (Or.inr ⟨rfl, rfl⟩) e19)) ?_
  refine Eq.trans (jb_nx (i := .aload_n 0) (n := 1) (q := (32, [some (.ref p0)], [.ref p0])) (jq qX12_init 14 rfl) rfl) ?_
  refine Eq.trans (jb_nx (i := .sipush 401) (n := 3) (q := (35, [some (.ref p0)], [.int 401, .ref p0])) (jq qX12_init 15 rfl) rfl) ?_
  obtain ⟨a20, h21, e22, e23, H⟩ := jl_newa_inv H
  refine Eq.trans (jb_nx (i := .newarray .long) (n := 2) (q := (37, [some (.ref p0)], [.ref a20, .ref p0])) (jq qX12_init 16 rfl) (jo_newb rfl e22 e23)) ?_
  obtain ⟨h24, e25, H⟩ := jbd H
  refine Eq.trans (jb_nx (i := .putfield 21) (n := 3) (q := (40, [some (.ref p0)], [])) (jq qX12_init 17 rfl) (jo_pf rfl (Or.inr ⟨rfl, rfl⟩) e25)) ?_
  refine Eq.trans (jb_nx (i := .aload_n 0) (n := 1) (q := (41, [some (.ref p0)], [.ref p0])) (jq qX12_init 18 rfl) rfl) ?_
  refine Eq.trans (jb_nx (i := .sipush 401) (n := 3) (q := (44, [some (.ref p0)], [.int 401, .ref p0])) (jq qX12_init 19 rfl) rfl) ?_
  obtain ⟨a26, h27, e28, e29, H⟩ := jl_newa_inv H
  refine Eq.trans (jb_nx (i := .newarray .int) (n := 2) (q := (46, [some (.ref p0)], [.ref a26, .ref p0])) (jq qX12_init 20 rfl) (jo_newb rfl e28 e29)) ?_
  obtain ⟨h30, e31, H⟩ := jbd H
  refine Eq.trans (jb_nx (i := .putfield 25) (n := 3) (q := (49, [some (.ref p0)], [])) (jq qX12_init 21 rfl) (jo_pf rfl (Or.inr ⟨rfl, rfl⟩) e31)) ?_
  refine Eq.trans (jb_nx (i := .aload_n 0) (n := 1) (q := (50, [some (.ref p0)], [.ref p0])) (jq qX12_init 22 rfl) rfl) ?_
  refine Eq.trans (jb_nx (i := .sipush 401) (n := 3) (q := (53, [some (.ref p0)], [.int 401, .ref p0])) (jq qX12_init 23 rfl) rfl) ?_
  obtain ⟨a32, h33, e34, e35, H⟩ := jl_newa_inv H
  refine Eq.trans (jb_nx (i := .newarray .int) (n := 2) (q := (55, [some (.ref p0)], [.ref a32, .ref p0])) (jq qX12_init 24 rfl) (jo_newb rfl e34 e35)) ?_
  obtain ⟨h36, e37, H⟩ := jbd H
  refine Eq.trans (jb_nx (i := .putfield 28) (n := 3) (q := (58, [some (.ref p0)], [])) (jq qX12_init 25 rfl) (jo_pf rfl (Or.inr ⟨rfl, rfl⟩) e37)) ?_
  refine Eq.trans (jb_nx (i := .aload_n 0) (n := 1) (q := (59, [some (.ref p0)], [.ref p0])) (jq qX12_init 26 rfl) rfl) ?_
  refine Eq.trans (jb_nx (i := .bipush 8) (n := 2) (q := (61, [some (.ref p0)], [.int 8, .ref p0])) (jq qX12_init 27 rfl) rfl) ?_
  obtain ⟨a38, h39, e40, e41, H⟩ := jl_newa_inv H
  refine Eq.trans (jb_nx (i := .newarray .long) (n := 2) (q := (63, [some (.ref p0)], [.ref a38, .ref p0])) (jq qX12_init 28 rfl) (jo_newb rfl e40 e41)) ?_
  obtain ⟨h42, e43, H⟩ := jbd H
  refine Eq.trans (jb_nx (i := .putfield 31) (n := 3) (q := (66, [some (.ref p0)], [])) (jq qX12_init 29 rfl) (jo_pf rfl (Or.inr ⟨rfl, rfl⟩) e43)) ?_
  refine Eq.trans (jb_nx (i := .aload_n 0) (n := 1) (q := (67, [some (.ref p0)], [.ref p0])) (jq qX12_init 30 rfl) rfl) ?_
  refine Eq.trans (jb_nx (i := .bipush 12) (n := 2) (q := (69, [some (.ref p0)], [.int 12, .ref p0])) (jq qX12_init 31 rfl) rfl) ?_
  obtain ⟨a44, h45, e46, e47, H⟩ := jl_newa_inv H
  refine Eq.trans (jb_nx (i := .newarray .long) (n := 2) (q := (71, [some (.ref p0)], [.ref a44, .ref p0])) (jq qX12_init 32 rfl) (jo_newb rfl e46 e47)) ?_
  obtain ⟨h48, e49, H⟩ := jbd H
  refine Eq.trans (jb_nx (i := .putfield 34) (n := 3) (q := (74, [some (.ref p0)], [])) (jq qX12_init 33 rfl) (jo_pf rfl (Or.inr ⟨rfl, rfl⟩) e49)) ?_
  refine Eq.trans (jb_nx (i := .aload_n 0) (n := 1) (q := (75, [some (.ref p0)], [.ref p0])) (jq qX12_init 34 rfl) rfl) ?_
  refine Eq.trans (jb_nx (i := .sipush 1800) (n := 3) (q := (78, [some (.ref p0)], [.int 1800, .ref p0])) (jq qX12_init 35 rfl) rfl) ?_
  obtain ⟨a50, h51, e52, e53, H⟩ := jl_newa_inv H
  refine Eq.trans (jb_nx (i := .newarray .long) (n := 2) (q := (80, [some (.ref p0)], [.ref a50, .ref p0])) (jq qX12_init 36 rfl) (jo_newb rfl e52 e53)) ?_
  obtain ⟨h54, e55, H⟩ := jbd H
  refine Eq.trans (jb_nx (i := .putfield 37) (n := 3) (q := (83, [some (.ref p0)], [])) (jq qX12_init 37 rfl) (jo_pf rfl (Or.inr ⟨rfl, rfl⟩) e55)) ?_
  refine Eq.trans (jb_nx (i := .aload_n 0) (n := 1) (q := (84, [some (.ref p0)], [.ref p0])) (jq qX12_init 38 rfl) rfl) ?_
  refine Eq.trans (jb_nx (i := .bipush 12) (n := 2) (q := (86, [some (.ref p0)], [.int 12, .ref p0])) (jq qX12_init 39 rfl) rfl) ?_
  obtain ⟨a56, h57, e58, e59, H⟩ := jl_newa_inv H
  refine Eq.trans (jb_nx (i := .newarray .int) (n := 2) (q := (88, [some (.ref p0)], [.ref a56, .ref p0])) (jq qX12_init 40 rfl) (jo_newb rfl e58 e59)) ?_
  obtain ⟨h60, e61, H⟩ := jbd H
  refine Eq.trans (jb_nx (i := .putfield 40) (n := 3) (q := (91, [some (.ref p0)], [])) (jq qX12_init 41 rfl) (jo_pf rfl (Or.inr ⟨rfl, rfl⟩) e61)) ?_
  refine Eq.trans (jb_nx (i := .aload_n 0) (n := 1) (q := (92, [some (.ref p0)], [.ref p0])) (jq qX12_init 42 rfl) rfl) ?_
  refine Eq.trans (jb_nx (i := .bipush 16) (n := 2) (q := (94, [some (.ref p0)], [.int 16, .ref p0])) (jq qX12_init 43 rfl) rfl) ?_
  obtain ⟨a62, h63, e64, e65, H⟩ := jl_newa_inv H
  refine Eq.trans (jb_nx (i := .newarray .int) (n := 2) (q := (96, [some (.ref p0)], [.ref a62, .ref p0])) (jq qX12_init 44 rfl) (jo_newb rfl e64 e65)) ?_
  obtain ⟨h66, e67, H⟩ := jbd H
  refine Eq.trans (jb_nx (i := .putfield 43) (n := 3) (q := (99, [some (.ref p0)], [])) (jq qX12_init 45 rfl) (jo_pf rfl (Or.inr ⟨rfl, rfl⟩) e67)) ?_
  refine Eq.trans (jb_nx (i := .aload_n 0) (n := 1) (q := (100, [some (.ref p0)], [.ref p0])) (jq qX12_init 46 rfl) rfl) ?_
  refine Eq.trans (jb_nx (i := .bipush 16) (n := 2) (q := (102, [some (.ref p0)], [.int 16, .ref p0])) (jq qX12_init 47 rfl) rfl) ?_
  obtain ⟨a68, h69, e70, e71, H⟩ := jl_newa_inv H
  refine Eq.trans (jb_nx (i := .newarray .int) (n := 2) (q := (104, [some (.ref p0)], [.ref a68, .ref p0])) (jq qX12_init 48 rfl) (jo_newb rfl e70 e71)) ?_
  obtain ⟨h72, e73, H⟩ := jbd H
  refine Eq.trans (jb_nx (i := .putfield 46) (n := 3) (q := (107, [some (.ref p0)], [])) (jq qX12_init 49 rfl) (jo_pf rfl (Or.inr ⟨rfl, rfl⟩) e73)) ?_
  refine Eq.trans (jb_nx (i := .aload_n 0) (n := 1) (q := (108, [some (.ref p0)], [.ref p0])) (jq qX12_init 50 rfl) rfl) ?_
  refine Eq.trans (jb_nx (i := .bipush 16) (n := 2) (q := (110, [some (.ref p0)], [.int 16, .ref p0])) (jq qX12_init 51 rfl) rfl) ?_
  obtain ⟨a74, h75, e76, e77, H⟩ := jl_newa_inv H
  refine Eq.trans (jb_nx (i := .newarray .int) (n := 2) (q := (112, [some (.ref p0)], [.ref a74, .ref p0])) (jq qX12_init 52 rfl) (jo_newb rfl e76 e77)) ?_
  obtain ⟨h78, e79, H⟩ := jbd H
  refine Eq.trans (jb_nx (i := .putfield 49) (n := 3) (q := (115, [some (.ref p0)], [])) (jq qX12_init 53 rfl) (jo_pf rfl (Or.inr ⟨rfl, rfl⟩) e79)) ?_
  refine Eq.trans (jb_nx (i := .aload_n 0) (n := 1) (q := (116, [some (.ref p0)], [.ref p0])) (jq qX12_init 54 rfl) rfl) ?_
  refine Eq.trans (jb_nx (i := .bipush 16) (n := 2) (q := (118, [some (.ref p0)], [.int 16, .ref p0])) (jq qX12_init 55 rfl) rfl) ?_
  obtain ⟨a80, h81, e82, e83, H⟩ := jl_newa_inv H
  refine Eq.trans (jb_nx (i := .newarray .int) (n := 2) (q := (120, [some (.ref p0)], [.ref a80, .ref p0])) (jq qX12_init 56 rfl) (jo_newb rfl e82 e83)) ?_
  obtain ⟨h84, e85, H⟩ := jbd H
  refine Eq.trans (jb_nx (i := .putfield 52) (n := 3) (q := (123, [some (.ref p0)], [])) (jq qX12_init 57 rfl) (jo_pf rfl (Or.inr ⟨rfl, rfl⟩) e85)) ?_
  refine Eq.trans (jb_nx (i := .aload_n 0) (n := 1) (q := (124, [some (.ref p0)], [.ref p0])) (jq qX12_init 58 rfl) rfl) ?_
  refine Eq.trans (jb_nx (i := .bipush 16) (n := 2) (q := (126, [some (.ref p0)], [.int 16, .ref p0])) (jq qX12_init 59 rfl) rfl) ?_
  obtain ⟨a86, h87, e88, e89, H⟩ := jl_newa_inv H
  refine Eq.trans (jb_nx (i := .newarray .int) (n := 2) (q := (128, [some (.ref p0)], [.ref a86, .ref p0])) (jq qX12_init 60 rfl) (jo_newb rfl e88 e89)) ?_
  obtain ⟨h90, e91, H⟩ := jbd H
  refine Eq.trans (jb_nx (i := .putfield 55) (n := 3) (q := (131, [some (.ref p0)], [])) (jq qX12_init 61 rfl) (jo_pf rfl (Or.inr ⟨rfl, rfl⟩) e91)) ?_
  refine Eq.trans (jb_nx (i := .aload_n 0) (n := 1) (q := (132, [some (.ref p0)], [.ref p0])) (jq qX12_init 62 rfl) rfl) ?_
  refine Eq.trans (jb_nx (i := .sipush 800) (n := 3) (q := (135, [some (.ref p0)], [.int 800, .ref p0])) (jq qX12_init 63 rfl) rfl) ?_
  obtain ⟨a92, h93, e94, e95, H⟩ := jl_newa_inv H
  refine Eq.trans (jb_nx (i := .newarray .int) (n := 2) (q := (137, [some (.ref p0)], [.ref a92, .ref p0])) (jq qX12_init 64 rfl) (jo_newb rfl e94 e95)) ?_
  obtain ⟨h96, e97, H⟩ := jbd H
  refine Eq.trans (jb_nx (i := .putfield 58) (n := 3) (q := (140, [some (.ref p0)], [])) (jq qX12_init 65 rfl) (jo_pf rfl (Or.inr ⟨rfl, rfl⟩) e97)) ?_
  refine Eq.trans (jb_nx (i := .aload_n 0) (n := 1) (q := (141, [some (.ref p0)], [.ref p0])) (jq qX12_init 66 rfl) rfl) ?_
  refine Eq.trans (jb_nx (i := .sipush 800) (n := 3) (q := (144, [some (.ref p0)], [.int 800, .ref p0])) (jq qX12_init 67 rfl) rfl) ?_
  obtain ⟨a98, h99, e100, e101, H⟩ := jl_newa_inv H
  refine Eq.trans (jb_nx (i := .newarray .int) (n := 2) (q := (146, [some (.ref p0)], [.ref a98, .ref p0])) (jq qX12_init 68 rfl) (jo_newb rfl e100 e101)) ?_
  obtain ⟨h102, e103, H⟩ := jbd H
  refine Eq.trans (jb_nx (i := .putfield 61) (n := 3) (q := (149, [some (.ref p0)], [])) (jq qX12_init 69 rfl) (jo_pf rfl (Or.inr ⟨rfl, rfl⟩) e103)) ?_
  refine Eq.trans (jb_nx (i := .aload_n 0) (n := 1) (q := (150, [some (.ref p0)], [.ref p0])) (jq qX12_init 70 rfl) rfl) ?_
  refine Eq.trans (jb_nx (i := .sipush 800) (n := 3) (q := (153, [some (.ref p0)], [.int 800, .ref p0])) (jq qX12_init 71 rfl) rfl) ?_
  obtain ⟨a104, h105, e106, e107, H⟩ := jl_newa_inv H
  refine Eq.trans (jb_nx (i := .newarray .int) (n := 2) (q := (155, [some (.ref p0)], [.ref a104, .ref p0])) (jq qX12_init 72 rfl) (jo_newb rfl e106 e107)) ?_
  obtain ⟨h108, e109, H⟩ := jbd H
  refine Eq.trans (jb_nx (i := .putfield 64) (n := 3) (q := (158, [some (.ref p0)], [])) (jq qX12_init 73 rfl) (jo_pf rfl (Or.inr ⟨rfl, rfl⟩) e109)) ?_
  exact Eq.trans (jb_rt (i := .return_) (n := 1) (jq qX12_init 74 rfl) rfl) H
