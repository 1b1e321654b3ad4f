/-! ===== LEVEL 2: X3 ===== -/
/-! MaskPlays$Part <init> ()V -/
def tX3_init : List (Nat × Instr × Nat) := [(0, .aload_n 0, 1), (1, .invokespecial 3, 3), (4, .aload_n 0, 1), (5, .sipush 150, 3), (8, .newarray .int, 2), (10, .putfield 9, 3), (13, .aload_n 0, 1), (14, .sipush 150, 3), (17, .newarray .long, 2), (19, .putfield 15, 3), (22, .aload_n 0, 1), (23, .sipush 150, 3), (26, .newarray .int, 2), (28, .putfield 19, 3), (31, .aload_n 0, 1), (32, .sipush 150, 3), (35, .newarray .int, 2), (37, .putfield 22, 3), (40, .return_, 1)]
set_option maxRecDepth 100000 in
theorem qX3_init : ∀ q ∈ tX3_init, decode cX3_init q.1 = .ok (q.2.1, q.2.2) := by decide +kernel
theorem gX3_init {d : Nat} {p0 : Nat} {h : jm_H} {r : jm_R} (H : (jm_U p0 (jl_newa h 0 150 fun a2 h3 => (jm_pf h3 p0 3 1 2 (.ref a2)).bind fun h6 => jl_newa h6 1 150 fun a8 h9 => (jm_pf h9 p0 3 2 2 (.ref a8)).bind fun h12 => jl_newa h12 0 150 fun a14 h15 => (jm_pf h15 p0 3 3 2 (.ref a14)).bind fun h18 => jl_newa h18 0 150 fun a20 h21 => (jm_pf h21 p0 3 4 2 (.ref a20)).bind fun h24 => some (.inl none, h24))) = some r) : jm_D (d + 1) mX3_init [.ref p0] h = some r := by
  rw [jm_D_body (Nat.le_of_ble_eq_true rfl)]
  show jm_B d mX3_init (0, [some (.ref p0)], []) h = some r
  refine Eq.trans (jb_nx (i := .aload_n 0) (n := 1) (q := (1, [some (.ref p0)], [.ref p0])) (jq qX3_init 0 rfl) rfl) ?_
  obtain ⟨u1, H⟩ := jm_U_inv H
  refine Eq.trans (jb_nx (i := .invokespecial 3) (n := 3) (q := (4, [some (.ref p0)], [])) (jq qX3_init 1 rfl) (jo_oi (z := mX3_clear) rfl (Nat.le_of_ble_eq_true rfl) u1)) ?_
  refine Eq.trans (jb_nx (i := .aload_n 0) (n := 1) (q := (5, [some (.ref p0)], [.ref p0])) (jq qX3_init 2 rfl) rfl) ?_
  refine Eq.trans (jb_nx (i := .sipush 150) (n := 3) (q := (8, [some (.ref p0)], [.int 150, .ref p0])) (jq qX3_init 3 rfl) rfl) ?_
  obtain ⟨a2, h3, e4, e5, H⟩ := jl_newa_inv H
  refine Eq.trans (jb_nx (i := .newarray .int) (n := 2) (q := (10, [some (.ref p0)], [.ref a2, .ref p0])) (jq qX3_init 4 rfl) (jo_newb rfl e4 e5)) ?_
  obtain ⟨h6, e7, H⟩ := jbd H
  refine Eq.trans (jb_nx (i := .putfield 9) (n := 3) (q := (13, [some (.ref p0)], [])) (jq qX3_init 5 rfl) (jo_pf rfl (Or.inr ⟨rfl, rfl⟩) e7)) ?_
  refine Eq.trans (jb_nx (i := .aload_n 0) (n := 1) (q := (14, [some (.ref p0)], [.ref p0])) (jq qX3_init 6 rfl) rfl) ?_
  refine Eq.trans (jb_nx (i := .sipush 150) (n := 3) (q := (17, [some (.ref p0)], [.int 150, .ref p0])) (jq qX3_init 7 rfl) rfl) ?_
  obtain ⟨a8, h9, e10, e11, H⟩ := jl_newa_inv H
  refine Eq.trans (jb_nx (i := .newarray .long) (n := 2) (q := (19, [some (.ref p0)], [.ref a8, .ref p0])) (jq qX3_init 8 rfl) (jo_newb rfl e10 e11)) ?_
  obtain ⟨h12, e13, H⟩ := jbd H
  refine Eq.trans (jb_nx (i := .putfield 15) (n := 3) (q := (22, [some (.ref p0)], [])) (jq qX3_init 9 rfl) (jo_pf rfl (Or.inr ⟨rfl, rfl⟩) e13)) ?_
  refine Eq.trans (jb_nx (i := .aload_n 0) (n := 1) (q := (23, [some (.ref p0)], [.ref p0])) (jq qX3_init 10 rfl) rfl) ?_
  refine Eq.trans (jb_nx (i := .sipush 150) (n := 3) (q := (26, [some (.ref p0)], [.int 150, .ref p0])) (jq qX3_init 11 rfl) rfl) ?_
  obtain ⟨a14, h15, e16, e17, H⟩ := jl_newa_inv H
  refine Eq.trans (jb_nx (i := .newarray .int) (n := 2) (q := (28, [some (.ref p0)], [.ref a14, .ref p0])) (jq qX3_init 12 rfl) (jo_newb rfl e16 e17)) ?_
  obtain ⟨h18, e19, H⟩ := jbd H
  refine Eq.trans (jb_nx (i := .putfield 19) (n := 3) (q := (31, [some (.ref p0)], [])) (jq qX3_init 13 rfl) (jo_pf rfl (Or.inr ⟨rfl, rfl⟩) e19)) ?_
  refine Eq.trans (jb_nx (i := .aload_n 0) (n := 1) (q := (32, [some (.ref p0)], [.ref p0])) (jq qX3_init 14 rfl) rfl) ?_
  refine Eq.trans (jb_nx (i := .sipush 150) (n := 3) (q := (35, [some (.ref p0)], [.int 150, .ref p0])) (jq qX3_init 15 rfl) rfl) ?_
  obtain ⟨a20, h21, e22, e23, H⟩ := jl_newa_inv H
  refine Eq.trans (jb_nx (i := .newarray .int) (n := 2) (q := (37, [some (.ref p0)], [.ref a20, .ref p0])) (jq qX3_init 16 rfl) (jo_newb rfl e22 e23)) ?_
  obtain ⟨h24, e25, H⟩ := jbd H
  refine Eq.trans (jb_nx (i := .putfield 22) (n := 3) (q := (40, [some (.ref p0)], [])) (jq qX3_init 17 rfl) (jo_pf rfl (Or.inr ⟨rfl, rfl⟩) e25)) ?_
  exact Eq.trans (jb_rt (i := .return_) (n := 1) (jq qX3_init 18 rfl) rfl) H
/-! MaskPlays$Part clear ()V -/
def tX3_clear : List (Nat × Instr × Nat) := [(0, .aload_n 0, 1), (1, .iconst 0, 1), (2, .putfield 25, 3), (5, .return_, 1)]
set_option maxRecDepth 100000 in
theorem qX3_clear : ∀ q ∈ tX3_clear, decode cX3_clear q.1 = .ok (q.2.1, q.2.2) := by decide +kernel
theorem gX3_clear {d : Nat} {p0 : Nat} {h : jm_H} {r : jm_R} (H : ((jm_pf h p0 3 0 0 (.int 0)).bind fun h1 => some (.inl none, h1)) = some r) : jm_D (d + 1) mX3_clear [.ref p0] h = some r := by
  rw [jm_D_body (Nat.le_of_ble_eq_true rfl)]
  show jm_B d mX3_clear (0, [some (.ref p0)], []) h = some r
  refine Eq.trans (jb_nx (i := .aload_n 0) (n := 1) (q := (1, [some (.ref p0)], [.ref p0])) (jq qX3_clear 0 rfl) rfl) ?_
  refine Eq.trans (jb_nx (i := .iconst 0) (n := 1) (q := (2, [some (.ref p0)], [.int 0, .ref p0])) (jq qX3_clear 1 rfl) rfl) ?_
  obtain ⟨h1, e2, H⟩ := jbd H
  refine Eq.trans (jb_nx (i := .putfield 25) (n := 3) (q := (5, [some (.ref p0)], [])) (jq qX3_clear 2 rfl) (jo_pf rfl (Or.inl rfl) e2)) ?_
  exact Eq.trans (jb_rt (i := .return_) (n := 1) (jq qX3_clear 3 rfl) rfl) H
/-! MaskPlays$Part add (IJ)V -/
def tX3_add : List (Nat × Instr × Nat) := [(0, .aload_n 0, 1), (1, .getfield 25, 3), (4, .ifCond .lt 45, 3), (7, .aload_n 0, 1), (8, .getfield 25, 3), (11, .aload_n 0, 1), (12, .getfield 9, 3), (15, .arraylength, 1), (16, .if_icmp .ge 33, 3), (19, .aload_n 0, 1), (20, .getfield 9, 3), (23, .aload_n 0, 1), (24, .getfield 25, 3), (27, .iload_n 1, 1), (28, .iastore, 1), (29, .aload_n 0, 1), (30, .getfield 15, 3), (33, .aload_n 0, 1), (34, .getfield 25, 3), (37, .lload_n 2, 1), (38, .lastore, 1), (39, .aload_n 0, 1), (40, .dup, 1), (41, .getfield 25, 3), (44, .iconst 1, 1), (45, .iadd, 1), (46, .putfield 25, 3), (49, .return_, 1)]
set_option maxRecDepth 100000 in
theorem qX3_add : ∀ q ∈ tX3_add, decode cX3_add q.1 = .ok (q.2.1, q.2.2) := by decide +kernel
theorem gX3_add {d : Nat} {p0 : Nat} {i1 : Int32} {j2 : Int64} {h : jm_H} {r : jm_R} (H : ((jr_I h p0 3 0 0).bind fun x1 => (if x1 < 0 then some (.inl none, h) else (jr_I h p0 3 0 0).bind fun x4 => (jr_R h p0 3 1 2).bind fun a6 => (jm_len h a6).bind fun n8 => (if x4 < (Int32.ofNat n8) then (jr_R h p0 3 1 2).bind fun a11 => (jr_I h p0 3 0 0).bind fun x13 => (jm_asi h a11 0 x13 i1).bind fun h15 => (jr_R h15 p0 3 2 2).bind fun a17 => (jr_I h15 p0 3 0 0).bind fun x19 => (jm_asl h15 a17 x19 j2).bind fun h21 => (jr_I h21 p0 3 0 0).bind fun x23 => (jm_pf h21 p0 3 0 0 (.int (x23 + 1))).bind fun h25 => some (.inl none, h25) else some (.inl none, h)))) = some r) : jm_D (d + 1) mX3_add [.ref p0, .int i1, .long j2] h = some r := by
  rw [jm_D_body (Nat.le_of_ble_eq_true rfl)]
  show jm_B d mX3_add (0, [some (.ref p0), some (.int i1), some (.long j2), none], []) h = some r
  refine Eq.trans (jb_nx (i := .aload_n 0) (n := 1) (q := (1, [some (.ref p0), some (.int i1), some (.long j2), none], [.ref p0])) (jq qX3_add 0 rfl) rfl) ?_
  obtain ⟨x1, e2, H⟩ := jbd H
  refine Eq.trans (jb_nx (i := .getfield 25) (n := 3) (q := (4, [some (.ref p0), some (.int i1), some (.long j2), none], [.int x1])) (jq qX3_add 1 rfl) (jo_gf rfl (jr_I_inv e2))) ?_
  by_cases c3 : x1 < 0
  · rw [if_pos c3] at H
    refine Eq.trans (jb_nx (i := .ifCond .lt 45) (n := 3) (q := (49, [some (.ref p0), some (.int i1), some (.long j2), none], [])) (jq qX3_add 2 rfl) (jo_ifT (jz_ltT c3) rfl)) ?_
    exact Eq.trans (jb_rt (i := .return_) (n := 1) (jq qX3_add 27 rfl) rfl) H
  · rw [if_neg c3] at H
    refine Eq.trans (jb_nx (i := .ifCond .lt 45) (n := 3) (q := (7, [some (.ref p0), some (.int i1), some (.long j2), none], [])) (jq qX3_add 2 rfl) (jo_ifF (jz_ltF c3))) ?_
    refine Eq.trans (jb_nx (i := .aload_n 0) (n := 1) (q := (8, [some (.ref p0), some (.int i1), some (.long j2), none], [.ref p0])) (jq qX3_add 3 rfl) rfl) ?_
    obtain ⟨x4, e5, H⟩ := jbd H
    refine Eq.trans (jb_nx (i := .getfield 25) (n := 3) (q := (11, [some (.ref p0), some (.int i1), some (.long j2), none], [.int x4])) (jq qX3_add 4 rfl) (jo_gf rfl (jr_I_inv e5))) ?_
    refine Eq.trans (jb_nx (i := .aload_n 0) (n := 1) (q := (12, [some (.ref p0), some (.int i1), some (.long j2), none], [.ref p0, .int x4])) (jq qX3_add 5 rfl) rfl) ?_
    obtain ⟨a6, e7, H⟩ := jbd H
    refine Eq.trans (jb_nx (i := .getfield 9) (n := 3) (q := (15, [some (.ref p0), some (.int i1), some (.long j2), none], [.ref a6, .int x4])) (jq qX3_add 6 rfl) (jo_gf rfl (jr_R_inv e7))) ?_
    obtain ⟨n8, e9, H⟩ := jbd H
    refine Eq.trans (jb_nx (i := .arraylength) (n := 1) (q := (16, [some (.ref p0), some (.int i1), some (.long j2), none], [.int (Int32.ofNat n8), .int x4])) (jq qX3_add 7 rfl) (jo_len e9)) ?_
    by_cases c10 : x4 < (Int32.ofNat n8)
    · rw [if_pos c10] at H
      refine Eq.trans (jb_nx (i := .if_icmp .ge 33) (n := 3) (q := (19, [some (.ref p0), some (.int i1), some (.long j2), none], [])) (jq qX3_add 8 rfl) (jo_icF (jz_geF c10))) ?_
      refine Eq.trans (jb_nx (i := .aload_n 0) (n := 1) (q := (20, [some (.ref p0), some (.int i1), some (.long j2), none], [.ref p0])) (jq qX3_add 9 rfl) rfl) ?_
      obtain ⟨a11, e12, H⟩ := jbd H
      refine Eq.trans (jb_nx (i := .getfield 9) (n := 3) (q := (23, [some (.ref p0), some (.int i1), some (.long j2), none], [.ref a11])) (jq qX3_add 10 rfl) (jo_gf rfl (jr_R_inv e12))) ?_
      refine Eq.trans (jb_nx (i := .aload_n 0) (n := 1) (q := (24, [some (.ref p0), some (.int i1), some (.long j2), none], [.ref p0, .ref a11])) (jq qX3_add 11 rfl) rfl) ?_
      obtain ⟨x13, e14, H⟩ := jbd H
      refine Eq.trans (jb_nx (i := .getfield 25) (n := 3) (q := (27, [some (.ref p0), some (.int i1), some (.long j2), none], [.int x13, .ref a11])) (jq qX3_add 12 rfl) (jo_gf rfl (jr_I_inv e14))) ?_
      refine Eq.trans (jb_nx (i := .iload_n 1) (n := 1) (q := (28, [some (.ref p0), some (.int i1), some (.long j2), none], [.int i1, .int x13, .ref a11])) (jq qX3_add 13 rfl) rfl) ?_
      obtain ⟨h15, e16, H⟩ := jbd H
      refine Eq.trans (jb_nx (i := .iastore) (n := 1) (q := (29, [some (.ref p0), some (.int i1), some (.long j2), none], [])) (jq qX3_add 14 rfl) (jo_ias e16)) ?_
      refine Eq.trans (jb_nx (i := .aload_n 0) (n := 1) (q := (30, [some (.ref p0), some (.int i1), some (.long j2), none], [.ref p0])) (jq qX3_add 15 rfl) rfl) ?_
      obtain ⟨a17, e18, H⟩ := jbd H
      refine Eq.trans (jb_nx (i := .getfield 15) (n := 3) (q := (33, [some (.ref p0), some (.int i1), some (.long j2), none], [.ref a17])) (jq qX3_add 16 rfl) (jo_gf rfl (jr_R_inv e18))) ?_
      refine Eq.trans (jb_nx (i := .aload_n 0) (n := 1) (q := (34, [some (.ref p0), some (.int i1), some (.long j2), none], [.ref p0, .ref a17])) (jq qX3_add 17 rfl) rfl) ?_
      obtain ⟨x19, e20, H⟩ := jbd H
      refine Eq.trans (jb_nx (i := .getfield 25) (n := 3) (q := (37, [some (.ref p0), some (.int i1), some (.long j2), none], [.int x19, .ref a17])) (jq qX3_add 18 rfl) (jo_gf rfl (jr_I_inv e20))) ?_
      refine Eq.trans (jb_nx (i := .lload_n 2) (n := 1) (q := (38, [some (.ref p0), some (.int i1), some (.long j2), none], [.long j2, .int x19, .ref a17])) (jq qX3_add 19 rfl) rfl) ?_
      obtain ⟨h21, e22, H⟩ := jbd H
      refine Eq.trans (jb_nx (i := .lastore) (n := 1) (q := (39, [some (.ref p0), some (.int i1), some (.long j2), none], [])) (jq qX3_add 20 rfl) (jo_las e22)) ?_
      refine Eq.trans (jb_nx (i := .aload_n 0) (n := 1) (q := (40, [some (.ref p0), some (.int i1), some (.long j2), none], [.ref p0])) (jq qX3_add 21 rfl) rfl) ?_
      refine Eq.trans (jb_nx (i := .dup) (n := 1) (q := (41, [some (.ref p0), some (.int i1), some (.long j2), none], [.ref p0, .ref p0])) (jq qX3_add 22 rfl) rfl) ?_
      obtain ⟨x23, e24, H⟩ := jbd H
      refine Eq.trans (jb_nx (i := .getfield 25) (n := 3) (q := (44, [some (.ref p0), some (.int i1), some (.long j2), none], [.int x23, .ref p0])) (jq qX3_add 23 rfl) (jo_gf rfl (jr_I_inv e24))) ?_
      refine Eq.trans (jb_nx (i := .iconst 1) (n := 1) (q := (45, [some (.ref p0), some (.int i1), some (.long j2), none], [.int 1, .int x23, .ref p0])) (jq qX3_add 24 rfl) rfl) ?_
      refine Eq.trans (jb_nx (i := .iadd) (n := 1) (q := (46, [some (.ref p0), some (.int i1), some (.long j2), none], [.int (x23 + 1), .ref p0])) (jq qX3_add 25 rfl) rfl) ?_
      obtain ⟨h25, e26, H⟩ := jbd H
      refine Eq.trans (jb_nx (i := .putfield 25) (n := 3) (q := (49, [some (.ref p0), some (.int i1), some (.long j2), none], [])) (jq qX3_add 26 rfl) (jo_pf rfl (Or.inl rfl) e26)) ?_
      exact Eq.trans (jb_rt (i := .return_) (n := 1) (jq qX3_add 27 rfl) rfl) H
    · rw [if_neg c10] at H
      refine Eq.trans (jb_nx (i := .if_icmp .ge 33) (n := 3) (q := (49, [some (.ref p0), some (.int i1), some (.long j2), none], [])) (jq qX3_add 8 rfl) (jo_icT (jz_geT c10) rfl)) ?_
      exact Eq.trans (jb_rt (i := .return_) (n := 1) (jq qX3_add 27 rfl) rfl) H
/-! MaskPlays$Part append (LMaskPlays$Part;II)V -/
def tX3_append : List (Nat × Instr × Nat) := [(0, .iload_n 2, 1), (1, .istore 4, 2), (3, .iload 4, 2), (5, .iload_n 3, 1), (6, .if_icmp .ge 25, 3), (9, .aload_n 0, 1), (10, .aload_n 1, 1), (11, .iload 4, 2), (13, .invokevirtual 29, 3), (16, .aload_n 1, 1), (17, .iload 4, 2), (19, .invokevirtual 33, 3), (22, .invokevirtual 37, 3), (25, .iinc 4 1, 3), (28, .goto (-25), 3), (31, .return_, 1)]
set_option maxRecDepth 100000 in
theorem qX3_append : ∀ q ∈ tX3_append, decode cX3_append q.1 = .ok (q.2.1, q.2.2) := by decide +kernel
noncomputable def kX3_append_3 (d : Nat) (p0 : Nat) (p1 : Nat) (o2 : Option Value) (i3 : Int32) (i4 : Int32) (h : jm_H) : Option jm_R := jm_B d mX3_append (3, [some (.ref p0), some (.ref p1), o2, some (.int i3), some (.int i4)], []) h
theorem gX3_append_3 {d : Nat} {p0 : Nat} {p1 : Nat} {o2 : Option Value} {i3 : Int32} {i4 : Int32} {h : jm_H} {r : jm_R} (H : ((if i4 < i3 then jm_O h p1 3 (jc_I (jm_D d mX3_kindAt [.ref p1, .int i4] h) (fun x4 h2 => jm_O h2 p1 3 (jc_L (jm_D d mX3_nameAt [.ref p1, .int i4] h2) (fun y7 h5 => jm_O h5 p0 3 (jc_V (jm_D d mX3_add [.ref p0, .int x4, .long y7] h5) (fun h8 => kX3_append_3 d p0 p1 o2 i3 (i4 + 1) h8) jx)) jx)) jx) else some (.inl none, h))) = some r) : kX3_append_3 d p0 p1 o2 i3 i4 h = some r := by
  show jm_B d mX3_append (3, [some (.ref p0), some (.ref p1), o2, some (.int i3), some (.int i4)], []) h = some r
  refine Eq.trans (jb_nx (i := .iload 4) (n := 2) (q := (5, [some (.ref p0), some (.ref p1), o2, some (.int i3), some (.int i4)], [.int i4])) (jq qX3_append 2 rfl) rfl) ?_
  refine Eq.trans (jb_nx (i := .iload_n 3) (n := 1) (q := (6, [some (.ref p0), some (.ref p1), o2, some (.int i3), some (.int i4)], [.int i3, .int i4])) (jq qX3_append 3 rfl) rfl) ?_
  by_cases c1 : i4 < i3
  · rw [if_pos c1] at H
    refine Eq.trans (jb_nx (i := .if_icmp .ge 25) (n := 3) (q := (9, [some (.ref p0), some (.ref p1), o2, some (.int i3), some (.int i4)], [])) (jq qX3_append 4 rfl) (jo_icF (jz_geF c1))) ?_
    refine Eq.trans (jb_nx (i := .aload_n 0) (n := 1) (q := (10, [some (.ref p0), some (.ref p1), o2, some (.int i3), some (.int i4)], [.ref p0])) (jq qX3_append 5 rfl) rfl) ?_
    refine Eq.trans (jb_nx (i := .aload_n 1) (n := 1) (q := (11, [some (.ref p0), some (.ref p1), o2, some (.int i3), some (.int i4)], [.ref p1, .ref p0])) (jq qX3_append 6 rfl) rfl) ?_
    refine Eq.trans (jb_nx (i := .iload 4) (n := 2) (q := (13, [some (.ref p0), some (.ref p1), o2, some (.int i3), some (.int i4)], [.int i4, .ref p1, .ref p0])) (jq qX3_append 7 rfl) rfl) ?_
    obtain ⟨b16, H⟩ := jm_O_inv H
    rcases jcI H with ⟨x4, h2, r3, H⟩ | ⟨w17, h18, r3, H⟩
    · refine Eq.trans (jb_nx (i := .invokevirtual 29) (n := 3) (q := (16, [some (.ref p0), some (.ref p1), o2, some (.int i3), some (.int i4)], [.int x4, .ref p0])) (jq qX3_append 8 rfl) (jo_cv (y := mX3_kindAt) rfl (Nat.le_of_ble_eq_true rfl) rfl (Nat.le_of_ble_eq_true rfl) b16 rfl r3 jo_ret)) ?_
      refine Eq.trans (jb_nx (i := .aload_n 1) (n := 1) (q := (17, [some (.ref p0), some (.ref p1), o2, some (.int i3), some (.int i4)], [.ref p1, .int x4, .ref p0])) (jq qX3_append 9 rfl) rfl) ?_
      refine Eq.trans (jb_nx (i := .iload 4) (n := 2) (q := (19, [some (.ref p0), some (.ref p1), o2, some (.int i3), some (.int i4)], [.int i4, .ref p1, .int x4, .ref p0])) (jq qX3_append 10 rfl) rfl) ?_
      obtain ⟨b13, H⟩ := jm_O_inv H
      rcases jcL H with ⟨y7, h5, r6, H⟩ | ⟨w14, h15, r6, H⟩
      · refine Eq.trans (jb_nx (i := .invokevirtual 33) (n := 3) (q := (22, [some (.ref p0), some (.ref p1), o2, some (.int i3), some (.int i4)], [.long y7, .int x4, .ref p0])) (jq qX3_append 11 rfl) (jo_cv (y := mX3_nameAt) rfl (Nat.le_of_ble_eq_true rfl) rfl (Nat.le_of_ble_eq_true rfl) b13 rfl r6 jo_ret)) ?_
        obtain ⟨b10, H⟩ := jm_O_inv H
        rcases jcV H with ⟨h8, r9, H⟩ | ⟨w11, h12, r9, H⟩
        · refine Eq.trans (jb_nx (i := .invokevirtual 37) (n := 3) (q := (25, [some (.ref p0), some (.ref p1), o2, some (.int i3), some (.int i4)], [])) (jq qX3_append 12 rfl) (jo_cv (y := mX3_add) rfl (Nat.le_of_ble_eq_true rfl) rfl (Nat.le_of_ble_eq_true rfl) b10 rfl r9 jo_ret)) ?_
          refine Eq.trans (jb_nx (i := .iinc 4 1) (n := 3) (q := (28, [some (.ref p0), some (.ref p1), o2, some (.int i3), some (.int (i4 + 1))], [])) (jq qX3_append 13 rfl) rfl) ?_
          refine Eq.trans (jb_nx (i := .goto (-25)) (n := 3) (q := (3, [some (.ref p0), some (.ref p1), o2, some (.int i3), some (.int (i4 + 1))], [])) (jq qX3_append 14 rfl) rfl) ?_
          exact H
        · exact Eq.trans (jb_rt (i := .invokevirtual 37) (n := 3) (jq qX3_append 12 rfl) (jo_cv (y := mX3_add) rfl (Nat.le_of_ble_eq_true rfl) rfl (Nat.le_of_ble_eq_true rfl) b10 rfl r9 (jo_exn rfl))) H
      · exact Eq.trans (jb_rt (i := .invokevirtual 33) (n := 3) (jq qX3_append 11 rfl) (jo_cv (y := mX3_nameAt) rfl (Nat.le_of_ble_eq_true rfl) rfl (Nat.le_of_ble_eq_true rfl) b13 rfl r6 (jo_exn rfl))) H
    · exact Eq.trans (jb_rt (i := .invokevirtual 29) (n := 3) (jq qX3_append 8 rfl) (jo_cv (y := mX3_kindAt) rfl (Nat.le_of_ble_eq_true rfl) rfl (Nat.le_of_ble_eq_true rfl) b16 rfl r3 (jo_exn rfl))) H
  · rw [if_neg c1] at H
    refine Eq.trans (jb_nx (i := .if_icmp .ge 25) (n := 3) (q := (31, [some (.ref p0), some (.ref p1), o2, some (.int i3), some (.int i4)], [])) (jq qX3_append 4 rfl) (jo_icT (jz_geT c1) rfl)) ?_
    exact Eq.trans (jb_rt (i := .return_) (n := 1) (jq qX3_append 15 rfl) rfl) H
theorem gX3_append {d : Nat} {p0 : Nat} {p1 : Nat} {i2 : Int32} {i3 : Int32} {h : jm_H} {r : jm_R} (H : (kX3_append_3 d p0 p1 (some (.int i2)) i3 i2 h) = some r) : jm_D (d + 1) mX3_append [.ref p0, .ref p1, .int i2, .int i3] h = some r := by
  rw [jm_D_body (Nat.le_of_ble_eq_true rfl)]
  show jm_B d mX3_append (0, [some (.ref p0), some (.ref p1), some (.int i2), some (.int i3), none], []) h = some r
  refine Eq.trans (jb_nx (i := .iload_n 2) (n := 1) (q := (1, [some (.ref p0), some (.ref p1), some (.int i2), some (.int i3), none], [.int i2])) (jq qX3_append 0 rfl) rfl) ?_
  refine Eq.trans (jb_nx (i := .istore 4) (n := 2) (q := (3, [some (.ref p0), some (.ref p1), some (.int i2), some (.int i3), some (.int i2)], [])) (jq qX3_append 1 rfl) rfl) ?_
  exact H
/-! MaskPlays$Part kindAt (I)I -/
def tX3_kindAt : List (Nat × Instr × Nat) := [(0, .iload_n 1, 1), (1, .ifCond .lt 29, 3), (4, .iload_n 1, 1), (5, .aload_n 0, 1), (6, .getfield 25, 3), (9, .if_icmp .ge 21, 3), (12, .iload_n 1, 1), (13, .aload_n 0, 1), (14, .getfield 9, 3), (17, .arraylength, 1), (18, .if_icmp .ge 12, 3), (21, .aload_n 0, 1), (22, .getfield 9, 3), (25, .iload_n 1, 1), (26, .iaload, 1), (27, .goto 4, 3), (30, .iconst 0, 1), (31, .ireturn, 1)]
set_option maxRecDepth 100000 in
theorem qX3_kindAt : ∀ q ∈ tX3_kindAt, decode cX3_kindAt q.1 = .ok (q.2.1, q.2.2) := by decide +kernel
theorem gX3_kindAt {d : Nat} {p0 : Nat} {i1 : Int32} {h : jm_H} {r : jm_R} (H : ((if i1 < 0 then some (.inl (some (.int 0)), h) else (jr_I h p0 3 0 0).bind fun x2 => (if i1 < x2 then (jr_R h p0 3 1 2).bind fun a5 => (jm_len h a5).bind fun n7 => (if i1 < (Int32.ofNat n7) then (jr_R h p0 3 1 2).bind fun a10 => (jm_ali h a10 0 i1).bind fun x12 => some (.inl (some (.int x12)), h) else some (.inl (some (.int 0)), h)) else some (.inl (some (.int 0)), h)))) = some r) : jm_D (d + 1) mX3_kindAt [.ref p0, .int i1] h = some r := by
  rw [jm_D_body (Nat.le_of_ble_eq_true rfl)]
  show jm_B d mX3_kindAt (0, [some (.ref p0), some (.int i1)], []) h = some r
  refine Eq.trans (jb_nx (i := .iload_n 1) (n := 1) (q := (1, [some (.ref p0), some (.int i1)], [.int i1])) (jq qX3_kindAt 0 rfl) rfl) ?_
  by_cases c1 : i1 < 0
  · rw [if_pos c1] at H
    refine Eq.trans (jb_nx (i := .ifCond .lt 29) (n := 3) (q := (30, [some (.ref p0), some (.int i1)], [])) (jq qX3_kindAt 1 rfl) (jo_ifT (jz_ltT c1) rfl)) ?_
    refine Eq.trans (jb_nx (i := .iconst 0) (n := 1) (q := (31, [some (.ref p0), some (.int i1)], [.int 0])) (jq qX3_kindAt 16 rfl) rfl) ?_
    exact Eq.trans (jb_rt (i := .ireturn) (n := 1) (jq qX3_kindAt 17 rfl) (jo_iret rfl rfl)) H
  · rw [if_neg c1] at H
    refine Eq.trans (jb_nx (i := .ifCond .lt 29) (n := 3) (q := (4, [some (.ref p0), some (.int i1)], [])) (jq qX3_kindAt 1 rfl) (jo_ifF (jz_ltF c1))) ?_
    refine Eq.trans (jb_nx (i := .iload_n 1) (n := 1) (q := (5, [some (.ref p0), some (.int i1)], [.int i1])) (jq qX3_kindAt 2 rfl) rfl) ?_
    refine Eq.trans (jb_nx (i := .aload_n 0) (n := 1) (q := (6, [some (.ref p0), some (.int i1)], [.ref p0, .int i1])) (jq qX3_kindAt 3 rfl) rfl) ?_
    obtain ⟨x2, e3, H⟩ := jbd H
    refine Eq.trans (jb_nx (i := .getfield 25) (n := 3) (q := (9, [some (.ref p0), some (.int i1)], [.int x2, .int i1])) (jq qX3_kindAt 4 rfl) (jo_gf rfl (jr_I_inv e3))) ?_
    by_cases c4 : i1 < x2
    · rw [if_pos c4] at H
      refine Eq.trans (jb_nx (i := .if_icmp .ge 21) (n := 3) (q := (12, [some (.ref p0), some (.int i1)], [])) (jq qX3_kindAt 5 rfl) (jo_icF (jz_geF c4))) ?_
      refine Eq.trans (jb_nx (i := .iload_n 1) (n := 1) (q := (13, [some (.ref p0), some (.int i1)], [.int i1])) (jq qX3_kindAt 6 rfl) rfl) ?_
      refine Eq.trans (jb_nx (i := .aload_n 0) (n := 1) (q := (14, [some (.ref p0), some (.int i1)], [.ref p0, .int i1])) (jq qX3_kindAt 7 rfl) rfl) ?_
      obtain ⟨a5, e6, H⟩ := jbd H
      refine Eq.trans (jb_nx (i := .getfield 9) (n := 3) (q := (17, [some (.ref p0), some (.int i1)], [.ref a5, .int i1])) (jq qX3_kindAt 8 rfl) (jo_gf rfl (jr_R_inv e6))) ?_
      obtain ⟨n7, e8, H⟩ := jbd H
      refine Eq.trans (jb_nx (i := .arraylength) (n := 1) (q := (18, [some (.ref p0), some (.int i1)], [.int (Int32.ofNat n7), .int i1])) (jq qX3_kindAt 9 rfl) (jo_len e8)) ?_
      by_cases c9 : i1 < (Int32.ofNat n7)
      · rw [if_pos c9] at H
        refine Eq.trans (jb_nx (i := .if_icmp .ge 12) (n := 3) (q := (21, [some (.ref p0), some (.int i1)], [])) (jq qX3_kindAt 10 rfl) (jo_icF (jz_geF c9))) ?_
        refine Eq.trans (jb_nx (i := .aload_n 0) (n := 1) (q := (22, [some (.ref p0), some (.int i1)], [.ref p0])) (jq qX3_kindAt 11 rfl) rfl) ?_
        obtain ⟨a10, e11, H⟩ := jbd H
        refine Eq.trans (jb_nx (i := .getfield 9) (n := 3) (q := (25, [some (.ref p0), some (.int i1)], [.ref a10])) (jq qX3_kindAt 12 rfl) (jo_gf rfl (jr_R_inv e11))) ?_
        refine Eq.trans (jb_nx (i := .iload_n 1) (n := 1) (q := (26, [some (.ref p0), some (.int i1)], [.int i1, .ref a10])) (jq qX3_kindAt 13 rfl) rfl) ?_
        obtain ⟨x12, e13, H⟩ := jbd H
        refine Eq.trans (jb_nx (i := .iaload) (n := 1) (q := (27, [some (.ref p0), some (.int i1)], [.int x12])) (jq qX3_kindAt 14 rfl) (jo_ial e13)) ?_
        refine Eq.trans (jb_nx (i := .goto 4) (n := 3) (q := (31, [some (.ref p0), some (.int i1)], [.int x12])) (jq qX3_kindAt 15 rfl) rfl) ?_
        exact Eq.trans (jb_rt (i := .ireturn) (n := 1) (jq qX3_kindAt 17 rfl) (jo_iret rfl rfl)) H
      · rw [if_neg c9] at H
        refine Eq.trans (jb_nx (i := .if_icmp .ge 12) (n := 3) (q := (30, [some (.ref p0), some (.int i1)], [])) (jq qX3_kindAt 10 rfl) (jo_icT (jz_geT c9) rfl)) ?_
        refine Eq.trans (jb_nx (i := .iconst 0) (n := 1) (q := (31, [some (.ref p0), some (.int i1)], [.int 0])) (jq qX3_kindAt 16 rfl) rfl) ?_
        exact Eq.trans (jb_rt (i := .ireturn) (n := 1) (jq qX3_kindAt 17 rfl) (jo_iret rfl rfl)) H
    · rw [if_neg c4] at H
      refine Eq.trans (jb_nx (i := .if_icmp .ge 21) (n := 3) (q := (30, [some (.ref p0), some (.int i1)], [])) (jq qX3_kindAt 5 rfl) (jo_icT (jz_geT c4) rfl)) ?_
      refine Eq.trans (jb_nx (i := .iconst 0) (n := 1) (q := (31, [some (.ref p0), some (.int i1)], [.int 0])) (jq qX3_kindAt 16 rfl) rfl) ?_
      exact Eq.trans (jb_rt (i := .ireturn) (n := 1) (jq qX3_kindAt 17 rfl) (jo_iret rfl rfl)) H
/-! MaskPlays$Part nameAt (I)J -/
def tX3_nameAt : List (Nat × Instr × Nat) := [(0, .iload_n 1, 1), (1, .ifCond .lt 29, 3), (4, .iload_n 1, 1), (5, .aload_n 0, 1), (6, .getfield 25, 3), (9, .if_icmp .ge 21, 3), (12, .iload_n 1, 1), (13, .aload_n 0, 1), (14, .getfield 15, 3), (17, .arraylength, 1), (18, .if_icmp .ge 12, 3), (21, .aload_n 0, 1), (22, .getfield 15, 3), (25, .iload_n 1, 1), (26, .laload, 1), (27, .goto 4, 3), (30, .lconst 0, 1), (31, .lreturn, 1)]
set_option maxRecDepth 100000 in
theorem qX3_nameAt : ∀ q ∈ tX3_nameAt, decode cX3_nameAt q.1 = .ok (q.2.1, q.2.2) := by decide +kernel
theorem gX3_nameAt {d : Nat} {p0 : Nat} {i1 : Int32} {h : jm_H} {r : jm_R} (H : ((if i1 < 0 then some (.inl (some (.long 0)), h) else (jr_I h p0 3 0 0).bind fun x2 => (if i1 < x2 then (jr_R h p0 3 2 2).bind fun a5 => (jm_len h a5).bind fun n7 => (if i1 < (Int32.ofNat n7) then (jr_R h p0 3 2 2).bind fun a10 => (jm_all h a10 i1).bind fun y12 => some (.inl (some (.long y12)), h) else some (.inl (some (.long 0)), h)) else some (.inl (some (.long 0)), h)))) = some r) : jm_D (d + 1) mX3_nameAt [.ref p0, .int i1] h = some r := by
  rw [jm_D_body (Nat.le_of_ble_eq_true rfl)]
  show jm_B d mX3_nameAt (0, [some (.ref p0), some (.int i1)], []) h = some r
  refine Eq.trans (jb_nx (i := .iload_n 1) (n := 1) (q := (1, [some (.ref p0), some (.int i1)], [.int i1])) (jq qX3_nameAt 0 rfl) rfl) ?_
  by_cases c1 : i1 < 0
  · rw [if_pos c1] at H
    refine Eq.trans (jb_nx (i := .ifCond .lt 29) (n := 3) (q := (30, [some (.ref p0), some (.int i1)], [])) (jq qX3_nameAt 1 rfl) (jo_ifT (jz_ltT c1) rfl)) ?_
    refine Eq.trans (jb_nx (i := .lconst 0) (n := 1) (q := (31, [some (.ref p0), some (.int i1)], [.long 0])) (jq qX3_nameAt 16 rfl) rfl) ?_
    exact Eq.trans (jb_rt (i := .lreturn) (n := 1) (jq qX3_nameAt 17 rfl) rfl) H
  · rw [if_neg c1] at H
    refine Eq.trans (jb_nx (i := .ifCond .lt 29) (n := 3) (q := (4, [some (.ref p0), some (.int i1)], [])) (jq qX3_nameAt 1 rfl) (jo_ifF (jz_ltF c1))) ?_
    refine Eq.trans (jb_nx (i := .iload_n 1) (n := 1) (q := (5, [some (.ref p0), some (.int i1)], [.int i1])) (jq qX3_nameAt 2 rfl) rfl) ?_
    refine Eq.trans (jb_nx (i := .aload_n 0) (n := 1) (q := (6, [some (.ref p0), some (.int i1)], [.ref p0, .int i1])) (jq qX3_nameAt 3 rfl) rfl) ?_
    obtain ⟨x2, e3, H⟩ := jbd H
    refine Eq.trans (jb_nx (i := .getfield 25) (n := 3) (q := (9, [some (.ref p0), some (.int i1)], [.int x2, .int i1])) (jq qX3_nameAt 4 rfl) (jo_gf rfl (jr_I_inv e3))) ?_
    by_cases c4 : i1 < x2
    · rw [if_pos c4] at H
      refine Eq.trans (jb_nx (i := .if_icmp .ge 21) (n := 3) (q := (12, [some (.ref p0), some (.int i1)], [])) (jq qX3_nameAt 5 rfl) (jo_icF (jz_geF c4))) ?_
      refine Eq.trans (jb_nx (i := .iload_n 1) (n := 1) (q := (13, [some (.ref p0), some (.int i1)], [.int i1])) (jq qX3_nameAt 6 rfl) rfl) ?_
      refine Eq.trans (jb_nx (i := .aload_n 0) (n := 1) (q := (14, [some (.ref p0), some (.int i1)], [.ref p0, .int i1])) (jq qX3_nameAt 7 rfl) rfl) ?_
      obtain ⟨a5, e6, H⟩ := jbd H
      refine Eq.trans (jb_nx (i := .getfield 15) (n := 3) (q := (17, [some (.ref p0), some (.int i1)], [.ref a5, .int i1])) (jq qX3_nameAt 8 rfl) (jo_gf rfl (jr_R_inv e6))) ?_
      obtain ⟨n7, e8, H⟩ := jbd H
      refine Eq.trans (jb_nx (i := .arraylength) (n := 1) (q := (18, [some (.ref p0), some (.int i1)], [.int (Int32.ofNat n7), .int i1])) (jq qX3_nameAt 9 rfl) (jo_len e8)) ?_
      by_cases c9 : i1 < (Int32.ofNat n7)
      · rw [if_pos c9] at H
        refine Eq.trans (jb_nx (i := .if_icmp .ge 12) (n := 3) (q := (21, [some (.ref p0), some (.int i1)], [])) (jq qX3_nameAt 10 rfl) (jo_icF (jz_geF c9))) ?_
        refine Eq.trans (jb_nx (i := .aload_n 0) (n := 1) (q := (22, [some (.ref p0), some (.int i1)], [.ref p0])) (jq qX3_nameAt 11 rfl) rfl) ?_
        obtain ⟨a10, e11, H⟩ := jbd H
        refine Eq.trans (jb_nx (i := .getfield 15) (n := 3) (q := (25, [some (.ref p0), some (.int i1)], [.ref a10])) (jq qX3_nameAt 12 rfl) (jo_gf rfl (jr_R_inv e11))) ?_
        refine Eq.trans (jb_nx (i := .iload_n 1) (n := 1) (q := (26, [some (.ref p0), some (.int i1)], [.int i1, .ref a10])) (jq qX3_nameAt 13 rfl) rfl) ?_
        obtain ⟨y12, e13, H⟩ := jbd H
        refine Eq.trans (jb_nx (i := .laload) (n := 1) (q := (27, [some (.ref p0), some (.int i1)], [.long y12])) (jq qX3_nameAt 14 rfl) (jo_lal e13)) ?_
        refine Eq.trans (jb_nx (i := .goto 4) (n := 3) (q := (31, [some (.ref p0), some (.int i1)], [.long y12])) (jq qX3_nameAt 15 rfl) rfl) ?_
        exact Eq.trans (jb_rt (i := .lreturn) (n := 1) (jq qX3_nameAt 17 rfl) rfl) H
      · rw [if_neg c9] at H
        refine Eq.trans (jb_nx (i := .if_icmp .ge 12) (n := 3) (q := (30, [some (.ref p0), some (.int i1)], [])) (jq qX3_nameAt 10 rfl) (jo_icT (jz_geT c9) rfl)) ?_
        refine Eq.trans (jb_nx (i := .lconst 0) (n := 1) (q := (31, [some (.ref p0), some (.int i1)], [.long 0])) (jq qX3_nameAt 16 rfl) rfl) ?_
        exact Eq.trans (jb_rt (i := .lreturn) (n := 1) (jq qX3_nameAt 17 rfl) rfl) H
    · rw [if_neg c4] at H
      refine Eq.trans (jb_nx (i := .if_icmp .ge 21) (n := 3) (q := (30, [some (.ref p0), some (.int i1)], [])) (jq qX3_nameAt 5 rfl) (jo_icT (jz_geT c4) rfl)) ?_
      refine Eq.trans (jb_nx (i := .lconst 0) (n := 1) (q := (31, [some (.ref p0), some (.int i1)], [.long 0])) (jq qX3_nameAt 16 rfl) rfl) ?_
      exact Eq.trans (jb_rt (i := .lreturn) (n := 1) (jq qX3_nameAt 17 rfl) rfl) H
/-! MaskPlays$Part link ()V -/
def tX3_link : List (Nat × Instr × Nat) := [(0, .aload_n 0, 1), (1, .getfield 25, 3), (4, .iconst 1, 1), (5, .isub, 1), (6, .istore_n 1, 1), (7, .iload_n 1, 1), (8, .ifCond .lt 58, 3), (11, .iload_n 1, 1), (12, .iconst 1, 1), (13, .iadd, 1), (14, .istore_n 2, 1), (15, .aload_n 0, 1), (16, .iload_n 1, 1), (17, .invokevirtual 29, 3), (20, .ifCond .eq 9, 3), (23, .aload_n 0, 1), (24, .iload_n 2, 1), (25, .invokevirtual 66, 3), (28, .istore_n 2, 1), (29, .aload_n 0, 1), (30, .iload_n 1, 1), (31, .invokevirtual 29, 3), (34, .iconst 2, 1), (35, .if_icmp .ne 9, 3), (38, .aload_n 0, 1), (39, .iload_n 2, 1), (40, .invokevirtual 66, 3), (43, .istore_n 2, 1), (44, .iload_n 1, 1), (45, .aload_n 0, 1), (46, .getfield 19, 3), (49, .arraylength, 1), (50, .if_icmp .ge 10, 3), (53, .aload_n 0, 1), (54, .getfield 19, 3), (57, .iload_n 1, 1), (58, .iload_n 2, 1), (59, .iastore, 1), (60, .iinc 1 (-1), 3), (63, .goto (-56), 3), (66, .aload_n 0, 1), (67, .iconst 0, 1), (68, .iconst (-1), 1), (69, .invokevirtual 69, 3), (72, .iconst 0, 1), (73, .istore_n 1, 1), (74, .iload_n 1, 1), (75, .aload_n 0, 1), (76, .getfield 25, 3), (79, .if_icmp .ge 64, 3), (82, .aload_n 0, 1), (83, .iload_n 1, 1), (84, .invokevirtual 29, 3), (87, .istore_n 2, 1), (88, .iload_n 2, 1), (89, .iconst 1, 1), (90, .if_icmp .ne 14, 3), (93, .aload_n 0, 1), (94, .iload_n 1, 1), (95, .iconst 1, 1), (96, .iadd, 1), (97, .iload_n 1, 1), (98, .invokevirtual 69, 3), (101, .goto 36, 3), (104, .iload_n 2, 1), (105, .iconst 2, 1), (106, .if_icmp .ne 31, 3), (109, .aload_n 0, 1), (110, .iload_n 1, 1), (111, .iconst 1, 1), (112, .iadd, 1), (113, .aload_n 0, 1), (114, .iload_n 1, 1), (115, .invokevirtual 73, 3), (118, .invokevirtual 69, 3), (121, .aload_n 0, 1), (122, .aload_n 0, 1), (123, .iload_n 1, 1), (124, .iconst 1, 1), (125, .iadd, 1), (126, .invokevirtual 66, 3), (129, .aload_n 0, 1), (130, .iload_n 1, 1), (131, .invokevirtual 73, 3), (134, .invokevirtual 69, 3), (137, .iinc 1 1, 3), (140, .goto (-66), 3), (143, .return_, 1)]
set_option maxRecDepth 100000 in
theorem qX3_link : ∀ q ∈ tX3_link, decode cX3_link q.1 = .ok (q.2.1, q.2.2) := by decide +kernel
noncomputable def kX3_link_7 (d : Nat) (p0 : Nat) (i1 : Int32) (o2 : Option Value) (h : jm_H) : Option jm_R := jm_B d mX3_link (7, [some (.ref p0), some (.int i1), o2], []) h
noncomputable def kX3_link_44 (d : Nat) (p0 : Nat) (i1 : Int32) (i2 : Int32) (h : jm_H) : Option jm_R := jm_B d mX3_link (44, [some (.ref p0), some (.int i1), some (.int i2)], []) h
noncomputable def kX3_link_74 (d : Nat) (p0 : Nat) (i1 : Int32) (o2 : Option Value) (h : jm_H) : Option jm_R := jm_B d mX3_link (74, [some (.ref p0), some (.int i1), o2], []) h
theorem gX3_link_7 {d : Nat} {p0 : Nat} {i1 : Int32} {o2 : Option Value} {h : jm_H} {r : jm_R} (H : ((if i1 < 0 then jm_O h p0 3 (jc_V (jm_D d mX3_setOuter [.ref p0, .int 0, .int (-1)] h) (fun h4 => kX3_link_74 d p0 0 o2 h4) jx) else jm_O h p0 3 (jc_I (jm_D d mX3_kindAt [.ref p0, .int i1] h) (fun x11 h9 => (if x11 = 0 then jm_O h9 p0 3 (jc_I (jm_D d mX3_kindAt [.ref p0, .int i1] h9) (fun x15 h13 => (if x15 = 2 then jm_O h13 p0 3 (jc_I (jm_D d mX3_endAt [.ref p0, .int (i1 + 1)] h13) (fun x19 h17 => kX3_link_44 d p0 i1 x19 h17) jx) else kX3_link_44 d p0 i1 (i1 + 1) h13)) jx) else jm_O h9 p0 3 (jc_I (jm_D d mX3_endAt [.ref p0, .int (i1 + 1)] h9) (fun x28 h26 => jm_O h26 p0 3 (jc_I (jm_D d mX3_kindAt [.ref p0, .int i1] h26) (fun x31 h29 => (if x31 = 2 then jm_O h29 p0 3 (jc_I (jm_D d mX3_endAt [.ref p0, .int x28] h29) (fun x35 h33 => kX3_link_44 d p0 i1 x35 h33) jx) else kX3_link_44 d p0 i1 x28 h29)) jx)) jx))) jx))) = some r) : kX3_link_7 d p0 i1 o2 h = some r := by
  show jm_B d mX3_link (7, [some (.ref p0), some (.int i1), o2], []) h = some r
  refine Eq.trans (jb_nx (i := .iload_n 1) (n := 1) (q := (8, [some (.ref p0), some (.int i1), o2], [.int i1])) (jq qX3_link 5 rfl) rfl) ?_
  by_cases c3 : i1 < 0
  · rw [if_pos c3] at H
    refine Eq.trans (jb_nx (i := .ifCond .lt 58) (n := 3) (q := (66, [some (.ref p0), some (.int i1), o2], [])) (jq qX3_link 6 rfl) (jo_ifT (jz_ltT c3) rfl)) ?_
    refine Eq.trans (jb_nx (i := .aload_n 0) (n := 1) (q := (67, [some (.ref p0), some (.int i1), o2], [.ref p0])) (jq qX3_link 40 rfl) rfl) ?_
    refine Eq.trans (jb_nx (i := .iconst 0) (n := 1) (q := (68, [some (.ref p0), some (.int i1), o2], [.int 0, .ref p0])) (jq qX3_link 41 rfl) rfl) ?_
    refine Eq.trans (jb_nx (i := .iconst (-1)) (n := 1) (q := (69, [some (.ref p0), some (.int i1), o2], [.int (-1), .int 0, .ref p0])) (jq qX3_link 42 rfl) rfl) ?_
    obtain ⟨b6, H⟩ := jm_O_inv H
    rcases jcV H with ⟨h4, r5, H⟩ | ⟨w7, h8, r5, H⟩
    · refine Eq.trans (jb_nx (i := .invokevirtual 69) (n := 3) (q := (72, [some (.ref p0), some (.int i1), o2], [])) (jq qX3_link 43 rfl) (jo_cv (y := mX3_setOuter) rfl (Nat.le_of_ble_eq_true rfl) rfl (Nat.le_of_ble_eq_true rfl) b6 rfl r5 jo_ret)) ?_
      refine Eq.trans (jb_nx (i := .iconst 0) (n := 1) (q := (73, [some (.ref p0), some (.int i1), o2], [.int 0])) (jq qX3_link 44 rfl) rfl) ?_
      refine Eq.trans (jb_nx (i := .istore_n 1) (n := 1) (q := (74, [some (.ref p0), some (.int 0), o2], [])) (jq qX3_link 45 rfl) rfl) ?_
      exact H
    · exact Eq.trans (jb_rt (i := .invokevirtual 69) (n := 3) (jq qX3_link 43 rfl) (jo_cv (y := mX3_setOuter) rfl (Nat.le_of_ble_eq_true rfl) rfl (Nat.le_of_ble_eq_true rfl) b6 rfl r5 (jo_exn rfl))) H
  · rw [if_neg c3] at H
    refine Eq.trans (jb_nx (i := .ifCond .lt 58) (n := 3) (q := (11, [some (.ref p0), some (.int i1), o2], [])) (jq qX3_link 6 rfl) (jo_ifF (jz_ltF c3))) ?_
    refine Eq.trans (jb_nx (i := .iload_n 1) (n := 1) (q := (12, [some (.ref p0), some (.int i1), o2], [.int i1])) (jq qX3_link 7 rfl) rfl) ?_
    refine Eq.trans (jb_nx (i := .iconst 1) (n := 1) (q := (13, [some (.ref p0), some (.int i1), o2], [.int 1, .int i1])) (jq qX3_link 8 rfl) rfl) ?_
    refine Eq.trans (jb_nx (i := .iadd) (n := 1) (q := (14, [some (.ref p0), some (.int i1), o2], [.int (i1 + 1)])) (jq qX3_link 9 rfl) rfl) ?_
    refine Eq.trans (jb_nx (i := .istore_n 2) (n := 1) (q := (15, [some (.ref p0), some (.int i1), some (.int (i1 + 1))], [])) (jq qX3_link 10 rfl) rfl) ?_
    refine Eq.trans (jb_nx (i := .aload_n 0) (n := 1) (q := (16, [some (.ref p0), some (.int i1), some (.int (i1 + 1))], [.ref p0])) (jq qX3_link 11 rfl) rfl) ?_
    refine Eq.trans (jb_nx (i := .iload_n 1) (n := 1) (q := (17, [some (.ref p0), some (.int i1), some (.int (i1 + 1))], [.int i1, .ref p0])) (jq qX3_link 12 rfl) rfl) ?_
    obtain ⟨b45, H⟩ := jm_O_inv H
    rcases jcI H with ⟨x11, h9, r10, H⟩ | ⟨w46, h47, r10, H⟩
    · refine Eq.trans (jb_nx (i := .invokevirtual 29) (n := 3) (q := (20, [some (.ref p0), some (.int i1), some (.int (i1 + 1))], [.int x11])) (jq qX3_link 13 rfl) (jo_cv (y := mX3_kindAt) rfl (Nat.le_of_ble_eq_true rfl) rfl (Nat.le_of_ble_eq_true rfl) b45 rfl r10 jo_ret)) ?_
      by_cases c12 : x11 = 0
      · rw [if_pos c12] at H
        refine Eq.trans (jb_nx (i := .ifCond .eq 9) (n := 3) (q := (29, [some (.ref p0), some (.int i1), some (.int (i1 + 1))], [])) (jq qX3_link 14 rfl) (jo_ifT (jz_eqT c12) rfl)) ?_
        refine Eq.trans (jb_nx (i := .aload_n 0) (n := 1) (q := (30, [some (.ref p0), some (.int i1), some (.int (i1 + 1))], [.ref p0])) (jq qX3_link 19 rfl) rfl) ?_
        refine Eq.trans (jb_nx (i := .iload_n 1) (n := 1) (q := (31, [some (.ref p0), some (.int i1), some (.int (i1 + 1))], [.int i1, .ref p0])) (jq qX3_link 20 rfl) rfl) ?_
        obtain ⟨b23, H⟩ := jm_O_inv H
        rcases jcI H with ⟨x15, h13, r14, H⟩ | ⟨w24, h25, r14, H⟩
        · refine Eq.trans (jb_nx (i := .invokevirtual 29) (n := 3) (q := (34, [some (.ref p0), some (.int i1), some (.int (i1 + 1))], [.int x15])) (jq qX3_link 21 rfl) (jo_cv (y := mX3_kindAt) rfl (Nat.le_of_ble_eq_true rfl) rfl (Nat.le_of_ble_eq_true rfl) b23 rfl r14 jo_ret)) ?_
          refine Eq.trans (jb_nx (i := .iconst 2) (n := 1) (q := (35, [some (.ref p0), some (.int i1), some (.int (i1 + 1))], [.int 2, .int x15])) (jq qX3_link 22 rfl) rfl) ?_
          by_cases c16 : x15 = 2
          · rw [if_pos c16] at H
            refine Eq.trans (jb_nx (i := .if_icmp .ne 9) (n := 3) (q := (38, [some (.ref p0), some (.int i1), some (.int (i1 + 1))], [])) (jq qX3_link 23 rfl) (jo_icF (jz_neF c16))) ?_
            refine Eq.trans (jb_nx (i := .aload_n 0) (n := 1) (q := (39, [some (.ref p0), some (.int i1), some (.int (i1 + 1))], [.ref p0])) (jq qX3_link 24 rfl) rfl) ?_
            refine Eq.trans (jb_nx (i := .iload_n 2) (n := 1) (q := (40, [some (.ref p0), some (.int i1), some (.int (i1 + 1))], [.int (i1 + 1), .ref p0])) (jq qX3_link 25 rfl) rfl) ?_
            obtain ⟨b20, H⟩ := jm_O_inv H
            rcases jcI H with ⟨x19, h17, r18, H⟩ | ⟨w21, h22, r18, H⟩
            · refine Eq.trans (jb_nx (i := .invokevirtual 66) (n := 3) (q := (43, [some (.ref p0), some (.int i1), some (.int (i1 + 1))], [.int x19])) (jq qX3_link 26 rfl) (jo_cv (y := mX3_endAt) rfl (Nat.le_of_ble_eq_true rfl) rfl (Nat.le_of_ble_eq_true rfl) b20 rfl r18 jo_ret)) ?_
              refine Eq.trans (jb_nx (i := .istore_n 2) (n := 1) (q := (44, [some (.ref p0), some (.int i1), some (.int x19)], [])) (jq qX3_link 27 rfl) rfl) ?_
              exact H
            · exact Eq.trans (jb_rt (i := .invokevirtual 66) (n := 3) (jq qX3_link 26 rfl) (jo_cv (y := mX3_endAt) rfl (Nat.le_of_ble_eq_true rfl) rfl (Nat.le_of_ble_eq_true rfl) b20 rfl r18 (jo_exn rfl))) H
          · rw [if_neg c16] at H
            refine Eq.trans (jb_nx (i := .if_icmp .ne 9) (n := 3) (q := (44, [some (.ref p0), some (.int i1), some (.int (i1 + 1))], [])) (jq qX3_link 23 rfl) (jo_icT (jz_neT c16) rfl)) ?_
            exact H
        · exact Eq.trans (jb_rt (i := .invokevirtual 29) (n := 3) (jq qX3_link 21 rfl) (jo_cv (y := mX3_kindAt) rfl (Nat.le_of_ble_eq_true rfl) rfl (Nat.le_of_ble_eq_true rfl) b23 rfl r14 (jo_exn rfl))) H
      · rw [if_neg c12] at H
        refine Eq.trans (jb_nx (i := .ifCond .eq 9) (n := 3) (q := (23, [some (.ref p0), some (.int i1), some (.int (i1 + 1))], [])) (jq qX3_link 14 rfl) (jo_ifF (jz_eqF c12))) ?_
        refine Eq.trans (jb_nx (i := .aload_n 0) (n := 1) (q := (24, [some (.ref p0), some (.int i1), some (.int (i1 + 1))], [.ref p0])) (jq qX3_link 15 rfl) rfl) ?_
        refine Eq.trans (jb_nx (i := .iload_n 2) (n := 1) (q := (25, [some (.ref p0), some (.int i1), some (.int (i1 + 1))], [.int (i1 + 1), .ref p0])) (jq qX3_link 16 rfl) rfl) ?_
        obtain ⟨b42, H⟩ := jm_O_inv H
        rcases jcI H with ⟨x28, h26, r27, H⟩ | ⟨w43, h44, r27, H⟩
        · refine Eq.trans (jb_nx (i := .invokevirtual 66) (n := 3) (q := (28, [some (.ref p0), some (.int i1), some (.int (i1 + 1))], [.int x28])) (jq qX3_link 17 rfl) (jo_cv (y := mX3_endAt) rfl (Nat.le_of_ble_eq_true rfl) rfl (Nat.le_of_ble_eq_true rfl) b42 rfl r27 jo_ret)) ?_
          refine Eq.trans (jb_nx (i := .istore_n 2) (n := 1) (q := (29, [some (.ref p0), some (.int i1), some (.int x28)], [])) (jq qX3_link 18 rfl) rfl) ?_
          refine Eq.trans (jb_nx (i := .aload_n 0) (n := 1) (q := (30, [some (.ref p0), some (.int i1), some (.int x28)], [.ref p0])) (jq qX3_link 19 rfl) rfl) ?_
          refine Eq.trans (jb_nx (i := .iload_n 1) (n := 1) (q := (31, [some (.ref p0), some (.int i1), some (.int x28)], [.int i1, .ref p0])) (jq qX3_link 20 rfl) rfl) ?_
          obtain ⟨b39, H⟩ := jm_O_inv H
          rcases jcI H with ⟨x31, h29, r30, H⟩ | ⟨w40, h41, r30, H⟩
          · refine Eq.trans (jb_nx (i := .invokevirtual 29) (n := 3) (q := (34, [some (.ref p0), some (.int i1), some (.int x28)], [.int x31])) (jq qX3_link 21 rfl) (jo_cv (y := mX3_kindAt) rfl (Nat.le_of_ble_eq_true rfl) rfl (Nat.le_of_ble_eq_true rfl) b39 rfl r30 jo_ret)) ?_
            refine Eq.trans (jb_nx (i := .iconst 2) (n := 1) (q := (35, [some (.ref p0), some (.int i1), some (.int x28)], [.int 2, .int x31])) (jq qX3_link 22 rfl) rfl) ?_
            by_cases c32 : x31 = 2
            · rw [if_pos c32] at H
              refine Eq.trans (jb_nx (i := .if_icmp .ne 9) (n := 3) (q := (38, [some (.ref p0), some (.int i1), some (.int x28)], [])) (jq qX3_link 23 rfl) (jo_icF (jz_neF c32))) ?_
              refine Eq.trans (jb_nx (i := .aload_n 0) (n := 1) (q := (39, [some (.ref p0), some (.int i1), some (.int x28)], [.ref p0])) (jq qX3_link 24 rfl) rfl) ?_
              refine Eq.trans (jb_nx (i := .iload_n 2) (n := 1) (q := (40, [some (.ref p0), some (.int i1), some (.int x28)], [.int x28, .ref p0])) (jq qX3_link 25 rfl) rfl) ?_
              obtain ⟨b36, H⟩ := jm_O_inv H
              rcases jcI H with ⟨x35, h33, r34, H⟩ | ⟨w37, h38, r34, H⟩
              · refine Eq.trans (jb_nx (i := .invokevirtual 66) (n := 3) (q := (43, [some (.ref p0), some (.int i1), some (.int x28)], [.int x35])) (jq qX3_link 26 rfl) (jo_cv (y := mX3_endAt) rfl (Nat.le_of_ble_eq_true rfl) rfl (Nat.le_of_ble_eq_true rfl) b36 rfl r34 jo_ret)) ?_
                refine Eq.trans (jb_nx (i := .istore_n 2) (n := 1) (q := (44, [some (.ref p0), some (.int i1), some (.int x35)], [])) (jq qX3_link 27 rfl) rfl) ?_
                exact H
              · exact Eq.trans (jb_rt (i := .invokevirtual 66) (n := 3) (jq qX3_link 26 rfl) (jo_cv (y := mX3_endAt) rfl (Nat.le_of_ble_eq_true rfl) rfl (Nat.le_of_ble_eq_true rfl) b36 rfl r34 (jo_exn rfl))) H
            · rw [if_neg c32] at H
              refine Eq.trans (jb_nx (i := .if_icmp .ne 9) (n := 3) (q := (44, [some (.ref p0), some (.int i1), some (.int x28)], [])) (jq qX3_link 23 rfl) (jo_icT (jz_neT c32) rfl)) ?_
              exact H
          · exact Eq.trans (jb_rt (i := .invokevirtual 29) (n := 3) (jq qX3_link 21 rfl) (jo_cv (y := mX3_kindAt) rfl (Nat.le_of_ble_eq_true rfl) rfl (Nat.le_of_ble_eq_true rfl) b39 rfl r30 (jo_exn rfl))) H
        · exact Eq.trans (jb_rt (i := .invokevirtual 66) (n := 3) (jq qX3_link 17 rfl) (jo_cv (y := mX3_endAt) rfl (Nat.le_of_ble_eq_true rfl) rfl (Nat.le_of_ble_eq_true rfl) b42 rfl r27 (jo_exn rfl))) H
    · exact Eq.trans (jb_rt (i := .invokevirtual 29) (n := 3) (jq qX3_link 13 rfl) (jo_cv (y := mX3_kindAt) rfl (Nat.le_of_ble_eq_true rfl) rfl (Nat.le_of_ble_eq_true rfl) b45 rfl r10 (jo_exn rfl))) H
theorem gX3_link_44 {d : Nat} {p0 : Nat} {i1 : Int32} {i2 : Int32} {h : jm_H} {r : jm_R} (H : ((jr_R h p0 3 3 2).bind fun a48 => (jm_len h a48).bind fun n50 => (if i1 < (Int32.ofNat n50) then (jr_R h p0 3 3 2).bind fun a53 => (jm_asi h a53 0 i1 i2).bind fun h55 => kX3_link_7 d p0 (i1 + (-1)) (some (.int i2)) h55 else kX3_link_7 d p0 (i1 + (-1)) (some (.int i2)) h)) = some r) : kX3_link_44 d p0 i1 i2 h = some r := by
  show jm_B d mX3_link (44, [some (.ref p0), some (.int i1), some (.int i2)], []) h = some r
  refine Eq.trans (jb_nx (i := .iload_n 1) (n := 1) (q := (45, [some (.ref p0), some (.int i1), some (.int i2)], [.int i1])) (jq qX3_link 28 rfl) rfl) ?_
  refine Eq.trans (jb_nx (i := .aload_n 0) (n := 1) (q := (46, [some (.ref p0), some (.int i1), some (.int i2)], [.ref p0, .int i1])) (jq qX3_link 29 rfl) rfl) ?_
  obtain ⟨a48, e49, H⟩ := jbd H
  refine Eq.trans (jb_nx (i := .getfield 19) (n := 3) (q := (49, [some (.ref p0), some (.int i1), some (.int i2)], [.ref a48, .int i1])) (jq qX3_link 30 rfl) (jo_gf rfl (jr_R_inv e49))) ?_
  obtain ⟨n50, e51, H⟩ := jbd H
  refine Eq.trans (jb_nx (i := .arraylength) (n := 1) (q := (50, [some (.ref p0), some (.int i1), some (.int i2)], [.int (Int32.ofNat n50), .int i1])) (jq qX3_link 31 rfl) (jo_len e51)) ?_
  by_cases c52 : i1 < (Int32.ofNat n50)
  · rw [if_pos c52] at H
    refine Eq.trans (jb_nx (i := .if_icmp .ge 10) (n := 3) (q := (53, [some (.ref p0), some (.int i1), some (.int i2)], [])) (jq qX3_link 32 rfl) (jo_icF (jz_geF c52))) ?_
    refine Eq.trans (jb_nx (i := .aload_n 0) (n := 1) (q := (54, [some (.ref p0), some (.int i1), some (.int i2)], [.ref p0])) (jq qX3_link 33 rfl) rfl) ?_
    obtain ⟨a53, e54, H⟩ := jbd H
    refine Eq.trans (jb_nx (i := .getfield 19) (n := 3) (q := (57, [some (.ref p0), some (.int i1), some (.int i2)], [.ref a53])) (jq qX3_link 34 rfl) (jo_gf rfl (jr_R_inv e54))) ?_
    refine Eq.trans (jb_nx (i := .iload_n 1) (n := 1) (q := (58, [some (.ref p0), some (.int i1), some (.int i2)], [.int i1, .ref a53])) (jq qX3_link 35 rfl) rfl) ?_
    refine Eq.trans (jb_nx (i := .iload_n 2) (n := 1) (q := (59, [some (.ref p0), some (.int i1), some (.int i2)], [.int i2, .int i1, .ref a53])) (jq qX3_link 36 rfl) rfl) ?_
    obtain ⟨h55, e56, H⟩ := jbd H
    refine Eq.trans (jb_nx (i := .iastore) (n := 1) (q := (60, [some (.ref p0), some (.int i1), some (.int i2)], [])) (jq qX3_link 37 rfl) (jo_ias e56)) ?_
    refine Eq.trans (jb_nx (i := .iinc 1 (-1)) (n := 3) (q := (63, [some (.ref p0), some (.int (i1 + (-1))), some (.int i2)], [])) (jq qX3_link 38 rfl) rfl) ?_
    refine Eq.trans (jb_nx (i := .goto (-56)) (n := 3) (q := (7, [some (.ref p0), some (.int (i1 + (-1))), some (.int i2)], [])) (jq qX3_link 39 rfl) rfl) ?_
    exact H
  · rw [if_neg c52] at H
    refine Eq.trans (jb_nx (i := .if_icmp .ge 10) (n := 3) (q := (60, [some (.ref p0), some (.int i1), some (.int i2)], [])) (jq qX3_link 32 rfl) (jo_icT (jz_geT c52) rfl)) ?_
    refine Eq.trans (jb_nx (i := .iinc 1 (-1)) (n := 3) (q := (63, [some (.ref p0), some (.int (i1 + (-1))), some (.int i2)], [])) (jq qX3_link 38 rfl) rfl) ?_
    refine Eq.trans (jb_nx (i := .goto (-56)) (n := 3) (q := (7, [some (.ref p0), some (.int (i1 + (-1))), some (.int i2)], [])) (jq qX3_link 39 rfl) rfl) ?_
    exact H
theorem gX3_link_74 {d : Nat} {p0 : Nat} {i1 : Int32} {o2 : Option Value} {h : jm_H} {r : jm_R} (H : ((jr_I h p0 3 0 0).bind fun x57 => (if i1 < x57 then jm_O h p0 3 (jc_I (jm_D d mX3_kindAt [.ref p0, .int i1] h) (fun x62 h60 => (if x62 = 1 then jm_O h60 p0 3 (jc_V (jm_D d mX3_setOuter [.ref p0, .int (i1 + 1), .int i1] h60) (fun h93 => kX3_link_74 d p0 (i1 + 1) (some (.int x62)) h93) jx) else (if x62 = 2 then jm_O h60 p0 3 (jc_I (jm_D d mX3_outerAt [.ref p0, .int i1] h60) (fun x67 h65 => jm_O h65 p0 3 (jc_V (jm_D d mX3_setOuter [.ref p0, .int (i1 + 1), .int x67] h65) (fun h68 => jm_O h68 p0 3 (jc_I (jm_D d mX3_endAt [.ref p0, .int (i1 + 1)] h68) (fun x72 h70 => jm_O h70 p0 3 (jc_I (jm_D d mX3_outerAt [.ref p0, .int i1] h70) (fun x75 h73 => jm_O h73 p0 3 (jc_V (jm_D d mX3_setOuter [.ref p0, .int x72, .int x75] h73) (fun h76 => kX3_link_74 d p0 (i1 + 1) (some (.int x62)) h76) jx)) jx)) jx)) jx)) jx) else kX3_link_74 d p0 (i1 + 1) (some (.int x62)) h60))) jx) else some (.inl none, h))) = some r) : kX3_link_74 d p0 i1 o2 h = some r := by
  show jm_B d mX3_link (74, [some (.ref p0), some (.int i1), o2], []) h = some r
  refine Eq.trans (jb_nx (i := .iload_n 1) (n := 1) (q := (75, [some (.ref p0), some (.int i1), o2], [.int i1])) (jq qX3_link 46 rfl) rfl) ?_
  refine Eq.trans (jb_nx (i := .aload_n 0) (n := 1) (q := (76, [some (.ref p0), some (.int i1), o2], [.ref p0, .int i1])) (jq qX3_link 47 rfl) rfl) ?_
  obtain ⟨x57, e58, H⟩ := jbd H
  refine Eq.trans (jb_nx (i := .getfield 25) (n := 3) (q := (79, [some (.ref p0), some (.int i1), o2], [.int x57, .int i1])) (jq qX3_link 48 rfl) (jo_gf rfl (jr_I_inv e58))) ?_
  by_cases c59 : i1 < x57
  · rw [if_pos c59] at H
    refine Eq.trans (jb_nx (i := .if_icmp .ge 64) (n := 3) (q := (82, [some (.ref p0), some (.int i1), o2], [])) (jq qX3_link 49 rfl) (jo_icF (jz_geF c59))) ?_
    refine Eq.trans (jb_nx (i := .aload_n 0) (n := 1) (q := (83, [some (.ref p0), some (.int i1), o2], [.ref p0])) (jq qX3_link 50 rfl) rfl) ?_
    refine Eq.trans (jb_nx (i := .iload_n 1) (n := 1) (q := (84, [some (.ref p0), some (.int i1), o2], [.int i1, .ref p0])) (jq qX3_link 51 rfl) rfl) ?_
    obtain ⟨b98, H⟩ := jm_O_inv H
    rcases jcI H with ⟨x62, h60, r61, H⟩ | ⟨w99, h100, r61, H⟩
    · refine Eq.trans (jb_nx (i := .invokevirtual 29) (n := 3) (q := (87, [some (.ref p0), some (.int i1), o2], [.int x62])) (jq qX3_link 52 rfl) (jo_cv (y := mX3_kindAt) rfl (Nat.le_of_ble_eq_true rfl) rfl (Nat.le_of_ble_eq_true rfl) b98 rfl r61 jo_ret)) ?_
      refine Eq.trans (jb_nx (i := .istore_n 2) (n := 1) (q := (88, [some (.ref p0), some (.int i1), some (.int x62)], [])) (jq qX3_link 53 rfl) rfl) ?_
      refine Eq.trans (jb_nx (i := .iload_n 2) (n := 1) (q := (89, [some (.ref p0), some (.int i1), some (.int x62)], [.int x62])) (jq qX3_link 54 rfl) rfl) ?_
      refine Eq.trans (jb_nx (i := .iconst 1) (n := 1) (q := (90, [some (.ref p0), some (.int i1), some (.int x62)], [.int 1, .int x62])) (jq qX3_link 55 rfl) rfl) ?_
      by_cases c63 : x62 = 1
      · rw [if_pos c63] at H
        refine Eq.trans (jb_nx (i := .if_icmp .ne 14) (n := 3) (q := (93, [some (.ref p0), some (.int i1), some (.int x62)], [])) (jq qX3_link 56 rfl) (jo_icF (jz_neF c63))) ?_
        refine Eq.trans (jb_nx (i := .aload_n 0) (n := 1) (q := (94, [some (.ref p0), some (.int i1), some (.int x62)], [.ref p0])) (jq qX3_link 57 rfl) rfl) ?_
        refine Eq.trans (jb_nx (i := .iload_n 1) (n := 1) (q := (95, [some (.ref p0), some (.int i1), some (.int x62)], [.int i1, .ref p0])) (jq qX3_link 58 rfl) rfl) ?_
        refine Eq.trans (jb_nx (i := .iconst 1) (n := 1) (q := (96, [some (.ref p0), some (.int i1), some (.int x62)], [.int 1, .int i1, .ref p0])) (jq qX3_link 59 rfl) rfl) ?_
        refine Eq.trans (jb_nx (i := .iadd) (n := 1) (q := (97, [some (.ref p0), some (.int i1), some (.int x62)], [.int (i1 + 1), .ref p0])) (jq qX3_link 60 rfl) rfl) ?_
        refine Eq.trans (jb_nx (i := .iload_n 1) (n := 1) (q := (98, [some (.ref p0), some (.int i1), some (.int x62)], [.int i1, .int (i1 + 1), .ref p0])) (jq qX3_link 61 rfl) rfl) ?_
        obtain ⟨b95, H⟩ := jm_O_inv H
        rcases jcV H with ⟨h93, r94, H⟩ | ⟨w96, h97, r94, H⟩
        · refine Eq.trans (jb_nx (i := .invokevirtual 69) (n := 3) (q := (101, [some (.ref p0), some (.int i1), some (.int x62)], [])) (jq qX3_link 62 rfl) (jo_cv (y := mX3_setOuter) rfl (Nat.le_of_ble_eq_true rfl) rfl (Nat.le_of_ble_eq_true rfl) b95 rfl r94 jo_ret)) ?_
          refine Eq.trans (jb_nx (i := .goto 36) (n := 3) (q := (137, [some (.ref p0), some (.int i1), some (.int x62)], [])) (jq qX3_link 63 rfl) rfl) ?_
          refine Eq.trans (jb_nx (i := .iinc 1 1) (n := 3) (q := (140, [some (.ref p0), some (.int (i1 + 1)), some (.int x62)], [])) (jq qX3_link 85 rfl) rfl) ?_
          refine Eq.trans (jb_nx (i := .goto (-66)) (n := 3) (q := (74, [some (.ref p0), some (.int (i1 + 1)), some (.int x62)], [])) (jq qX3_link 86 rfl) rfl) ?_
          exact H
        · exact Eq.trans (jb_rt (i := .invokevirtual 69) (n := 3) (jq qX3_link 62 rfl) (jo_cv (y := mX3_setOuter) rfl (Nat.le_of_ble_eq_true rfl) rfl (Nat.le_of_ble_eq_true rfl) b95 rfl r94 (jo_exn rfl))) H
      · rw [if_neg c63] at H
        refine Eq.trans (jb_nx (i := .if_icmp .ne 14) (n := 3) (q := (104, [some (.ref p0), some (.int i1), some (.int x62)], [])) (jq qX3_link 56 rfl) (jo_icT (jz_neT c63) rfl)) ?_
        refine Eq.trans (jb_nx (i := .iload_n 2) (n := 1) (q := (105, [some (.ref p0), some (.int i1), some (.int x62)], [.int x62])) (jq qX3_link 64 rfl) rfl) ?_
        refine Eq.trans (jb_nx (i := .iconst 2) (n := 1) (q := (106, [some (.ref p0), some (.int i1), some (.int x62)], [.int 2, .int x62])) (jq qX3_link 65 rfl) rfl) ?_
        by_cases c64 : x62 = 2
        · rw [if_pos c64] at H
          refine Eq.trans (jb_nx (i := .if_icmp .ne 31) (n := 3) (q := (109, [some (.ref p0), some (.int i1), some (.int x62)], [])) (jq qX3_link 66 rfl) (jo_icF (jz_neF c64))) ?_
          refine Eq.trans (jb_nx (i := .aload_n 0) (n := 1) (q := (110, [some (.ref p0), some (.int i1), some (.int x62)], [.ref p0])) (jq qX3_link 67 rfl) rfl) ?_
          refine Eq.trans (jb_nx (i := .iload_n 1) (n := 1) (q := (111, [some (.ref p0), some (.int i1), some (.int x62)], [.int i1, .ref p0])) (jq qX3_link 68 rfl) rfl) ?_
          refine Eq.trans (jb_nx (i := .iconst 1) (n := 1) (q := (112, [some (.ref p0), some (.int i1), some (.int x62)], [.int 1, .int i1, .ref p0])) (jq qX3_link 69 rfl) rfl) ?_
          refine Eq.trans (jb_nx (i := .iadd) (n := 1) (q := (113, [some (.ref p0), some (.int i1), some (.int x62)], [.int (i1 + 1), .ref p0])) (jq qX3_link 70 rfl) rfl) ?_
          refine Eq.trans (jb_nx (i := .aload_n 0) (n := 1) (q := (114, [some (.ref p0), some (.int i1), some (.int x62)], [.ref p0, .int (i1 + 1), .ref p0])) (jq qX3_link 71 rfl) rfl) ?_
          refine Eq.trans (jb_nx (i := .iload_n 1) (n := 1) (q := (115, [some (.ref p0), some (.int i1), some (.int x62)], [.int i1, .ref p0, .int (i1 + 1), .ref p0])) (jq qX3_link 72 rfl) rfl) ?_
          obtain ⟨b90, H⟩ := jm_O_inv H
          rcases jcI H with ⟨x67, h65, r66, H⟩ | ⟨w91, h92, r66, H⟩
          · refine Eq.trans (jb_nx (i := .invokevirtual 73) (n := 3) (q := (118, [some (.ref p0), some (.int i1), some (.int x62)], [.int x67, .int (i1 + 1), .ref p0])) (jq qX3_link 73 rfl) (jo_cv (y := mX3_outerAt) rfl (Nat.le_of_ble_eq_true rfl) rfl (Nat.le_of_ble_eq_true rfl) b90 rfl r66 jo_ret)) ?_
            obtain ⟨b87, H⟩ := jm_O_inv H
            rcases jcV H with ⟨h68, r69, H⟩ | ⟨w88, h89, r69, H⟩
            · refine Eq.trans (jb_nx (i := .invokevirtual 69) (n := 3) (q := (121, [some (.ref p0), some (.int i1), some (.int x62)], [])) (jq qX3_link 74 rfl) (jo_cv (y := mX3_setOuter) rfl (Nat.le_of_ble_eq_true rfl) rfl (Nat.le_of_ble_eq_true rfl) b87 rfl r69 jo_ret)) ?_
              refine Eq.trans (jb_nx (i := .aload_n 0) (n := 1) (q := (122, [some (.ref p0), some (.int i1), some (.int x62)], [.ref p0])) (jq qX3_link 75 rfl) rfl) ?_
              refine Eq.trans (jb_nx (i := .aload_n 0) (n := 1) (q := (123, [some (.ref p0), some (.int i1), some (.int x62)], [.ref p0, .ref p0])) (jq qX3_link 76 rfl) rfl) ?_
              refine Eq.trans (jb_nx (i := .iload_n 1) (n := 1) (q := (124, [some (.ref p0), some (.int i1), some (.int x62)], [.int i1, .ref p0, .ref p0])) (jq qX3_link 77 rfl) rfl) ?_
              refine Eq.trans (jb_nx (i := .iconst 1) (n := 1) (q := (125, [some (.ref p0), some (.int i1), some (.int x62)], [.int 1, .int i1, .ref p0, .ref p0])) (jq qX3_link 78 rfl) rfl) ?_
              refine Eq.trans (jb_nx (i := .iadd) (n := 1) (q := (126, [some (.ref p0), some (.int i1), some (.int x62)], [.int (i1 + 1), .ref p0, .ref p0])) (jq qX3_link 79 rfl) rfl) ?_
              obtain ⟨b84, H⟩ := jm_O_inv H
              rcases jcI H with ⟨x72, h70, r71, H⟩ | ⟨w85, h86, r71, H⟩
              · refine Eq.trans (jb_nx (i := .invokevirtual 66) (n := 3) (q := (129, [some (.ref p0), some (.int i1), some (.int x62)], [.int x72, .ref p0])) (jq qX3_link 80 rfl) (jo_cv (y := mX3_endAt) rfl (Nat.le_of_ble_eq_true rfl) rfl (Nat.le_of_ble_eq_true rfl) b84 rfl r71 jo_ret)) ?_
                refine Eq.trans (jb_nx (i := .aload_n 0) (n := 1) (q := (130, [some (.ref p0), some (.int i1), some (.int x62)], [.ref p0, .int x72, .ref p0])) (jq qX3_link 81 rfl) rfl) ?_
                refine Eq.trans (jb_nx (i := .iload_n 1) (n := 1) (q := (131, [some (.ref p0), some (.int i1), some (.int x62)], [.int i1, .ref p0, .int x72, .ref p0])) (jq qX3_link 82 rfl) rfl) ?_
                obtain ⟨b81, H⟩ := jm_O_inv H
                rcases jcI H with ⟨x75, h73, r74, H⟩ | ⟨w82, h83, r74, H⟩
                · refine Eq.trans (jb_nx (i := .invokevirtual 73) (n := 3) (q := (134, [some (.ref p0), some (.int i1), some (.int x62)], [.int x75, .int x72, .ref p0])) (jq qX3_link 83 rfl) (jo_cv (y := mX3_outerAt) rfl (Nat.le_of_ble_eq_true rfl) rfl (Nat.le_of_ble_eq_true rfl) b81 rfl r74 jo_ret)) ?_
                  obtain ⟨b78, H⟩ := jm_O_inv H
                  rcases jcV H with ⟨h76, r77, H⟩ | ⟨w79, h80, r77, H⟩
                  · refine Eq.trans (jb_nx (i := .invokevirtual 69) (n := 3) (q := (137, [some (.ref p0), some (.int i1), some (.int x62)], [])) (jq qX3_link 84 rfl) (jo_cv (y := mX3_setOuter) rfl (Nat.le_of_ble_eq_true rfl) rfl (Nat.le_of_ble_eq_true rfl) b78 rfl r77 jo_ret)) ?_
                    refine Eq.trans (jb_nx (i := .iinc 1 1) (n := 3) (q := (140, [some (.ref p0), some (.int (i1 + 1)), some (.int x62)], [])) (jq qX3_link 85 rfl) rfl) ?_
                    refine Eq.trans (jb_nx (i := .goto (-66)) (n := 3) (q := (74, [some (.ref p0), some (.int (i1 + 1)), some (.int x62)], [])) (jq qX3_link 86 rfl) rfl) ?_
                    exact H
                  · exact Eq.trans (jb_rt (i := .invokevirtual 69) (n := 3) (jq qX3_link 84 rfl) (jo_cv (y := mX3_setOuter) rfl (Nat.le_of_ble_eq_true rfl) rfl (Nat.le_of_ble_eq_true rfl) b78 rfl r77 (jo_exn rfl))) H
                · exact Eq.trans (jb_rt (i := .invokevirtual 73) (n := 3) (jq qX3_link 83 rfl) (jo_cv (y := mX3_outerAt) rfl (Nat.le_of_ble_eq_true rfl) rfl (Nat.le_of_ble_eq_true rfl) b81 rfl r74 (jo_exn rfl))) H
              · exact Eq.trans (jb_rt (i := .invokevirtual 66) (n := 3) (jq qX3_link 80 rfl) (jo_cv (y := mX3_endAt) rfl (Nat.le_of_ble_eq_true rfl) rfl (Nat.le_of_ble_eq_true rfl) b84 rfl r71 (jo_exn rfl))) H
            · exact Eq.trans (jb_rt (i := .invokevirtual 69) (n := 3) (jq qX3_link 74 rfl) (jo_cv (y := mX3_setOuter) rfl (Nat.le_of_ble_eq_true rfl) rfl (Nat.le_of_ble_eq_true rfl) b87 rfl r69 (jo_exn rfl))) H
          · exact Eq.trans (jb_rt (i := .invokevirtual 73) (n := 3) (jq qX3_link 73 rfl) (jo_cv (y := mX3_outerAt) rfl (Nat.le_of_ble_eq_true rfl) rfl (Nat.le_of_ble_eq_true rfl) b90 rfl r66 (jo_exn rfl))) H
        · rw [if_neg c64] at H
          refine Eq.trans (jb_nx (i := .if_icmp .ne 31) (n := 3) (q := (137, [some (.ref p0), some (.int i1), some (.int x62)], [])) (jq qX3_link 66 rfl) (jo_icT (jz_neT c64) rfl)) ?_
          refine Eq.trans (jb_nx (i := .iinc 1 1) (n := 3) (q := (140, [some (.ref p0), some (.int (i1 + 1)), some (.int x62)], [])) (jq qX3_link 85 rfl) rfl) ?_
          refine Eq.trans (jb_nx (i := .goto (-66)) (n := 3) (q := (74, [some (.ref p0), some (.int (i1 + 1)), some (.int x62)], [])) (jq qX3_link 86 rfl) rfl) ?_
          exact H
    · exact Eq.trans (jb_rt (i := .invokevirtual 29) (n := 3) (jq qX3_link 52 rfl) (jo_cv (y := mX3_kindAt) rfl (Nat.le_of_ble_eq_true rfl) rfl (Nat.le_of_ble_eq_true rfl) b98 rfl r61 (jo_exn rfl))) H
  · rw [if_neg c59] at H
    refine Eq.trans (jb_nx (i := .if_icmp .ge 64) (n := 3) (q := (143, [some (.ref p0), some (.int i1), o2], [])) (jq qX3_link 49 rfl) (jo_icT (jz_geT c59) rfl)) ?_
    exact Eq.trans (jb_rt (i := .return_) (n := 1) (jq qX3_link 87 rfl) rfl) H
theorem gX3_link {d : Nat} {p0 : Nat} {h : jm_H} {r : jm_R} (H : ((jr_I h p0 3 0 0).bind fun x1 => kX3_link_7 d p0 (x1 - 1) none h) = some r) : jm_D (d + 1) mX3_link [.ref p0] h = some r := by
  rw [jm_D_body (Nat.le_of_ble_eq_true rfl)]
  show jm_B d mX3_link (0, [some (.ref p0), none, none], []) h = some r
  refine Eq.trans (jb_nx (i := .aload_n 0) (n := 1) (q := (1, [some (.ref p0), none, none], [.ref p0])) (jq qX3_link 0 rfl) rfl) ?_
  obtain ⟨x1, e2, H⟩ := jbd H
  refine Eq.trans (jb_nx (i := .getfield 25) (n := 3) (q := (4, [some (.ref p0), none, none], [.int x1])) (jq qX3_link 1 rfl) (jo_gf rfl (jr_I_inv e2))) ?_
  refine Eq.trans (jb_nx (i := .iconst 1) (n := 1) (q := (5, [some (.ref p0), none, none], [.int 1, .int x1])) (jq qX3_link 2 rfl) rfl) ?_
  refine Eq.trans (jb_nx (i := .isub) (n := 1) (q := (6, [some (.ref p0), none, none], [.int (x1 - 1)])) (jq qX3_link 3 rfl) rfl) ?_
  refine Eq.trans (jb_nx (i := .istore_n 1) (n := 1) (q := (7, [some (.ref p0), some (.int (x1 - 1)), none], [])) (jq qX3_link 4 rfl) rfl) ?_
  exact H
/-! MaskPlays$Part endAt (I)I -/
def tX3_endAt : List (Nat × Instr × Nat) := [(0, .iload_n 1, 1), (1, .ifCond .lt 29, 3), (4, .iload_n 1, 1), (5, .aload_n 0, 1), (6, .getfield 25, 3), (9, .if_icmp .ge 21, 3), (12, .iload_n 1, 1), (13, .aload_n 0, 1), (14, .getfield 19, 3), (17, .arraylength, 1), (18, .if_icmp .ge 12, 3), (21, .aload_n 0, 1), (22, .getfield 19, 3), (25, .iload_n 1, 1), (26, .iaload, 1), (27, .goto 7, 3), (30, .aload_n 0, 1), (31, .getfield 25, 3), (34, .ireturn, 1)]
set_option maxRecDepth 100000 in
theorem qX3_endAt : ∀ q ∈ tX3_endAt, decode cX3_endAt q.1 = .ok (q.2.1, q.2.2) := by decide +kernel
theorem gX3_endAt {d : Nat} {p0 : Nat} {i1 : Int32} {h : jm_H} {r : jm_R} (H : ((if i1 < 0 then (jr_I h p0 3 0 0).bind fun x2 => some (.inl (some (.int x2)), h) else (jr_I h p0 3 0 0).bind fun x4 => (if i1 < x4 then (jr_R h p0 3 3 2).bind fun a9 => (jm_len h a9).bind fun n11 => (if i1 < (Int32.ofNat n11) then (jr_R h p0 3 3 2).bind fun a16 => (jm_ali h a16 0 i1).bind fun x18 => some (.inl (some (.int x18)), h) else (jr_I h p0 3 0 0).bind fun x14 => some (.inl (some (.int x14)), h)) else (jr_I h p0 3 0 0).bind fun x7 => some (.inl (some (.int x7)), h)))) = some r) : jm_D (d + 1) mX3_endAt [.ref p0, .int i1] h = some r := by
  rw [jm_D_body (Nat.le_of_ble_eq_true rfl)]
  show jm_B d mX3_endAt (0, [some (.ref p0), some (.int i1)], []) h = some r
  refine Eq.trans (jb_nx (i := .iload_n 1) (n := 1) (q := (1, [some (.ref p0), some (.int i1)], [.int i1])) (jq qX3_endAt 0 rfl) rfl) ?_
  by_cases c1 : i1 < 0
  · rw [if_pos c1] at H
    refine Eq.trans (jb_nx (i := .ifCond .lt 29) (n := 3) (q := (30, [some (.ref p0), some (.int i1)], [])) (jq qX3_endAt 1 rfl) (jo_ifT (jz_ltT c1) rfl)) ?_
    refine Eq.trans (jb_nx (i := .aload_n 0) (n := 1) (q := (31, [some (.ref p0), some (.int i1)], [.ref p0])) (jq qX3_endAt 16 rfl) rfl) ?_
    obtain ⟨x2, e3, H⟩ := jbd H
    refine Eq.trans (jb_nx (i := .getfield 25) (n := 3) (q := (34, [some (.ref p0), some (.int i1)], [.int x2])) (jq qX3_endAt 17 rfl) (jo_gf rfl (jr_I_inv e3))) ?_
    exact Eq.trans (jb_rt (i := .ireturn) (n := 1) (jq qX3_endAt 18 rfl) (jo_iret rfl rfl)) H
  · rw [if_neg c1] at H
    refine Eq.trans (jb_nx (i := .ifCond .lt 29) (n := 3) (q := (4, [some (.ref p0), some (.int i1)], [])) (jq qX3_endAt 1 rfl) (jo_ifF (jz_ltF c1))) ?_
    refine Eq.trans (jb_nx (i := .iload_n 1) (n := 1) (q := (5, [some (.ref p0), some (.int i1)], [.int i1])) (jq qX3_endAt 2 rfl) rfl) ?_
    refine Eq.trans (jb_nx (i := .aload_n 0) (n := 1) (q := (6, [some (.ref p0), some (.int i1)], [.ref p0, .int i1])) (jq qX3_endAt 3 rfl) rfl) ?_
    obtain ⟨x4, e5, H⟩ := jbd H
    refine Eq.trans (jb_nx (i := .getfield 25) (n := 3) (q := (9, [some (.ref p0), some (.int i1)], [.int x4, .int i1])) (jq qX3_endAt 4 rfl) (jo_gf rfl (jr_I_inv e5))) ?_
    by_cases c6 : i1 < x4
    · rw [if_pos c6] at H
      refine Eq.trans (jb_nx (i := .if_icmp .ge 21) (n := 3) (q := (12, [some (.ref p0), some (.int i1)], [])) (jq qX3_endAt 5 rfl) (jo_icF (jz_geF c6))) ?_
      refine Eq.trans (jb_nx (i := .iload_n 1) (n := 1) (q := (13, [some (.ref p0), some (.int i1)], [.int i1])) (jq qX3_endAt 6 rfl) rfl) ?_
      refine Eq.trans (jb_nx (i := .aload_n 0) (n := 1) (q := (14, [some (.ref p0), some (.int i1)], [.ref p0, .int i1])) (jq qX3_endAt 7 rfl) rfl) ?_
      obtain ⟨a9, e10, H⟩ := jbd H
      refine Eq.trans (jb_nx (i := .getfield 19) (n := 3) (q := (17, [some (.ref p0), some (.int i1)], [.ref a9, .int i1])) (jq qX3_endAt 8 rfl) (jo_gf rfl (jr_R_inv e10))) ?_
      obtain ⟨n11, e12, H⟩ := jbd H
      refine Eq.trans (jb_nx (i := .arraylength) (n := 1) (q := (18, [some (.ref p0), some (.int i1)], [.int (Int32.ofNat n11), .int i1])) (jq qX3_endAt 9 rfl) (jo_len e12)) ?_
      by_cases c13 : i1 < (Int32.ofNat n11)
      · rw [if_pos c13] at H
        refine Eq.trans (jb_nx (i := .if_icmp .ge 12) (n := 3) (q := (21, [some (.ref p0), some (.int i1)], [])) (jq qX3_endAt 10 rfl) (jo_icF (jz_geF c13))) ?_
        refine Eq.trans (jb_nx (i := .aload_n 0) (n := 1) (q := (22, [some (.ref p0), some (.int i1)], [.ref p0])) (jq qX3_endAt 11 rfl) rfl) ?_
        obtain ⟨a16, e17, H⟩ := jbd H
        refine Eq.trans (jb_nx (i := .getfield 19) (n := 3) (q := (25, [some (.ref p0), some (.int i1)], [.ref a16])) (jq qX3_endAt 12 rfl) (jo_gf rfl (jr_R_inv e17))) ?_
        refine Eq.trans (jb_nx (i := .iload_n 1) (n := 1) (q := (26, [some (.ref p0), some (.int i1)], [.int i1, .ref a16])) (jq qX3_endAt 13 rfl) rfl) ?_
        obtain ⟨x18, e19, H⟩ := jbd H
        refine Eq.trans (jb_nx (i := .iaload) (n := 1) (q := (27, [some (.ref p0), some (.int i1)], [.int x18])) (jq qX3_endAt 14 rfl) (jo_ial e19)) ?_
        refine Eq.trans (jb_nx (i := .goto 7) (n := 3) (q := (34, [some (.ref p0), some (.int i1)], [.int x18])) (jq qX3_endAt 15 rfl) rfl) ?_
        exact Eq.trans (jb_rt (i := .ireturn) (n := 1) (jq qX3_endAt 18 rfl) (jo_iret rfl rfl)) H
      · rw [if_neg c13] at H
        refine Eq.trans (jb_nx (i := .if_icmp .ge 12) (n := 3) (q := (30, [some (.ref p0), some (.int i1)], [])) (jq qX3_endAt 10 rfl) (jo_icT (jz_geT c13) rfl)) ?_
        refine Eq.trans (jb_nx (i := .aload_n 0) (n := 1) (q := (31, [some (.ref p0), some (.int i1)], [.ref p0])) (jq qX3_endAt 16 rfl) rfl) ?_
        obtain ⟨x14, e15, H⟩ := jbd H
        refine Eq.trans (jb_nx (i := .getfield 25) (n := 3) (q := (34, [some (.ref p0), some (.int i1)], [.int x14])) (jq qX3_endAt 17 rfl) (jo_gf rfl (jr_I_inv e15))) ?_
        exact Eq.trans (jb_rt (i := .ireturn) (n := 1) (jq qX3_endAt 18 rfl) (jo_iret rfl rfl)) H
    · rw [if_neg c6] at H
      refine Eq.trans (jb_nx (i := .if_icmp .ge 21) (n := 3) (q := (30, [some (.ref p0), some (.int i1)], [])) (jq qX3_endAt 5 rfl) (jo_icT (jz_geT c6) rfl)) ?_
      refine Eq.trans (jb_nx (i := .aload_n 0) (n := 1) (q := (31, [some (.ref p0), some (.int i1)], [.ref p0])) (jq qX3_endAt 16 rfl) rfl) ?_
      obtain ⟨x7, e8, H⟩ := jbd H
      refine Eq.trans (jb_nx (i := .getfield 25) (n := 3) (q := (34, [some (.ref p0), some (.int i1)], [.int x7])) (jq qX3_endAt 17 rfl) (jo_gf rfl (jr_I_inv e8))) ?_
      exact Eq.trans (jb_rt (i := .ireturn) (n := 1) (jq qX3_endAt 18 rfl) (jo_iret rfl rfl)) H
/-! MaskPlays$Part setOuter (II)V -/
def tX3_setOuter : List (Nat × Instr × Nat) := [(0, .iload_n 1, 1), (1, .ifCond .lt 19, 3), (4, .iload_n 1, 1), (5, .aload_n 0, 1), (6, .getfield 22, 3), (9, .arraylength, 1), (10, .if_icmp .ge 10, 3), (13, .aload_n 0, 1), (14, .getfield 22, 3), (17, .iload_n 1, 1), (18, .iload_n 2, 1), (19, .iastore, 1), (20, .return_, 1)]
set_option maxRecDepth 100000 in
theorem qX3_setOuter : ∀ q ∈ tX3_setOuter, decode cX3_setOuter q.1 = .ok (q.2.1, q.2.2) := by decide +kernel
theorem gX3_setOuter {d : Nat} {p0 : Nat} {i1 : Int32} {i2 : Int32} {h : jm_H} {r : jm_R} (H : ((if i1 < 0 then some (.inl none, h) else (jr_R h p0 3 4 2).bind fun a2 => (jm_len h a2).bind fun n4 => (if i1 < (Int32.ofNat n4) then (jr_R h p0 3 4 2).bind fun a7 => (jm_asi h a7 0 i1 i2).bind fun h9 => some (.inl none, h9) else some (.inl none, h)))) = some r) : jm_D (d + 1) mX3_setOuter [.ref p0, .int i1, .int i2] h = some r := by
  rw [jm_D_body (Nat.le_of_ble_eq_true rfl)]
  show jm_B d mX3_setOuter (0, [some (.ref p0), some (.int i1), some (.int i2)], []) h = some r
  refine Eq.trans (jb_nx (i := .iload_n 1) (n := 1) (q := (1, [some (.ref p0), some (.int i1), some (.int i2)], [.int i1])) (jq qX3_setOuter 0 rfl) rfl) ?_
  by_cases c1 : i1 < 0
  · rw [if_pos c1] at H
    refine Eq.trans (jb_nx (i := .ifCond .lt 19) (n := 3) (q := (20, [some (.ref p0), some (.int i1), some (.int i2)], [])) (jq qX3_setOuter 1 rfl) (jo_ifT (jz_ltT c1) rfl)) ?_
    exact Eq.trans (jb_rt (i := .return_) (n := 1) (jq qX3_setOuter 12 rfl) rfl) H
  · rw [if_neg c1] at H
    refine Eq.trans (jb_nx (i := .ifCond .lt 19) (n := 3) (q := (4, [some (.ref p0), some (.int i1), some (.int i2)], [])) (jq qX3_setOuter 1 rfl) (jo_ifF (jz_ltF c1))) ?_
    refine Eq.trans (jb_nx (i := .iload_n 1) (n := 1) (q := (5, [some (.ref p0), some (.int i1), some (.int i2)], [.int i1])) (jq qX3_setOuter 2 rfl) rfl) ?_
    refine Eq.trans (jb_nx (i := .aload_n 0) (n := 1) (q := (6, [some (.ref p0), some (.int i1), some (.int i2)], [.ref p0, .int i1])) (jq qX3_setOuter 3 rfl) rfl) ?_
    obtain ⟨a2, e3, H⟩ := jbd H
    refine Eq.trans (jb_nx (i := .getfield 22) (n := 3) (q := (9, [some (.ref p0), some (.int i1), some (.int i2)], [.ref a2, .int i1])) (jq qX3_setOuter 4 rfl) (jo_gf rfl (jr_R_inv e3))) ?_
    obtain ⟨n4, e5, H⟩ := jbd H
    refine Eq.trans (jb_nx (i := .arraylength) (n := 1) (q := (10, [some (.ref p0), some (.int i1), some (.int i2)], [.int (Int32.ofNat n4), .int i1])) (jq qX3_setOuter 5 rfl) (jo_len e5)) ?_
    by_cases c6 : i1 < (Int32.ofNat n4)
    · rw [if_pos c6] at H
      refine Eq.trans (jb_nx (i := .if_icmp .ge 10) (n := 3) (q := (13, [some (.ref p0), some (.int i1), some (.int i2)], [])) (jq qX3_setOuter 6 rfl) (jo_icF (jz_geF c6))) ?_
      refine Eq.trans (jb_nx (i := .aload_n 0) (n := 1) (q := (14, [some (.ref p0), some (.int i1), some (.int i2)], [.ref p0])) (jq qX3_setOuter 7 rfl) rfl) ?_
      obtain ⟨a7, e8, H⟩ := jbd H
      refine Eq.trans (jb_nx (i := .getfield 22) (n := 3) (q := (17, [some (.ref p0), some (.int i1), some (.int i2)], [.ref a7])) (jq qX3_setOuter 8 rfl) (jo_gf rfl (jr_R_inv e8))) ?_
      refine Eq.trans (jb_nx (i := .iload_n 1) (n := 1) (q := (18, [some (.ref p0), some (.int i1), some (.int i2)], [.int i1, .ref a7])) (jq qX3_setOuter 9 rfl) rfl) ?_
      refine Eq.trans (jb_nx (i := .iload_n 2) (n := 1) (q := (19, [some (.ref p0), some (.int i1), some (.int i2)], [.int i2, .int i1, .ref a7])) (jq qX3_setOuter 10 rfl) rfl) ?_
      obtain ⟨h9, e10, H⟩ := jbd H
      refine Eq.trans (jb_nx (i := .iastore) (n := 1) (q := (20, [some (.ref p0), some (.int i1), some (.int i2)], [])) (jq qX3_setOuter 11 rfl) (jo_ias e10)) ?_
      exact Eq.trans (jb_rt (i := .return_) (n := 1) (jq qX3_setOuter 12 rfl) rfl) H
    · rw [if_neg c6] at H
      refine Eq.trans (jb_nx (i := .if_icmp .ge 10) (n := 3) (q := (20, [some (.ref p0), some (.int i1), some (.int i2)], [])) (jq qX3_setOuter 6 rfl) (jo_icT (jz_geT c6) rfl)) ?_
      exact Eq.trans (jb_rt (i := .return_) (n := 1) (jq qX3_setOuter 12 rfl) rfl) H
/-! MaskPlays$Part outerAt (I)I -/
def tX3_outerAt : List (Nat × Instr × Nat) := [(0, .iload_n 1, 1), (1, .ifCond .lt 29, 3), (4, .iload_n 1, 1), (5, .aload_n 0, 1), (6, .getfield 25, 3), (9, .if_icmp .ge 21, 3), (12, .iload_n 1, 1), (13, .aload_n 0, 1), (14, .getfield 22, 3), (17, .arraylength, 1), (18, .if_icmp .ge 12, 3), (21, .aload_n 0, 1), (22, .getfield 22, 3), (25, .iload_n 1, 1), (26, .iaload, 1), (27, .goto 4, 3), (30, .iconst (-1), 1), (31, .ireturn, 1)]
set_option maxRecDepth 100000 in
theorem qX3_outerAt : ∀ q ∈ tX3_outerAt, decode cX3_outerAt q.1 = .ok (q.2.1, q.2.2) := by decide +kernel
theorem gX3_outerAt {d : Nat} {p0 : Nat} {i1 : Int32} {h : jm_H} {r : jm_R} (H : ((if i1 < 0 then some (.inl (some (.int (-1))), h) else (jr_I h p0 3 0 0).bind fun x2 => (if i1 < x2 then (jr_R h p0 3 4 2).bind fun a5 => (jm_len h a5).bind fun n7 => (if i1 < (Int32.ofNat n7) then (jr_R h p0 3 4 2).bind fun a10 => (jm_ali h a10 0 i1).bind fun x12 => some (.inl (some (.int x12)), h) else some (.inl (some (.int (-1))), h)) else some (.inl (some (.int (-1))), h)))) = some r) : jm_D (d + 1) mX3_outerAt [.ref p0, .int i1] h = some r := by
  rw [jm_D_body (Nat.le_of_ble_eq_true rfl)]
  show jm_B d mX3_outerAt (0, [some (.ref p0), some (.int i1)], []) h = some r
  refine Eq.trans (jb_nx (i := .iload_n 1) (n := 1) (q := (1, [some (.ref p0), some (.int i1)], [.int i1])) (jq qX3_outerAt 0 rfl) rfl) ?_
  by_cases c1 : i1 < 0
  · rw [if_pos c1] at H
    refine Eq.trans (jb_nx (i := .ifCond .lt 29) (n := 3) (q := (30, [some (.ref p0), some (.int i1)], [])) (jq qX3_outerAt 1 rfl) (jo_ifT (jz_ltT c1) rfl)) ?_
    refine Eq.trans (jb_nx (i := .iconst (-1)) (n := 1) (q := (31, [some (.ref p0), some (.int i1)], [.int (-1)])) (jq qX3_outerAt 16 rfl) rfl) ?_
    exact Eq.trans (jb_rt (i := .ireturn) (n := 1) (jq qX3_outerAt 17 rfl) (jo_iret rfl rfl)) H
  · rw [if_neg c1] at H
    refine Eq.trans (jb_nx (i := .ifCond .lt 29) (n := 3) (q := (4, [some (.ref p0), some (.int i1)], [])) (jq qX3_outerAt 1 rfl) (jo_ifF (jz_ltF c1))) ?_
    refine Eq.trans (jb_nx (i := .iload_n 1) (n := 1) (q := (5, [some (.ref p0), some (.int i1)], [.int i1])) (jq qX3_outerAt 2 rfl) rfl) ?_
    refine Eq.trans (jb_nx (i := .aload_n 0) (n := 1) (q := (6, [some (.ref p0), some (.int i1)], [.ref p0, .int i1])) (jq qX3_outerAt 3 rfl) rfl) ?_
    obtain ⟨x2, e3, H⟩ := jbd H
    refine Eq.trans (jb_nx (i := .getfield 25) (n := 3) (q := (9, [some (.ref p0), some (.int i1)], [.int x2, .int i1])) (jq qX3_outerAt 4 rfl) (jo_gf rfl (jr_I_inv e3))) ?_
    by_cases c4 : i1 < x2
    · rw [if_pos c4] at H
      refine Eq.trans (jb_nx (i := .if_icmp .ge 21) (n := 3) (q := (12, [some (.ref p0), some (.int i1)], [])) (jq qX3_outerAt 5 rfl) (jo_icF (jz_geF c4))) ?_
      refine Eq.trans (jb_nx (i := .iload_n 1) (n := 1) (q := (13, [some (.ref p0), some (.int i1)], [.int i1])) (jq qX3_outerAt 6 rfl) rfl) ?_
      refine Eq.trans (jb_nx (i := .aload_n 0) (n := 1) (q := (14, [some (.ref p0), some (.int i1)], [.ref p0, .int i1])) (jq qX3_outerAt 7 rfl) rfl) ?_
      obtain ⟨a5, e6, H⟩ := jbd H
      refine Eq.trans (jb_nx (i := .getfield 22) (n := 3) (q := (17, [some (.ref p0), some (.int i1)], [.ref a5, .int i1])) (jq qX3_outerAt 8 rfl) (jo_gf rfl (jr_R_inv e6))) ?_
      obtain ⟨n7, e8, H⟩ := jbd H
      refine Eq.trans (jb_nx (i := .arraylength) (n := 1) (q := (18, [some (.ref p0), some (.int i1)], [.int (Int32.ofNat n7), .int i1])) (jq qX3_outerAt 9 rfl) (jo_len e8)) ?_
      by_cases c9 : i1 < (Int32.ofNat n7)
      · rw [if_pos c9] at H
        refine Eq.trans (jb_nx (i := .if_icmp .ge 12) (n := 3) (q := (21, [some (.ref p0), some (.int i1)], [])) (jq qX3_outerAt 10 rfl) (jo_icF (jz_geF c9))) ?_
        refine Eq.trans (jb_nx (i := .aload_n 0) (n := 1) (q := (22, [some (.ref p0), some (.int i1)], [.ref p0])) (jq qX3_outerAt 11 rfl) rfl) ?_
        obtain ⟨a10, e11, H⟩ := jbd H
        refine Eq.trans (jb_nx (i := .getfield 22) (n := 3) (q := (25, [some (.ref p0), some (.int i1)], [.ref a10])) (jq qX3_outerAt 12 rfl) (jo_gf rfl (jr_R_inv e11))) ?_
        refine Eq.trans (jb_nx (i := .iload_n 1) (n := 1) (q := (26, [some (.ref p0), some (.int i1)], [.int i1, .ref a10])) (jq qX3_outerAt 13 rfl) rfl) ?_
        obtain ⟨x12, e13, H⟩ := jbd H
        refine Eq.trans (jb_nx (i := .iaload) (n := 1) (q := (27, [some (.ref p0), some (.int i1)], [.int x12])) (jq qX3_outerAt 14 rfl) (jo_ial e13)) ?_
        refine Eq.trans (jb_nx (i := .goto 4) (n := 3) (q := (31, [some (.ref p0), some (.int i1)], [.int x12])) (jq qX3_outerAt 15 rfl) rfl) ?_
        exact Eq.trans (jb_rt (i := .ireturn) (n := 1) (jq qX3_outerAt 17 rfl) (jo_iret rfl rfl)) H
      · rw [if_neg c9] at H
        refine Eq.trans (jb_nx (i := .if_icmp .ge 12) (n := 3) (q := (30, [some (.ref p0), some (.int i1)], [])) (jq qX3_outerAt 10 rfl) (jo_icT (jz_geT c9) rfl)) ?_
        refine Eq.trans (jb_nx (i := .iconst (-1)) (n := 1) (q := (31, [some (.ref p0), some (.int i1)], [.int (-1)])) (jq qX3_outerAt 16 rfl) rfl) ?_
        exact Eq.trans (jb_rt (i := .ireturn) (n := 1) (jq qX3_outerAt 17 rfl) (jo_iret rfl rfl)) H
    · rw [if_neg c4] at H
      refine Eq.trans (jb_nx (i := .if_icmp .ge 21) (n := 3) (q := (30, [some (.ref p0), some (.int i1)], [])) (jq qX3_outerAt 5 rfl) (jo_icT (jz_geT c4) rfl)) ?_
      refine Eq.trans (jb_nx (i := .iconst (-1)) (n := 1) (q := (31, [some (.ref p0), some (.int i1)], [.int (-1)])) (jq qX3_outerAt 16 rfl) rfl) ?_
      exact Eq.trans (jb_rt (i := .ireturn) (n := 1) (jq qX3_outerAt 17 rfl) (jo_iret rfl rfl)) H
/-! MaskPlays$Part setTo (LMaskPlays$Part;)V -/
def tX3_setTo : List (Nat × Instr × Nat) := [(0, .iconst 0, 1), (1, .aload_n 1, 1), (2, .getfield 25, 3), (5, .sipush 150, 3), (8, .invokestatic 41, 3), (11, .invokestatic 47, 3), (14, .istore_n 2, 1), (15, .aload_n 1, 1), (16, .getfield 9, 3), (19, .iconst 0, 1), (20, .aload_n 0, 1), (21, .getfield 9, 3), (24, .iconst 0, 1), (25, .iload_n 2, 1), (26, .invokestatic 50, 3), (29, .aload_n 1, 1), (30, .getfield 15, 3), (33, .iconst 0, 1), (34, .aload_n 0, 1), (35, .getfield 15, 3), (38, .iconst 0, 1), (39, .iload_n 2, 1), (40, .invokestatic 50, 3), (43, .aload_n 1, 1), (44, .getfield 19, 3), (47, .iconst 0, 1), (48, .aload_n 0, 1), (49, .getfield 19, 3), (52, .iconst 0, 1), (53, .iload_n 2, 1), (54, .invokestatic 50, 3), (57, .aload_n 1, 1), (58, .getfield 22, 3), (61, .iconst 0, 1), (62, .aload_n 0, 1), (63, .getfield 22, 3), (66, .iconst 0, 1), (67, .iload_n 2, 1), (68, .invokestatic 50, 3), (71, .aload_n 0, 1), (72, .iload_n 2, 1), (73, .putfield 25, 3), (76, .return_, 1)]
set_option maxRecDepth 100000 in
theorem qX3_setTo : ∀ q ∈ tX3_setTo, decode cX3_setTo q.1 = .ok (q.2.1, q.2.2) := by decide +kernel
theorem gX3_setTo {d : Nat} {p0 : Nat} {p1 : Nat} {h : jm_H} {r : jm_R} (H : ((jr_I h p1 3 0 0).bind fun x1 => (jr_R h p1 3 1 2).bind fun a3 => (jr_R h p0 3 1 2).bind fun a5 => (jm_cpy h a3 0 a5 0 (if 0 < (if 150 < x1 then 150 else x1) then (if 150 < x1 then 150 else x1) else 0)).bind fun h7 => (jr_R h7 p1 3 2 2).bind fun a9 => (jr_R h7 p0 3 2 2).bind fun a11 => (jm_cpy h7 a9 0 a11 0 (if 0 < (if 150 < x1 then 150 else x1) then (if 150 < x1 then 150 else x1) else 0)).bind fun h13 => (jr_R h13 p1 3 3 2).bind fun a15 => (jr_R h13 p0 3 3 2).bind fun a17 => (jm_cpy h13 a15 0 a17 0 (if 0 < (if 150 < x1 then 150 else x1) then (if 150 < x1 then 150 else x1) else 0)).bind fun h19 => (jr_R h19 p1 3 4 2).bind fun a21 => (jr_R h19 p0 3 4 2).bind fun a23 => (jm_cpy h19 a21 0 a23 0 (if 0 < (if 150 < x1 then 150 else x1) then (if 150 < x1 then 150 else x1) else 0)).bind fun h25 => (jm_pf h25 p0 3 0 0 (.int (if 0 < (if 150 < x1 then 150 else x1) then (if 150 < x1 then 150 else x1) else 0))).bind fun h27 => some (.inl none, h27)) = some r) : jm_D (d + 1) mX3_setTo [.ref p0, .ref p1] h = some r := by
  rw [jm_D_body (Nat.le_of_ble_eq_true rfl)]
  show jm_B d mX3_setTo (0, [some (.ref p0), some (.ref p1), none], []) h = some r
  refine Eq.trans (jb_nx (i := .iconst 0) (n := 1) (q := (1, [some (.ref p0), some (.ref p1), none], [.int 0])) (jq qX3_setTo 0 rfl) rfl) ?_
  refine Eq.trans (jb_nx (i := .aload_n 1) (n := 1) (q := (2, [some (.ref p0), some (.ref p1), none], [.ref p1, .int 0])) (jq qX3_setTo 1 rfl) rfl) ?_
  obtain ⟨x1, e2, H⟩ := jbd H
  refine Eq.trans (jb_nx (i := .getfield 25) (n := 3) (q := (5, [some (.ref p0), some (.ref p1), none], [.int x1, .int 0])) (jq qX3_setTo 2 rfl) (jo_gf rfl (jr_I_inv e2))) ?_
  refine Eq.trans (jb_nx (i := .sipush 150) (n := 3) (q := (8, [some (.ref p0), some (.ref p1), none], [.int 150, .int x1, .int 0])) (jq qX3_setTo 3 rfl) rfl) ?_
  refine Eq.trans (jb_nx (i := .invokestatic 41) (n := 3) (q := (11, [some (.ref p0), some (.ref p1), none], [.int (if 150 < x1 then 150 else x1), .int 0])) (jq qX3_setTo 4 rfl) (jo_mn (z := mX3_clear) rfl (Nat.le_of_ble_eq_true rfl))) ?_
  refine Eq.trans (jb_nx (i := .invokestatic 47) (n := 3) (q := (14, [some (.ref p0), some (.ref p1), none], [.int (if 0 < (if 150 < x1 then 150 else x1) then (if 150 < x1 then 150 else x1) else 0)])) (jq qX3_setTo 5 rfl) (jo_mx (z := mX3_clear) rfl (Nat.le_of_ble_eq_true rfl))) ?_
  refine Eq.trans (jb_nx (i := .istore_n 2) (n := 1) (q := (15, [some (.ref p0), some (.ref p1), some (.int (if 0 < (if 150 < x1 then 150 else x1) then (if 150 < x1 then 150 else x1) else 0))], [])) (jq qX3_setTo 6 rfl) rfl) ?_
  refine Eq.trans (jb_nx (i := .aload_n 1) (n := 1) (q := (16, [some (.ref p0), some (.ref p1), some (.int (if 0 < (if 150 < x1 then 150 else x1) then (if 150 < x1 then 150 else x1) else 0))], [.ref p1])) (jq qX3_setTo 7 rfl) rfl) ?_
  obtain ⟨a3, e4, H⟩ := jbd H
  refine Eq.trans (jb_nx (i := .getfield 9) (n := 3) (q := (19, [some (.ref p0), some (.ref p1), some (.int (if 0 < (if 150 < x1 then 150 else x1) then (if 150 < x1 then 150 else x1) else 0))], [.ref a3])) (jq qX3_setTo 8 rfl) (jo_gf rfl (jr_R_inv e4))) ?_
  refine Eq.trans (jb_nx (i := .iconst 0) (n := 1) (q := (20, [some (.ref p0), some (.ref p1), some (.int (if 0 < (if 150 < x1 then 150 else x1) then (if 150 < x1 then 150 else x1) else 0))], [.int 0, .ref a3])) (jq qX3_setTo 9 rfl) rfl) ?_
  refine Eq.trans (jb_nx (i := .aload_n 0) (n := 1) (q := (21, [some (.ref p0), some (.ref p1), some (.int (if 0 < (if 150 < x1 then 150 else x1) then (if 150 < x1 then 150 else x1) else 0))], [.ref p0, .int 0, .ref a3])) (jq qX3_setTo 10 rfl) rfl) ?_
  obtain ⟨a5, e6, H⟩ := jbd H
  refine Eq.trans (jb_nx (i := .getfield 9) (n := 3) (q := (24, [some (.ref p0), some (.ref p1), some (.int (if 0 < (if 150 < x1 then 150 else x1) then (if 150 < x1 then 150 else x1) else 0))], [.ref a5, .int 0, .ref a3])) (jq qX3_setTo 11 rfl) (jo_gf rfl (jr_R_inv e6))) ?_
  refine Eq.trans (jb_nx (i := .iconst 0) (n := 1) (q := (25, [some (.ref p0), some (.ref p1), some (.int (if 0 < (if 150 < x1 then 150 else x1) then (if 150 < x1 then 150 else x1) else 0))], [.int 0, .ref a5, .int 0, .ref a3])) (jq qX3_setTo 12 rfl) rfl) ?_
  refine Eq.trans (jb_nx (i := .iload_n 2) (n := 1) (q := (26, [some (.ref p0), some (.ref p1), some (.int (if 0 < (if 150 < x1 then 150 else x1) then (if 150 < x1 then 150 else x1) else 0))], [.int (if 0 < (if 150 < x1 then 150 else x1) then (if 150 < x1 then 150 else x1) else 0), .int 0, .ref a5, .int 0, .ref a3])) (jq qX3_setTo 13 rfl) rfl) ?_
  obtain ⟨h7, e8, H⟩ := jbd H
  refine Eq.trans (jb_nx (i := .invokestatic 50) (n := 3) (q := (29, [some (.ref p0), some (.ref p1), some (.int (if 0 < (if 150 < x1 then 150 else x1) then (if 150 < x1 then 150 else x1) else 0))], [])) (jq qX3_setTo 14 rfl) (jo_cpy (z := mX3_clear) rfl (Nat.le_of_ble_eq_true rfl) e8)) ?_
  refine Eq.trans (jb_nx (i := .aload_n 1) (n := 1) (q := (30, [some (.ref p0), some (.ref p1), some (.int (if 0 < (if 150 < x1 then 150 else x1) then (if 150 < x1 then 150 else x1) else 0))], [.ref p1])) (jq qX3_setTo 15 rfl) rfl) ?_
  obtain ⟨a9, e10, H⟩ := jbd H
  refine Eq.trans (jb_nx (i := .getfield 15) (n := 3) (q := (33, [some (.ref p0), some (.ref p1), some (.int (if 0 < (if 150 < x1 then 150 else x1) then (if 150 < x1 then 150 else x1) else 0))], [.ref a9])) (jq qX3_setTo 16 rfl) (jo_gf rfl (jr_R_inv e10))) ?_
  refine Eq.trans (jb_nx (i := .iconst 0) (n := 1) (q := (34, [some (.ref p0), some (.ref p1), some (.int (if 0 < (if 150 < x1 then 150 else x1) then (if 150 < x1 then 150 else x1) else 0))], [.int 0, .ref a9])) (jq qX3_setTo 17 rfl) rfl) ?_
  refine Eq.trans (jb_nx (i := .aload_n 0) (n := 1) (q := (35, [some (.ref p0), some (.ref p1), some (.int (if 0 < (if 150 < x1 then 150 else x1) then (if 150 < x1 then 150 else x1) else 0))], [.ref p0, .int 0, .ref a9])) (jq qX3_setTo 18 rfl) rfl) ?_
  obtain ⟨a11, e12, H⟩ := jbd H
  refine Eq.trans (jb_nx (i := .getfield 15) (n := 3) (q := (38, [some (.ref p0), some (.ref p1), some (.int (if 0 < (if 150 < x1 then 150 else x1) then (if 150 < x1 then 150 else x1) else 0))], [.ref a11, .int 0, .ref a9])) (jq qX3_setTo 19 rfl) (jo_gf rfl (jr_R_inv e12))) ?_
  refine Eq.trans (jb_nx (i := .iconst 0) (n := 1) (q := (39, [some (.ref p0), some (.ref p1), some (.int (if 0 < (if 150 < x1 then 150 else x1) then (if 150 < x1 then 150 else x1) else 0))], [.int 0, .ref a11, .int 0, .ref a9])) (jq qX3_setTo 20 rfl) rfl) ?_
  refine Eq.trans (jb_nx (i := .iload_n 2) (n := 1) (q := (40, [some (.ref p0), some (.ref p1), some (.int (if 0 < (if 150 < x1 then 150 else x1) then (if 150 < x1 then 150 else x1) else 0))], [.int (if 0 < (if 150 < x1 then 150 else x1) then (if 150 < x1 then 150 else x1) else 0), .int 0, .ref a11, .int 0, .ref a9])) (jq qX3_setTo 21 rfl) rfl) ?_
  obtain ⟨h13, e14, H⟩ := jbd H
  refine Eq.trans (jb_nx (i := .invokestatic 50) (n := 3) (q := (43, [some (.ref p0), some (.ref p1), some (.int (if 0 < (if 150 < x1 then 150 else x1) then (if 150 < x1 then 150 else x1) else 0))], [])) (jq qX3_setTo 22 rfl) (jo_cpy (z := mX3_clear) rfl (Nat.le_of_ble_eq_true rfl) e14)) ?_
  refine Eq.trans (jb_nx (i := .aload_n 1) (n := 1) (q := (44, [some (.ref p0), some (.ref p1), some (.int (if 0 < (if 150 < x1 then 150 else x1) then (if 150 < x1 then 150 else x1) else 0))], [.ref p1])) (jq qX3_setTo 23 rfl) rfl) ?_
  obtain ⟨a15, e16, H⟩ := jbd H
  refine Eq.trans (jb_nx (i := .getfield 19) (n := 3) (q := (47, [some (.ref p0), some (.ref p1), some (.int (if 0 < (if 150 < x1 then 150 else x1) then (if 150 < x1 then 150 else x1) else 0))], [.ref a15])) (jq qX3_setTo 24 rfl) (jo_gf rfl (jr_R_inv e16))) ?_
  refine Eq.trans (jb_nx (i := .iconst 0) (n := 1) (q := (48, [some (.ref p0), some (.ref p1), some (.int (if 0 < (if 150 < x1 then 150 else x1) then (if 150 < x1 then 150 else x1) else 0))], [.int 0, .ref a15])) (jq qX3_setTo 25 rfl) rfl) ?_
  refine Eq.trans (jb_nx (i := .aload_n 0) (n := 1) (q := (49, [some (.ref p0), some (.ref p1), some (.int (if 0 < (if 150 < x1 then 150 else x1) then (if 150 < x1 then 150 else x1) else 0))], [.ref p0, .int 0, .ref a15])) (jq qX3_setTo 26 rfl) rfl) ?_
  obtain ⟨a17, e18, H⟩ := jbd H
  refine Eq.trans (jb_nx (i := .getfield 19) (n := 3) (q := (52, [some (.ref p0), some (.ref p1), some (.int (if 0 < (if 150 < x1 then 150 else x1) then (if 150 < x1 then 150 else x1) else 0))], [.ref a17, .int 0, .ref a15])) (jq qX3_setTo 27 rfl) (jo_gf rfl (jr_R_inv e18))) ?_
  refine Eq.trans (jb_nx (i := .iconst 0) (n := 1) (q := (53, [some (.ref p0), some (.ref p1), some (.int (if 0 < (if 150 < x1 then 150 else x1) then (if 150 < x1 then 150 else x1) else 0))], [.int 0, .ref a17, .int 0, .ref a15])) (jq qX3_setTo 28 rfl) rfl) ?_
  refine Eq.trans (jb_nx (i := .iload_n 2) (n := 1) (q := (54, [some (.ref p0), some (.ref p1), some (.int (if 0 < (if 150 < x1 then 150 else x1) then (if 150 < x1 then 150 else x1) else 0))], [.int (if 0 < (if 150 < x1 then 150 else x1) then (if 150 < x1 then 150 else x1) else 0), .int 0, .ref a17, .int 0, .ref a15])) (jq qX3_setTo 29 rfl) rfl) ?_
  obtain ⟨h19, e20, H⟩ := jbd H
  refine Eq.trans (jb_nx (i := .invokestatic 50) (n := 3) (q := (57, [some (.ref p0), some (.ref p1), some (.int (if 0 < (if 150 < x1 then 150 else x1) then (if 150 < x1 then 150 else x1) else 0))], [])) (jq qX3_setTo 30 rfl) (jo_cpy (z := mX3_clear) rfl (Nat.le_of_ble_eq_true rfl) e20)) ?_
  refine Eq.trans (jb_nx (i := .aload_n 1) (n := 1) (q := (58, [some (.ref p0), some (.ref p1), some (.int (if 0 < (if 150 < x1 then 150 else x1) then (if 150 < x1 then 150 else x1) else 0))], [.ref p1])) (jq qX3_setTo 31 rfl) rfl) ?_
  obtain ⟨a21, e22, H⟩ := jbd H
  refine Eq.trans (jb_nx (i := .getfield 22) (n := 3) (q := (61, [some (.ref p0), some (.ref p1), some (.int (if 0 < (if 150 < x1 then 150 else x1) then (if 150 < x1 then 150 else x1) else 0))], [.ref a21])) (jq qX3_setTo 32 rfl) (jo_gf rfl (jr_R_inv e22))) ?_
  refine Eq.trans (jb_nx (i := .iconst 0) (n := 1) (q := (62, [some (.ref p0), some (.ref p1), some (.int (if 0 < (if 150 < x1 then 150 else x1) then (if 150 < x1 then 150 else x1) else 0))], [.int 0, .ref a21])) (jq qX3_setTo 33 rfl) rfl) ?_
  refine Eq.trans (jb_nx (i := .aload_n 0) (n := 1) (q := (63, [some (.ref p0), some (.ref p1), some (.int (if 0 < (if 150 < x1 then 150 else x1) then (if 150 < x1 then 150 else x1) else 0))], [.ref p0, .int 0, .ref a21])) (jq qX3_setTo 34 rfl) rfl) ?_
  obtain ⟨a23, e24, H⟩ := jbd H
  refine Eq.trans (jb_nx (i := .getfield 22) (n := 3) (q := (66, [some (.ref p0), some (.ref p1), some (.int (if 0 < (if 150 < x1 then 150 else x1) then (if 150 < x1 then 150 else x1) else 0))], [.ref a23, .int 0, .ref a21])) (jq qX3_setTo 35 rfl) (jo_gf rfl (jr_R_inv e24))) ?_
  refine Eq.trans (jb_nx (i := .iconst 0) (n := 1) (q := (67, [some (.ref p0), some (.ref p1), some (.int (if 0 < (if 150 < x1 then 150 else x1) then (if 150 < x1 then 150 else x1) else 0))], [.int 0, .ref a23, .int 0, .ref a21])) (jq qX3_setTo 36 rfl) rfl) ?_
  refine Eq.trans (jb_nx (i := .iload_n 2) (n := 1) (q := (68, [some (.ref p0), some (.ref p1), some (.int (if 0 < (if 150 < x1 then 150 else x1) then (if 150 < x1 then 150 else x1) else 0))], [.int (if 0 < (if 150 < x1 then 150 else x1) then (if 150 < x1 then 150 else x1) else 0), .int 0, .ref a23, .int 0, .ref a21])) (jq qX3_setTo 37 rfl) rfl) ?_
  obtain ⟨h25, e26, H⟩ := jbd H
  refine Eq.trans (jb_nx (i := .invokestatic 50) (n := 3) (q := (71, [some (.ref p0), some (.ref p1), some (.int (if 0 < (if 150 < x1 then 150 else x1) then (if 150 < x1 then 150 else x1) else 0))], [])) (jq qX3_setTo 38 rfl) (jo_cpy (z := mX3_clear) rfl (Nat.le_of_ble_eq_true rfl) e26)) ?_
  refine Eq.trans (jb_nx (i := .aload_n 0) (n := 1) (q := (72, [some (.ref p0), some (.ref p1), some (.int (if 0 < (if 150 < x1 then 150 else x1) then (if 150 < x1 then 150 else x1) else 0))], [.ref p0])) (jq qX3_setTo 39 rfl) rfl) ?_
  refine Eq.trans (jb_nx (i := .iload_n 2) (n := 1) (q := (73, [some (.ref p0), some (.ref p1), some (.int (if 0 < (if 150 < x1 then 150 else x1) then (if 150 < x1 then 150 else x1) else 0))], [.int (if 0 < (if 150 < x1 then 150 else x1) then (if 150 < x1 then 150 else x1) else 0), .ref p0])) (jq qX3_setTo 40 rfl) rfl) ?_
  obtain ⟨h27, e28, H⟩ := jbd H
  refine Eq.trans (jb_nx (i := .putfield 25) (n := 3) (q := (76, [some (.ref p0), some (.ref p1), some (.int (if 0 < (if 150 < x1 then 150 else x1) then (if 150 < x1 then 150 else x1) else 0))], [])) (jq qX3_setTo 41 rfl) (jo_pf rfl (Or.inl rfl) e28)) ?_
  exact Eq.trans (jb_rt (i := .return_) (n := 1) (jq qX3_setTo 42 rfl) rfl) H
/-! MaskPlays$Part countOf (I)I -/
def tX3_countOf : List (Nat × Instr × Nat) := [(0, .iconst 0, 1), (1, .istore_n 2, 1), (2, .iconst 0, 1), (3, .istore_n 3, 1), (4, .iload_n 3, 1), (5, .aload_n 0, 1), (6, .getfield 25, 3), (9, .if_icmp .ge 21, 3), (12, .aload_n 0, 1), (13, .iload_n 3, 1), (14, .invokevirtual 29, 3), (17, .iload_n 1, 1), (18, .if_icmp .ne 6, 3), (21, .iinc 2 1, 3), (24, .iinc 3 1, 3), (27, .goto (-23), 3), (30, .iload_n 2, 1), (31, .ireturn, 1)]
set_option maxRecDepth 100000 in
theorem qX3_countOf : ∀ q ∈ tX3_countOf, decode cX3_countOf q.1 = .ok (q.2.1, q.2.2) := by decide +kernel
noncomputable def kX3_countOf_4 (d : Nat) (p0 : Nat) (i1 : Int32) (i2 : Int32) (i3 : Int32) (h : jm_H) : Option jm_R := jm_B d mX3_countOf (4, [some (.ref p0), some (.int i1), some (.int i2), some (.int i3)], []) h
theorem gX3_countOf_4 {d : Nat} {p0 : Nat} {i1 : Int32} {i2 : Int32} {i3 : Int32} {h : jm_H} {r : jm_R} (H : ((jr_I h p0 3 0 0).bind fun x1 => (if i3 < x1 then jm_O h p0 3 (jc_I (jm_D d mX3_kindAt [.ref p0, .int i3] h) (fun x6 h4 => (if x6 = i1 then kX3_countOf_4 d p0 i1 (i2 + 1) (i3 + 1) h4 else kX3_countOf_4 d p0 i1 i2 (i3 + 1) h4)) jx) else some (.inl (some (.int i2)), h))) = some r) : kX3_countOf_4 d p0 i1 i2 i3 h = some r := by
  show jm_B d mX3_countOf (4, [some (.ref p0), some (.int i1), some (.int i2), some (.int i3)], []) h = some r
  refine Eq.trans (jb_nx (i := .iload_n 3) (n := 1) (q := (5, [some (.ref p0), some (.int i1), some (.int i2), some (.int i3)], [.int i3])) (jq qX3_countOf 4 rfl) rfl) ?_
  refine Eq.trans (jb_nx (i := .aload_n 0) (n := 1) (q := (6, [some (.ref p0), some (.int i1), some (.int i2), some (.int i3)], [.ref p0, .int i3])) (jq qX3_countOf 5 rfl) rfl) ?_
  obtain ⟨x1, e2, H⟩ := jbd H
  refine Eq.trans (jb_nx (i := .getfield 25) (n := 3) (q := (9, [some (.ref p0), some (.int i1), some (.int i2), some (.int i3)], [.int x1, .int i3])) (jq qX3_countOf 6 rfl) (jo_gf rfl (jr_I_inv e2))) ?_
  by_cases c3 : i3 < x1
  · rw [if_pos c3] at H
    refine Eq.trans (jb_nx (i := .if_icmp .ge 21) (n := 3) (q := (12, [some (.ref p0), some (.int i1), some (.int i2), some (.int i3)], [])) (jq qX3_countOf 7 rfl) (jo_icF (jz_geF c3))) ?_
    refine Eq.trans (jb_nx (i := .aload_n 0) (n := 1) (q := (13, [some (.ref p0), some (.int i1), some (.int i2), some (.int i3)], [.ref p0])) (jq qX3_countOf 8 rfl) rfl) ?_
    refine Eq.trans (jb_nx (i := .iload_n 3) (n := 1) (q := (14, [some (.ref p0), some (.int i1), some (.int i2), some (.int i3)], [.int i3, .ref p0])) (jq qX3_countOf 9 rfl) rfl) ?_
    obtain ⟨b8, H⟩ := jm_O_inv H
    rcases jcI H with ⟨x6, h4, r5, H⟩ | ⟨w9, h10, r5, H⟩
    · refine Eq.trans (jb_nx (i := .invokevirtual 29) (n := 3) (q := (17, [some (.ref p0), some (.int i1), some (.int i2), some (.int i3)], [.int x6])) (jq qX3_countOf 10 rfl) (jo_cv (y := mX3_kindAt) rfl (Nat.le_of_ble_eq_true rfl) rfl (Nat.le_of_ble_eq_true rfl) b8 rfl r5 jo_ret)) ?_
      refine Eq.trans (jb_nx (i := .iload_n 1) (n := 1) (q := (18, [some (.ref p0), some (.int i1), some (.int i2), some (.int i3)], [.int i1, .int x6])) (jq qX3_countOf 11 rfl) rfl) ?_
      by_cases c7 : x6 = i1
      · rw [if_pos c7] at H
        refine Eq.trans (jb_nx (i := .if_icmp .ne 6) (n := 3) (q := (21, [some (.ref p0), some (.int i1), some (.int i2), some (.int i3)], [])) (jq qX3_countOf 12 rfl) (jo_icF (jz_neF c7))) ?_
        refine Eq.trans (jb_nx (i := .iinc 2 1) (n := 3) (q := (24, [some (.ref p0), some (.int i1), some (.int (i2 + 1)), some (.int i3)], [])) (jq qX3_countOf 13 rfl) rfl) ?_
        refine Eq.trans (jb_nx (i := .iinc 3 1) (n := 3) (q := (27, [some (.ref p0), some (.int i1), some (.int (i2 + 1)), some (.int (i3 + 1))], [])) (jq qX3_countOf 14 rfl) rfl) ?_
        refine Eq.trans (jb_nx (i := .goto (-23)) (n := 3) (q := (4, [some (.ref p0), some (.int i1), some (.int (i2 + 1)), some (.int (i3 + 1))], [])) (jq qX3_countOf 15 rfl) rfl) ?_
        exact H
      · rw [if_neg c7] at H
        refine Eq.trans (jb_nx (i := .if_icmp .ne 6) (n := 3) (q := (24, [some (.ref p0), some (.int i1), some (.int i2), some (.int i3)], [])) (jq qX3_countOf 12 rfl) (jo_icT (jz_neT c7) rfl)) ?_
        refine Eq.trans (jb_nx (i := .iinc 3 1) (n := 3) (q := (27, [some (.ref p0), some (.int i1), some (.int i2), some (.int (i3 + 1))], [])) (jq qX3_countOf 14 rfl) rfl) ?_
        refine Eq.trans (jb_nx (i := .goto (-23)) (n := 3) (q := (4, [some (.ref p0), some (.int i1), some (.int i2), some (.int (i3 + 1))], [])) (jq qX3_countOf 15 rfl) rfl) ?_
        exact H
    · exact Eq.trans (jb_rt (i := .invokevirtual 29) (n := 3) (jq qX3_countOf 10 rfl) (jo_cv (y := mX3_kindAt) rfl (Nat.le_of_ble_eq_true rfl) rfl (Nat.le_of_ble_eq_true rfl) b8 rfl r5 (jo_exn rfl))) H
  · rw [if_neg c3] at H
    refine Eq.trans (jb_nx (i := .if_icmp .ge 21) (n := 3) (q := (30, [some (.ref p0), some (.int i1), some (.int i2), some (.int i3)], [])) (jq qX3_countOf 7 rfl) (jo_icT (jz_geT c3) rfl)) ?_
    refine Eq.trans (jb_nx (i := .iload_n 2) (n := 1) (q := (31, [some (.ref p0), some (.int i1), some (.int i2), some (.int i3)], [.int i2])) (jq qX3_countOf 16 rfl) rfl) ?_
    exact Eq.trans (jb_rt (i := .ireturn) (n := 1) (jq qX3_countOf 17 rfl) (jo_iret rfl rfl)) H
theorem gX3_countOf {d : Nat} {p0 : Nat} {i1 : Int32} {h : jm_H} {r : jm_R} (H : (kX3_countOf_4 d p0 i1 0 0 h) = some r) : jm_D (d + 1) mX3_countOf [.ref p0, .int i1] h = some r := by
  rw [jm_D_body (Nat.le_of_ble_eq_true rfl)]
  show jm_B d mX3_countOf (0, [some (.ref p0), some (.int i1), none, none], []) h = some r
  refine Eq.trans (jb_nx (i := .iconst 0) (n := 1) (q := (1, [some (.ref p0), some (.int i1), none, none], [.int 0])) (jq qX3_countOf 0 rfl) rfl) ?_
  refine Eq.trans (jb_nx (i := .istore_n 2) (n := 1) (q := (2, [some (.ref p0), some (.int i1), some (.int 0), none], [])) (jq qX3_countOf 1 rfl) rfl) ?_
  refine Eq.trans (jb_nx (i := .iconst 0) (n := 1) (q := (3, [some (.ref p0), some (.int i1), some (.int 0), none], [.int 0])) (jq qX3_countOf 2 rfl) rfl) ?_
  refine Eq.trans (jb_nx (i := .istore_n 3) (n := 1) (q := (4, [some (.ref p0), some (.int i1), some (.int 0), some (.int 0)], [])) (jq qX3_countOf 3 rfl) rfl) ?_
  exact H
/-! MaskPlays$Part mostMasks ()I -/
def tX3_mostMasks : List (Nat × Instr × Nat) := [(0, .iconst 0, 1), (1, .istore_n 1, 1), (2, .iconst 0, 1), (3, .istore_n 2, 1), (4, .iload_n 2, 1), (5, .aload_n 0, 1), (6, .getfield 25, 3), (9, .if_icmp .ge 27, 3), (12, .aload_n 0, 1), (13, .iload_n 2, 1), (14, .invokevirtual 29, 3), (17, .ifCond .ne 13, 3), (20, .iload_n 1, 1), (21, .aload_n 0, 1), (22, .iload_n 2, 1), (23, .invokevirtual 79, 3), (26, .invokestatic 47, 3), (29, .istore_n 1, 1), (30, .iinc 2 1, 3), (33, .goto (-29), 3), (36, .iload_n 1, 1), (37, .ireturn, 1)]
set_option maxRecDepth 100000 in
theorem qX3_mostMasks : ∀ q ∈ tX3_mostMasks, decode cX3_mostMasks q.1 = .ok (q.2.1, q.2.2) := by decide +kernel
noncomputable def kX3_mostMasks_4 (d : Nat) (p0 : Nat) (i1 : Int32) (i2 : Int32) (h : jm_H) : Option jm_R := jm_B d mX3_mostMasks (4, [some (.ref p0), some (.int i1), some (.int i2)], []) h
theorem gX3_mostMasks_4 {d : Nat} {p0 : Nat} {i1 : Int32} {i2 : Int32} {h : jm_H} {r : jm_R} (H : ((jr_I h p0 3 0 0).bind fun x1 => (if i2 < x1 then jm_O h p0 3 (jc_I (jm_D d mX3_kindAt [.ref p0, .int i2] h) (fun x6 h4 => (if x6 = 0 then jm_O h4 p0 3 (jc_I (jm_D d mX3_masksAround [.ref p0, .int i2] h4) (fun x10 h8 => kX3_mostMasks_4 d p0 (if i1 < x10 then x10 else i1) (i2 + 1) h8) jx) else kX3_mostMasks_4 d p0 i1 (i2 + 1) h4)) jx) else some (.inl (some (.int i1)), h))) = some r) : kX3_mostMasks_4 d p0 i1 i2 h = some r := by
  show jm_B d mX3_mostMasks (4, [some (.ref p0), some (.int i1), some (.int i2)], []) h = some r
  refine Eq.trans (jb_nx (i := .iload_n 2) (n := 1) (q := (5, [some (.ref p0), some (.int i1), some (.int i2)], [.int i2])) (jq qX3_mostMasks 4 rfl) rfl) ?_
  refine Eq.trans (jb_nx (i := .aload_n 0) (n := 1) (q := (6, [some (.ref p0), some (.int i1), some (.int i2)], [.ref p0, .int i2])) (jq qX3_mostMasks 5 rfl) rfl) ?_
  obtain ⟨x1, e2, H⟩ := jbd H
  refine Eq.trans (jb_nx (i := .getfield 25) (n := 3) (q := (9, [some (.ref p0), some (.int i1), some (.int i2)], [.int x1, .int i2])) (jq qX3_mostMasks 6 rfl) (jo_gf rfl (jr_I_inv e2))) ?_
  by_cases c3 : i2 < x1
  · rw [if_pos c3] at H
    refine Eq.trans (jb_nx (i := .if_icmp .ge 27) (n := 3) (q := (12, [some (.ref p0), some (.int i1), some (.int i2)], [])) (jq qX3_mostMasks 7 rfl) (jo_icF (jz_geF c3))) ?_
    refine Eq.trans (jb_nx (i := .aload_n 0) (n := 1) (q := (13, [some (.ref p0), some (.int i1), some (.int i2)], [.ref p0])) (jq qX3_mostMasks 8 rfl) rfl) ?_
    refine Eq.trans (jb_nx (i := .iload_n 2) (n := 1) (q := (14, [some (.ref p0), some (.int i1), some (.int i2)], [.int i2, .ref p0])) (jq qX3_mostMasks 9 rfl) rfl) ?_
    obtain ⟨b14, H⟩ := jm_O_inv H
    rcases jcI H with ⟨x6, h4, r5, H⟩ | ⟨w15, h16, r5, H⟩
    · refine Eq.trans (jb_nx (i := .invokevirtual 29) (n := 3) (q := (17, [some (.ref p0), some (.int i1), some (.int i2)], [.int x6])) (jq qX3_mostMasks 10 rfl) (jo_cv (y := mX3_kindAt) rfl (Nat.le_of_ble_eq_true rfl) rfl (Nat.le_of_ble_eq_true rfl) b14 rfl r5 jo_ret)) ?_
      by_cases c7 : x6 = 0
      · rw [if_pos c7] at H
        refine Eq.trans (jb_nx (i := .ifCond .ne 13) (n := 3) (q := (20, [some (.ref p0), some (.int i1), some (.int i2)], [])) (jq qX3_mostMasks 11 rfl) (jo_ifF (jz_neF c7))) ?_
        refine Eq.trans (jb_nx (i := .iload_n 1) (n := 1) (q := (21, [some (.ref p0), some (.int i1), some (.int i2)], [.int i1])) (jq qX3_mostMasks 12 rfl) rfl) ?_
        refine Eq.trans (jb_nx (i := .aload_n 0) (n := 1) (q := (22, [some (.ref p0), some (.int i1), some (.int i2)], [.ref p0, .int i1])) (jq qX3_mostMasks 13 rfl) rfl) ?_
        refine Eq.trans (jb_nx (i := .iload_n 2) (n := 1) (q := (23, [some (.ref p0), some (.int i1), some (.int i2)], [.int i2, .ref p0, .int i1])) (jq qX3_mostMasks 14 rfl) rfl) ?_
        obtain ⟨b11, H⟩ := jm_O_inv H
        rcases jcI H with ⟨x10, h8, r9, H⟩ | ⟨w12, h13, r9, H⟩
        · refine Eq.trans (jb_nx (i := .invokevirtual 79) (n := 3) (q := (26, [some (.ref p0), some (.int i1), some (.int i2)], [.int x10, .int i1])) (jq qX3_mostMasks 15 rfl) (jo_cv (y := mX3_masksAround) rfl (Nat.le_of_ble_eq_true rfl) rfl (Nat.le_of_ble_eq_true rfl) b11 rfl r9 jo_ret)) ?_
          refine Eq.trans (jb_nx (i := .invokestatic 47) (n := 3) (q := (29, [some (.ref p0), some (.int i1), some (.int i2)], [.int (if i1 < x10 then x10 else i1)])) (jq qX3_mostMasks 16 rfl) (jo_mx (z := mX3_clear) rfl (Nat.le_of_ble_eq_true rfl))) ?_
          refine Eq.trans (jb_nx (i := .istore_n 1) (n := 1) (q := (30, [some (.ref p0), some (.int (if i1 < x10 then x10 else i1)), some (.int i2)], [])) (jq qX3_mostMasks 17 rfl) rfl) ?_
          refine Eq.trans (jb_nx (i := .iinc 2 1) (n := 3) (q := (33, [some (.ref p0), some (.int (if i1 < x10 then x10 else i1)), some (.int (i2 + 1))], [])) (jq qX3_mostMasks 18 rfl) rfl) ?_
          refine Eq.trans (jb_nx (i := .goto (-29)) (n := 3) (q := (4, [some (.ref p0), some (.int (if i1 < x10 then x10 else i1)), some (.int (i2 + 1))], [])) (jq qX3_mostMasks 19 rfl) rfl) ?_
          exact H
        · exact Eq.trans (jb_rt (i := .invokevirtual 79) (n := 3) (jq qX3_mostMasks 15 rfl) (jo_cv (y := mX3_masksAround) rfl (Nat.le_of_ble_eq_true rfl) rfl (Nat.le_of_ble_eq_true rfl) b11 rfl r9 (jo_exn rfl))) H
      · rw [if_neg c7] at H
        refine Eq.trans (jb_nx (i := .ifCond .ne 13) (n := 3) (q := (30, [some (.ref p0), some (.int i1), some (.int i2)], [])) (jq qX3_mostMasks 11 rfl) (jo_ifT (jz_neT c7) rfl)) ?_
        refine Eq.trans (jb_nx (i := .iinc 2 1) (n := 3) (q := (33, [some (.ref p0), some (.int i1), some (.int (i2 + 1))], [])) (jq qX3_mostMasks 18 rfl) rfl) ?_
        refine Eq.trans (jb_nx (i := .goto (-29)) (n := 3) (q := (4, [some (.ref p0), some (.int i1), some (.int (i2 + 1))], [])) (jq qX3_mostMasks 19 rfl) rfl) ?_
        exact H
    · exact Eq.trans (jb_rt (i := .invokevirtual 29) (n := 3) (jq qX3_mostMasks 10 rfl) (jo_cv (y := mX3_kindAt) rfl (Nat.le_of_ble_eq_true rfl) rfl (Nat.le_of_ble_eq_true rfl) b14 rfl r5 (jo_exn rfl))) H
  · rw [if_neg c3] at H
    refine Eq.trans (jb_nx (i := .if_icmp .ge 27) (n := 3) (q := (36, [some (.ref p0), some (.int i1), some (.int i2)], [])) (jq qX3_mostMasks 7 rfl) (jo_icT (jz_geT c3) rfl)) ?_
    refine Eq.trans (jb_nx (i := .iload_n 1) (n := 1) (q := (37, [some (.ref p0), some (.int i1), some (.int i2)], [.int i1])) (jq qX3_mostMasks 20 rfl) rfl) ?_
    exact Eq.trans (jb_rt (i := .ireturn) (n := 1) (jq qX3_mostMasks 21 rfl) (jo_iret rfl rfl)) H
theorem gX3_mostMasks {d : Nat} {p0 : Nat} {h : jm_H} {r : jm_R} (H : (kX3_mostMasks_4 d p0 0 0 h) = some r) : jm_D (d + 1) mX3_mostMasks [.ref p0] h = some r := by
  rw [jm_D_body (Nat.le_of_ble_eq_true rfl)]
  show jm_B d mX3_mostMasks (0, [some (.ref p0), none, none], []) h = some r
  refine Eq.trans (jb_nx (i := .iconst 0) (n := 1) (q := (1, [some (.ref p0), none, none], [.int 0])) (jq qX3_mostMasks 0 rfl) rfl) ?_
  refine Eq.trans (jb_nx (i := .istore_n 1) (n := 1) (q := (2, [some (.ref p0), some (.int 0), none], [])) (jq qX3_mostMasks 1 rfl) rfl) ?_
  refine Eq.trans (jb_nx (i := .iconst 0) (n := 1) (q := (3, [some (.ref p0), some (.int 0), none], [.int 0])) (jq qX3_mostMasks 2 rfl) rfl) ?_
  refine Eq.trans (jb_nx (i := .istore_n 2) (n := 1) (q := (4, [some (.ref p0), some (.int 0), some (.int 0)], [])) (jq qX3_mostMasks 3 rfl) rfl) ?_
  exact H
/-! MaskPlays$Part masksAround (I)I -/
def tX3_masksAround : List (Nat × Instr × Nat) := [(0, .aload_n 0, 1), (1, .iload_n 1, 1), (2, .invokevirtual 73, 3), (5, .istore_n 2, 1), (6, .iconst 0, 1), (7, .istore_n 3, 1), (8, .iload_n 3, 1), (9, .sipush 150, 3), (12, .if_icmp .ge 21, 3), (15, .iload_n 2, 1), (16, .ifCond .ge 5, 3), (19, .iload_n 3, 1), (20, .ireturn, 1), (21, .aload_n 0, 1), (22, .iload_n 2, 1), (23, .invokevirtual 73, 3), (26, .istore_n 2, 1), (27, .iinc 3 1, 3), (30, .goto (-22), 3), (33, .sipush 150, 3), (36, .ireturn, 1)]
set_option maxRecDepth 100000 in
theorem qX3_masksAround : ∀ q ∈ tX3_masksAround, decode cX3_masksAround q.1 = .ok (q.2.1, q.2.2) := by decide +kernel
noncomputable def kX3_masksAround_8 (d : Nat) (p0 : Nat) (o1 : Option Value) (i2 : Int32) (i3 : Int32) (h : jm_H) : Option jm_R := jm_B d mX3_masksAround (8, [some (.ref p0), o1, some (.int i2), some (.int i3)], []) h
theorem gX3_masksAround_8 {d : Nat} {p0 : Nat} {o1 : Option Value} {i2 : Int32} {i3 : Int32} {h : jm_H} {r : jm_R} (H : ((if i3 < 150 then (if i2 < 0 then some (.inl (some (.int i3)), h) else jm_O h p0 3 (jc_I (jm_D d mX3_outerAt [.ref p0, .int i2] h) (fun x11 h9 => kX3_masksAround_8 d p0 (jm_dm o1) x11 (i3 + 1) h9) jx)) else some (.inl (some (.int 150)), h))) = some r) : kX3_masksAround_8 d p0 o1 i2 i3 h = some r := by
  show jm_B d mX3_masksAround (8, [some (.ref p0), o1, some (.int i2), some (.int i3)], []) h = some r
  refine Eq.trans (jb_nx (i := .iload_n 3) (n := 1) (q := (9, [some (.ref p0), o1, some (.int i2), some (.int i3)], [.int i3])) (jq qX3_masksAround 6 rfl) rfl) ?_
  refine Eq.trans (jb_nx (i := .sipush 150) (n := 3) (q := (12, [some (.ref p0), o1, some (.int i2), some (.int i3)], [.int 150, .int i3])) (jq qX3_masksAround 7 rfl) rfl) ?_
  by_cases c7 : i3 < 150
  · rw [if_pos c7] at H
    refine Eq.trans (jb_nx (i := .if_icmp .ge 21) (n := 3) (q := (15, [some (.ref p0), o1, some (.int i2), some (.int i3)], [])) (jq qX3_masksAround 8 rfl) (jo_icF (jz_geF c7))) ?_
    refine Eq.trans (jb_nx (i := .iload_n 2) (n := 1) (q := (16, [some (.ref p0), o1, some (.int i2), some (.int i3)], [.int i2])) (jq qX3_masksAround 9 rfl) rfl) ?_
    by_cases c8 : i2 < 0
    · rw [if_pos c8] at H
      refine Eq.trans (jb_nx (i := .ifCond .ge 5) (n := 3) (q := (19, [some (.ref p0), o1, some (.int i2), some (.int i3)], [])) (jq qX3_masksAround 10 rfl) (jo_ifF (jz_geF c8))) ?_
      refine Eq.trans (jb_nx (i := .iload_n 3) (n := 1) (q := (20, [some (.ref p0), o1, some (.int i2), some (.int i3)], [.int i3])) (jq qX3_masksAround 11 rfl) rfl) ?_
      exact Eq.trans (jb_rt (i := .ireturn) (n := 1) (jq qX3_masksAround 12 rfl) (jo_iret rfl rfl)) H
    · rw [if_neg c8] at H
      refine Eq.trans (jb_nx (i := .ifCond .ge 5) (n := 3) (q := (21, [some (.ref p0), o1, some (.int i2), some (.int i3)], [])) (jq qX3_masksAround 10 rfl) (jo_ifT (jz_geT c8) rfl)) ?_
      refine Eq.trans (jb_nx (i := .aload_n 0) (n := 1) (q := (22, [some (.ref p0), o1, some (.int i2), some (.int i3)], [.ref p0])) (jq qX3_masksAround 13 rfl) rfl) ?_
      refine Eq.trans (jb_nx (i := .iload_n 2) (n := 1) (q := (23, [some (.ref p0), o1, some (.int i2), some (.int i3)], [.int i2, .ref p0])) (jq qX3_masksAround 14 rfl) rfl) ?_
      obtain ⟨b12, H⟩ := jm_O_inv H
      rcases jcI H with ⟨x11, h9, r10, H⟩ | ⟨w13, h14, r10, H⟩
      · refine Eq.trans (jb_nx (i := .invokevirtual 73) (n := 3) (q := (26, [some (.ref p0), o1, some (.int i2), some (.int i3)], [.int x11])) (jq qX3_masksAround 15 rfl) (jo_cv (y := mX3_outerAt) rfl (Nat.le_of_ble_eq_true rfl) rfl (Nat.le_of_ble_eq_true rfl) b12 rfl r10 jo_ret)) ?_
        refine Eq.trans (jb_nx (i := .istore_n 2) (n := 1) (q := (27, [some (.ref p0), (jm_dm o1), some (.int x11), some (.int i3)], [])) (jq qX3_masksAround 16 rfl) rfl) ?_
        refine Eq.trans (jb_nx (i := .iinc 3 1) (n := 3) (q := (30, [some (.ref p0), (jm_dm o1), some (.int x11), some (.int (i3 + 1))], [])) (jq qX3_masksAround 17 rfl) rfl) ?_
        refine Eq.trans (jb_nx (i := .goto (-22)) (n := 3) (q := (8, [some (.ref p0), (jm_dm o1), some (.int x11), some (.int (i3 + 1))], [])) (jq qX3_masksAround 18 rfl) rfl) ?_
        exact H
      · exact Eq.trans (jb_rt (i := .invokevirtual 73) (n := 3) (jq qX3_masksAround 15 rfl) (jo_cv (y := mX3_outerAt) rfl (Nat.le_of_ble_eq_true rfl) rfl (Nat.le_of_ble_eq_true rfl) b12 rfl r10 (jo_exn rfl))) H
  · rw [if_neg c7] at H
    refine Eq.trans (jb_nx (i := .if_icmp .ge 21) (n := 3) (q := (33, [some (.ref p0), o1, some (.int i2), some (.int i3)], [])) (jq qX3_masksAround 8 rfl) (jo_icT (jz_geT c7) rfl)) ?_
    refine Eq.trans (jb_nx (i := .sipush 150) (n := 3) (q := (36, [some (.ref p0), o1, some (.int i2), some (.int i3)], [.int 150])) (jq qX3_masksAround 19 rfl) rfl) ?_
    exact Eq.trans (jb_rt (i := .ireturn) (n := 1) (jq qX3_masksAround 20 rfl) (jo_iret rfl rfl)) H
theorem gX3_masksAround {d : Nat} {p0 : Nat} {i1 : Int32} {h : jm_H} {r : jm_R} (H : (jm_O h p0 3 (jc_I (jm_D d mX3_outerAt [.ref p0, .int i1] h) (fun x3 h1 => kX3_masksAround_8 d p0 (some (.int i1)) x3 0 h1) jx)) = some r) : jm_D (d + 1) mX3_masksAround [.ref p0, .int i1] h = some r := by
  rw [jm_D_body (Nat.le_of_ble_eq_true rfl)]
  show jm_B d mX3_masksAround (0, [some (.ref p0), some (.int i1), none, none], []) h = some r
  refine Eq.trans (jb_nx (i := .aload_n 0) (n := 1) (q := (1, [some (.ref p0), some (.int i1), none, none], [.ref p0])) (jq qX3_masksAround 0 rfl) rfl) ?_
  refine Eq.trans (jb_nx (i := .iload_n 1) (n := 1) (q := (2, [some (.ref p0), some (.int i1), none, none], [.int i1, .ref p0])) (jq qX3_masksAround 1 rfl) rfl) ?_
  obtain ⟨b4, H⟩ := jm_O_inv H
  rcases jcI H with ⟨x3, h1, r2, H⟩ | ⟨w5, h6, r2, H⟩
  · refine Eq.trans (jb_nx (i := .invokevirtual 73) (n := 3) (q := (5, [some (.ref p0), some (.int i1), none, none], [.int x3])) (jq qX3_masksAround 2 rfl) (jo_cv (y := mX3_outerAt) rfl (Nat.le_of_ble_eq_true rfl) rfl (Nat.le_of_ble_eq_true rfl) b4 rfl r2 jo_ret)) ?_
    refine Eq.trans (jb_nx (i := .istore_n 2) (n := 1) (q := (6, [some (.ref p0), some (.int i1), some (.int x3), none], [])) (jq qX3_masksAround 3 rfl) rfl) ?_
    refine Eq.trans (jb_nx (i := .iconst 0) (n := 1) (q := (7, [some (.ref p0), some (.int i1), some (.int x3), none], [.int 0])) (jq qX3_masksAround 4 rfl) rfl) ?_
    refine Eq.trans (jb_nx (i := .istore_n 3) (n := 1) (q := (8, [some (.ref p0), some (.int i1), some (.int x3), some (.int 0)], [])) (jq qX3_masksAround 5 rfl) rfl) ?_
    exact H
  · exact Eq.trans (jb_rt (i := .invokevirtual 73) (n := 3) (jq qX3_masksAround 2 rfl) (jo_cv (y := mX3_outerAt) rfl (Nat.le_of_ble_eq_true rfl) rfl (Nat.le_of_ble_eq_true rfl) b4 rfl r2 (jo_exn rfl))) H
/-! MaskPlays$Part readyScene ()I -/
def tX3_readyScene : List (Nat × Instr × Nat) := [(0, .iconst 0, 1), (1, .istore_n 1, 1), (2, .iload_n 1, 1), (3, .iconst 1, 1), (4, .iadd, 1), (5, .aload_n 0, 1), (6, .getfield 25, 3), (9, .if_icmp .ge 31, 3), (12, .aload_n 0, 1), (13, .iload_n 1, 1), (14, .invokevirtual 29, 3), (17, .iconst 2, 1), (18, .if_icmp .ne 16, 3), (21, .aload_n 0, 1), (22, .iload_n 1, 1), (23, .iconst 1, 1), (24, .iadd, 1), (25, .invokevirtual 29, 3), (28, .iconst 1, 1), (29, .if_icmp .ne 5, 3), (32, .iload_n 1, 1), (33, .ireturn, 1), (34, .iinc 1 1, 3), (37, .goto (-35), 3), (40, .iconst (-1), 1), (41, .ireturn, 1)]
set_option maxRecDepth 100000 in
theorem qX3_readyScene : ∀ q ∈ tX3_readyScene, decode cX3_readyScene q.1 = .ok (q.2.1, q.2.2) := by decide +kernel
noncomputable def kX3_readyScene_2 (d : Nat) (p0 : Nat) (i1 : Int32) (h : jm_H) : Option jm_R := jm_B d mX3_readyScene (2, [some (.ref p0), some (.int i1)], []) h
theorem gX3_readyScene_2 {d : Nat} {p0 : Nat} {i1 : Int32} {h : jm_H} {r : jm_R} (H : ((jr_I h p0 3 0 0).bind fun x1 => (if (i1 + 1) < x1 then jm_O h p0 3 (jc_I (jm_D d mX3_kindAt [.ref p0, .int i1] h) (fun x6 h4 => (if x6 = 2 then jm_O h4 p0 3 (jc_I (jm_D d mX3_kindAt [.ref p0, .int (i1 + 1)] h4) (fun x10 h8 => (if x10 = 1 then some (.inl (some (.int i1)), h8) else kX3_readyScene_2 d p0 (i1 + 1) h8)) jx) else kX3_readyScene_2 d p0 (i1 + 1) h4)) jx) else some (.inl (some (.int (-1))), h))) = some r) : kX3_readyScene_2 d p0 i1 h = some r := by
  show jm_B d mX3_readyScene (2, [some (.ref p0), some (.int i1)], []) h = some r
  refine Eq.trans (jb_nx (i := .iload_n 1) (n := 1) (q := (3, [some (.ref p0), some (.int i1)], [.int i1])) (jq qX3_readyScene 2 rfl) rfl) ?_
  refine Eq.trans (jb_nx (i := .iconst 1) (n := 1) (q := (4, [some (.ref p0), some (.int i1)], [.int 1, .int i1])) (jq qX3_readyScene 3 rfl) rfl) ?_
  refine Eq.trans (jb_nx (i := .iadd) (n := 1) (q := (5, [some (.ref p0), some (.int i1)], [.int (i1 + 1)])) (jq qX3_readyScene 4 rfl) rfl) ?_
  refine Eq.trans (jb_nx (i := .aload_n 0) (n := 1) (q := (6, [some (.ref p0), some (.int i1)], [.ref p0, .int (i1 + 1)])) (jq qX3_readyScene 5 rfl) rfl) ?_
  obtain ⟨x1, e2, H⟩ := jbd H
  refine Eq.trans (jb_nx (i := .getfield 25) (n := 3) (q := (9, [some (.ref p0), some (.int i1)], [.int x1, .int (i1 + 1)])) (jq qX3_readyScene 6 rfl) (jo_gf rfl (jr_I_inv e2))) ?_
  by_cases c3 : (i1 + 1) < x1
  · rw [if_pos c3] at H
    refine Eq.trans (jb_nx (i := .if_icmp .ge 31) (n := 3) (q := (12, [some (.ref p0), some (.int i1)], [])) (jq qX3_readyScene 7 rfl) (jo_icF (jz_geF c3))) ?_
    refine Eq.trans (jb_nx (i := .aload_n 0) (n := 1) (q := (13, [some (.ref p0), some (.int i1)], [.ref p0])) (jq qX3_readyScene 8 rfl) rfl) ?_
    refine Eq.trans (jb_nx (i := .iload_n 1) (n := 1) (q := (14, [some (.ref p0), some (.int i1)], [.int i1, .ref p0])) (jq qX3_readyScene 9 rfl) rfl) ?_
    obtain ⟨b15, H⟩ := jm_O_inv H
    rcases jcI H with ⟨x6, h4, r5, H⟩ | ⟨w16, h17, r5, H⟩
    · refine Eq.trans (jb_nx (i := .invokevirtual 29) (n := 3) (q := (17, [some (.ref p0), some (.int i1)], [.int x6])) (jq qX3_readyScene 10 rfl) (jo_cv (y := mX3_kindAt) rfl (Nat.le_of_ble_eq_true rfl) rfl (Nat.le_of_ble_eq_true rfl) b15 rfl r5 jo_ret)) ?_
      refine Eq.trans (jb_nx (i := .iconst 2) (n := 1) (q := (18, [some (.ref p0), some (.int i1)], [.int 2, .int x6])) (jq qX3_readyScene 11 rfl) rfl) ?_
      by_cases c7 : x6 = 2
      · rw [if_pos c7] at H
        refine Eq.trans (jb_nx (i := .if_icmp .ne 16) (n := 3) (q := (21, [some (.ref p0), some (.int i1)], [])) (jq qX3_readyScene 12 rfl) (jo_icF (jz_neF c7))) ?_
        refine Eq.trans (jb_nx (i := .aload_n 0) (n := 1) (q := (22, [some (.ref p0), some (.int i1)], [.ref p0])) (jq qX3_readyScene 13 rfl) rfl) ?_
        refine Eq.trans (jb_nx (i := .iload_n 1) (n := 1) (q := (23, [some (.ref p0), some (.int i1)], [.int i1, .ref p0])) (jq qX3_readyScene 14 rfl) rfl) ?_
        refine Eq.trans (jb_nx (i := .iconst 1) (n := 1) (q := (24, [some (.ref p0), some (.int i1)], [.int 1, .int i1, .ref p0])) (jq qX3_readyScene 15 rfl) rfl) ?_
        refine Eq.trans (jb_nx (i := .iadd) (n := 1) (q := (25, [some (.ref p0), some (.int i1)], [.int (i1 + 1), .ref p0])) (jq qX3_readyScene 16 rfl) rfl) ?_
        obtain ⟨b12, H⟩ := jm_O_inv H
        rcases jcI H with ⟨x10, h8, r9, H⟩ | ⟨w13, h14, r9, H⟩
        · refine Eq.trans (jb_nx (i := .invokevirtual 29) (n := 3) (q := (28, [some (.ref p0), some (.int i1)], [.int x10])) (jq qX3_readyScene 17 rfl) (jo_cv (y := mX3_kindAt) rfl (Nat.le_of_ble_eq_true rfl) rfl (Nat.le_of_ble_eq_true rfl) b12 rfl r9 jo_ret)) ?_
          refine Eq.trans (jb_nx (i := .iconst 1) (n := 1) (q := (29, [some (.ref p0), some (.int i1)], [.int 1, .int x10])) (jq qX3_readyScene 18 rfl) rfl) ?_
          by_cases c11 : x10 = 1
          · rw [if_pos c11] at H
            refine Eq.trans (jb_nx (i := .if_icmp .ne 5) (n := 3) (q := (32, [some (.ref p0), some (.int i1)], [])) (jq qX3_readyScene 19 rfl) (jo_icF (jz_neF c11))) ?_
            refine Eq.trans (jb_nx (i := .iload_n 1) (n := 1) (q := (33, [some (.ref p0), some (.int i1)], [.int i1])) (jq qX3_readyScene 20 rfl) rfl) ?_
            exact Eq.trans (jb_rt (i := .ireturn) (n := 1) (jq qX3_readyScene 21 rfl) (jo_iret rfl rfl)) H
          · rw [if_neg c11] at H
            refine Eq.trans (jb_nx (i := .if_icmp .ne 5) (n := 3) (q := (34, [some (.ref p0), some (.int i1)], [])) (jq qX3_readyScene 19 rfl) (jo_icT (jz_neT c11) rfl)) ?_
            refine Eq.trans (jb_nx (i := .iinc 1 1) (n := 3) (q := (37, [some (.ref p0), some (.int (i1 + 1))], [])) (jq qX3_readyScene 22 rfl) rfl) ?_
            refine Eq.trans (jb_nx (i := .goto (-35)) (n := 3) (q := (2, [some (.ref p0), some (.int (i1 + 1))], [])) (jq qX3_readyScene 23 rfl) rfl) ?_
            exact H
        · exact Eq.trans (jb_rt (i := .invokevirtual 29) (n := 3) (jq qX3_readyScene 17 rfl) (jo_cv (y := mX3_kindAt) rfl (Nat.le_of_ble_eq_true rfl) rfl (Nat.le_of_ble_eq_true rfl) b12 rfl r9 (jo_exn rfl))) H
      · rw [if_neg c7] at H
        refine Eq.trans (jb_nx (i := .if_icmp .ne 16) (n := 3) (q := (34, [some (.ref p0), some (.int i1)], [])) (jq qX3_readyScene 12 rfl) (jo_icT (jz_neT c7) rfl)) ?_
        refine Eq.trans (jb_nx (i := .iinc 1 1) (n := 3) (q := (37, [some (.ref p0), some (.int (i1 + 1))], [])) (jq qX3_readyScene 22 rfl) rfl) ?_
        refine Eq.trans (jb_nx (i := .goto (-35)) (n := 3) (q := (2, [some (.ref p0), some (.int (i1 + 1))], [])) (jq qX3_readyScene 23 rfl) rfl) ?_
        exact H
    · exact Eq.trans (jb_rt (i := .invokevirtual 29) (n := 3) (jq qX3_readyScene 10 rfl) (jo_cv (y := mX3_kindAt) rfl (Nat.le_of_ble_eq_true rfl) rfl (Nat.le_of_ble_eq_true rfl) b15 rfl r5 (jo_exn rfl))) H
  · rw [if_neg c3] at H
    refine Eq.trans (jb_nx (i := .if_icmp .ge 31) (n := 3) (q := (40, [some (.ref p0), some (.int i1)], [])) (jq qX3_readyScene 7 rfl) (jo_icT (jz_geT c3) rfl)) ?_
    refine Eq.trans (jb_nx (i := .iconst (-1)) (n := 1) (q := (41, [some (.ref p0), some (.int i1)], [.int (-1)])) (jq qX3_readyScene 24 rfl) rfl) ?_
    exact Eq.trans (jb_rt (i := .ireturn) (n := 1) (jq qX3_readyScene 25 rfl) (jo_iret rfl rfl)) H
theorem gX3_readyScene {d : Nat} {p0 : Nat} {h : jm_H} {r : jm_R} (H : (kX3_readyScene_2 d p0 0 h) = some r) : jm_D (d + 1) mX3_readyScene [.ref p0] h = some r := by
  rw [jm_D_body (Nat.le_of_ble_eq_true rfl)]
  show jm_B d mX3_readyScene (0, [some (.ref p0), none], []) h = some r
  refine Eq.trans (jb_nx (i := .iconst 0) (n := 1) (q := (1, [some (.ref p0), none], [.int 0])) (jq qX3_readyScene 0 rfl) rfl) ?_
  refine Eq.trans (jb_nx (i := .istore_n 1) (n := 1) (q := (2, [some (.ref p0), some (.int 0)], [])) (jq qX3_readyScene 1 rfl) rfl) ?_
  exact H
/-! MaskPlays$Part isLike (LMaskPlays$Part;)Z -/
def tX3_isLike : List (Nat × Instr × Nat) := [(0, .aload_n 0, 1), (1, .getfield 25, 3), (4, .aload_n 1, 1), (5, .getfield 25, 3), (8, .if_icmp .eq 5, 3), (11, .iconst 0, 1), (12, .ireturn, 1), (13, .iconst 0, 1), (14, .istore_n 2, 1), (15, .iload_n 2, 1), (16, .aload_n 0, 1), (17, .getfield 25, 3), (20, .if_icmp .ge 43, 3), (23, .aload_n 0, 1), (24, .iload_n 2, 1), (25, .invokevirtual 29, 3), (28, .aload_n 1, 1), (29, .iload_n 2, 1), (30, .invokevirtual 29, 3), (33, .if_icmp .eq 5, 3), (36, .iconst 0, 1), (37, .ireturn, 1), (38, .aload_n 0, 1), (39, .iload_n 2, 1), (40, .invokevirtual 29, 3), (43, .ifCond .ne 14, 3), (46, .aload_n 0, 1), (47, .iload_n 2, 1), (48, .aload_n 1, 1), (49, .invokevirtual 85, 3), (52, .ifCond .ne 5, 3), (55, .iconst 0, 1), (56, .ireturn, 1), (57, .iinc 2 1, 3), (60, .goto (-45), 3), (63, .iconst 1, 1), (64, .ireturn, 1)]
set_option maxRecDepth 100000 in
theorem qX3_isLike : ∀ q ∈ tX3_isLike, decode cX3_isLike q.1 = .ok (q.2.1, q.2.2) := by decide +kernel
noncomputable def kX3_isLike_15 (d : Nat) (p0 : Nat) (p1 : Nat) (i2 : Int32) (h : jm_H) : Option jm_R := jm_B d mX3_isLike (15, [some (.ref p0), some (.ref p1), some (.int i2)], []) h
theorem gX3_isLike_15 {d : Nat} {p0 : Nat} {p1 : Nat} {i2 : Int32} {h : jm_H} {r : jm_R} (H : ((jr_I h p0 3 0 0).bind fun x6 => (if i2 < x6 then jm_O h p0 3 (jc_I (jm_D d mX3_kindAt [.ref p0, .int i2] h) (fun x11 h9 => jm_O h9 p1 3 (jc_I (jm_D d mX3_kindAt [.ref p1, .int i2] h9) (fun x14 h12 => (if x11 = x14 then jm_O h12 p0 3 (jc_I (jm_D d mX3_kindAt [.ref p0, .int i2] h12) (fun x18 h16 => (if x18 = 0 then jm_O h16 p0 3 (jc_I (jm_D d mX3_belongsLike [.ref p0, .int i2, .ref p1] h16) (fun x22 h20 => (if x22 = 0 then some (.inl (some (.int 0)), h20) else kX3_isLike_15 d p0 p1 (i2 + 1) h20)) jx) else kX3_isLike_15 d p0 p1 (i2 + 1) h16)) jx) else some (.inl (some (.int 0)), h12))) jx)) jx) else some (.inl (some (.int 1)), h))) = some r) : kX3_isLike_15 d p0 p1 i2 h = some r := by
  show jm_B d mX3_isLike (15, [some (.ref p0), some (.ref p1), some (.int i2)], []) h = some r
  refine Eq.trans (jb_nx (i := .iload_n 2) (n := 1) (q := (16, [some (.ref p0), some (.ref p1), some (.int i2)], [.int i2])) (jq qX3_isLike 9 rfl) rfl) ?_
  refine Eq.trans (jb_nx (i := .aload_n 0) (n := 1) (q := (17, [some (.ref p0), some (.ref p1), some (.int i2)], [.ref p0, .int i2])) (jq qX3_isLike 10 rfl) rfl) ?_
  obtain ⟨x6, e7, H⟩ := jbd H
  refine Eq.trans (jb_nx (i := .getfield 25) (n := 3) (q := (20, [some (.ref p0), some (.ref p1), some (.int i2)], [.int x6, .int i2])) (jq qX3_isLike 11 rfl) (jo_gf rfl (jr_I_inv e7))) ?_
  by_cases c8 : i2 < x6
  · rw [if_pos c8] at H
    refine Eq.trans (jb_nx (i := .if_icmp .ge 43) (n := 3) (q := (23, [some (.ref p0), some (.ref p1), some (.int i2)], [])) (jq qX3_isLike 12 rfl) (jo_icF (jz_geF c8))) ?_
    refine Eq.trans (jb_nx (i := .aload_n 0) (n := 1) (q := (24, [some (.ref p0), some (.ref p1), some (.int i2)], [.ref p0])) (jq qX3_isLike 13 rfl) rfl) ?_
    refine Eq.trans (jb_nx (i := .iload_n 2) (n := 1) (q := (25, [some (.ref p0), some (.ref p1), some (.int i2)], [.int i2, .ref p0])) (jq qX3_isLike 14 rfl) rfl) ?_
    obtain ⟨b33, H⟩ := jm_O_inv H
    rcases jcI H with ⟨x11, h9, r10, H⟩ | ⟨w34, h35, r10, H⟩
    · refine Eq.trans (jb_nx (i := .invokevirtual 29) (n := 3) (q := (28, [some (.ref p0), some (.ref p1), some (.int i2)], [.int x11])) (jq qX3_isLike 15 rfl) (jo_cv (y := mX3_kindAt) rfl (Nat.le_of_ble_eq_true rfl) rfl (Nat.le_of_ble_eq_true rfl) b33 rfl r10 jo_ret)) ?_
      refine Eq.trans (jb_nx (i := .aload_n 1) (n := 1) (q := (29, [some (.ref p0), some (.ref p1), some (.int i2)], [.ref p1, .int x11])) (jq qX3_isLike 16 rfl) rfl) ?_
      refine Eq.trans (jb_nx (i := .iload_n 2) (n := 1) (q := (30, [some (.ref p0), some (.ref p1), some (.int i2)], [.int i2, .ref p1, .int x11])) (jq qX3_isLike 17 rfl) rfl) ?_
      obtain ⟨b30, H⟩ := jm_O_inv H
      rcases jcI H with ⟨x14, h12, r13, H⟩ | ⟨w31, h32, r13, H⟩
      · refine Eq.trans (jb_nx (i := .invokevirtual 29) (n := 3) (q := (33, [some (.ref p0), some (.ref p1), some (.int i2)], [.int x14, .int x11])) (jq qX3_isLike 18 rfl) (jo_cv (y := mX3_kindAt) rfl (Nat.le_of_ble_eq_true rfl) rfl (Nat.le_of_ble_eq_true rfl) b30 rfl r13 jo_ret)) ?_
        by_cases c15 : x11 = x14
        · rw [if_pos c15] at H
          refine Eq.trans (jb_nx (i := .if_icmp .eq 5) (n := 3) (q := (38, [some (.ref p0), some (.ref p1), some (.int i2)], [])) (jq qX3_isLike 19 rfl) (jo_icT (jz_eqT c15) rfl)) ?_
          refine Eq.trans (jb_nx (i := .aload_n 0) (n := 1) (q := (39, [some (.ref p0), some (.ref p1), some (.int i2)], [.ref p0])) (jq qX3_isLike 22 rfl) rfl) ?_
          refine Eq.trans (jb_nx (i := .iload_n 2) (n := 1) (q := (40, [some (.ref p0), some (.ref p1), some (.int i2)], [.int i2, .ref p0])) (jq qX3_isLike 23 rfl) rfl) ?_
          obtain ⟨b27, H⟩ := jm_O_inv H
          rcases jcI H with ⟨x18, h16, r17, H⟩ | ⟨w28, h29, r17, H⟩
          · refine Eq.trans (jb_nx (i := .invokevirtual 29) (n := 3) (q := (43, [some (.ref p0), some (.ref p1), some (.int i2)], [.int x18])) (jq qX3_isLike 24 rfl) (jo_cv (y := mX3_kindAt) rfl (Nat.le_of_ble_eq_true rfl) rfl (Nat.le_of_ble_eq_true rfl) b27 rfl r17 jo_ret)) ?_
            by_cases c19 : x18 = 0
            · rw [if_pos c19] at H
              refine Eq.trans (jb_nx (i := .ifCond .ne 14) (n := 3) (q := (46, [some (.ref p0), some (.ref p1), some (.int i2)], [])) (jq qX3_isLike 25 rfl) (jo_ifF (jz_neF c19))) ?_
              refine Eq.trans (jb_nx (i := .aload_n 0) (n := 1) (q := (47, [some (.ref p0), some (.ref p1), some (.int i2)], [.ref p0])) (jq qX3_isLike 26 rfl) rfl) ?_
              refine Eq.trans (jb_nx (i := .iload_n 2) (n := 1) (q := (48, [some (.ref p0), some (.ref p1), some (.int i2)], [.int i2, .ref p0])) (jq qX3_isLike 27 rfl) rfl) ?_
              refine Eq.trans (jb_nx (i := .aload_n 1) (n := 1) (q := (49, [some (.ref p0), some (.ref p1), some (.int i2)], [.ref p1, .int i2, .ref p0])) (jq qX3_isLike 28 rfl) rfl) ?_
              obtain ⟨b24, H⟩ := jm_O_inv H
              rcases jcI H with ⟨x22, h20, r21, H⟩ | ⟨w25, h26, r21, H⟩
              · refine Eq.trans (jb_nx (i := .invokevirtual 85) (n := 3) (q := (52, [some (.ref p0), some (.ref p1), some (.int i2)], [.int x22])) (jq qX3_isLike 29 rfl) (jo_cv (y := mX3_belongsLike) rfl (Nat.le_of_ble_eq_true rfl) rfl (Nat.le_of_ble_eq_true rfl) b24 rfl r21 jo_ret)) ?_
                by_cases c23 : x22 = 0
                · rw [if_pos c23] at H
                  refine Eq.trans (jb_nx (i := .ifCond .ne 5) (n := 3) (q := (55, [some (.ref p0), some (.ref p1), some (.int i2)], [])) (jq qX3_isLike 30 rfl) (jo_ifF (jz_neF c23))) ?_
                  refine Eq.trans (jb_nx (i := .iconst 0) (n := 1) (q := (56, [some (.ref p0), some (.ref p1), some (.int i2)], [.int 0])) (jq qX3_isLike 31 rfl) rfl) ?_
                  exact Eq.trans (jb_rt (i := .ireturn) (n := 1) (jq qX3_isLike 32 rfl) (jo_iret rfl (by decide))) H
                · rw [if_neg c23] at H
                  refine Eq.trans (jb_nx (i := .ifCond .ne 5) (n := 3) (q := (57, [some (.ref p0), some (.ref p1), some (.int i2)], [])) (jq qX3_isLike 30 rfl) (jo_ifT (jz_neT c23) rfl)) ?_
                  refine Eq.trans (jb_nx (i := .iinc 2 1) (n := 3) (q := (60, [some (.ref p0), some (.ref p1), some (.int (i2 + 1))], [])) (jq qX3_isLike 33 rfl) rfl) ?_
                  refine Eq.trans (jb_nx (i := .goto (-45)) (n := 3) (q := (15, [some (.ref p0), some (.ref p1), some (.int (i2 + 1))], [])) (jq qX3_isLike 34 rfl) rfl) ?_
                  exact H
              · exact Eq.trans (jb_rt (i := .invokevirtual 85) (n := 3) (jq qX3_isLike 29 rfl) (jo_cv (y := mX3_belongsLike) rfl (Nat.le_of_ble_eq_true rfl) rfl (Nat.le_of_ble_eq_true rfl) b24 rfl r21 (jo_exn rfl))) H
            · rw [if_neg c19] at H
              refine Eq.trans (jb_nx (i := .ifCond .ne 14) (n := 3) (q := (57, [some (.ref p0), some (.ref p1), some (.int i2)], [])) (jq qX3_isLike 25 rfl) (jo_ifT (jz_neT c19) rfl)) ?_
              refine Eq.trans (jb_nx (i := .iinc 2 1) (n := 3) (q := (60, [some (.ref p0), some (.ref p1), some (.int (i2 + 1))], [])) (jq qX3_isLike 33 rfl) rfl) ?_
              refine Eq.trans (jb_nx (i := .goto (-45)) (n := 3) (q := (15, [some (.ref p0), some (.ref p1), some (.int (i2 + 1))], [])) (jq qX3_isLike 34 rfl) rfl) ?_
              exact H
          · exact Eq.trans (jb_rt (i := .invokevirtual 29) (n := 3) (jq qX3_isLike 24 rfl) (jo_cv (y := mX3_kindAt) rfl (Nat.le_of_ble_eq_true rfl) rfl (Nat.le_of_ble_eq_true rfl) b27 rfl r17 (jo_exn rfl))) H
        · rw [if_neg c15] at H
          refine Eq.trans (jb_nx (i := .if_icmp .eq 5) (n := 3) (q := (36, [some (.ref p0), some (.ref p1), some (.int i2)], [])) (jq qX3_isLike 19 rfl) (jo_icF (jz_eqF c15))) ?_
          refine Eq.trans (jb_nx (i := .iconst 0) (n := 1) (q := (37, [some (.ref p0), some (.ref p1), some (.int i2)], [.int 0])) (jq qX3_isLike 20 rfl) rfl) ?_
          exact Eq.trans (jb_rt (i := .ireturn) (n := 1) (jq qX3_isLike 21 rfl) (jo_iret rfl (by decide))) H
      · exact Eq.trans (jb_rt (i := .invokevirtual 29) (n := 3) (jq qX3_isLike 18 rfl) (jo_cv (y := mX3_kindAt) rfl (Nat.le_of_ble_eq_true rfl) rfl (Nat.le_of_ble_eq_true rfl) b30 rfl r13 (jo_exn rfl))) H
    · exact Eq.trans (jb_rt (i := .invokevirtual 29) (n := 3) (jq qX3_isLike 15 rfl) (jo_cv (y := mX3_kindAt) rfl (Nat.le_of_ble_eq_true rfl) rfl (Nat.le_of_ble_eq_true rfl) b33 rfl r10 (jo_exn rfl))) H
  · rw [if_neg c8] at H
    refine Eq.trans (jb_nx (i := .if_icmp .ge 43) (n := 3) (q := (63, [some (.ref p0), some (.ref p1), some (.int i2)], [])) (jq qX3_isLike 12 rfl) (jo_icT (jz_geT c8) rfl)) ?_
    refine Eq.trans (jb_nx (i := .iconst 1) (n := 1) (q := (64, [some (.ref p0), some (.ref p1), some (.int i2)], [.int 1])) (jq qX3_isLike 35 rfl) rfl) ?_
    exact Eq.trans (jb_rt (i := .ireturn) (n := 1) (jq qX3_isLike 36 rfl) (jo_iret rfl (by decide))) H
theorem gX3_isLike {d : Nat} {p0 : Nat} {p1 : Nat} {h : jm_H} {r : jm_R} (H : ((jr_I h p0 3 0 0).bind fun x1 => (jr_I h p1 3 0 0).bind fun x3 => (if x1 = x3 then kX3_isLike_15 d p0 p1 0 h else some (.inl (some (.int 0)), h))) = some r) : jm_D (d + 1) mX3_isLike [.ref p0, .ref p1] h = some r := by
  rw [jm_D_body (Nat.le_of_ble_eq_true rfl)]
  show jm_B d mX3_isLike (0, [some (.ref p0), some (.ref p1), none], []) h = some r
  refine Eq.trans (jb_nx (i := .aload_n 0) (n := 1) (q := (1, [some (.ref p0), some (.ref p1), none], [.ref p0])) (jq qX3_isLike 0 rfl) rfl) ?_
  obtain ⟨x1, e2, H⟩ := jbd H
  refine Eq.trans (jb_nx (i := .getfield 25) (n := 3) (q := (4, [some (.ref p0), some (.ref p1), none], [.int x1])) (jq qX3_isLike 1 rfl) (jo_gf rfl (jr_I_inv e2))) ?_
  refine Eq.trans (jb_nx (i := .aload_n 1) (n := 1) (q := (5, [some (.ref p0), some (.ref p1), none], [.ref p1, .int x1])) (jq qX3_isLike 2 rfl) rfl) ?_
  obtain ⟨x3, e4, H⟩ := jbd H
  refine Eq.trans (jb_nx (i := .getfield 25) (n := 3) (q := (8, [some (.ref p0), some (.ref p1), none], [.int x3, .int x1])) (jq qX3_isLike 3 rfl) (jo_gf rfl (jr_I_inv e4))) ?_
  by_cases c5 : x1 = x3
  · rw [if_pos c5] at H
    refine Eq.trans (jb_nx (i := .if_icmp .eq 5) (n := 3) (q := (13, [some (.ref p0), some (.ref p1), none], [])) (jq qX3_isLike 4 rfl) (jo_icT (jz_eqT c5) rfl)) ?_
    refine Eq.trans (jb_nx (i := .iconst 0) (n := 1) (q := (14, [some (.ref p0), some (.ref p1), none], [.int 0])) (jq qX3_isLike 7 rfl) rfl) ?_
    refine Eq.trans (jb_nx (i := .istore_n 2) (n := 1) (q := (15, [some (.ref p0), some (.ref p1), some (.int 0)], [])) (jq qX3_isLike 8 rfl) rfl) ?_
    exact H
  · rw [if_neg c5] at H
    refine Eq.trans (jb_nx (i := .if_icmp .eq 5) (n := 3) (q := (11, [some (.ref p0), some (.ref p1), none], [])) (jq qX3_isLike 4 rfl) (jo_icF (jz_eqF c5))) ?_
    refine Eq.trans (jb_nx (i := .iconst 0) (n := 1) (q := (12, [some (.ref p0), some (.ref p1), none], [.int 0])) (jq qX3_isLike 5 rfl) rfl) ?_
    exact Eq.trans (jb_rt (i := .ireturn) (n := 1) (jq qX3_isLike 6 rfl) (jo_iret rfl (by decide))) H
/-! MaskPlays$Part belongsLike (ILMaskPlays$Part;)Z -/
def tX3_belongsLike : List (Nat × Instr × Nat) := [(0, .aload_n 0, 1), (1, .iload_n 1, 1), (2, .invokevirtual 73, 3), (5, .istore_n 3, 1), (6, .iconst 0, 1), (7, .istore 4, 2), (9, .iload 4, 2), (11, .sipush 150, 3), (14, .if_icmp .ge 87, 3), (17, .iload_n 3, 1), (18, .ifCond .lt 83, 3), (21, .aload_n 0, 1), (22, .iload_n 3, 1), (23, .invokevirtual 33, 3), (26, .aload_n 0, 1), (27, .iload_n 1, 1), (28, .invokevirtual 33, 3), (31, .lcmp, 1), (32, .ifCond .ne 7, 3), (35, .iconst 1, 1), (36, .goto 4, 3), (39, .iconst 0, 1), (40, .istore 5, 2), (42, .aload_n 2, 1), (43, .iload_n 3, 1), (44, .invokevirtual 33, 3), (47, .aload_n 2, 1), (48, .iload_n 1, 1), (49, .invokevirtual 33, 3), (52, .lcmp, 1), (53, .ifCond .ne 7, 3), (56, .iconst 1, 1), (57, .goto 4, 3), (60, .iconst 0, 1), (61, .istore 6, 2), (63, .iload 5, 2), (65, .ifCond .ne 8, 3), (68, .iload 6, 2), (70, .ifCond .eq 19, 3), (73, .iload 5, 2), (75, .ifCond .eq 12, 3), (78, .iload 6, 2), (80, .ifCond .eq 7, 3), (83, .iconst 1, 1), (84, .goto 4, 3), (87, .iconst 0, 1), (88, .ireturn, 1), (89, .aload_n 0, 1), (90, .iload_n 3, 1), (91, .invokevirtual 73, 3), (94, .istore_n 3, 1), (95, .iinc 4 1, 3), (98, .goto (-89), 3), (101, .aload_n 0, 1), (102, .iload_n 1, 1), (103, .invokevirtual 33, 3), (106, .aload_n 2, 1), (107, .iload_n 1, 1), (108, .invokevirtual 33, 3), (111, .lcmp, 1), (112, .ifCond .ne 7, 3), (115, .iconst 1, 1), (116, .goto 4, 3), (119, .iconst 0, 1), (120, .ireturn, 1)]
set_option maxRecDepth 100000 in
theorem qX3_belongsLike : ∀ q ∈ tX3_belongsLike, decode cX3_belongsLike q.1 = .ok (q.2.1, q.2.2) := by decide +kernel
noncomputable def kX3_belongsLike_9 (d : Nat) (p0 : Nat) (i1 : Int32) (p2 : Nat) (i3 : Int32) (i4 : Int32) (o5 : Option Value) (o6 : Option Value) (h : jm_H) : Option jm_R := jm_B d mX3_belongsLike (9, [some (.ref p0), some (.int i1), some (.ref p2), some (.int i3), some (.int i4), o5, o6], []) h
noncomputable def kX3_belongsLike_61 (d : Nat) (p0 : Nat) (i1 : Int32) (p2 : Nat) (i3 : Int32) (i4 : Int32) (i5 : Int32) (o6 : Option Value) (si0 : Int32) (h : jm_H) : Option jm_R := jm_B d mX3_belongsLike (61, [some (.ref p0), some (.int i1), some (.ref p2), some (.int i3), some (.int i4), some (.int i5), o6], [.int si0]) h
theorem gX3_belongsLike_9 {d : Nat} {p0 : Nat} {i1 : Int32} {p2 : Nat} {i3 : Int32} {i4 : Int32} {o5 : Option Value} {o6 : Option Value} {h : jm_H} {r : jm_R} (H : ((if i4 < 150 then (if i3 < 0 then jm_O h p0 3 (jc_L (jm_D d mX3_nameAt [.ref p0, .int i1] h) (fun y24 h22 => jm_O h22 p2 3 (jc_L (jm_D d mX3_nameAt [.ref p2, .int i1] h22) (fun y27 h25 => (if (lg_cmp y24 y27) = 0 then some (.inl (some (.int 1)), h25) else some (.inl (some (.int 0)), h25))) jx)) jx) else jm_O h p0 3 (jc_L (jm_D d mX3_nameAt [.ref p0, .int i3] h) (fun y37 h35 => jm_O h35 p0 3 (jc_L (jm_D d mX3_nameAt [.ref p0, .int i1] h35) (fun y40 h38 => (if (lg_cmp y37 y40) = 0 then jm_O h38 p2 3 (jc_L (jm_D d mX3_nameAt [.ref p2, .int i3] h38) (fun y57 h55 => jm_O h55 p2 3 (jc_L (jm_D d mX3_nameAt [.ref p2, .int i1] h55) (fun y60 h58 => (if (lg_cmp y57 y60) = 0 then kX3_belongsLike_61 d p0 i1 p2 i3 i4 1 o6 1 h58 else kX3_belongsLike_61 d p0 i1 p2 i3 i4 1 o6 0 h58)) jx)) jx) else jm_O h38 p2 3 (jc_L (jm_D d mX3_nameAt [.ref p2, .int i3] h38) (fun y44 h42 => jm_O h42 p2 3 (jc_L (jm_D d mX3_nameAt [.ref p2, .int i1] h42) (fun y47 h45 => (if (lg_cmp y44 y47) = 0 then kX3_belongsLike_61 d p0 i1 p2 i3 i4 0 o6 1 h45 else kX3_belongsLike_61 d p0 i1 p2 i3 i4 0 o6 0 h45)) jx)) jx))) jx)) jx)) else jm_O h p0 3 (jc_L (jm_D d mX3_nameAt [.ref p0, .int i1] h) (fun y10 h8 => jm_O h8 p2 3 (jc_L (jm_D d mX3_nameAt [.ref p2, .int i1] h8) (fun y13 h11 => (if (lg_cmp y10 y13) = 0 then some (.inl (some (.int 1)), h11) else some (.inl (some (.int 0)), h11))) jx)) jx))) = some r) : kX3_belongsLike_9 d p0 i1 p2 i3 i4 o5 o6 h = some r := by
  show jm_B d mX3_belongsLike (9, [some (.ref p0), some (.int i1), some (.ref p2), some (.int i3), some (.int i4), o5, o6], []) h = some r
  refine Eq.trans (jb_nx (i := .iload 4) (n := 2) (q := (11, [some (.ref p0), some (.int i1), some (.ref p2), some (.int i3), some (.int i4), o5, o6], [.int i4])) (jq qX3_belongsLike 6 rfl) rfl) ?_
  refine Eq.trans (jb_nx (i := .sipush 150) (n := 3) (q := (14, [some (.ref p0), some (.int i1), some (.ref p2), some (.int i3), some (.int i4), o5, o6], [.int 150, .int i4])) (jq qX3_belongsLike 7 rfl) rfl) ?_
  by_cases c7 : i4 < 150
  · rw [if_pos c7] at H
    refine Eq.trans (jb_nx (i := .if_icmp .ge 87) (n := 3) (q := (17, [some (.ref p0), some (.int i1), some (.ref p2), some (.int i3), some (.int i4), o5, o6], [])) (jq qX3_belongsLike 8 rfl) (jo_icF (jz_geF c7))) ?_
    refine Eq.trans (jb_nx (i := .iload_n 3) (n := 1) (q := (18, [some (.ref p0), some (.int i1), some (.ref p2), some (.int i3), some (.int i4), o5, o6], [.int i3])) (jq qX3_belongsLike 9 rfl) rfl) ?_
    by_cases c21 : i3 < 0
    · rw [if_pos c21] at H
      refine Eq.trans (jb_nx (i := .ifCond .lt 83) (n := 3) (q := (101, [some (.ref p0), some (.int i1), some (.ref p2), some (.int i3), some (.int i4), o5, o6], [])) (jq qX3_belongsLike 10 rfl) (jo_ifT (jz_ltT c21) rfl)) ?_
      refine Eq.trans (jb_nx (i := .aload_n 0) (n := 1) (q := (102, [some (.ref p0), some (.int i1), some (.ref p2), some (.int i3), some (.int i4), o5, o6], [.ref p0])) (jq qX3_belongsLike 53 rfl) rfl) ?_
      refine Eq.trans (jb_nx (i := .iload_n 1) (n := 1) (q := (103, [some (.ref p0), some (.int i1), some (.ref p2), some (.int i3), some (.int i4), o5, o6], [.int i1, .ref p0])) (jq qX3_belongsLike 54 rfl) rfl) ?_
      obtain ⟨b32, H⟩ := jm_O_inv H
      rcases jcL H with ⟨y24, h22, r23, H⟩ | ⟨w33, h34, r23, H⟩
      · refine Eq.trans (jb_nx (i := .invokevirtual 33) (n := 3) (q := (106, [some (.ref p0), some (.int i1), some (.ref p2), some (.int i3), some (.int i4), o5, o6], [.long y24])) (jq qX3_belongsLike 55 rfl) (jo_cv (y := mX3_nameAt) rfl (Nat.le_of_ble_eq_true rfl) rfl (Nat.le_of_ble_eq_true rfl) b32 rfl r23 jo_ret)) ?_
        refine Eq.trans (jb_nx (i := .aload_n 2) (n := 1) (q := (107, [some (.ref p0), some (.int i1), some (.ref p2), some (.int i3), some (.int i4), o5, o6], [.ref p2, .long y24])) (jq qX3_belongsLike 56 rfl) rfl) ?_
        refine Eq.trans (jb_nx (i := .iload_n 1) (n := 1) (q := (108, [some (.ref p0), some (.int i1), some (.ref p2), some (.int i3), some (.int i4), o5, o6], [.int i1, .ref p2, .long y24])) (jq qX3_belongsLike 57 rfl) rfl) ?_
        obtain ⟨b29, H⟩ := jm_O_inv H
        rcases jcL H with ⟨y27, h25, r26, H⟩ | ⟨w30, h31, r26, H⟩
        · refine Eq.trans (jb_nx (i := .invokevirtual 33) (n := 3) (q := (111, [some (.ref p0), some (.int i1), some (.ref p2), some (.int i3), some (.int i4), o5, o6], [.long y27, .long y24])) (jq qX3_belongsLike 58 rfl) (jo_cv (y := mX3_nameAt) rfl (Nat.le_of_ble_eq_true rfl) rfl (Nat.le_of_ble_eq_true rfl) b29 rfl r26 jo_ret)) ?_
          refine Eq.trans (jb_nx (i := .lcmp) (n := 1) (q := (112, [some (.ref p0), some (.int i1), some (.ref p2), some (.int i3), some (.int i4), o5, o6], [.int (lg_cmp y24 y27)])) (jq qX3_belongsLike 59 rfl) rfl) ?_
          by_cases c28 : (lg_cmp y24 y27) = 0
          · rw [if_pos c28] at H
            refine Eq.trans (jb_nx (i := .ifCond .ne 7) (n := 3) (q := (115, [some (.ref p0), some (.int i1), some (.ref p2), some (.int i3), some (.int i4), o5, o6], [])) (jq qX3_belongsLike 60 rfl) (jo_ifF (jz_neF c28))) ?_
            refine Eq.trans (jb_nx (i := .iconst 1) (n := 1) (q := (116, [some (.ref p0), some (.int i1), some (.ref p2), some (.int i3), some (.int i4), o5, o6], [.int 1])) (jq qX3_belongsLike 61 rfl) rfl) ?_
            refine Eq.trans (jb_nx (i := .goto 4) (n := 3) (q := (120, [some (.ref p0), some (.int i1), some (.ref p2), some (.int i3), some (.int i4), o5, o6], [.int 1])) (jq qX3_belongsLike 62 rfl) rfl) ?_
            exact Eq.trans (jb_rt (i := .ireturn) (n := 1) (jq qX3_belongsLike 64 rfl) (jo_iret rfl (by decide))) H
          · rw [if_neg c28] at H
            refine Eq.trans (jb_nx (i := .ifCond .ne 7) (n := 3) (q := (119, [some (.ref p0), some (.int i1), some (.ref p2), some (.int i3), some (.int i4), o5, o6], [])) (jq qX3_belongsLike 60 rfl) (jo_ifT (jz_neT c28) rfl)) ?_
            refine Eq.trans (jb_nx (i := .iconst 0) (n := 1) (q := (120, [some (.ref p0), some (.int i1), some (.ref p2), some (.int i3), some (.int i4), o5, o6], [.int 0])) (jq qX3_belongsLike 63 rfl) rfl) ?_
            exact Eq.trans (jb_rt (i := .ireturn) (n := 1) (jq qX3_belongsLike 64 rfl) (jo_iret rfl (by decide))) H
        · exact Eq.trans (jb_rt (i := .invokevirtual 33) (n := 3) (jq qX3_belongsLike 58 rfl) (jo_cv (y := mX3_nameAt) rfl (Nat.le_of_ble_eq_true rfl) rfl (Nat.le_of_ble_eq_true rfl) b29 rfl r26 (jo_exn rfl))) H
      · exact Eq.trans (jb_rt (i := .invokevirtual 33) (n := 3) (jq qX3_belongsLike 55 rfl) (jo_cv (y := mX3_nameAt) rfl (Nat.le_of_ble_eq_true rfl) rfl (Nat.le_of_ble_eq_true rfl) b32 rfl r23 (jo_exn rfl))) H
    · rw [if_neg c21] at H
      refine Eq.trans (jb_nx (i := .ifCond .lt 83) (n := 3) (q := (21, [some (.ref p0), some (.int i1), some (.ref p2), some (.int i3), some (.int i4), o5, o6], [])) (jq qX3_belongsLike 10 rfl) (jo_ifF (jz_ltF c21))) ?_
      refine Eq.trans (jb_nx (i := .aload_n 0) (n := 1) (q := (22, [some (.ref p0), some (.int i1), some (.ref p2), some (.int i3), some (.int i4), o5, o6], [.ref p0])) (jq qX3_belongsLike 11 rfl) rfl) ?_
      refine Eq.trans (jb_nx (i := .iload_n 3) (n := 1) (q := (23, [some (.ref p0), some (.int i1), some (.ref p2), some (.int i3), some (.int i4), o5, o6], [.int i3, .ref p0])) (jq qX3_belongsLike 12 rfl) rfl) ?_
      obtain ⟨b71, H⟩ := jm_O_inv H
      rcases jcL H with ⟨y37, h35, r36, H⟩ | ⟨w72, h73, r36, H⟩
      · refine Eq.trans (jb_nx (i := .invokevirtual 33) (n := 3) (q := (26, [some (.ref p0), some (.int i1), some (.ref p2), some (.int i3), some (.int i4), o5, o6], [.long y37])) (jq qX3_belongsLike 13 rfl) (jo_cv (y := mX3_nameAt) rfl (Nat.le_of_ble_eq_true rfl) rfl (Nat.le_of_ble_eq_true rfl) b71 rfl r36 jo_ret)) ?_
        refine Eq.trans (jb_nx (i := .aload_n 0) (n := 1) (q := (27, [some (.ref p0), some (.int i1), some (.ref p2), some (.int i3), some (.int i4), o5, o6], [.ref p0, .long y37])) (jq qX3_belongsLike 14 rfl) rfl) ?_
        refine Eq.trans (jb_nx (i := .iload_n 1) (n := 1) (q := (28, [some (.ref p0), some (.int i1), some (.ref p2), some (.int i3), some (.int i4), o5, o6], [.int i1, .ref p0, .long y37])) (jq qX3_belongsLike 15 rfl) rfl) ?_
        obtain ⟨b68, H⟩ := jm_O_inv H
        rcases jcL H with ⟨y40, h38, r39, H⟩ | ⟨w69, h70, r39, H⟩
        · refine Eq.trans (jb_nx (i := .invokevirtual 33) (n := 3) (q := (31, [some (.ref p0), some (.int i1), some (.ref p2), some (.int i3), some (.int i4), o5, o6], [.long y40, .long y37])) (jq qX3_belongsLike 16 rfl) (jo_cv (y := mX3_nameAt) rfl (Nat.le_of_ble_eq_true rfl) rfl (Nat.le_of_ble_eq_true rfl) b68 rfl r39 jo_ret)) ?_
          refine Eq.trans (jb_nx (i := .lcmp) (n := 1) (q := (32, [some (.ref p0), some (.int i1), some (.ref p2), some (.int i3), some (.int i4), o5, o6], [.int (lg_cmp y37 y40)])) (jq qX3_belongsLike 17 rfl) rfl) ?_
          by_cases c41 : (lg_cmp y37 y40) = 0
          · rw [if_pos c41] at H
            refine Eq.trans (jb_nx (i := .ifCond .ne 7) (n := 3) (q := (35, [some (.ref p0), some (.int i1), some (.ref p2), some (.int i3), some (.int i4), o5, o6], [])) (jq qX3_belongsLike 18 rfl) (jo_ifF (jz_neF c41))) ?_
            refine Eq.trans (jb_nx (i := .iconst 1) (n := 1) (q := (36, [some (.ref p0), some (.int i1), some (.ref p2), some (.int i3), some (.int i4), o5, o6], [.int 1])) (jq qX3_belongsLike 19 rfl) rfl) ?_
            refine Eq.trans (jb_nx (i := .goto 4) (n := 3) (q := (40, [some (.ref p0), some (.int i1), some (.ref p2), some (.int i3), some (.int i4), o5, o6], [.int 1])) (jq qX3_belongsLike 20 rfl) rfl) ?_
            refine Eq.trans (jb_nx (i := .istore 5) (n := 2) (q := (42, [some (.ref p0), some (.int i1), some (.ref p2), some (.int i3), some (.int i4), some (.int 1), o6], [])) (jq qX3_belongsLike 22 rfl) rfl) ?_
            refine Eq.trans (jb_nx (i := .aload_n 2) (n := 1) (q := (43, [some (.ref p0), some (.int i1), some (.ref p2), some (.int i3), some (.int i4), some (.int 1), o6], [.ref p2])) (jq qX3_belongsLike 23 rfl) rfl) ?_
            refine Eq.trans (jb_nx (i := .iload_n 3) (n := 1) (q := (44, [some (.ref p0), some (.int i1), some (.ref p2), some (.int i3), some (.int i4), some (.int 1), o6], [.int i3, .ref p2])) (jq qX3_belongsLike 24 rfl) rfl) ?_
            obtain ⟨b65, H⟩ := jm_O_inv H
            rcases jcL H with ⟨y57, h55, r56, H⟩ | ⟨w66, h67, r56, H⟩
            · refine Eq.trans (jb_nx (i := .invokevirtual 33) (n := 3) (q := (47, [some (.ref p0), some (.int i1), some (.ref p2), some (.int i3), some (.int i4), some (.int 1), o6], [.long y57])) (jq qX3_belongsLike 25 rfl) (jo_cv (y := mX3_nameAt) rfl (Nat.le_of_ble_eq_true rfl) rfl (Nat.le_of_ble_eq_true rfl) b65 rfl r56 jo_ret)) ?_
              refine Eq.trans (jb_nx (i := .aload_n 2) (n := 1) (q := (48, [some (.ref p0), some (.int i1), some (.ref p2), some (.int i3), some (.int i4), some (.int 1), o6], [.ref p2, .long y57])) (jq qX3_belongsLike 26 rfl) rfl) ?_
              refine Eq.trans (jb_nx (i := .iload_n 1) (n := 1) (q := (49, [some (.ref p0), some (.int i1), some (.ref p2), some (.int i3), some (.int i4), some (.int 1), o6], [.int i1, .ref p2, .long y57])) (jq qX3_belongsLike 27 rfl) rfl) ?_
              obtain ⟨b62, H⟩ := jm_O_inv H
              rcases jcL H with ⟨y60, h58, r59, H⟩ | ⟨w63, h64, r59, H⟩
              · refine Eq.trans (jb_nx (i := .invokevirtual 33) (n := 3) (q := (52, [some (.ref p0), some (.int i1), some (.ref p2), some (.int i3), some (.int i4), some (.int 1), o6], [.long y60, .long y57])) (jq qX3_belongsLike 28 rfl) (jo_cv (y := mX3_nameAt) rfl (Nat.le_of_ble_eq_true rfl) rfl (Nat.le_of_ble_eq_true rfl) b62 rfl r59 jo_ret)) ?_
                refine Eq.trans (jb_nx (i := .lcmp) (n := 1) (q := (53, [some (.ref p0), some (.int i1), some (.ref p2), some (.int i3), some (.int i4), some (.int 1), o6], [.int (lg_cmp y57 y60)])) (jq qX3_belongsLike 29 rfl) rfl) ?_
                by_cases c61 : (lg_cmp y57 y60) = 0
                · rw [if_pos c61] at H
                  refine Eq.trans (jb_nx (i := .ifCond .ne 7) (n := 3) (q := (56, [some (.ref p0), some (.int i1), some (.ref p2), some (.int i3), some (.int i4), some (.int 1), o6], [])) (jq qX3_belongsLike 30 rfl) (jo_ifF (jz_neF c61))) ?_
                  refine Eq.trans (jb_nx (i := .iconst 1) (n := 1) (q := (57, [some (.ref p0), some (.int i1), some (.ref p2), some (.int i3), some (.int i4), some (.int 1), o6], [.int 1])) (jq qX3_belongsLike 31 rfl) rfl) ?_
                  refine Eq.trans (jb_nx (i := .goto 4) (n := 3) (q := (61, [some (.ref p0), some (.int i1), some (.ref p2), some (.int i3), some (.int i4), some (.int 1), o6], [.int 1])) (jq qX3_belongsLike 32 rfl) rfl) ?_
                  exact H
                · rw [if_neg c61] at H
                  refine Eq.trans (jb_nx (i := .ifCond .ne 7) (n := 3) (q := (60, [some (.ref p0), some (.int i1), some (.ref p2), some (.int i3), some (.int i4), some (.int 1), o6], [])) (jq qX3_belongsLike 30 rfl) (jo_ifT (jz_neT c61) rfl)) ?_
                  refine Eq.trans (jb_nx (i := .iconst 0) (n := 1) (q := (61, [some (.ref p0), some (.int i1), some (.ref p2), some (.int i3), some (.int i4), some (.int 1), o6], [.int 0])) (jq qX3_belongsLike 33 rfl) rfl) ?_
                  exact H
              · exact Eq.trans (jb_rt (i := .invokevirtual 33) (n := 3) (jq qX3_belongsLike 28 rfl) (jo_cv (y := mX3_nameAt) rfl (Nat.le_of_ble_eq_true rfl) rfl (Nat.le_of_ble_eq_true rfl) b62 rfl r59 (jo_exn rfl))) H
            · exact Eq.trans (jb_rt (i := .invokevirtual 33) (n := 3) (jq qX3_belongsLike 25 rfl) (jo_cv (y := mX3_nameAt) rfl (Nat.le_of_ble_eq_true rfl) rfl (Nat.le_of_ble_eq_true rfl) b65 rfl r56 (jo_exn rfl))) H
          · rw [if_neg c41] at H
            refine Eq.trans (jb_nx (i := .ifCond .ne 7) (n := 3) (q := (39, [some (.ref p0), some (.int i1), some (.ref p2), some (.int i3), some (.int i4), o5, o6], [])) (jq qX3_belongsLike 18 rfl) (jo_ifT (jz_neT c41) rfl)) ?_
            refine Eq.trans (jb_nx (i := .iconst 0) (n := 1) (q := (40, [some (.ref p0), some (.int i1), some (.ref p2), some (.int i3), some (.int i4), o5, o6], [.int 0])) (jq qX3_belongsLike 21 rfl) rfl) ?_
            refine Eq.trans (jb_nx (i := .istore 5) (n := 2) (q := (42, [some (.ref p0), some (.int i1), some (.ref p2), some (.int i3), some (.int i4), some (.int 0), o6], [])) (jq qX3_belongsLike 22 rfl) rfl) ?_
            refine Eq.trans (jb_nx (i := .aload_n 2) (n := 1) (q := (43, [some (.ref p0), some (.int i1), some (.ref p2), some (.int i3), some (.int i4), some (.int 0), o6], [.ref p2])) (jq qX3_belongsLike 23 rfl) rfl) ?_
            refine Eq.trans (jb_nx (i := .iload_n 3) (n := 1) (q := (44, [some (.ref p0), some (.int i1), some (.ref p2), some (.int i3), some (.int i4), some (.int 0), o6], [.int i3, .ref p2])) (jq qX3_belongsLike 24 rfl) rfl) ?_
            obtain ⟨b52, H⟩ := jm_O_inv H
            rcases jcL H with ⟨y44, h42, r43, H⟩ | ⟨w53, h54, r43, H⟩
            · refine Eq.trans (jb_nx (i := .invokevirtual 33) (n := 3) (q := (47, [some (.ref p0), some (.int i1), some (.ref p2), some (.int i3), some (.int i4), some (.int 0), o6], [.long y44])) (jq qX3_belongsLike 25 rfl) (jo_cv (y := mX3_nameAt) rfl (Nat.le_of_ble_eq_true rfl) rfl (Nat.le_of_ble_eq_true rfl) b52 rfl r43 jo_ret)) ?_
              refine Eq.trans (jb_nx (i := .aload_n 2) (n := 1) (q := (48, [some (.ref p0), some (.int i1), some (.ref p2), some (.int i3), some (.int i4), some (.int 0), o6], [.ref p2, .long y44])) (jq qX3_belongsLike 26 rfl) rfl) ?_
              refine Eq.trans (jb_nx (i := .iload_n 1) (n := 1) (q := (49, [some (.ref p0), some (.int i1), some (.ref p2), some (.int i3), some (.int i4), some (.int 0), o6], [.int i1, .ref p2, .long y44])) (jq qX3_belongsLike 27 rfl) rfl) ?_
              obtain ⟨b49, H⟩ := jm_O_inv H
              rcases jcL H with ⟨y47, h45, r46, H⟩ | ⟨w50, h51, r46, H⟩
              · refine Eq.trans (jb_nx (i := .invokevirtual 33) (n := 3) (q := (52, [some (.ref p0), some (.int i1), some (.ref p2), some (.int i3), some (.int i4), some (.int 0), o6], [.long y47, .long y44])) (jq qX3_belongsLike 28 rfl) (jo_cv (y := mX3_nameAt) rfl (Nat.le_of_ble_eq_true rfl) rfl (Nat.le_of_ble_eq_true rfl) b49 rfl r46 jo_ret)) ?_
                refine Eq.trans (jb_nx (i := .lcmp) (n := 1) (q := (53, [some (.ref p0), some (.int i1), some (.ref p2), some (.int i3), some (.int i4), some (.int 0), o6], [.int (lg_cmp y44 y47)])) (jq qX3_belongsLike 29 rfl) rfl) ?_
                by_cases c48 : (lg_cmp y44 y47) = 0
                · rw [if_pos c48] at H
                  refine Eq.trans (jb_nx (i := .ifCond .ne 7) (n := 3) (q := (56, [some (.ref p0), some (.int i1), some (.ref p2), some (.int i3), some (.int i4), some (.int 0), o6], [])) (jq qX3_belongsLike 30 rfl) (jo_ifF (jz_neF c48))) ?_
                  refine Eq.trans (jb_nx (i := .iconst 1) (n := 1) (q := (57, [some (.ref p0), some (.int i1), some (.ref p2), some (.int i3), some (.int i4), some (.int 0), o6], [.int 1])) (jq qX3_belongsLike 31 rfl) rfl) ?_
                  refine Eq.trans (jb_nx (i := .goto 4) (n := 3) (q := (61, [some (.ref p0), some (.int i1), some (.ref p2), some (.int i3), some (.int i4), some (.int 0), o6], [.int 1])) (jq qX3_belongsLike 32 rfl) rfl) ?_
                  exact H
                · rw [if_neg c48] at H
                  refine Eq.trans (jb_nx (i := .ifCond .ne 7) (n := 3) (q := (60, [some (.ref p0), some (.int i1), some (.ref p2), some (.int i3), some (.int i4), some (.int 0), o6], [])) (jq qX3_belongsLike 30 rfl) (jo_ifT (jz_neT c48) rfl)) ?_
                  refine Eq.trans (jb_nx (i := .iconst 0) (n := 1) (q := (61, [some (.ref p0), some (.int i1), some (.ref p2), some (.int i3), some (.int i4), some (.int 0), o6], [.int 0])) (jq qX3_belongsLike 33 rfl) rfl) ?_
                  exact H
              · exact Eq.trans (jb_rt (i := .invokevirtual 33) (n := 3) (jq qX3_belongsLike 28 rfl) (jo_cv (y := mX3_nameAt) rfl (Nat.le_of_ble_eq_true rfl) rfl (Nat.le_of_ble_eq_true rfl) b49 rfl r46 (jo_exn rfl))) H
            · exact Eq.trans (jb_rt (i := .invokevirtual 33) (n := 3) (jq qX3_belongsLike 25 rfl) (jo_cv (y := mX3_nameAt) rfl (Nat.le_of_ble_eq_true rfl) rfl (Nat.le_of_ble_eq_true rfl) b52 rfl r43 (jo_exn rfl))) H
        · exact Eq.trans (jb_rt (i := .invokevirtual 33) (n := 3) (jq qX3_belongsLike 16 rfl) (jo_cv (y := mX3_nameAt) rfl (Nat.le_of_ble_eq_true rfl) rfl (Nat.le_of_ble_eq_true rfl) b68 rfl r39 (jo_exn rfl))) H
      · exact Eq.trans (jb_rt (i := .invokevirtual 33) (n := 3) (jq qX3_belongsLike 13 rfl) (jo_cv (y := mX3_nameAt) rfl (Nat.le_of_ble_eq_true rfl) rfl (Nat.le_of_ble_eq_true rfl) b71 rfl r36 (jo_exn rfl))) H
  · rw [if_neg c7] at H
    refine Eq.trans (jb_nx (i := .if_icmp .ge 87) (n := 3) (q := (101, [some (.ref p0), some (.int i1), some (.ref p2), some (.int i3), some (.int i4), o5, o6], [])) (jq qX3_belongsLike 8 rfl) (jo_icT (jz_geT c7) rfl)) ?_
    refine Eq.trans (jb_nx (i := .aload_n 0) (n := 1) (q := (102, [some (.ref p0), some (.int i1), some (.ref p2), some (.int i3), some (.int i4), o5, o6], [.ref p0])) (jq qX3_belongsLike 53 rfl) rfl) ?_
    refine Eq.trans (jb_nx (i := .iload_n 1) (n := 1) (q := (103, [some (.ref p0), some (.int i1), some (.ref p2), some (.int i3), some (.int i4), o5, o6], [.int i1, .ref p0])) (jq qX3_belongsLike 54 rfl) rfl) ?_
    obtain ⟨b18, H⟩ := jm_O_inv H
    rcases jcL H with ⟨y10, h8, r9, H⟩ | ⟨w19, h20, r9, H⟩
    · refine Eq.trans (jb_nx (i := .invokevirtual 33) (n := 3) (q := (106, [some (.ref p0), some (.int i1), some (.ref p2), some (.int i3), some (.int i4), o5, o6], [.long y10])) (jq qX3_belongsLike 55 rfl) (jo_cv (y := mX3_nameAt) rfl (Nat.le_of_ble_eq_true rfl) rfl (Nat.le_of_ble_eq_true rfl) b18 rfl r9 jo_ret)) ?_
      refine Eq.trans (jb_nx (i := .aload_n 2) (n := 1) (q := (107, [some (.ref p0), some (.int i1), some (.ref p2), some (.int i3), some (.int i4), o5, o6], [.ref p2, .long y10])) (jq qX3_belongsLike 56 rfl) rfl) ?_
      refine Eq.trans (jb_nx (i := .iload_n 1) (n := 1) (q := (108, [some (.ref p0), some (.int i1), some (.ref p2), some (.int i3), some (.int i4), o5, o6], [.int i1, .ref p2, .long y10])) (jq qX3_belongsLike 57 rfl) rfl) ?_
      obtain ⟨b15, H⟩ := jm_O_inv H
      rcases jcL H with ⟨y13, h11, r12, H⟩ | ⟨w16, h17, r12, H⟩
      · refine Eq.trans (jb_nx (i := .invokevirtual 33) (n := 3) (q := (111, [some (.ref p0), some (.int i1), some (.ref p2), some (.int i3), some (.int i4), o5, o6], [.long y13, .long y10])) (jq qX3_belongsLike 58 rfl) (jo_cv (y := mX3_nameAt) rfl (Nat.le_of_ble_eq_true rfl) rfl (Nat.le_of_ble_eq_true rfl) b15 rfl r12 jo_ret)) ?_
        refine Eq.trans (jb_nx (i := .lcmp) (n := 1) (q := (112, [some (.ref p0), some (.int i1), some (.ref p2), some (.int i3), some (.int i4), o5, o6], [.int (lg_cmp y10 y13)])) (jq qX3_belongsLike 59 rfl) rfl) ?_
        by_cases c14 : (lg_cmp y10 y13) = 0
        · rw [if_pos c14] at H
          refine Eq.trans (jb_nx (i := .ifCond .ne 7) (n := 3) (q := (115, [some (.ref p0), some (.int i1), some (.ref p2), some (.int i3), some (.int i4), o5, o6], [])) (jq qX3_belongsLike 60 rfl) (jo_ifF (jz_neF c14))) ?_
          refine Eq.trans (jb_nx (i := .iconst 1) (n := 1) (q := (116, [some (.ref p0), some (.int i1), some (.ref p2), some (.int i3), some (.int i4), o5, o6], [.int 1])) (jq qX3_belongsLike 61 rfl) rfl) ?_
          refine Eq.trans (jb_nx (i := .goto 4) (n := 3) (q := (120, [some (.ref p0), some (.int i1), some (.ref p2), some (.int i3), some (.int i4), o5, o6], [.int 1])) (jq qX3_belongsLike 62 rfl) rfl) ?_
          exact Eq.trans (jb_rt (i := .ireturn) (n := 1) (jq qX3_belongsLike 64 rfl) (jo_iret rfl (by decide))) H
        · rw [if_neg c14] at H
          refine Eq.trans (jb_nx (i := .ifCond .ne 7) (n := 3) (q := (119, [some (.ref p0), some (.int i1), some (.ref p2), some (.int i3), some (.int i4), o5, o6], [])) (jq qX3_belongsLike 60 rfl) (jo_ifT (jz_neT c14) rfl)) ?_
          refine Eq.trans (jb_nx (i := .iconst 0) (n := 1) (q := (120, [some (.ref p0), some (.int i1), some (.ref p2), some (.int i3), some (.int i4), o5, o6], [.int 0])) (jq qX3_belongsLike 63 rfl) rfl) ?_
          exact Eq.trans (jb_rt (i := .ireturn) (n := 1) (jq qX3_belongsLike 64 rfl) (jo_iret rfl (by decide))) H
      · exact Eq.trans (jb_rt (i := .invokevirtual 33) (n := 3) (jq qX3_belongsLike 58 rfl) (jo_cv (y := mX3_nameAt) rfl (Nat.le_of_ble_eq_true rfl) rfl (Nat.le_of_ble_eq_true rfl) b15 rfl r12 (jo_exn rfl))) H
    · exact Eq.trans (jb_rt (i := .invokevirtual 33) (n := 3) (jq qX3_belongsLike 55 rfl) (jo_cv (y := mX3_nameAt) rfl (Nat.le_of_ble_eq_true rfl) rfl (Nat.le_of_ble_eq_true rfl) b18 rfl r9 (jo_exn rfl))) H
theorem gX3_belongsLike_61 {d : Nat} {p0 : Nat} {i1 : Int32} {p2 : Nat} {i3 : Int32} {i4 : Int32} {i5 : Int32} {o6 : Option Value} {si0 : Int32} {h : jm_H} {r : jm_R} (H : ((if i5 = 0 then (if si0 = 0 then jm_O h p0 3 (jc_I (jm_D d mX3_outerAt [.ref p0, .int i3] h) (fun x80 h78 => kX3_belongsLike_9 d p0 i1 p2 x80 (i4 + 1) (some (.int i5)) (some (.int si0)) h78) jx) else (if i5 = 0 then some (.inl (some (.int 0)), h) else (if si0 = 0 then some (.inl (some (.int 0)), h) else some (.inl (some (.int 1)), h)))) else (if i5 = 0 then some (.inl (some (.int 0)), h) else (if si0 = 0 then some (.inl (some (.int 0)), h) else some (.inl (some (.int 1)), h))))) = some r) : kX3_belongsLike_61 d p0 i1 p2 i3 i4 i5 o6 si0 h = some r := by
  show jm_B d mX3_belongsLike (61, [some (.ref p0), some (.int i1), some (.ref p2), some (.int i3), some (.int i4), some (.int i5), o6], [.int si0]) h = some r
  refine Eq.trans (jb_nx (i := .istore 6) (n := 2) (q := (63, [some (.ref p0), some (.int i1), some (.ref p2), some (.int i3), some (.int i4), some (.int i5), some (.int si0)], [])) (jq qX3_belongsLike 34 rfl) rfl) ?_
  refine Eq.trans (jb_nx (i := .iload 5) (n := 2) (q := (65, [some (.ref p0), some (.int i1), some (.ref p2), some (.int i3), some (.int i4), some (.int i5), some (.int si0)], [.int i5])) (jq qX3_belongsLike 35 rfl) rfl) ?_
  by_cases c74 : i5 = 0
  · rw [if_pos c74] at H
    refine Eq.trans (jb_nx (i := .ifCond .ne 8) (n := 3) (q := (68, [some (.ref p0), some (.int i1), some (.ref p2), some (.int i3), some (.int i4), some (.int i5), some (.int si0)], [])) (jq qX3_belongsLike 36 rfl) (jo_ifF (jz_neF c74))) ?_
    refine Eq.trans (jb_nx (i := .iload 6) (n := 2) (q := (70, [some (.ref p0), some (.int i1), some (.ref p2), some (.int i3), some (.int i4), some (.int i5), some (.int si0)], [.int si0])) (jq qX3_belongsLike 37 rfl) rfl) ?_
    by_cases c77 : si0 = 0
    · rw [if_pos c77] at H
      refine Eq.trans (jb_nx (i := .ifCond .eq 19) (n := 3) (q := (89, [some (.ref p0), some (.int i1), some (.ref p2), some (.int i3), some (.int i4), some (.int i5), some (.int si0)], [])) (jq qX3_belongsLike 38 rfl) (jo_ifT (jz_eqT c77) rfl)) ?_
      refine Eq.trans (jb_nx (i := .aload_n 0) (n := 1) (q := (90, [some (.ref p0), some (.int i1), some (.ref p2), some (.int i3), some (.int i4), some (.int i5), some (.int si0)], [.ref p0])) (jq qX3_belongsLike 47 rfl) rfl) ?_
      refine Eq.trans (jb_nx (i := .iload_n 3) (n := 1) (q := (91, [some (.ref p0), some (.int i1), some (.ref p2), some (.int i3), some (.int i4), some (.int i5), some (.int si0)], [.int i3, .ref p0])) (jq qX3_belongsLike 48 rfl) rfl) ?_
      obtain ⟨b81, H⟩ := jm_O_inv H
      rcases jcI H with ⟨x80, h78, r79, H⟩ | ⟨w82, h83, r79, H⟩
      · refine Eq.trans (jb_nx (i := .invokevirtual 73) (n := 3) (q := (94, [some (.ref p0), some (.int i1), some (.ref p2), some (.int i3), some (.int i4), some (.int i5), some (.int si0)], [.int x80])) (jq qX3_belongsLike 49 rfl) (jo_cv (y := mX3_outerAt) rfl (Nat.le_of_ble_eq_true rfl) rfl (Nat.le_of_ble_eq_true rfl) b81 rfl r79 jo_ret)) ?_
        refine Eq.trans (jb_nx (i := .istore_n 3) (n := 1) (q := (95, [some (.ref p0), some (.int i1), some (.ref p2), some (.int x80), some (.int i4), some (.int i5), some (.int si0)], [])) (jq qX3_belongsLike 50 rfl) rfl) ?_
        refine Eq.trans (jb_nx (i := .iinc 4 1) (n := 3) (q := (98, [some (.ref p0), some (.int i1), some (.ref p2), some (.int x80), some (.int (i4 + 1)), some (.int i5), some (.int si0)], [])) (jq qX3_belongsLike 51 rfl) rfl) ?_
        refine Eq.trans (jb_nx (i := .goto (-89)) (n := 3) (q := (9, [some (.ref p0), some (.int i1), some (.ref p2), some (.int x80), some (.int (i4 + 1)), some (.int i5), some (.int si0)], [])) (jq qX3_belongsLike 52 rfl) rfl) ?_
        exact H
      · exact Eq.trans (jb_rt (i := .invokevirtual 73) (n := 3) (jq qX3_belongsLike 49 rfl) (jo_cv (y := mX3_outerAt) rfl (Nat.le_of_ble_eq_true rfl) rfl (Nat.le_of_ble_eq_true rfl) b81 rfl r79 (jo_exn rfl))) H
    · rw [if_neg c77] at H
      refine Eq.trans (jb_nx (i := .ifCond .eq 19) (n := 3) (q := (73, [some (.ref p0), some (.int i1), some (.ref p2), some (.int i3), some (.int i4), some (.int i5), some (.int si0)], [])) (jq qX3_belongsLike 38 rfl) (jo_ifF (jz_eqF c77))) ?_
      refine Eq.trans (jb_nx (i := .iload 5) (n := 2) (q := (75, [some (.ref p0), some (.int i1), some (.ref p2), some (.int i3), some (.int i4), some (.int i5), some (.int si0)], [.int i5])) (jq qX3_belongsLike 39 rfl) rfl) ?_
      by_cases c84 : i5 = 0
      · rw [if_pos c84] at H
        refine Eq.trans (jb_nx (i := .ifCond .eq 12) (n := 3) (q := (87, [some (.ref p0), some (.int i1), some (.ref p2), some (.int i3), some (.int i4), some (.int i5), some (.int si0)], [])) (jq qX3_belongsLike 40 rfl) (jo_ifT (jz_eqT c84) rfl)) ?_
        refine Eq.trans (jb_nx (i := .iconst 0) (n := 1) (q := (88, [some (.ref p0), some (.int i1), some (.ref p2), some (.int i3), some (.int i4), some (.int i5), some (.int si0)], [.int 0])) (jq qX3_belongsLike 45 rfl) rfl) ?_
        exact Eq.trans (jb_rt (i := .ireturn) (n := 1) (jq qX3_belongsLike 46 rfl) (jo_iret rfl (by decide))) H
      · rw [if_neg c84] at H
        refine Eq.trans (jb_nx (i := .ifCond .eq 12) (n := 3) (q := (78, [some (.ref p0), some (.int i1), some (.ref p2), some (.int i3), some (.int i4), some (.int i5), some (.int si0)], [])) (jq qX3_belongsLike 40 rfl) (jo_ifF (jz_eqF c84))) ?_
        refine Eq.trans (jb_nx (i := .iload 6) (n := 2) (q := (80, [some (.ref p0), some (.int i1), some (.ref p2), some (.int i3), some (.int i4), some (.int i5), some (.int si0)], [.int si0])) (jq qX3_belongsLike 41 rfl) rfl) ?_
        by_cases c85 : si0 = 0
        · rw [if_pos c85] at H
          refine Eq.trans (jb_nx (i := .ifCond .eq 7) (n := 3) (q := (87, [some (.ref p0), some (.int i1), some (.ref p2), some (.int i3), some (.int i4), some (.int i5), some (.int si0)], [])) (jq qX3_belongsLike 42 rfl) (jo_ifT (jz_eqT c85) rfl)) ?_
          refine Eq.trans (jb_nx (i := .iconst 0) (n := 1) (q := (88, [some (.ref p0), some (.int i1), some (.ref p2), some (.int i3), some (.int i4), some (.int i5), some (.int si0)], [.int 0])) (jq qX3_belongsLike 45 rfl) rfl) ?_
          exact Eq.trans (jb_rt (i := .ireturn) (n := 1) (jq qX3_belongsLike 46 rfl) (jo_iret rfl (by decide))) H
        · rw [if_neg c85] at H
          refine Eq.trans (jb_nx (i := .ifCond .eq 7) (n := 3) (q := (83, [some (.ref p0), some (.int i1), some (.ref p2), some (.int i3), some (.int i4), some (.int i5), some (.int si0)], [])) (jq qX3_belongsLike 42 rfl) (jo_ifF (jz_eqF c85))) ?_
          refine Eq.trans (jb_nx (i := .iconst 1) (n := 1) (q := (84, [some (.ref p0), some (.int i1), some (.ref p2), some (.int i3), some (.int i4), some (.int i5), some (.int si0)], [.int 1])) (jq qX3_belongsLike 43 rfl) rfl) ?_
          refine Eq.trans (jb_nx (i := .goto 4) (n := 3) (q := (88, [some (.ref p0), some (.int i1), some (.ref p2), some (.int i3), some (.int i4), some (.int i5), some (.int si0)], [.int 1])) (jq qX3_belongsLike 44 rfl) rfl) ?_
          exact Eq.trans (jb_rt (i := .ireturn) (n := 1) (jq qX3_belongsLike 46 rfl) (jo_iret rfl (by decide))) H
  · rw [if_neg c74] at H
    refine Eq.trans (jb_nx (i := .ifCond .ne 8) (n := 3) (q := (73, [some (.ref p0), some (.int i1), some (.ref p2), some (.int i3), some (.int i4), some (.int i5), some (.int si0)], [])) (jq qX3_belongsLike 36 rfl) (jo_ifT (jz_neT c74) rfl)) ?_
    refine Eq.trans (jb_nx (i := .iload 5) (n := 2) (q := (75, [some (.ref p0), some (.int i1), some (.ref p2), some (.int i3), some (.int i4), some (.int i5), some (.int si0)], [.int i5])) (jq qX3_belongsLike 39 rfl) rfl) ?_
    by_cases c75 : i5 = 0
    · rw [if_pos c75] at H
      refine Eq.trans (jb_nx (i := .ifCond .eq 12) (n := 3) (q := (87, [some (.ref p0), some (.int i1), some (.ref p2), some (.int i3), some (.int i4), some (.int i5), some (.int si0)], [])) (jq qX3_belongsLike 40 rfl) (jo_ifT (jz_eqT c75) rfl)) ?_
      refine Eq.trans (jb_nx (i := .iconst 0) (n := 1) (q := (88, [some (.ref p0), some (.int i1), some (.ref p2), some (.int i3), some (.int i4), some (.int i5), some (.int si0)], [.int 0])) (jq qX3_belongsLike 45 rfl) rfl) ?_
      exact Eq.trans (jb_rt (i := .ireturn) (n := 1) (jq qX3_belongsLike 46 rfl) (jo_iret rfl (by decide))) H
    · rw [if_neg c75] at H
      refine Eq.trans (jb_nx (i := .ifCond .eq 12) (n := 3) (q := (78, [some (.ref p0), some (.int i1), some (.ref p2), some (.int i3), some (.int i4), some (.int i5), some (.int si0)], [])) (jq qX3_belongsLike 40 rfl) (jo_ifF (jz_eqF c75))) ?_
      refine Eq.trans (jb_nx (i := .iload 6) (n := 2) (q := (80, [some (.ref p0), some (.int i1), some (.ref p2), some (.int i3), some (.int i4), some (.int i5), some (.int si0)], [.int si0])) (jq qX3_belongsLike 41 rfl) rfl) ?_
      by_cases c76 : si0 = 0
      · rw [if_pos c76] at H
        refine Eq.trans (jb_nx (i := .ifCond .eq 7) (n := 3) (q := (87, [some (.ref p0), some (.int i1), some (.ref p2), some (.int i3), some (.int i4), some (.int i5), some (.int si0)], [])) (jq qX3_belongsLike 42 rfl) (jo_ifT (jz_eqT c76) rfl)) ?_
        refine Eq.trans (jb_nx (i := .iconst 0) (n := 1) (q := (88, [some (.ref p0), some (.int i1), some (.ref p2), some (.int i3), some (.int i4), some (.int i5), some (.int si0)], [.int 0])) (jq qX3_belongsLike 45 rfl) rfl) ?_
        exact Eq.trans (jb_rt (i := .ireturn) (n := 1) (jq qX3_belongsLike 46 rfl) (jo_iret rfl (by decide))) H
      · rw [if_neg c76] at H
        refine Eq.trans (jb_nx (i := .ifCond .eq 7) (n := 3) (q := (83, [some (.ref p0), some (.int i1), some (.ref p2), some (.int i3), some (.int i4), some (.int i5), some (.int si0)], [])) (jq qX3_belongsLike 42 rfl) (jo_ifF (jz_eqF c76))) ?_
        refine Eq.trans (jb_nx (i := .iconst 1) (n := 1) (q := (84, [some (.ref p0), some (.int i1), some (.ref p2), some (.int i3), some (.int i4), some (.int i5), some (.int si0)], [.int 1])) (jq qX3_belongsLike 43 rfl) rfl) ?_
        refine Eq.trans (jb_nx (i := .goto 4) (n := 3) (q := (88, [some (.ref p0), some (.int i1), some (.ref p2), some (.int i3), some (.int i4), some (.int i5), some (.int si0)], [.int 1])) (jq qX3_belongsLike 44 rfl) rfl) ?_
        exact Eq.trans (jb_rt (i := .ireturn) (n := 1) (jq qX3_belongsLike 46 rfl) (jo_iret rfl (by decide))) H
theorem gX3_belongsLike {d : Nat} {p0 : Nat} {i1 : Int32} {p2 : Nat} {h : jm_H} {r : jm_R} (H : (jm_O h p0 3 (jc_I (jm_D d mX3_outerAt [.ref p0, .int i1] h) (fun x3 h1 => kX3_belongsLike_9 d p0 i1 p2 x3 0 none none h1) jx)) = some r) : jm_D (d + 1) mX3_belongsLike [.ref p0, .int i1, .ref p2] h = some r := by
  rw [jm_D_body (Nat.le_of_ble_eq_true rfl)]
  show jm_B d mX3_belongsLike (0, [some (.ref p0), some (.int i1), some (.ref p2), none, none, none, none], []) h = some r
  refine Eq.trans (jb_nx (i := .aload_n 0) (n := 1) (q := (1, [some (.ref p0), some (.int i1), some (.ref p2), none, none, none, none], [.ref p0])) (jq qX3_belongsLike 0 rfl) rfl) ?_
  refine Eq.trans (jb_nx (i := .iload_n 1) (n := 1) (q := (2, [some (.ref p0), some (.int i1), some (.ref p2), none, none, none, none], [.int i1, .ref p0])) (jq qX3_belongsLike 1 rfl) rfl) ?_
  obtain ⟨b4, H⟩ := jm_O_inv H
  rcases jcI H with ⟨x3, h1, r2, H⟩ | ⟨w5, h6, r2, H⟩
  · refine Eq.trans (jb_nx (i := .invokevirtual 73) (n := 3) (q := (5, [some (.ref p0), some (.int i1), some (.ref p2), none, none, none, none], [.int x3])) (jq qX3_belongsLike 2 rfl) (jo_cv (y := mX3_outerAt) rfl (Nat.le_of_ble_eq_true rfl) rfl (Nat.le_of_ble_eq_true rfl) b4 rfl r2 jo_ret)) ?_
    refine Eq.trans (jb_nx (i := .istore_n 3) (n := 1) (q := (6, [some (.ref p0), some (.int i1), some (.ref p2), some (.int x3), none, none, none], [])) (jq qX3_belongsLike 3 rfl) rfl) ?_
    refine Eq.trans (jb_nx (i := .iconst 0) (n := 1) (q := (7, [some (.ref p0), some (.int i1), some (.ref p2), some (.int x3), none, none, none], [.int 0])) (jq qX3_belongsLike 4 rfl) rfl) ?_
    refine Eq.trans (jb_nx (i := .istore 4) (n := 2) (q := (9, [some (.ref p0), some (.int i1), some (.ref p2), some (.int x3), some (.int 0), none, none], [])) (jq qX3_belongsLike 5 rfl) rfl) ?_
    exact H
  · exact Eq.trans (jb_rt (i := .invokevirtual 73) (n := 3) (jq qX3_belongsLike 2 rfl) (jo_cv (y := mX3_outerAt) rfl (Nat.le_of_ble_eq_true rfl) rfl (Nat.le_of_ble_eq_true rfl) b4 rfl r2 (jo_exn rfl))) H
/-! MaskPlays$Part countOfOpen (J)I -/
def tX3_countOfOpen : List (Nat × Instr × Nat) := [(0, .iconst 0, 1), (1, .istore_n 3, 1), (2, .iconst 0, 1), (3, .istore 4, 2), (5, .iload 4, 2), (7, .aload_n 0, 1), (8, .getfield 25, 3), (11, .if_icmp .ge 41, 3), (14, .aload_n 0, 1), (15, .iload 4, 2), (17, .invokevirtual 29, 3), (20, .ifCond .ne 26, 3), (23, .aload_n 0, 1), (24, .iload 4, 2), (26, .invokevirtual 33, 3), (29, .lload_n 1, 1), (30, .lcmp, 1), (31, .ifCond .ne 15, 3), (34, .aload_n 0, 1), (35, .iload 4, 2), (37, .invokevirtual 76, 3), (40, .ifCond .ge 6, 3), (43, .iinc 3 1, 3), (46, .iinc 4 1, 3), (49, .goto (-44), 3), (52, .iload_n 3, 1), (53, .ireturn, 1)]
set_option maxRecDepth 100000 in
theorem qX3_countOfOpen : ∀ q ∈ tX3_countOfOpen, decode cX3_countOfOpen q.1 = .ok (q.2.1, q.2.2) := by decide +kernel
noncomputable def kX3_countOfOpen_5 (d : Nat) (p0 : Nat) (j1 : Int64) (i3 : Int32) (i4 : Int32) (h : jm_H) : Option jm_R := jm_B d mX3_countOfOpen (5, [some (.ref p0), some (.long j1), none, some (.int i3), some (.int i4)], []) h
theorem gX3_countOfOpen_5 {d : Nat} {p0 : Nat} {j1 : Int64} {i3 : Int32} {i4 : Int32} {h : jm_H} {r : jm_R} (H : ((jr_I h p0 3 0 0).bind fun x1 => (if i4 < x1 then jm_O h p0 3 (jc_I (jm_D d mX3_kindAt [.ref p0, .int i4] h) (fun x6 h4 => (if x6 = 0 then jm_O h4 p0 3 (jc_L (jm_D d mX3_nameAt [.ref p0, .int i4] h4) (fun y10 h8 => (if (lg_cmp y10 j1) = 0 then jm_O h8 p0 3 (jc_I (jm_D d mX3_maskOf [.ref p0, .int i4] h8) (fun x14 h12 => (if x14 < 0 then kX3_countOfOpen_5 d p0 j1 (i3 + 1) (i4 + 1) h12 else kX3_countOfOpen_5 d p0 j1 i3 (i4 + 1) h12)) jx) else kX3_countOfOpen_5 d p0 j1 i3 (i4 + 1) h8)) jx) else kX3_countOfOpen_5 d p0 j1 i3 (i4 + 1) h4)) jx) else some (.inl (some (.int i3)), h))) = some r) : kX3_countOfOpen_5 d p0 j1 i3 i4 h = some r := by
  show jm_B d mX3_countOfOpen (5, [some (.ref p0), some (.long j1), none, some (.int i3), some (.int i4)], []) h = some r
  refine Eq.trans (jb_nx (i := .iload 4) (n := 2) (q := (7, [some (.ref p0), some (.long j1), none, some (.int i3), some (.int i4)], [.int i4])) (jq qX3_countOfOpen 4 rfl) rfl) ?_
  refine Eq.trans (jb_nx (i := .aload_n 0) (n := 1) (q := (8, [some (.ref p0), some (.long j1), none, some (.int i3), some (.int i4)], [.ref p0, .int i4])) (jq qX3_countOfOpen 5 rfl) rfl) ?_
  obtain ⟨x1, e2, H⟩ := jbd H
  refine Eq.trans (jb_nx (i := .getfield 25) (n := 3) (q := (11, [some (.ref p0), some (.long j1), none, some (.int i3), some (.int i4)], [.int x1, .int i4])) (jq qX3_countOfOpen 6 rfl) (jo_gf rfl (jr_I_inv e2))) ?_
  by_cases c3 : i4 < x1
  · rw [if_pos c3] at H
    refine Eq.trans (jb_nx (i := .if_icmp .ge 41) (n := 3) (q := (14, [some (.ref p0), some (.long j1), none, some (.int i3), some (.int i4)], [])) (jq qX3_countOfOpen 7 rfl) (jo_icF (jz_geF c3))) ?_
    refine Eq.trans (jb_nx (i := .aload_n 0) (n := 1) (q := (15, [some (.ref p0), some (.long j1), none, some (.int i3), some (.int i4)], [.ref p0])) (jq qX3_countOfOpen 8 rfl) rfl) ?_
    refine Eq.trans (jb_nx (i := .iload 4) (n := 2) (q := (17, [some (.ref p0), some (.long j1), none, some (.int i3), some (.int i4)], [.int i4, .ref p0])) (jq qX3_countOfOpen 9 rfl) rfl) ?_
    obtain ⟨b22, H⟩ := jm_O_inv H
    rcases jcI H with ⟨x6, h4, r5, H⟩ | ⟨w23, h24, r5, H⟩
    · refine Eq.trans (jb_nx (i := .invokevirtual 29) (n := 3) (q := (20, [some (.ref p0), some (.long j1), none, some (.int i3), some (.int i4)], [.int x6])) (jq qX3_countOfOpen 10 rfl) (jo_cv (y := mX3_kindAt) rfl (Nat.le_of_ble_eq_true rfl) rfl (Nat.le_of_ble_eq_true rfl) b22 rfl r5 jo_ret)) ?_
      by_cases c7 : x6 = 0
      · rw [if_pos c7] at H
        refine Eq.trans (jb_nx (i := .ifCond .ne 26) (n := 3) (q := (23, [some (.ref p0), some (.long j1), none, some (.int i3), some (.int i4)], [])) (jq qX3_countOfOpen 11 rfl) (jo_ifF (jz_neF c7))) ?_
        refine Eq.trans (jb_nx (i := .aload_n 0) (n := 1) (q := (24, [some (.ref p0), some (.long j1), none, some (.int i3), some (.int i4)], [.ref p0])) (jq qX3_countOfOpen 12 rfl) rfl) ?_
        refine Eq.trans (jb_nx (i := .iload 4) (n := 2) (q := (26, [some (.ref p0), some (.long j1), none, some (.int i3), some (.int i4)], [.int i4, .ref p0])) (jq qX3_countOfOpen 13 rfl) rfl) ?_
        obtain ⟨b19, H⟩ := jm_O_inv H
        rcases jcL H with ⟨y10, h8, r9, H⟩ | ⟨w20, h21, r9, H⟩
        · refine Eq.trans (jb_nx (i := .invokevirtual 33) (n := 3) (q := (29, [some (.ref p0), some (.long j1), none, some (.int i3), some (.int i4)], [.long y10])) (jq qX3_countOfOpen 14 rfl) (jo_cv (y := mX3_nameAt) rfl (Nat.le_of_ble_eq_true rfl) rfl (Nat.le_of_ble_eq_true rfl) b19 rfl r9 jo_ret)) ?_
          refine Eq.trans (jb_nx (i := .lload_n 1) (n := 1) (q := (30, [some (.ref p0), some (.long j1), none, some (.int i3), some (.int i4)], [.long j1, .long y10])) (jq qX3_countOfOpen 15 rfl) rfl) ?_
          refine Eq.trans (jb_nx (i := .lcmp) (n := 1) (q := (31, [some (.ref p0), some (.long j1), none, some (.int i3), some (.int i4)], [.int (lg_cmp y10 j1)])) (jq qX3_countOfOpen 16 rfl) rfl) ?_
          by_cases c11 : (lg_cmp y10 j1) = 0
          · rw [if_pos c11] at H
            refine Eq.trans (jb_nx (i := .ifCond .ne 15) (n := 3) (q := (34, [some (.ref p0), some (.long j1), none, some (.int i3), some (.int i4)], [])) (jq qX3_countOfOpen 17 rfl) (jo_ifF (jz_neF c11))) ?_
            refine Eq.trans (jb_nx (i := .aload_n 0) (n := 1) (q := (35, [some (.ref p0), some (.long j1), none, some (.int i3), some (.int i4)], [.ref p0])) (jq qX3_countOfOpen 18 rfl) rfl) ?_
            refine Eq.trans (jb_nx (i := .iload 4) (n := 2) (q := (37, [some (.ref p0), some (.long j1), none, some (.int i3), some (.int i4)], [.int i4, .ref p0])) (jq qX3_countOfOpen 19 rfl) rfl) ?_
            obtain ⟨b16, H⟩ := jm_O_inv H
            rcases jcI H with ⟨x14, h12, r13, H⟩ | ⟨w17, h18, r13, H⟩
            · refine Eq.trans (jb_nx (i := .invokevirtual 76) (n := 3) (q := (40, [some (.ref p0), some (.long j1), none, some (.int i3), some (.int i4)], [.int x14])) (jq qX3_countOfOpen 20 rfl) (jo_cv (y := mX3_maskOf) rfl (Nat.le_of_ble_eq_true rfl) rfl (Nat.le_of_ble_eq_true rfl) b16 rfl r13 jo_ret)) ?_
              by_cases c15 : x14 < 0
              · rw [if_pos c15] at H
                refine Eq.trans (jb_nx (i := .ifCond .ge 6) (n := 3) (q := (43, [some (.ref p0), some (.long j1), none, some (.int i3), some (.int i4)], [])) (jq qX3_countOfOpen 21 rfl) (jo_ifF (jz_geF c15))) ?_
                refine Eq.trans (jb_nx (i := .iinc 3 1) (n := 3) (q := (46, [some (.ref p0), some (.long j1), none, some (.int (i3 + 1)), some (.int i4)], [])) (jq qX3_countOfOpen 22 rfl) rfl) ?_
                refine Eq.trans (jb_nx (i := .iinc 4 1) (n := 3) (q := (49, [some (.ref p0), some (.long j1), none, some (.int (i3 + 1)), some (.int (i4 + 1))], [])) (jq qX3_countOfOpen 23 rfl) rfl) ?_
                refine Eq.trans (jb_nx (i := .goto (-44)) (n := 3) (q := (5, [some (.ref p0), some (.long j1), none, some (.int (i3 + 1)), some (.int (i4 + 1))], [])) (jq qX3_countOfOpen 24 rfl) rfl) ?_
                exact H
              · rw [if_neg c15] at H
                refine Eq.trans (jb_nx (i := .ifCond .ge 6) (n := 3) (q := (46, [some (.ref p0), some (.long j1), none, some (.int i3), some (.int i4)], [])) (jq qX3_countOfOpen 21 rfl) (jo_ifT (jz_geT c15) rfl)) ?_
                refine Eq.trans (jb_nx (i := .iinc 4 1) (n := 3) (q := (49, [some (.ref p0), some (.long j1), none, some (.int i3), some (.int (i4 + 1))], [])) (jq qX3_countOfOpen 23 rfl) rfl) ?_
                refine Eq.trans (jb_nx (i := .goto (-44)) (n := 3) (q := (5, [some (.ref p0), some (.long j1), none, some (.int i3), some (.int (i4 + 1))], [])) (jq qX3_countOfOpen 24 rfl) rfl) ?_
                exact H
            · exact Eq.trans (jb_rt (i := .invokevirtual 76) (n := 3) (jq qX3_countOfOpen 20 rfl) (jo_cv (y := mX3_maskOf) rfl (Nat.le_of_ble_eq_true rfl) rfl (Nat.le_of_ble_eq_true rfl) b16 rfl r13 (jo_exn rfl))) H
          · rw [if_neg c11] at H
            refine Eq.trans (jb_nx (i := .ifCond .ne 15) (n := 3) (q := (46, [some (.ref p0), some (.long j1), none, some (.int i3), some (.int i4)], [])) (jq qX3_countOfOpen 17 rfl) (jo_ifT (jz_neT c11) rfl)) ?_
            refine Eq.trans (jb_nx (i := .iinc 4 1) (n := 3) (q := (49, [some (.ref p0), some (.long j1), none, some (.int i3), some (.int (i4 + 1))], [])) (jq qX3_countOfOpen 23 rfl) rfl) ?_
            refine Eq.trans (jb_nx (i := .goto (-44)) (n := 3) (q := (5, [some (.ref p0), some (.long j1), none, some (.int i3), some (.int (i4 + 1))], [])) (jq qX3_countOfOpen 24 rfl) rfl) ?_
            exact H
        · exact Eq.trans (jb_rt (i := .invokevirtual 33) (n := 3) (jq qX3_countOfOpen 14 rfl) (jo_cv (y := mX3_nameAt) rfl (Nat.le_of_ble_eq_true rfl) rfl (Nat.le_of_ble_eq_true rfl) b19 rfl r9 (jo_exn rfl))) H
      · rw [if_neg c7] at H
        refine Eq.trans (jb_nx (i := .ifCond .ne 26) (n := 3) (q := (46, [some (.ref p0), some (.long j1), none, some (.int i3), some (.int i4)], [])) (jq qX3_countOfOpen 11 rfl) (jo_ifT (jz_neT c7) rfl)) ?_
        refine Eq.trans (jb_nx (i := .iinc 4 1) (n := 3) (q := (49, [some (.ref p0), some (.long j1), none, some (.int i3), some (.int (i4 + 1))], [])) (jq qX3_countOfOpen 23 rfl) rfl) ?_
        refine Eq.trans (jb_nx (i := .goto (-44)) (n := 3) (q := (5, [some (.ref p0), some (.long j1), none, some (.int i3), some (.int (i4 + 1))], [])) (jq qX3_countOfOpen 24 rfl) rfl) ?_
        exact H
    · exact Eq.trans (jb_rt (i := .invokevirtual 29) (n := 3) (jq qX3_countOfOpen 10 rfl) (jo_cv (y := mX3_kindAt) rfl (Nat.le_of_ble_eq_true rfl) rfl (Nat.le_of_ble_eq_true rfl) b22 rfl r5 (jo_exn rfl))) H
  · rw [if_neg c3] at H
    refine Eq.trans (jb_nx (i := .if_icmp .ge 41) (n := 3) (q := (52, [some (.ref p0), some (.long j1), none, some (.int i3), some (.int i4)], [])) (jq qX3_countOfOpen 7 rfl) (jo_icT (jz_geT c3) rfl)) ?_
    refine Eq.trans (jb_nx (i := .iload_n 3) (n := 1) (q := (53, [some (.ref p0), some (.long j1), none, some (.int i3), some (.int i4)], [.int i3])) (jq qX3_countOfOpen 25 rfl) rfl) ?_
    exact Eq.trans (jb_rt (i := .ireturn) (n := 1) (jq qX3_countOfOpen 26 rfl) (jo_iret rfl rfl)) H
theorem gX3_countOfOpen {d : Nat} {p0 : Nat} {j1 : Int64} {h : jm_H} {r : jm_R} (H : (kX3_countOfOpen_5 d p0 j1 0 0 h) = some r) : jm_D (d + 1) mX3_countOfOpen [.ref p0, .long j1] h = some r := by
  rw [jm_D_body (Nat.le_of_ble_eq_true rfl)]
  show jm_B d mX3_countOfOpen (0, [some (.ref p0), some (.long j1), none, none, none], []) h = some r
  refine Eq.trans (jb_nx (i := .iconst 0) (n := 1) (q := (1, [some (.ref p0), some (.long j1), none, none, none], [.int 0])) (jq qX3_countOfOpen 0 rfl) rfl) ?_
  refine Eq.trans (jb_nx (i := .istore_n 3) (n := 1) (q := (2, [some (.ref p0), some (.long j1), none, some (.int 0), none], [])) (jq qX3_countOfOpen 1 rfl) rfl) ?_
  refine Eq.trans (jb_nx (i := .iconst 0) (n := 1) (q := (3, [some (.ref p0), some (.long j1), none, some (.int 0), none], [.int 0])) (jq qX3_countOfOpen 2 rfl) rfl) ?_
  refine Eq.trans (jb_nx (i := .istore 4) (n := 2) (q := (5, [some (.ref p0), some (.long j1), none, some (.int 0), some (.int 0)], [])) (jq qX3_countOfOpen 3 rfl) rfl) ?_
  exact H
/-! MaskPlays$Part maskOf (I)I -/
def tX3_maskOf : List (Nat × Instr × Nat) := [(0, .iload_n 1, 1), (1, .ifCond .lt 20, 3), (4, .iload_n 1, 1), (5, .aload_n 0, 1), (6, .getfield 25, 3), (9, .if_icmp .ge 12, 3), (12, .iload_n 1, 1), (13, .aload_n 0, 1), (14, .getfield 15, 3), (17, .arraylength, 1), (18, .if_icmp .lt 5, 3), (21, .iconst (-1), 1), (22, .ireturn, 1), (23, .aload_n 0, 1), (24, .getfield 15, 3), (27, .iload_n 1, 1), (28, .laload, 1), (29, .lstore_n 2, 1), (30, .aload_n 0, 1), (31, .getfield 22, 3), (34, .iload_n 1, 1), (35, .iaload, 1), (36, .istore 4, 2), (38, .iconst 0, 1), (39, .istore 5, 2), (41, .iload 5, 2), (43, .sipush 150, 3), (46, .if_icmp .ge 48, 3), (49, .iload 4, 2), (51, .ifCond .lt 43, 3), (54, .iload 4, 2), (56, .aload_n 0, 1), (57, .getfield 15, 3), (60, .arraylength, 1), (61, .if_icmp .ge 33, 3), (64, .aload_n 0, 1), (65, .getfield 15, 3), (68, .iload 4, 2), (70, .laload, 1), (71, .lload_n 2, 1), (72, .lcmp, 1), (73, .ifCond .ne 6, 3), (76, .iload 4, 2), (78, .ireturn, 1), (79, .aload_n 0, 1), (80, .getfield 22, 3), (83, .iload 4, 2), (85, .iaload, 1), (86, .istore 4, 2), (88, .iinc 5 1, 3), (91, .goto (-50), 3), (94, .iconst (-1), 1), (95, .ireturn, 1)]
set_option maxRecDepth 100000 in
theorem qX3_maskOf : ∀ q ∈ tX3_maskOf, decode cX3_maskOf q.1 = .ok (q.2.1, q.2.2) := by decide +kernel
noncomputable def kX3_maskOf_41 (d : Nat) (p0 : Nat) (o1 : Option Value) (j2 : Int64) (i4 : Int32) (i5 : Int32) (h : jm_H) : Option jm_R := jm_B d mX3_maskOf (41, [some (.ref p0), o1, some (.long j2), none, some (.int i4), some (.int i5)], []) h
theorem gX3_maskOf_41 {d : Nat} {p0 : Nat} {o1 : Option Value} {j2 : Int64} {i4 : Int32} {i5 : Int32} {h : jm_H} {r : jm_R} (H : ((if i5 < 150 then (if i4 < 0 then some (.inl (some (.int (-1))), h) else (jr_R h p0 3 2 2).bind fun a20 => (jm_len h a20).bind fun n22 => (if i4 < (Int32.ofNat n22) then (jr_R h p0 3 2 2).bind fun a25 => (jm_all h a25 i4).bind fun y27 => (if (lg_cmp y27 j2) = 0 then some (.inl (some (.int i4)), h) else (jr_R h p0 3 4 2).bind fun a30 => (jm_ali h a30 0 i4).bind fun x32 => kX3_maskOf_41 d p0 o1 j2 x32 (i5 + 1) h) else some (.inl (some (.int (-1))), h))) else some (.inl (some (.int (-1))), h))) = some r) : kX3_maskOf_41 d p0 o1 j2 i4 i5 h = some r := by
  show jm_B d mX3_maskOf (41, [some (.ref p0), o1, some (.long j2), none, some (.int i4), some (.int i5)], []) h = some r
  refine Eq.trans (jb_nx (i := .iload 5) (n := 2) (q := (43, [some (.ref p0), o1, some (.long j2), none, some (.int i4), some (.int i5)], [.int i5])) (jq qX3_maskOf 25 rfl) rfl) ?_
  refine Eq.trans (jb_nx (i := .sipush 150) (n := 3) (q := (46, [some (.ref p0), o1, some (.long j2), none, some (.int i4), some (.int i5)], [.int 150, .int i5])) (jq qX3_maskOf 26 rfl) rfl) ?_
  by_cases c18 : i5 < 150
  · rw [if_pos c18] at H
    refine Eq.trans (jb_nx (i := .if_icmp .ge 48) (n := 3) (q := (49, [some (.ref p0), o1, some (.long j2), none, some (.int i4), some (.int i5)], [])) (jq qX3_maskOf 27 rfl) (jo_icF (jz_geF c18))) ?_
    refine Eq.trans (jb_nx (i := .iload 4) (n := 2) (q := (51, [some (.ref p0), o1, some (.long j2), none, some (.int i4), some (.int i5)], [.int i4])) (jq qX3_maskOf 28 rfl) rfl) ?_
    by_cases c19 : i4 < 0
    · rw [if_pos c19] at H
      refine Eq.trans (jb_nx (i := .ifCond .lt 43) (n := 3) (q := (94, [some (.ref p0), o1, some (.long j2), none, some (.int i4), some (.int i5)], [])) (jq qX3_maskOf 29 rfl) (jo_ifT (jz_ltT c19) rfl)) ?_
      refine Eq.trans (jb_nx (i := .iconst (-1)) (n := 1) (q := (95, [some (.ref p0), o1, some (.long j2), none, some (.int i4), some (.int i5)], [.int (-1)])) (jq qX3_maskOf 51 rfl) rfl) ?_
      exact Eq.trans (jb_rt (i := .ireturn) (n := 1) (jq qX3_maskOf 52 rfl) (jo_iret rfl rfl)) H
    · rw [if_neg c19] at H
      refine Eq.trans (jb_nx (i := .ifCond .lt 43) (n := 3) (q := (54, [some (.ref p0), o1, some (.long j2), none, some (.int i4), some (.int i5)], [])) (jq qX3_maskOf 29 rfl) (jo_ifF (jz_ltF c19))) ?_
      refine Eq.trans (jb_nx (i := .iload 4) (n := 2) (q := (56, [some (.ref p0), o1, some (.long j2), none, some (.int i4), some (.int i5)], [.int i4])) (jq qX3_maskOf 30 rfl) rfl) ?_
      refine Eq.trans (jb_nx (i := .aload_n 0) (n := 1) (q := (57, [some (.ref p0), o1, some (.long j2), none, some (.int i4), some (.int i5)], [.ref p0, .int i4])) (jq qX3_maskOf 31 rfl) rfl) ?_
      obtain ⟨a20, e21, H⟩ := jbd H
      refine Eq.trans (jb_nx (i := .getfield 15) (n := 3) (q := (60, [some (.ref p0), o1, some (.long j2), none, some (.int i4), some (.int i5)], [.ref a20, .int i4])) (jq qX3_maskOf 32 rfl) (jo_gf rfl (jr_R_inv e21))) ?_
      obtain ⟨n22, e23, H⟩ := jbd H
      refine Eq.trans (jb_nx (i := .arraylength) (n := 1) (q := (61, [some (.ref p0), o1, some (.long j2), none, some (.int i4), some (.int i5)], [.int (Int32.ofNat n22), .int i4])) (jq qX3_maskOf 33 rfl) (jo_len e23)) ?_
      by_cases c24 : i4 < (Int32.ofNat n22)
      · rw [if_pos c24] at H
        refine Eq.trans (jb_nx (i := .if_icmp .ge 33) (n := 3) (q := (64, [some (.ref p0), o1, some (.long j2), none, some (.int i4), some (.int i5)], [])) (jq qX3_maskOf 34 rfl) (jo_icF (jz_geF c24))) ?_
        refine Eq.trans (jb_nx (i := .aload_n 0) (n := 1) (q := (65, [some (.ref p0), o1, some (.long j2), none, some (.int i4), some (.int i5)], [.ref p0])) (jq qX3_maskOf 35 rfl) rfl) ?_
        obtain ⟨a25, e26, H⟩ := jbd H
        refine Eq.trans (jb_nx (i := .getfield 15) (n := 3) (q := (68, [some (.ref p0), o1, some (.long j2), none, some (.int i4), some (.int i5)], [.ref a25])) (jq qX3_maskOf 36 rfl) (jo_gf rfl (jr_R_inv e26))) ?_
        refine Eq.trans (jb_nx (i := .iload 4) (n := 2) (q := (70, [some (.ref p0), o1, some (.long j2), none, some (.int i4), some (.int i5)], [.int i4, .ref a25])) (jq qX3_maskOf 37 rfl) rfl) ?_
        obtain ⟨y27, e28, H⟩ := jbd H
        refine Eq.trans (jb_nx (i := .laload) (n := 1) (q := (71, [some (.ref p0), o1, some (.long j2), none, some (.int i4), some (.int i5)], [.long y27])) (jq qX3_maskOf 38 rfl) (jo_lal e28)) ?_
        refine Eq.trans (jb_nx (i := .lload_n 2) (n := 1) (q := (72, [some (.ref p0), o1, some (.long j2), none, some (.int i4), some (.int i5)], [.long j2, .long y27])) (jq qX3_maskOf 39 rfl) rfl) ?_
        refine Eq.trans (jb_nx (i := .lcmp) (n := 1) (q := (73, [some (.ref p0), o1, some (.long j2), none, some (.int i4), some (.int i5)], [.int (lg_cmp y27 j2)])) (jq qX3_maskOf 40 rfl) rfl) ?_
        by_cases c29 : (lg_cmp y27 j2) = 0
        · rw [if_pos c29] at H
          refine Eq.trans (jb_nx (i := .ifCond .ne 6) (n := 3) (q := (76, [some (.ref p0), o1, some (.long j2), none, some (.int i4), some (.int i5)], [])) (jq qX3_maskOf 41 rfl) (jo_ifF (jz_neF c29))) ?_
          refine Eq.trans (jb_nx (i := .iload 4) (n := 2) (q := (78, [some (.ref p0), o1, some (.long j2), none, some (.int i4), some (.int i5)], [.int i4])) (jq qX3_maskOf 42 rfl) rfl) ?_
          exact Eq.trans (jb_rt (i := .ireturn) (n := 1) (jq qX3_maskOf 43 rfl) (jo_iret rfl rfl)) H
        · rw [if_neg c29] at H
          refine Eq.trans (jb_nx (i := .ifCond .ne 6) (n := 3) (q := (79, [some (.ref p0), o1, some (.long j2), none, some (.int i4), some (.int i5)], [])) (jq qX3_maskOf 41 rfl) (jo_ifT (jz_neT c29) rfl)) ?_
          refine Eq.trans (jb_nx (i := .aload_n 0) (n := 1) (q := (80, [some (.ref p0), o1, some (.long j2), none, some (.int i4), some (.int i5)], [.ref p0])) (jq qX3_maskOf 44 rfl) rfl) ?_
          obtain ⟨a30, e31, H⟩ := jbd H
          refine Eq.trans (jb_nx (i := .getfield 22) (n := 3) (q := (83, [some (.ref p0), o1, some (.long j2), none, some (.int i4), some (.int i5)], [.ref a30])) (jq qX3_maskOf 45 rfl) (jo_gf rfl (jr_R_inv e31))) ?_
          refine Eq.trans (jb_nx (i := .iload 4) (n := 2) (q := (85, [some (.ref p0), o1, some (.long j2), none, some (.int i4), some (.int i5)], [.int i4, .ref a30])) (jq qX3_maskOf 46 rfl) rfl) ?_
          obtain ⟨x32, e33, H⟩ := jbd H
          refine Eq.trans (jb_nx (i := .iaload) (n := 1) (q := (86, [some (.ref p0), o1, some (.long j2), none, some (.int i4), some (.int i5)], [.int x32])) (jq qX3_maskOf 47 rfl) (jo_ial e33)) ?_
          refine Eq.trans (jb_nx (i := .istore 4) (n := 2) (q := (88, [some (.ref p0), o1, some (.long j2), none, some (.int x32), some (.int i5)], [])) (jq qX3_maskOf 48 rfl) rfl) ?_
          refine Eq.trans (jb_nx (i := .iinc 5 1) (n := 3) (q := (91, [some (.ref p0), o1, some (.long j2), none, some (.int x32), some (.int (i5 + 1))], [])) (jq qX3_maskOf 49 rfl) rfl) ?_
          refine Eq.trans (jb_nx (i := .goto (-50)) (n := 3) (q := (41, [some (.ref p0), o1, some (.long j2), none, some (.int x32), some (.int (i5 + 1))], [])) (jq qX3_maskOf 50 rfl) rfl) ?_
          exact H
      · rw [if_neg c24] at H
        refine Eq.trans (jb_nx (i := .if_icmp .ge 33) (n := 3) (q := (94, [some (.ref p0), o1, some (.long j2), none, some (.int i4), some (.int i5)], [])) (jq qX3_maskOf 34 rfl) (jo_icT (jz_geT c24) rfl)) ?_
        refine Eq.trans (jb_nx (i := .iconst (-1)) (n := 1) (q := (95, [some (.ref p0), o1, some (.long j2), none, some (.int i4), some (.int i5)], [.int (-1)])) (jq qX3_maskOf 51 rfl) rfl) ?_
        exact Eq.trans (jb_rt (i := .ireturn) (n := 1) (jq qX3_maskOf 52 rfl) (jo_iret rfl rfl)) H
  · rw [if_neg c18] at H
    refine Eq.trans (jb_nx (i := .if_icmp .ge 48) (n := 3) (q := (94, [some (.ref p0), o1, some (.long j2), none, some (.int i4), some (.int i5)], [])) (jq qX3_maskOf 27 rfl) (jo_icT (jz_geT c18) rfl)) ?_
    refine Eq.trans (jb_nx (i := .iconst (-1)) (n := 1) (q := (95, [some (.ref p0), o1, some (.long j2), none, some (.int i4), some (.int i5)], [.int (-1)])) (jq qX3_maskOf 51 rfl) rfl) ?_
    exact Eq.trans (jb_rt (i := .ireturn) (n := 1) (jq qX3_maskOf 52 rfl) (jo_iret rfl rfl)) H
theorem gX3_maskOf {d : Nat} {p0 : Nat} {i1 : Int32} {h : jm_H} {r : jm_R} (H : ((if i1 < 0 then some (.inl (some (.int (-1))), h) else (jr_I h p0 3 0 0).bind fun x2 => (if i1 < x2 then (jr_R h p0 3 2 2).bind fun a5 => (jm_len h a5).bind fun n7 => (if i1 < (Int32.ofNat n7) then (jr_R h p0 3 2 2).bind fun a10 => (jm_all h a10 i1).bind fun y12 => (jr_R h p0 3 4 2).bind fun a14 => (jm_ali h a14 0 i1).bind fun x16 => kX3_maskOf_41 d p0 (some (.int i1)) y12 x16 0 h else some (.inl (some (.int (-1))), h)) else some (.inl (some (.int (-1))), h)))) = some r) : jm_D (d + 1) mX3_maskOf [.ref p0, .int i1] h = some r := by
  rw [jm_D_body (Nat.le_of_ble_eq_true rfl)]
  show jm_B d mX3_maskOf (0, [some (.ref p0), some (.int i1), none, none, none, none], []) h = some r
  refine Eq.trans (jb_nx (i := .iload_n 1) (n := 1) (q := (1, [some (.ref p0), some (.int i1), none, none, none, none], [.int i1])) (jq qX3_maskOf 0 rfl) rfl) ?_
  by_cases c1 : i1 < 0
  · rw [if_pos c1] at H
    refine Eq.trans (jb_nx (i := .ifCond .lt 20) (n := 3) (q := (21, [some (.ref p0), some (.int i1), none, none, none, none], [])) (jq qX3_maskOf 1 rfl) (jo_ifT (jz_ltT c1) rfl)) ?_
    refine Eq.trans (jb_nx (i := .iconst (-1)) (n := 1) (q := (22, [some (.ref p0), some (.int i1), none, none, none, none], [.int (-1)])) (jq qX3_maskOf 11 rfl) rfl) ?_
    exact Eq.trans (jb_rt (i := .ireturn) (n := 1) (jq qX3_maskOf 12 rfl) (jo_iret rfl rfl)) H
  · rw [if_neg c1] at H
    refine Eq.trans (jb_nx (i := .ifCond .lt 20) (n := 3) (q := (4, [some (.ref p0), some (.int i1), none, none, none, none], [])) (jq qX3_maskOf 1 rfl) (jo_ifF (jz_ltF c1))) ?_
    refine Eq.trans (jb_nx (i := .iload_n 1) (n := 1) (q := (5, [some (.ref p0), some (.int i1), none, none, none, none], [.int i1])) (jq qX3_maskOf 2 rfl) rfl) ?_
    refine Eq.trans (jb_nx (i := .aload_n 0) (n := 1) (q := (6, [some (.ref p0), some (.int i1), none, none, none, none], [.ref p0, .int i1])) (jq qX3_maskOf 3 rfl) rfl) ?_
    obtain ⟨x2, e3, H⟩ := jbd H
    refine Eq.trans (jb_nx (i := .getfield 25) (n := 3) (q := (9, [some (.ref p0), some (.int i1), none, none, none, none], [.int x2, .int i1])) (jq qX3_maskOf 4 rfl) (jo_gf rfl (jr_I_inv e3))) ?_
    by_cases c4 : i1 < x2
    · rw [if_pos c4] at H
      refine Eq.trans (jb_nx (i := .if_icmp .ge 12) (n := 3) (q := (12, [some (.ref p0), some (.int i1), none, none, none, none], [])) (jq qX3_maskOf 5 rfl) (jo_icF (jz_geF c4))) ?_
      refine Eq.trans (jb_nx (i := .iload_n 1) (n := 1) (q := (13, [some (.ref p0), some (.int i1), none, none, none, none], [.int i1])) (jq qX3_maskOf 6 rfl) rfl) ?_
      refine Eq.trans (jb_nx (i := .aload_n 0) (n := 1) (q := (14, [some (.ref p0), some (.int i1), none, none, none, none], [.ref p0, .int i1])) (jq qX3_maskOf 7 rfl) rfl) ?_
      obtain ⟨a5, e6, H⟩ := jbd H
      refine Eq.trans (jb_nx (i := .getfield 15) (n := 3) (q := (17, [some (.ref p0), some (.int i1), none, none, none, none], [.ref a5, .int i1])) (jq qX3_maskOf 8 rfl) (jo_gf rfl (jr_R_inv e6))) ?_
      obtain ⟨n7, e8, H⟩ := jbd H
      refine Eq.trans (jb_nx (i := .arraylength) (n := 1) (q := (18, [some (.ref p0), some (.int i1), none, none, none, none], [.int (Int32.ofNat n7), .int i1])) (jq qX3_maskOf 9 rfl) (jo_len e8)) ?_
      by_cases c9 : i1 < (Int32.ofNat n7)
      · rw [if_pos c9] at H
        refine Eq.trans (jb_nx (i := .if_icmp .lt 5) (n := 3) (q := (23, [some (.ref p0), some (.int i1), none, none, none, none], [])) (jq qX3_maskOf 10 rfl) (jo_icT (jz_ltT c9) rfl)) ?_
        refine Eq.trans (jb_nx (i := .aload_n 0) (n := 1) (q := (24, [some (.ref p0), some (.int i1), none, none, none, none], [.ref p0])) (jq qX3_maskOf 13 rfl) rfl) ?_
        obtain ⟨a10, e11, H⟩ := jbd H
        refine Eq.trans (jb_nx (i := .getfield 15) (n := 3) (q := (27, [some (.ref p0), some (.int i1), none, none, none, none], [.ref a10])) (jq qX3_maskOf 14 rfl) (jo_gf rfl (jr_R_inv e11))) ?_
        refine Eq.trans (jb_nx (i := .iload_n 1) (n := 1) (q := (28, [some (.ref p0), some (.int i1), none, none, none, none], [.int i1, .ref a10])) (jq qX3_maskOf 15 rfl) rfl) ?_
        obtain ⟨y12, e13, H⟩ := jbd H
        refine Eq.trans (jb_nx (i := .laload) (n := 1) (q := (29, [some (.ref p0), some (.int i1), none, none, none, none], [.long y12])) (jq qX3_maskOf 16 rfl) (jo_lal e13)) ?_
        refine Eq.trans (jb_nx (i := .lstore_n 2) (n := 1) (q := (30, [some (.ref p0), some (.int i1), some (.long y12), none, none, none], [])) (jq qX3_maskOf 17 rfl) rfl) ?_
        refine Eq.trans (jb_nx (i := .aload_n 0) (n := 1) (q := (31, [some (.ref p0), some (.int i1), some (.long y12), none, none, none], [.ref p0])) (jq qX3_maskOf 18 rfl) rfl) ?_
        obtain ⟨a14, e15, H⟩ := jbd H
        refine Eq.trans (jb_nx (i := .getfield 22) (n := 3) (q := (34, [some (.ref p0), some (.int i1), some (.long y12), none, none, none], [.ref a14])) (jq qX3_maskOf 19 rfl) (jo_gf rfl (jr_R_inv e15))) ?_
        refine Eq.trans (jb_nx (i := .iload_n 1) (n := 1) (q := (35, [some (.ref p0), some (.int i1), some (.long y12), none, none, none], [.int i1, .ref a14])) (jq qX3_maskOf 20 rfl) rfl) ?_
        obtain ⟨x16, e17, H⟩ := jbd H
        refine Eq.trans (jb_nx (i := .iaload) (n := 1) (q := (36, [some (.ref p0), some (.int i1), some (.long y12), none, none, none], [.int x16])) (jq qX3_maskOf 21 rfl) (jo_ial e17)) ?_
        refine Eq.trans (jb_nx (i := .istore 4) (n := 2) (q := (38, [some (.ref p0), some (.int i1), some (.long y12), none, some (.int x16), none], [])) (jq qX3_maskOf 22 rfl) rfl) ?_
        refine Eq.trans (jb_nx (i := .iconst 0) (n := 1) (q := (39, [some (.ref p0), some (.int i1), some (.long y12), none, some (.int x16), none], [.int 0])) (jq qX3_maskOf 23 rfl) rfl) ?_
        refine Eq.trans (jb_nx (i := .istore 5) (n := 2) (q := (41, [some (.ref p0), some (.int i1), some (.long y12), none, some (.int x16), some (.int 0)], [])) (jq qX3_maskOf 24 rfl) rfl) ?_
        exact H
      · rw [if_neg c9] at H
        refine Eq.trans (jb_nx (i := .if_icmp .lt 5) (n := 3) (q := (21, [some (.ref p0), some (.int i1), none, none, none, none], [])) (jq qX3_maskOf 10 rfl) (jo_icF (jz_ltF c9))) ?_
        refine Eq.trans (jb_nx (i := .iconst (-1)) (n := 1) (q := (22, [some (.ref p0), some (.int i1), none, none, none, none], [.int (-1)])) (jq qX3_maskOf 11 rfl) rfl) ?_
        exact Eq.trans (jb_rt (i := .ireturn) (n := 1) (jq qX3_maskOf 12 rfl) (jo_iret rfl rfl)) H
    · rw [if_neg c4] at H
      refine Eq.trans (jb_nx (i := .if_icmp .ge 12) (n := 3) (q := (21, [some (.ref p0), some (.int i1), none, none, none, none], [])) (jq qX3_maskOf 5 rfl) (jo_icT (jz_geT c4) rfl)) ?_
      refine Eq.trans (jb_nx (i := .iconst (-1)) (n := 1) (q := (22, [some (.ref p0), some (.int i1), none, none, none, none], [.int (-1)])) (jq qX3_maskOf 11 rfl) rfl) ?_
      exact Eq.trans (jb_rt (i := .ireturn) (n := 1) (jq qX3_maskOf 12 rfl) (jo_iret rfl rfl)) H
/-! MaskPlays$Part holdsName (JII)Z -/
def tX3_holdsName : List (Nat × Instr × Nat) := [(0, .iload_n 3, 1), (1, .ifCond .ge 7, 3), (4, .iconst 0, 1), (5, .goto 4, 3), (8, .iload_n 3, 1), (9, .istore 5, 2), (11, .iload 5, 2), (13, .iload 4, 2), (15, .if_icmp .ge 42, 3), (18, .iload 5, 2), (20, .aload_n 0, 1), (21, .getfield 25, 3), (24, .if_icmp .ge 33, 3), (27, .iload 5, 2), (29, .aload_n 0, 1), (30, .getfield 15, 3), (33, .arraylength, 1), (34, .if_icmp .ge 23, 3), (37, .aload_n 0, 1), (38, .getfield 15, 3), (41, .iload 5, 2), (43, .laload, 1), (44, .lload_n 1, 1), (45, .lcmp, 1), (46, .ifCond .ne 5, 3), (49, .iconst 1, 1), (50, .ireturn, 1), (51, .iinc 5 1, 3), (54, .goto (-43), 3), (57, .iconst 0, 1), (58, .ireturn, 1)]
set_option maxRecDepth 100000 in
theorem qX3_holdsName : ∀ q ∈ tX3_holdsName, decode cX3_holdsName q.1 = .ok (q.2.1, q.2.2) := by decide +kernel
noncomputable def kX3_holdsName_11 (d : Nat) (p0 : Nat) (j1 : Int64) (o3 : Option Value) (i4 : Int32) (i5 : Int32) (h : jm_H) : Option jm_R := jm_B d mX3_holdsName (11, [some (.ref p0), some (.long j1), none, o3, some (.int i4), some (.int i5)], []) h
theorem gX3_holdsName_11 {d : Nat} {p0 : Nat} {j1 : Int64} {o3 : Option Value} {i4 : Int32} {i5 : Int32} {h : jm_H} {r : jm_R} (H : ((if i5 < i4 then (jr_I h p0 3 0 0).bind fun x3 => (if i5 < x3 then (jr_R h p0 3 2 2).bind fun a6 => (jm_len h a6).bind fun n8 => (if i5 < (Int32.ofNat n8) then (jr_R h p0 3 2 2).bind fun a11 => (jm_all h a11 i5).bind fun y13 => (if (lg_cmp y13 j1) = 0 then some (.inl (some (.int 1)), h) else kX3_holdsName_11 d p0 j1 o3 i4 (i5 + 1) h) else some (.inl (some (.int 0)), h)) else some (.inl (some (.int 0)), h)) else some (.inl (some (.int 0)), h))) = some r) : kX3_holdsName_11 d p0 j1 o3 i4 i5 h = some r := by
  show jm_B d mX3_holdsName (11, [some (.ref p0), some (.long j1), none, o3, some (.int i4), some (.int i5)], []) h = some r
  refine Eq.trans (jb_nx (i := .iload 5) (n := 2) (q := (13, [some (.ref p0), some (.long j1), none, o3, some (.int i4), some (.int i5)], [.int i5])) (jq qX3_holdsName 6 rfl) rfl) ?_
  refine Eq.trans (jb_nx (i := .iload 4) (n := 2) (q := (15, [some (.ref p0), some (.long j1), none, o3, some (.int i4), some (.int i5)], [.int i4, .int i5])) (jq qX3_holdsName 7 rfl) rfl) ?_
  by_cases c2 : i5 < i4
  · rw [if_pos c2] at H
    refine Eq.trans (jb_nx (i := .if_icmp .ge 42) (n := 3) (q := (18, [some (.ref p0), some (.long j1), none, o3, some (.int i4), some (.int i5)], [])) (jq qX3_holdsName 8 rfl) (jo_icF (jz_geF c2))) ?_
    refine Eq.trans (jb_nx (i := .iload 5) (n := 2) (q := (20, [some (.ref p0), some (.long j1), none, o3, some (.int i4), some (.int i5)], [.int i5])) (jq qX3_holdsName 9 rfl) rfl) ?_
    refine Eq.trans (jb_nx (i := .aload_n 0) (n := 1) (q := (21, [some (.ref p0), some (.long j1), none, o3, some (.int i4), some (.int i5)], [.ref p0, .int i5])) (jq qX3_holdsName 10 rfl) rfl) ?_
    obtain ⟨x3, e4, H⟩ := jbd H
    refine Eq.trans (jb_nx (i := .getfield 25) (n := 3) (q := (24, [some (.ref p0), some (.long j1), none, o3, some (.int i4), some (.int i5)], [.int x3, .int i5])) (jq qX3_holdsName 11 rfl) (jo_gf rfl (jr_I_inv e4))) ?_
    by_cases c5 : i5 < x3
    · rw [if_pos c5] at H
      refine Eq.trans (jb_nx (i := .if_icmp .ge 33) (n := 3) (q := (27, [some (.ref p0), some (.long j1), none, o3, some (.int i4), some (.int i5)], [])) (jq qX3_holdsName 12 rfl) (jo_icF (jz_geF c5))) ?_
      refine Eq.trans (jb_nx (i := .iload 5) (n := 2) (q := (29, [some (.ref p0), some (.long j1), none, o3, some (.int i4), some (.int i5)], [.int i5])) (jq qX3_holdsName 13 rfl) rfl) ?_
      refine Eq.trans (jb_nx (i := .aload_n 0) (n := 1) (q := (30, [some (.ref p0), some (.long j1), none, o3, some (.int i4), some (.int i5)], [.ref p0, .int i5])) (jq qX3_holdsName 14 rfl) rfl) ?_
      obtain ⟨a6, e7, H⟩ := jbd H
      refine Eq.trans (jb_nx (i := .getfield 15) (n := 3) (q := (33, [some (.ref p0), some (.long j1), none, o3, some (.int i4), some (.int i5)], [.ref a6, .int i5])) (jq qX3_holdsName 15 rfl) (jo_gf rfl (jr_R_inv e7))) ?_
      obtain ⟨n8, e9, H⟩ := jbd H
      refine Eq.trans (jb_nx (i := .arraylength) (n := 1) (q := (34, [some (.ref p0), some (.long j1), none, o3, some (.int i4), some (.int i5)], [.int (Int32.ofNat n8), .int i5])) (jq qX3_holdsName 16 rfl) (jo_len e9)) ?_
      by_cases c10 : i5 < (Int32.ofNat n8)
      · rw [if_pos c10] at H
        refine Eq.trans (jb_nx (i := .if_icmp .ge 23) (n := 3) (q := (37, [some (.ref p0), some (.long j1), none, o3, some (.int i4), some (.int i5)], [])) (jq qX3_holdsName 17 rfl) (jo_icF (jz_geF c10))) ?_
        refine Eq.trans (jb_nx (i := .aload_n 0) (n := 1) (q := (38, [some (.ref p0), some (.long j1), none, o3, some (.int i4), some (.int i5)], [.ref p0])) (jq qX3_holdsName 18 rfl) rfl) ?_
        obtain ⟨a11, e12, H⟩ := jbd H
        refine Eq.trans (jb_nx (i := .getfield 15) (n := 3) (q := (41, [some (.ref p0), some (.long j1), none, o3, some (.int i4), some (.int i5)], [.ref a11])) (jq qX3_holdsName 19 rfl) (jo_gf rfl (jr_R_inv e12))) ?_
        refine Eq.trans (jb_nx (i := .iload 5) (n := 2) (q := (43, [some (.ref p0), some (.long j1), none, o3, some (.int i4), some (.int i5)], [.int i5, .ref a11])) (jq qX3_holdsName 20 rfl) rfl) ?_
        obtain ⟨y13, e14, H⟩ := jbd H
        refine Eq.trans (jb_nx (i := .laload) (n := 1) (q := (44, [some (.ref p0), some (.long j1), none, o3, some (.int i4), some (.int i5)], [.long y13])) (jq qX3_holdsName 21 rfl) (jo_lal e14)) ?_
        refine Eq.trans (jb_nx (i := .lload_n 1) (n := 1) (q := (45, [some (.ref p0), some (.long j1), none, o3, some (.int i4), some (.int i5)], [.long j1, .long y13])) (jq qX3_holdsName 22 rfl) rfl) ?_
        refine Eq.trans (jb_nx (i := .lcmp) (n := 1) (q := (46, [some (.ref p0), some (.long j1), none, o3, some (.int i4), some (.int i5)], [.int (lg_cmp y13 j1)])) (jq qX3_holdsName 23 rfl) rfl) ?_
        by_cases c15 : (lg_cmp y13 j1) = 0
        · rw [if_pos c15] at H
          refine Eq.trans (jb_nx (i := .ifCond .ne 5) (n := 3) (q := (49, [some (.ref p0), some (.long j1), none, o3, some (.int i4), some (.int i5)], [])) (jq qX3_holdsName 24 rfl) (jo_ifF (jz_neF c15))) ?_
          refine Eq.trans (jb_nx (i := .iconst 1) (n := 1) (q := (50, [some (.ref p0), some (.long j1), none, o3, some (.int i4), some (.int i5)], [.int 1])) (jq qX3_holdsName 25 rfl) rfl) ?_
          exact Eq.trans (jb_rt (i := .ireturn) (n := 1) (jq qX3_holdsName 26 rfl) (jo_iret rfl (by decide))) H
        · rw [if_neg c15] at H
          refine Eq.trans (jb_nx (i := .ifCond .ne 5) (n := 3) (q := (51, [some (.ref p0), some (.long j1), none, o3, some (.int i4), some (.int i5)], [])) (jq qX3_holdsName 24 rfl) (jo_ifT (jz_neT c15) rfl)) ?_
          refine Eq.trans (jb_nx (i := .iinc 5 1) (n := 3) (q := (54, [some (.ref p0), some (.long j1), none, o3, some (.int i4), some (.int (i5 + 1))], [])) (jq qX3_holdsName 27 rfl) rfl) ?_
          refine Eq.trans (jb_nx (i := .goto (-43)) (n := 3) (q := (11, [some (.ref p0), some (.long j1), none, o3, some (.int i4), some (.int (i5 + 1))], [])) (jq qX3_holdsName 28 rfl) rfl) ?_
          exact H
      · rw [if_neg c10] at H
        refine Eq.trans (jb_nx (i := .if_icmp .ge 23) (n := 3) (q := (57, [some (.ref p0), some (.long j1), none, o3, some (.int i4), some (.int i5)], [])) (jq qX3_holdsName 17 rfl) (jo_icT (jz_geT c10) rfl)) ?_
        refine Eq.trans (jb_nx (i := .iconst 0) (n := 1) (q := (58, [some (.ref p0), some (.long j1), none, o3, some (.int i4), some (.int i5)], [.int 0])) (jq qX3_holdsName 29 rfl) rfl) ?_
        exact Eq.trans (jb_rt (i := .ireturn) (n := 1) (jq qX3_holdsName 30 rfl) (jo_iret rfl (by decide))) H
    · rw [if_neg c5] at H
      refine Eq.trans (jb_nx (i := .if_icmp .ge 33) (n := 3) (q := (57, [some (.ref p0), some (.long j1), none, o3, some (.int i4), some (.int i5)], [])) (jq qX3_holdsName 12 rfl) (jo_icT (jz_geT c5) rfl)) ?_
      refine Eq.trans (jb_nx (i := .iconst 0) (n := 1) (q := (58, [some (.ref p0), some (.long j1), none, o3, some (.int i4), some (.int i5)], [.int 0])) (jq qX3_holdsName 29 rfl) rfl) ?_
      exact Eq.trans (jb_rt (i := .ireturn) (n := 1) (jq qX3_holdsName 30 rfl) (jo_iret rfl (by decide))) H
  · rw [if_neg c2] at H
    refine Eq.trans (jb_nx (i := .if_icmp .ge 42) (n := 3) (q := (57, [some (.ref p0), some (.long j1), none, o3, some (.int i4), some (.int i5)], [])) (jq qX3_holdsName 8 rfl) (jo_icT (jz_geT c2) rfl)) ?_
    refine Eq.trans (jb_nx (i := .iconst 0) (n := 1) (q := (58, [some (.ref p0), some (.long j1), none, o3, some (.int i4), some (.int i5)], [.int 0])) (jq qX3_holdsName 29 rfl) rfl) ?_
    exact Eq.trans (jb_rt (i := .ireturn) (n := 1) (jq qX3_holdsName 30 rfl) (jo_iret rfl (by decide))) H
theorem gX3_holdsName {d : Nat} {p0 : Nat} {j1 : Int64} {i3 : Int32} {i4 : Int32} {h : jm_H} {r : jm_R} (H : ((if i3 < 0 then kX3_holdsName_11 d p0 j1 (some (.int i3)) i4 0 h else kX3_holdsName_11 d p0 j1 (some (.int i3)) i4 i3 h)) = some r) : jm_D (d + 1) mX3_holdsName [.ref p0, .long j1, .int i3, .int i4] h = some r := by
  rw [jm_D_body (Nat.le_of_ble_eq_true rfl)]
  show jm_B d mX3_holdsName (0, [some (.ref p0), some (.long j1), none, some (.int i3), some (.int i4), none], []) h = some r
  refine Eq.trans (jb_nx (i := .iload_n 3) (n := 1) (q := (1, [some (.ref p0), some (.long j1), none, some (.int i3), some (.int i4), none], [.int i3])) (jq qX3_holdsName 0 rfl) rfl) ?_
  by_cases c1 : i3 < 0
  · rw [if_pos c1] at H
    refine Eq.trans (jb_nx (i := .ifCond .ge 7) (n := 3) (q := (4, [some (.ref p0), some (.long j1), none, some (.int i3), some (.int i4), none], [])) (jq qX3_holdsName 1 rfl) (jo_ifF (jz_geF c1))) ?_
    refine Eq.trans (jb_nx (i := .iconst 0) (n := 1) (q := (5, [some (.ref p0), some (.long j1), none, some (.int i3), some (.int i4), none], [.int 0])) (jq qX3_holdsName 2 rfl) rfl) ?_
    refine Eq.trans (jb_nx (i := .goto 4) (n := 3) (q := (9, [some (.ref p0), some (.long j1), none, some (.int i3), some (.int i4), none], [.int 0])) (jq qX3_holdsName 3 rfl) rfl) ?_
    refine Eq.trans (jb_nx (i := .istore 5) (n := 2) (q := (11, [some (.ref p0), some (.long j1), none, some (.int i3), some (.int i4), some (.int 0)], [])) (jq qX3_holdsName 5 rfl) rfl) ?_
    exact H
  · rw [if_neg c1] at H
    refine Eq.trans (jb_nx (i := .ifCond .ge 7) (n := 3) (q := (8, [some (.ref p0), some (.long j1), none, some (.int i3), some (.int i4), none], [])) (jq qX3_holdsName 1 rfl) (jo_ifT (jz_geT c1) rfl)) ?_
    refine Eq.trans (jb_nx (i := .iload_n 3) (n := 1) (q := (9, [some (.ref p0), some (.long j1), none, some (.int i3), some (.int i4), none], [.int i3])) (jq qX3_holdsName 4 rfl) rfl) ?_
    refine Eq.trans (jb_nx (i := .istore 5) (n := 2) (q := (11, [some (.ref p0), some (.long j1), none, some (.int i3), some (.int i4), some (.int i3)], [])) (jq qX3_holdsName 5 rfl) rfl) ?_
    exact H
/-! MaskPlays$Part renameMask (IJ)V -/
def tX3_renameMask : List (Nat × Instr × Nat) := [(0, .aload_n 0, 1), (1, .iload_n 1, 1), (2, .invokevirtual 33, 3), (5, .lstore 4, 2), (7, .iload_n 1, 1), (8, .iconst 1, 1), (9, .iadd, 1), (10, .istore 6, 2), (12, .iload 6, 2), (14, .aload_n 0, 1), (15, .iload_n 1, 1), (16, .invokevirtual 66, 3), (19, .if_icmp .ge 47, 3), (22, .aload_n 0, 1), (23, .iload 6, 2), (25, .invokevirtual 29, 3), (28, .ifCond .ne 32, 3), (31, .aload_n 0, 1), (32, .iload 6, 2), (34, .invokevirtual 33, 3), (37, .lload 4, 2), (39, .lcmp, 1), (40, .ifCond .ne 20, 3), (43, .aload_n 0, 1), (44, .iload 6, 2), (46, .invokevirtual 76, 3), (49, .iload_n 1, 1), (50, .if_icmp .ne 10, 3), (53, .aload_n 0, 1), (54, .iload 6, 2), (56, .lload_n 2, 1), (57, .invokevirtual 82, 3), (60, .iinc 6 1, 3), (63, .goto (-51), 3), (66, .aload_n 0, 1), (67, .iload_n 1, 1), (68, .lload_n 2, 1), (69, .invokevirtual 82, 3), (72, .return_, 1)]
set_option maxRecDepth 100000 in
theorem qX3_renameMask : ∀ q ∈ tX3_renameMask, decode cX3_renameMask q.1 = .ok (q.2.1, q.2.2) := by decide +kernel
noncomputable def kX3_renameMask_12 (d : Nat) (p0 : Nat) (i1 : Int32) (j2 : Int64) (j4 : Int64) (i6 : Int32) (h : jm_H) : Option jm_R := jm_B d mX3_renameMask (12, [some (.ref p0), some (.int i1), some (.long j2), none, some (.long j4), none, some (.int i6)], []) h
theorem gX3_renameMask_12 {d : Nat} {p0 : Nat} {i1 : Int32} {j2 : Int64} {j4 : Int64} {i6 : Int32} {h : jm_H} {r : jm_R} (H : (jm_O h p0 3 (jc_I (jm_D d mX3_endAt [.ref p0, .int i1] h) (fun x9 h7 => (if i6 < x9 then jm_O h7 p0 3 (jc_I (jm_D d mX3_kindAt [.ref p0, .int i6] h7) (fun x18 h16 => (if x18 = 0 then jm_O h16 p0 3 (jc_L (jm_D d mX3_nameAt [.ref p0, .int i6] h16) (fun y22 h20 => (if (lg_cmp y22 j4) = 0 then jm_O h20 p0 3 (jc_I (jm_D d mX3_maskOf [.ref p0, .int i6] h20) (fun x26 h24 => (if x26 = i1 then jm_O h24 p0 3 (jc_V (jm_D d mX3_setName [.ref p0, .int i6, .long j2] h24) (fun h28 => kX3_renameMask_12 d p0 i1 j2 j4 (i6 + 1) h28) jx) else kX3_renameMask_12 d p0 i1 j2 j4 (i6 + 1) h24)) jx) else kX3_renameMask_12 d p0 i1 j2 j4 (i6 + 1) h20)) jx) else kX3_renameMask_12 d p0 i1 j2 j4 (i6 + 1) h16)) jx) else jm_O h7 p0 3 (jc_V (jm_D d mX3_setName [.ref p0, .int i1, .long j2] h7) (fun h11 => some (.inl none, h11)) jx))) jx)) = some r) : kX3_renameMask_12 d p0 i1 j2 j4 i6 h = some r := by
  show jm_B d mX3_renameMask (12, [some (.ref p0), some (.int i1), some (.long j2), none, some (.long j4), none, some (.int i6)], []) h = some r
  refine Eq.trans (jb_nx (i := .iload 6) (n := 2) (q := (14, [some (.ref p0), some (.int i1), some (.long j2), none, some (.long j4), none, some (.int i6)], [.int i6])) (jq qX3_renameMask 8 rfl) rfl) ?_
  refine Eq.trans (jb_nx (i := .aload_n 0) (n := 1) (q := (15, [some (.ref p0), some (.int i1), some (.long j2), none, some (.long j4), none, some (.int i6)], [.ref p0, .int i6])) (jq qX3_renameMask 9 rfl) rfl) ?_
  refine Eq.trans (jb_nx (i := .iload_n 1) (n := 1) (q := (16, [some (.ref p0), some (.int i1), some (.long j2), none, some (.long j4), none, some (.int i6)], [.int i1, .ref p0, .int i6])) (jq qX3_renameMask 10 rfl) rfl) ?_
  obtain ⟨b42, H⟩ := jm_O_inv H
  rcases jcI H with ⟨x9, h7, r8, H⟩ | ⟨w43, h44, r8, H⟩
  · refine Eq.trans (jb_nx (i := .invokevirtual 66) (n := 3) (q := (19, [some (.ref p0), some (.int i1), some (.long j2), none, some (.long j4), none, some (.int i6)], [.int x9, .int i6])) (jq qX3_renameMask 11 rfl) (jo_cv (y := mX3_endAt) rfl (Nat.le_of_ble_eq_true rfl) rfl (Nat.le_of_ble_eq_true rfl) b42 rfl r8 jo_ret)) ?_
    by_cases c10 : i6 < x9
    · rw [if_pos c10] at H
      refine Eq.trans (jb_nx (i := .if_icmp .ge 47) (n := 3) (q := (22, [some (.ref p0), some (.int i1), some (.long j2), none, some (.long j4), none, some (.int i6)], [])) (jq qX3_renameMask 12 rfl) (jo_icF (jz_geF c10))) ?_
      refine Eq.trans (jb_nx (i := .aload_n 0) (n := 1) (q := (23, [some (.ref p0), some (.int i1), some (.long j2), none, some (.long j4), none, some (.int i6)], [.ref p0])) (jq qX3_renameMask 13 rfl) rfl) ?_
      refine Eq.trans (jb_nx (i := .iload 6) (n := 2) (q := (25, [some (.ref p0), some (.int i1), some (.long j2), none, some (.long j4), none, some (.int i6)], [.int i6, .ref p0])) (jq qX3_renameMask 14 rfl) rfl) ?_
      obtain ⟨b39, H⟩ := jm_O_inv H
      rcases jcI H with ⟨x18, h16, r17, H⟩ | ⟨w40, h41, r17, H⟩
      · refine Eq.trans (jb_nx (i := .invokevirtual 29) (n := 3) (q := (28, [some (.ref p0), some (.int i1), some (.long j2), none, some (.long j4), none, some (.int i6)], [.int x18])) (jq qX3_renameMask 15 rfl) (jo_cv (y := mX3_kindAt) rfl (Nat.le_of_ble_eq_true rfl) rfl (Nat.le_of_ble_eq_true rfl) b39 rfl r17 jo_ret)) ?_
        by_cases c19 : x18 = 0
        · rw [if_pos c19] at H
          refine Eq.trans (jb_nx (i := .ifCond .ne 32) (n := 3) (q := (31, [some (.ref p0), some (.int i1), some (.long j2), none, some (.long j4), none, some (.int i6)], [])) (jq qX3_renameMask 16 rfl) (jo_ifF (jz_neF c19))) ?_
          refine Eq.trans (jb_nx (i := .aload_n 0) (n := 1) (q := (32, [some (.ref p0), some (.int i1), some (.long j2), none, some (.long j4), none, some (.int i6)], [.ref p0])) (jq qX3_renameMask 17 rfl) rfl) ?_
          refine Eq.trans (jb_nx (i := .iload 6) (n := 2) (q := (34, [some (.ref p0), some (.int i1), some (.long j2), none, some (.long j4), none, some (.int i6)], [.int i6, .ref p0])) (jq qX3_renameMask 18 rfl) rfl) ?_
          obtain ⟨b36, H⟩ := jm_O_inv H
          rcases jcL H with ⟨y22, h20, r21, H⟩ | ⟨w37, h38, r21, H⟩
          · refine Eq.trans (jb_nx (i := .invokevirtual 33) (n := 3) (q := (37, [some (.ref p0), some (.int i1), some (.long j2), none, some (.long j4), none, some (.int i6)], [.long y22])) (jq qX3_renameMask 19 rfl) (jo_cv (y := mX3_nameAt) rfl (Nat.le_of_ble_eq_true rfl) rfl (Nat.le_of_ble_eq_true rfl) b36 rfl r21 jo_ret)) ?_
            refine Eq.trans (jb_nx (i := .lload 4) (n := 2) (q := (39, [some (.ref p0), some (.int i1), some (.long j2), none, some (.long j4), none, some (.int i6)], [.long j4, .long y22])) (jq qX3_renameMask 20 rfl) rfl) ?_
            refine Eq.trans (jb_nx (i := .lcmp) (n := 1) (q := (40, [some (.ref p0), some (.int i1), some (.long j2), none, some (.long j4), none, some (.int i6)], [.int (lg_cmp y22 j4)])) (jq qX3_renameMask 21 rfl) rfl) ?_
            by_cases c23 : (lg_cmp y22 j4) = 0
            · rw [if_pos c23] at H
              refine Eq.trans (jb_nx (i := .ifCond .ne 20) (n := 3) (q := (43, [some (.ref p0), some (.int i1), some (.long j2), none, some (.long j4), none, some (.int i6)], [])) (jq qX3_renameMask 22 rfl) (jo_ifF (jz_neF c23))) ?_
              refine Eq.trans (jb_nx (i := .aload_n 0) (n := 1) (q := (44, [some (.ref p0), some (.int i1), some (.long j2), none, some (.long j4), none, some (.int i6)], [.ref p0])) (jq qX3_renameMask 23 rfl) rfl) ?_
              refine Eq.trans (jb_nx (i := .iload 6) (n := 2) (q := (46, [some (.ref p0), some (.int i1), some (.long j2), none, some (.long j4), none, some (.int i6)], [.int i6, .ref p0])) (jq qX3_renameMask 24 rfl) rfl) ?_
              obtain ⟨b33, H⟩ := jm_O_inv H
              rcases jcI H with ⟨x26, h24, r25, H⟩ | ⟨w34, h35, r25, H⟩
              · refine Eq.trans (jb_nx (i := .invokevirtual 76) (n := 3) (q := (49, [some (.ref p0), some (.int i1), some (.long j2), none, some (.long j4), none, some (.int i6)], [.int x26])) (jq qX3_renameMask 25 rfl) (jo_cv (y := mX3_maskOf) rfl (Nat.le_of_ble_eq_true rfl) rfl (Nat.le_of_ble_eq_true rfl) b33 rfl r25 jo_ret)) ?_
                refine Eq.trans (jb_nx (i := .iload_n 1) (n := 1) (q := (50, [some (.ref p0), some (.int i1), some (.long j2), none, some (.long j4), none, some (.int i6)], [.int i1, .int x26])) (jq qX3_renameMask 26 rfl) rfl) ?_
                by_cases c27 : x26 = i1
                · rw [if_pos c27] at H
                  refine Eq.trans (jb_nx (i := .if_icmp .ne 10) (n := 3) (q := (53, [some (.ref p0), some (.int i1), some (.long j2), none, some (.long j4), none, some (.int i6)], [])) (jq qX3_renameMask 27 rfl) (jo_icF (jz_neF c27))) ?_
                  refine Eq.trans (jb_nx (i := .aload_n 0) (n := 1) (q := (54, [some (.ref p0), some (.int i1), some (.long j2), none, some (.long j4), none, some (.int i6)], [.ref p0])) (jq qX3_renameMask 28 rfl) rfl) ?_
                  refine Eq.trans (jb_nx (i := .iload 6) (n := 2) (q := (56, [some (.ref p0), some (.int i1), some (.long j2), none, some (.long j4), none, some (.int i6)], [.int i6, .ref p0])) (jq qX3_renameMask 29 rfl) rfl) ?_
                  refine Eq.trans (jb_nx (i := .lload_n 2) (n := 1) (q := (57, [some (.ref p0), some (.int i1), some (.long j2), none, some (.long j4), none, some (.int i6)], [.long j2, .int i6, .ref p0])) (jq qX3_renameMask 30 rfl) rfl) ?_
                  obtain ⟨b30, H⟩ := jm_O_inv H
                  rcases jcV H with ⟨h28, r29, H⟩ | ⟨w31, h32, r29, H⟩
                  · refine Eq.trans (jb_nx (i := .invokevirtual 82) (n := 3) (q := (60, [some (.ref p0), some (.int i1), some (.long j2), none, some (.long j4), none, some (.int i6)], [])) (jq qX3_renameMask 31 rfl) (jo_cv (y := mX3_setName) rfl (Nat.le_of_ble_eq_true rfl) rfl (Nat.le_of_ble_eq_true rfl) b30 rfl r29 jo_ret)) ?_
                    refine Eq.trans (jb_nx (i := .iinc 6 1) (n := 3) (q := (63, [some (.ref p0), some (.int i1), some (.long j2), none, some (.long j4), none, some (.int (i6 + 1))], [])) (jq qX3_renameMask 32 rfl) rfl) ?_
                    refine Eq.trans (jb_nx (i := .goto (-51)) (n := 3) (q := (12, [some (.ref p0), some (.int i1), some (.long j2), none, some (.long j4), none, some (.int (i6 + 1))], [])) (jq qX3_renameMask 33 rfl) rfl) ?_
                    exact H
                  · exact Eq.trans (jb_rt (i := .invokevirtual 82) (n := 3) (jq qX3_renameMask 31 rfl) (jo_cv (y := mX3_setName) rfl (Nat.le_of_ble_eq_true rfl) rfl (Nat.le_of_ble_eq_true rfl) b30 rfl r29 (jo_exn rfl))) H
                · rw [if_neg c27] at H
                  refine Eq.trans (jb_nx (i := .if_icmp .ne 10) (n := 3) (q := (60, [some (.ref p0), some (.int i1), some (.long j2), none, some (.long j4), none, some (.int i6)], [])) (jq qX3_renameMask 27 rfl) (jo_icT (jz_neT c27) rfl)) ?_
                  refine Eq.trans (jb_nx (i := .iinc 6 1) (n := 3) (q := (63, [some (.ref p0), some (.int i1), some (.long j2), none, some (.long j4), none, some (.int (i6 + 1))], [])) (jq qX3_renameMask 32 rfl) rfl) ?_
                  refine Eq.trans (jb_nx (i := .goto (-51)) (n := 3) (q := (12, [some (.ref p0), some (.int i1), some (.long j2), none, some (.long j4), none, some (.int (i6 + 1))], [])) (jq qX3_renameMask 33 rfl) rfl) ?_
                  exact H
              · exact Eq.trans (jb_rt (i := .invokevirtual 76) (n := 3) (jq qX3_renameMask 25 rfl) (jo_cv (y := mX3_maskOf) rfl (Nat.le_of_ble_eq_true rfl) rfl (Nat.le_of_ble_eq_true rfl) b33 rfl r25 (jo_exn rfl))) H
            · rw [if_neg c23] at H
              refine Eq.trans (jb_nx (i := .ifCond .ne 20) (n := 3) (q := (60, [some (.ref p0), some (.int i1), some (.long j2), none, some (.long j4), none, some (.int i6)], [])) (jq qX3_renameMask 22 rfl) (jo_ifT (jz_neT c23) rfl)) ?_
              refine Eq.trans (jb_nx (i := .iinc 6 1) (n := 3) (q := (63, [some (.ref p0), some (.int i1), some (.long j2), none, some (.long j4), none, some (.int (i6 + 1))], [])) (jq qX3_renameMask 32 rfl) rfl) ?_
              refine Eq.trans (jb_nx (i := .goto (-51)) (n := 3) (q := (12, [some (.ref p0), some (.int i1), some (.long j2), none, some (.long j4), none, some (.int (i6 + 1))], [])) (jq qX3_renameMask 33 rfl) rfl) ?_
              exact H
          · exact Eq.trans (jb_rt (i := .invokevirtual 33) (n := 3) (jq qX3_renameMask 19 rfl) (jo_cv (y := mX3_nameAt) rfl (Nat.le_of_ble_eq_true rfl) rfl (Nat.le_of_ble_eq_true rfl) b36 rfl r21 (jo_exn rfl))) H
        · rw [if_neg c19] at H
          refine Eq.trans (jb_nx (i := .ifCond .ne 32) (n := 3) (q := (60, [some (.ref p0), some (.int i1), some (.long j2), none, some (.long j4), none, some (.int i6)], [])) (jq qX3_renameMask 16 rfl) (jo_ifT (jz_neT c19) rfl)) ?_
          refine Eq.trans (jb_nx (i := .iinc 6 1) (n := 3) (q := (63, [some (.ref p0), some (.int i1), some (.long j2), none, some (.long j4), none, some (.int (i6 + 1))], [])) (jq qX3_renameMask 32 rfl) rfl) ?_
          refine Eq.trans (jb_nx (i := .goto (-51)) (n := 3) (q := (12, [some (.ref p0), some (.int i1), some (.long j2), none, some (.long j4), none, some (.int (i6 + 1))], [])) (jq qX3_renameMask 33 rfl) rfl) ?_
          exact H
      · exact Eq.trans (jb_rt (i := .invokevirtual 29) (n := 3) (jq qX3_renameMask 15 rfl) (jo_cv (y := mX3_kindAt) rfl (Nat.le_of_ble_eq_true rfl) rfl (Nat.le_of_ble_eq_true rfl) b39 rfl r17 (jo_exn rfl))) H
    · rw [if_neg c10] at H
      refine Eq.trans (jb_nx (i := .if_icmp .ge 47) (n := 3) (q := (66, [some (.ref p0), some (.int i1), some (.long j2), none, some (.long j4), none, some (.int i6)], [])) (jq qX3_renameMask 12 rfl) (jo_icT (jz_geT c10) rfl)) ?_
      refine Eq.trans (jb_nx (i := .aload_n 0) (n := 1) (q := (67, [some (.ref p0), some (.int i1), some (.long j2), none, some (.long j4), none, some (.int i6)], [.ref p0])) (jq qX3_renameMask 34 rfl) rfl) ?_
      refine Eq.trans (jb_nx (i := .iload_n 1) (n := 1) (q := (68, [some (.ref p0), some (.int i1), some (.long j2), none, some (.long j4), none, some (.int i6)], [.int i1, .ref p0])) (jq qX3_renameMask 35 rfl) rfl) ?_
      refine Eq.trans (jb_nx (i := .lload_n 2) (n := 1) (q := (69, [some (.ref p0), some (.int i1), some (.long j2), none, some (.long j4), none, some (.int i6)], [.long j2, .int i1, .ref p0])) (jq qX3_renameMask 36 rfl) rfl) ?_
      obtain ⟨b13, H⟩ := jm_O_inv H
      rcases jcV H with ⟨h11, r12, H⟩ | ⟨w14, h15, r12, H⟩
      · refine Eq.trans (jb_nx (i := .invokevirtual 82) (n := 3) (q := (72, [some (.ref p0), some (.int i1), some (.long j2), none, some (.long j4), none, some (.int i6)], [])) (jq qX3_renameMask 37 rfl) (jo_cv (y := mX3_setName) rfl (Nat.le_of_ble_eq_true rfl) rfl (Nat.le_of_ble_eq_true rfl) b13 rfl r12 jo_ret)) ?_
        exact Eq.trans (jb_rt (i := .return_) (n := 1) (jq qX3_renameMask 38 rfl) rfl) H
      · exact Eq.trans (jb_rt (i := .invokevirtual 82) (n := 3) (jq qX3_renameMask 37 rfl) (jo_cv (y := mX3_setName) rfl (Nat.le_of_ble_eq_true rfl) rfl (Nat.le_of_ble_eq_true rfl) b13 rfl r12 (jo_exn rfl))) H
  · exact Eq.trans (jb_rt (i := .invokevirtual 66) (n := 3) (jq qX3_renameMask 11 rfl) (jo_cv (y := mX3_endAt) rfl (Nat.le_of_ble_eq_true rfl) rfl (Nat.le_of_ble_eq_true rfl) b42 rfl r8 (jo_exn rfl))) H
theorem gX3_renameMask {d : Nat} {p0 : Nat} {i1 : Int32} {j2 : Int64} {h : jm_H} {r : jm_R} (H : (jm_O h p0 3 (jc_L (jm_D d mX3_nameAt [.ref p0, .int i1] h) (fun y3 h1 => kX3_renameMask_12 d p0 i1 j2 y3 (i1 + 1) h1) jx)) = some r) : jm_D (d + 1) mX3_renameMask [.ref p0, .int i1, .long j2] h = some r := by
  rw [jm_D_body (Nat.le_of_ble_eq_true rfl)]
  show jm_B d mX3_renameMask (0, [some (.ref p0), some (.int i1), some (.long j2), none, none, none, none], []) h = some r
  refine Eq.trans (jb_nx (i := .aload_n 0) (n := 1) (q := (1, [some (.ref p0), some (.int i1), some (.long j2), none, none, none, none], [.ref p0])) (jq qX3_renameMask 0 rfl) rfl) ?_
  refine Eq.trans (jb_nx (i := .iload_n 1) (n := 1) (q := (2, [some (.ref p0), some (.int i1), some (.long j2), none, none, none, none], [.int i1, .ref p0])) (jq qX3_renameMask 1 rfl) rfl) ?_
  obtain ⟨b4, H⟩ := jm_O_inv H
  rcases jcL H with ⟨y3, h1, r2, H⟩ | ⟨w5, h6, r2, H⟩
  · refine Eq.trans (jb_nx (i := .invokevirtual 33) (n := 3) (q := (5, [some (.ref p0), some (.int i1), some (.long j2), none, none, none, none], [.long y3])) (jq qX3_renameMask 2 rfl) (jo_cv (y := mX3_nameAt) rfl (Nat.le_of_ble_eq_true rfl) rfl (Nat.le_of_ble_eq_true rfl) b4 rfl r2 jo_ret)) ?_
    refine Eq.trans (jb_nx (i := .lstore 4) (n := 2) (q := (7, [some (.ref p0), some (.int i1), some (.long j2), none, some (.long y3), none, none], [])) (jq qX3_renameMask 3 rfl) rfl) ?_
    refine Eq.trans (jb_nx (i := .iload_n 1) (n := 1) (q := (8, [some (.ref p0), some (.int i1), some (.long j2), none, some (.long y3), none, none], [.int i1])) (jq qX3_renameMask 4 rfl) rfl) ?_
    refine Eq.trans (jb_nx (i := .iconst 1) (n := 1) (q := (9, [some (.ref p0), some (.int i1), some (.long j2), none, some (.long y3), none, none], [.int 1, .int i1])) (jq qX3_renameMask 5 rfl) rfl) ?_
    refine Eq.trans (jb_nx (i := .iadd) (n := 1) (q := (10, [some (.ref p0), some (.int i1), some (.long j2), none, some (.long y3), none, none], [.int (i1 + 1)])) (jq qX3_renameMask 6 rfl) rfl) ?_
    refine Eq.trans (jb_nx (i := .istore 6) (n := 2) (q := (12, [some (.ref p0), some (.int i1), some (.long j2), none, some (.long y3), none, some (.int (i1 + 1))], [])) (jq qX3_renameMask 7 rfl) rfl) ?_
    exact H
  · exact Eq.trans (jb_rt (i := .invokevirtual 33) (n := 3) (jq qX3_renameMask 2 rfl) (jo_cv (y := mX3_nameAt) rfl (Nat.le_of_ble_eq_true rfl) rfl (Nat.le_of_ble_eq_true rfl) b4 rfl r2 (jo_exn rfl))) H
/-! MaskPlays$Part setName (IJ)V -/
def tX3_setName : List (Nat × Instr × Nat) := [(0, .iload_n 1, 1), (1, .ifCond .lt 19, 3), (4, .iload_n 1, 1), (5, .aload_n 0, 1), (6, .getfield 15, 3), (9, .arraylength, 1), (10, .if_icmp .ge 10, 3), (13, .aload_n 0, 1), (14, .getfield 15, 3), (17, .iload_n 1, 1), (18, .lload_n 2, 1), (19, .lastore, 1), (20, .return_, 1)]
set_option maxRecDepth 100000 in
theorem qX3_setName : ∀ q ∈ tX3_setName, decode cX3_setName q.1 = .ok (q.2.1, q.2.2) := by decide +kernel
theorem gX3_setName {d : Nat} {p0 : Nat} {i1 : Int32} {j2 : Int64} {h : jm_H} {r : jm_R} (H : ((if i1 < 0 then some (.inl none, h) else (jr_R h p0 3 2 2).bind fun a2 => (jm_len h a2).bind fun n4 => (if i1 < (Int32.ofNat n4) then (jr_R h p0 3 2 2).bind fun a7 => (jm_asl h a7 i1 j2).bind fun h9 => some (.inl none, h9) else some (.inl none, h)))) = some r) : jm_D (d + 1) mX3_setName [.ref p0, .int i1, .long j2] h = some r := by
  rw [jm_D_body (Nat.le_of_ble_eq_true rfl)]
  show jm_B d mX3_setName (0, [some (.ref p0), some (.int i1), some (.long j2), none], []) h = some r
  refine Eq.trans (jb_nx (i := .iload_n 1) (n := 1) (q := (1, [some (.ref p0), some (.int i1), some (.long j2), none], [.int i1])) (jq qX3_setName 0 rfl) rfl) ?_
  by_cases c1 : i1 < 0
  · rw [if_pos c1] at H
    refine Eq.trans (jb_nx (i := .ifCond .lt 19) (n := 3) (q := (20, [some (.ref p0), some (.int i1), some (.long j2), none], [])) (jq qX3_setName 1 rfl) (jo_ifT (jz_ltT c1) rfl)) ?_
    exact Eq.trans (jb_rt (i := .return_) (n := 1) (jq qX3_setName 12 rfl) rfl) H
  · rw [if_neg c1] at H
    refine Eq.trans (jb_nx (i := .ifCond .lt 19) (n := 3) (q := (4, [some (.ref p0), some (.int i1), some (.long j2), none], [])) (jq qX3_setName 1 rfl) (jo_ifF (jz_ltF c1))) ?_
    refine Eq.trans (jb_nx (i := .iload_n 1) (n := 1) (q := (5, [some (.ref p0), some (.int i1), some (.long j2), none], [.int i1])) (jq qX3_setName 2 rfl) rfl) ?_
    refine Eq.trans (jb_nx (i := .aload_n 0) (n := 1) (q := (6, [some (.ref p0), some (.int i1), some (.long j2), none], [.ref p0, .int i1])) (jq qX3_setName 3 rfl) rfl) ?_
    obtain ⟨a2, e3, H⟩ := jbd H
    refine Eq.trans (jb_nx (i := .getfield 15) (n := 3) (q := (9, [some (.ref p0), some (.int i1), some (.long j2), none], [.ref a2, .int i1])) (jq qX3_setName 4 rfl) (jo_gf rfl (jr_R_inv e3))) ?_
    obtain ⟨n4, e5, H⟩ := jbd H
    refine Eq.trans (jb_nx (i := .arraylength) (n := 1) (q := (10, [some (.ref p0), some (.int i1), some (.long j2), none], [.int (Int32.ofNat n4), .int i1])) (jq qX3_setName 5 rfl) (jo_len e5)) ?_
    by_cases c6 : i1 < (Int32.ofNat n4)
    · rw [if_pos c6] at H
      refine Eq.trans (jb_nx (i := .if_icmp .ge 10) (n := 3) (q := (13, [some (.ref p0), some (.int i1), some (.long j2), none], [])) (jq qX3_setName 6 rfl) (jo_icF (jz_geF c6))) ?_
      refine Eq.trans (jb_nx (i := .aload_n 0) (n := 1) (q := (14, [some (.ref p0), some (.int i1), some (.long j2), none], [.ref p0])) (jq qX3_setName 7 rfl) rfl) ?_
      obtain ⟨a7, e8, H⟩ := jbd H
      refine Eq.trans (jb_nx (i := .getfield 15) (n := 3) (q := (17, [some (.ref p0), some (.int i1), some (.long j2), none], [.ref a7])) (jq qX3_setName 8 rfl) (jo_gf rfl (jr_R_inv e8))) ?_
      refine Eq.trans (jb_nx (i := .iload_n 1) (n := 1) (q := (18, [some (.ref p0), some (.int i1), some (.long j2), none], [.int i1, .ref a7])) (jq qX3_setName 9 rfl) rfl) ?_
      refine Eq.trans (jb_nx (i := .lload_n 2) (n := 1) (q := (19, [some (.ref p0), some (.int i1), some (.long j2), none], [.long j2, .int i1, .ref a7])) (jq qX3_setName 10 rfl) rfl) ?_
      obtain ⟨h9, e10, H⟩ := jbd H
      refine Eq.trans (jb_nx (i := .lastore) (n := 1) (q := (20, [some (.ref p0), some (.int i1), some (.long j2), none], [])) (jq qX3_setName 11 rfl) (jo_las e10)) ?_
      exact Eq.trans (jb_rt (i := .return_) (n := 1) (jq qX3_setName 12 rfl) rfl) H
    · rw [if_neg c6] at H
      refine Eq.trans (jb_nx (i := .if_icmp .ge 10) (n := 3) (q := (20, [some (.ref p0), some (.int i1), some (.long j2), none], [])) (jq qX3_setName 6 rfl) (jo_icT (jz_geT c6) rfl)) ?_
      exact Eq.trans (jb_rt (i := .return_) (n := 1) (jq qX3_setName 12 rfl) rfl) H
/-! MaskPlays$Part hasTextOf (LMaskPlays$Part;)Z -/
def tX3_hasTextOf : List (Nat × Instr × Nat) := [(0, .aload_n 0, 1), (1, .getfield 25, 3), (4, .aload_n 1, 1), (5, .getfield 25, 3), (8, .if_icmp .eq 5, 3), (11, .iconst 0, 1), (12, .ireturn, 1), (13, .iconst 0, 1), (14, .istore_n 2, 1), (15, .iload_n 2, 1), (16, .aload_n 0, 1), (17, .getfield 25, 3), (20, .if_icmp .ge 38, 3), (23, .aload_n 0, 1), (24, .iload_n 2, 1), (25, .invokevirtual 29, 3), (28, .aload_n 1, 1), (29, .iload_n 2, 1), (30, .invokevirtual 29, 3), (33, .if_icmp .ne 17, 3), (36, .aload_n 0, 1), (37, .iload_n 2, 1), (38, .invokevirtual 33, 3), (41, .aload_n 1, 1), (42, .iload_n 2, 1), (43, .invokevirtual 33, 3), (46, .lcmp, 1), (47, .ifCond .eq 5, 3), (50, .iconst 0, 1), (51, .ireturn, 1), (52, .iinc 2 1, 3), (55, .goto (-40), 3), (58, .iconst 1, 1), (59, .ireturn, 1)]
set_option maxRecDepth 100000 in
theorem qX3_hasTextOf : ∀ q ∈ tX3_hasTextOf, decode cX3_hasTextOf q.1 = .ok (q.2.1, q.2.2) := by decide +kernel
noncomputable def kX3_hasTextOf_15 (d : Nat) (p0 : Nat) (p1 : Nat) (i2 : Int32) (h : jm_H) : Option jm_R := jm_B d mX3_hasTextOf (15, [some (.ref p0), some (.ref p1), some (.int i2)], []) h
theorem gX3_hasTextOf_15 {d : Nat} {p0 : Nat} {p1 : Nat} {i2 : Int32} {h : jm_H} {r : jm_R} (H : ((jr_I h p0 3 0 0).bind fun x6 => (if i2 < x6 then jm_O h p0 3 (jc_I (jm_D d mX3_kindAt [.ref p0, .int i2] h) (fun x11 h9 => jm_O h9 p1 3 (jc_I (jm_D d mX3_kindAt [.ref p1, .int i2] h9) (fun x14 h12 => (if x11 = x14 then jm_O h12 p0 3 (jc_L (jm_D d mX3_nameAt [.ref p0, .int i2] h12) (fun y18 h16 => jm_O h16 p1 3 (jc_L (jm_D d mX3_nameAt [.ref p1, .int i2] h16) (fun y21 h19 => (if (lg_cmp y18 y21) = 0 then kX3_hasTextOf_15 d p0 p1 (i2 + 1) h19 else some (.inl (some (.int 0)), h19))) jx)) jx) else some (.inl (some (.int 0)), h12))) jx)) jx) else some (.inl (some (.int 1)), h))) = some r) : kX3_hasTextOf_15 d p0 p1 i2 h = some r := by
  show jm_B d mX3_hasTextOf (15, [some (.ref p0), some (.ref p1), some (.int i2)], []) h = some r
  refine Eq.trans (jb_nx (i := .iload_n 2) (n := 1) (q := (16, [some (.ref p0), some (.ref p1), some (.int i2)], [.int i2])) (jq qX3_hasTextOf 9 rfl) rfl) ?_
  refine Eq.trans (jb_nx (i := .aload_n 0) (n := 1) (q := (17, [some (.ref p0), some (.ref p1), some (.int i2)], [.ref p0, .int i2])) (jq qX3_hasTextOf 10 rfl) rfl) ?_
  obtain ⟨x6, e7, H⟩ := jbd H
  refine Eq.trans (jb_nx (i := .getfield 25) (n := 3) (q := (20, [some (.ref p0), some (.ref p1), some (.int i2)], [.int x6, .int i2])) (jq qX3_hasTextOf 11 rfl) (jo_gf rfl (jr_I_inv e7))) ?_
  by_cases c8 : i2 < x6
  · rw [if_pos c8] at H
    refine Eq.trans (jb_nx (i := .if_icmp .ge 38) (n := 3) (q := (23, [some (.ref p0), some (.ref p1), some (.int i2)], [])) (jq qX3_hasTextOf 12 rfl) (jo_icF (jz_geF c8))) ?_
    refine Eq.trans (jb_nx (i := .aload_n 0) (n := 1) (q := (24, [some (.ref p0), some (.ref p1), some (.int i2)], [.ref p0])) (jq qX3_hasTextOf 13 rfl) rfl) ?_
    refine Eq.trans (jb_nx (i := .iload_n 2) (n := 1) (q := (25, [some (.ref p0), some (.ref p1), some (.int i2)], [.int i2, .ref p0])) (jq qX3_hasTextOf 14 rfl) rfl) ?_
    obtain ⟨b32, H⟩ := jm_O_inv H
    rcases jcI H with ⟨x11, h9, r10, H⟩ | ⟨w33, h34, r10, H⟩
    · refine Eq.trans (jb_nx (i := .invokevirtual 29) (n := 3) (q := (28, [some (.ref p0), some (.ref p1), some (.int i2)], [.int x11])) (jq qX3_hasTextOf 15 rfl) (jo_cv (y := mX3_kindAt) rfl (Nat.le_of_ble_eq_true rfl) rfl (Nat.le_of_ble_eq_true rfl) b32 rfl r10 jo_ret)) ?_
      refine Eq.trans (jb_nx (i := .aload_n 1) (n := 1) (q := (29, [some (.ref p0), some (.ref p1), some (.int i2)], [.ref p1, .int x11])) (jq qX3_hasTextOf 16 rfl) rfl) ?_
      refine Eq.trans (jb_nx (i := .iload_n 2) (n := 1) (q := (30, [some (.ref p0), some (.ref p1), some (.int i2)], [.int i2, .ref p1, .int x11])) (jq qX3_hasTextOf 17 rfl) rfl) ?_
      obtain ⟨b29, H⟩ := jm_O_inv H
      rcases jcI H with ⟨x14, h12, r13, H⟩ | ⟨w30, h31, r13, H⟩
      · refine Eq.trans (jb_nx (i := .invokevirtual 29) (n := 3) (q := (33, [some (.ref p0), some (.ref p1), some (.int i2)], [.int x14, .int x11])) (jq qX3_hasTextOf 18 rfl) (jo_cv (y := mX3_kindAt) rfl (Nat.le_of_ble_eq_true rfl) rfl (Nat.le_of_ble_eq_true rfl) b29 rfl r13 jo_ret)) ?_
        by_cases c15 : x11 = x14
        · rw [if_pos c15] at H
          refine Eq.trans (jb_nx (i := .if_icmp .ne 17) (n := 3) (q := (36, [some (.ref p0), some (.ref p1), some (.int i2)], [])) (jq qX3_hasTextOf 19 rfl) (jo_icF (jz_neF c15))) ?_
          refine Eq.trans (jb_nx (i := .aload_n 0) (n := 1) (q := (37, [some (.ref p0), some (.ref p1), some (.int i2)], [.ref p0])) (jq qX3_hasTextOf 20 rfl) rfl) ?_
          refine Eq.trans (jb_nx (i := .iload_n 2) (n := 1) (q := (38, [some (.ref p0), some (.ref p1), some (.int i2)], [.int i2, .ref p0])) (jq qX3_hasTextOf 21 rfl) rfl) ?_
          obtain ⟨b26, H⟩ := jm_O_inv H
          rcases jcL H with ⟨y18, h16, r17, H⟩ | ⟨w27, h28, r17, H⟩
          · refine Eq.trans (jb_nx (i := .invokevirtual 33) (n := 3) (q := (41, [some (.ref p0), some (.ref p1), some (.int i2)], [.long y18])) (jq qX3_hasTextOf 22 rfl) (jo_cv (y := mX3_nameAt) rfl (Nat.le_of_ble_eq_true rfl) rfl (Nat.le_of_ble_eq_true rfl) b26 rfl r17 jo_ret)) ?_
            refine Eq.trans (jb_nx (i := .aload_n 1) (n := 1) (q := (42, [some (.ref p0), some (.ref p1), some (.int i2)], [.ref p1, .long y18])) (jq qX3_hasTextOf 23 rfl) rfl) ?_
            refine Eq.trans (jb_nx (i := .iload_n 2) (n := 1) (q := (43, [some (.ref p0), some (.ref p1), some (.int i2)], [.int i2, .ref p1, .long y18])) (jq qX3_hasTextOf 24 rfl) rfl) ?_
            obtain ⟨b23, H⟩ := jm_O_inv H
            rcases jcL H with ⟨y21, h19, r20, H⟩ | ⟨w24, h25, r20, H⟩
            · refine Eq.trans (jb_nx (i := .invokevirtual 33) (n := 3) (q := (46, [some (.ref p0), some (.ref p1), some (.int i2)], [.long y21, .long y18])) (jq qX3_hasTextOf 25 rfl) (jo_cv (y := mX3_nameAt) rfl (Nat.le_of_ble_eq_true rfl) rfl (Nat.le_of_ble_eq_true rfl) b23 rfl r20 jo_ret)) ?_
              refine Eq.trans (jb_nx (i := .lcmp) (n := 1) (q := (47, [some (.ref p0), some (.ref p1), some (.int i2)], [.int (lg_cmp y18 y21)])) (jq qX3_hasTextOf 26 rfl) rfl) ?_
              by_cases c22 : (lg_cmp y18 y21) = 0
              · rw [if_pos c22] at H
                refine Eq.trans (jb_nx (i := .ifCond .eq 5) (n := 3) (q := (52, [some (.ref p0), some (.ref p1), some (.int i2)], [])) (jq qX3_hasTextOf 27 rfl) (jo_ifT (jz_eqT c22) rfl)) ?_
                refine Eq.trans (jb_nx (i := .iinc 2 1) (n := 3) (q := (55, [some (.ref p0), some (.ref p1), some (.int (i2 + 1))], [])) (jq qX3_hasTextOf 30 rfl) rfl) ?_
                refine Eq.trans (jb_nx (i := .goto (-40)) (n := 3) (q := (15, [some (.ref p0), some (.ref p1), some (.int (i2 + 1))], [])) (jq qX3_hasTextOf 31 rfl) rfl) ?_
                exact H
              · rw [if_neg c22] at H
                refine Eq.trans (jb_nx (i := .ifCond .eq 5) (n := 3) (q := (50, [some (.ref p0), some (.ref p1), some (.int i2)], [])) (jq qX3_hasTextOf 27 rfl) (jo_ifF (jz_eqF c22))) ?_
                refine Eq.trans (jb_nx (i := .iconst 0) (n := 1) (q := (51, [some (.ref p0), some (.ref p1), some (.int i2)], [.int 0])) (jq qX3_hasTextOf 28 rfl) rfl) ?_
                exact Eq.trans (jb_rt (i := .ireturn) (n := 1) (jq qX3_hasTextOf 29 rfl) (jo_iret rfl (by decide))) H
            · exact Eq.trans (jb_rt (i := .invokevirtual 33) (n := 3) (jq qX3_hasTextOf 25 rfl) (jo_cv (y := mX3_nameAt) rfl (Nat.le_of_ble_eq_true rfl) rfl (Nat.le_of_ble_eq_true rfl) b23 rfl r20 (jo_exn rfl))) H
          · exact Eq.trans (jb_rt (i := .invokevirtual 33) (n := 3) (jq qX3_hasTextOf 22 rfl) (jo_cv (y := mX3_nameAt) rfl (Nat.le_of_ble_eq_true rfl) rfl (Nat.le_of_ble_eq_true rfl) b26 rfl r17 (jo_exn rfl))) H
        · rw [if_neg c15] at H
          refine Eq.trans (jb_nx (i := .if_icmp .ne 17) (n := 3) (q := (50, [some (.ref p0), some (.ref p1), some (.int i2)], [])) (jq qX3_hasTextOf 19 rfl) (jo_icT (jz_neT c15) rfl)) ?_
          refine Eq.trans (jb_nx (i := .iconst 0) (n := 1) (q := (51, [some (.ref p0), some (.ref p1), some (.int i2)], [.int 0])) (jq qX3_hasTextOf 28 rfl) rfl) ?_
          exact Eq.trans (jb_rt (i := .ireturn) (n := 1) (jq qX3_hasTextOf 29 rfl) (jo_iret rfl (by decide))) H
      · exact Eq.trans (jb_rt (i := .invokevirtual 29) (n := 3) (jq qX3_hasTextOf 18 rfl) (jo_cv (y := mX3_kindAt) rfl (Nat.le_of_ble_eq_true rfl) rfl (Nat.le_of_ble_eq_true rfl) b29 rfl r13 (jo_exn rfl))) H
    · exact Eq.trans (jb_rt (i := .invokevirtual 29) (n := 3) (jq qX3_hasTextOf 15 rfl) (jo_cv (y := mX3_kindAt) rfl (Nat.le_of_ble_eq_true rfl) rfl (Nat.le_of_ble_eq_true rfl) b32 rfl r10 (jo_exn rfl))) H
  · rw [if_neg c8] at H
    refine Eq.trans (jb_nx (i := .if_icmp .ge 38) (n := 3) (q := (58, [some (.ref p0), some (.ref p1), some (.int i2)], [])) (jq qX3_hasTextOf 12 rfl) (jo_icT (jz_geT c8) rfl)) ?_
    refine Eq.trans (jb_nx (i := .iconst 1) (n := 1) (q := (59, [some (.ref p0), some (.ref p1), some (.int i2)], [.int 1])) (jq qX3_hasTextOf 32 rfl) rfl) ?_
    exact Eq.trans (jb_rt (i := .ireturn) (n := 1) (jq qX3_hasTextOf 33 rfl) (jo_iret rfl (by decide))) H
theorem gX3_hasTextOf {d : Nat} {p0 : Nat} {p1 : Nat} {h : jm_H} {r : jm_R} (H : ((jr_I h p0 3 0 0).bind fun x1 => (jr_I h p1 3 0 0).bind fun x3 => (if x1 = x3 then kX3_hasTextOf_15 d p0 p1 0 h else some (.inl (some (.int 0)), h))) = some r) : jm_D (d + 1) mX3_hasTextOf [.ref p0, .ref p1] h = some r := by
  rw [jm_D_body (Nat.le_of_ble_eq_true rfl)]
  show jm_B d mX3_hasTextOf (0, [some (.ref p0), some (.ref p1), none], []) h = some r
  refine Eq.trans (jb_nx (i := .aload_n 0) (n := 1) (q := (1, [some (.ref p0), some (.ref p1), none], [.ref p0])) (jq qX3_hasTextOf 0 rfl) rfl) ?_
  obtain ⟨x1, e2, H⟩ := jbd H
  refine Eq.trans (jb_nx (i := .getfield 25) (n := 3) (q := (4, [some (.ref p0), some (.ref p1), none], [.int x1])) (jq qX3_hasTextOf 1 rfl) (jo_gf rfl (jr_I_inv e2))) ?_
  refine Eq.trans (jb_nx (i := .aload_n 1) (n := 1) (q := (5, [some (.ref p0), some (.ref p1), none], [.ref p1, .int x1])) (jq qX3_hasTextOf 2 rfl) rfl) ?_
  obtain ⟨x3, e4, H⟩ := jbd H
  refine Eq.trans (jb_nx (i := .getfield 25) (n := 3) (q := (8, [some (.ref p0), some (.ref p1), none], [.int x3, .int x1])) (jq qX3_hasTextOf 3 rfl) (jo_gf rfl (jr_I_inv e4))) ?_
  by_cases c5 : x1 = x3
  · rw [if_pos c5] at H
    refine Eq.trans (jb_nx (i := .if_icmp .eq 5) (n := 3) (q := (13, [some (.ref p0), some (.ref p1), none], [])) (jq qX3_hasTextOf 4 rfl) (jo_icT (jz_eqT c5) rfl)) ?_
    refine Eq.trans (jb_nx (i := .iconst 0) (n := 1) (q := (14, [some (.ref p0), some (.ref p1), none], [.int 0])) (jq qX3_hasTextOf 7 rfl) rfl) ?_
    refine Eq.trans (jb_nx (i := .istore_n 2) (n := 1) (q := (15, [some (.ref p0), some (.ref p1), some (.int 0)], [])) (jq qX3_hasTextOf 8 rfl) rfl) ?_
    exact H
  · rw [if_neg c5] at H
    refine Eq.trans (jb_nx (i := .if_icmp .eq 5) (n := 3) (q := (11, [some (.ref p0), some (.ref p1), none], [])) (jq qX3_hasTextOf 4 rfl) (jo_icF (jz_eqF c5))) ?_
    refine Eq.trans (jb_nx (i := .iconst 0) (n := 1) (q := (12, [some (.ref p0), some (.ref p1), none], [.int 0])) (jq qX3_hasTextOf 5 rfl) rfl) ?_
    exact Eq.trans (jb_rt (i := .ireturn) (n := 1) (jq qX3_hasTextOf 6 rfl) (jo_iret rfl (by decide))) H
/-! MaskPlays$Part fitInScene (LMaskPlays$Part;LMaskPlays$Part;)Z -/
def tX3_fitInScene : List (Nat × Instr × Nat) := [(0, .iconst 1, 1), (1, .aload_n 0, 1), (2, .getfield 25, 3), (5, .iadd, 1), (6, .aload_n 1, 1), (7, .getfield 25, 3), (10, .iadd, 1), (11, .sipush 150, 3), (14, .if_icmp .gt 7, 3), (17, .iconst 1, 1), (18, .goto 4, 3), (21, .iconst 0, 1), (22, .ireturn, 1)]
set_option maxRecDepth 100000 in
theorem qX3_fitInScene : ∀ q ∈ tX3_fitInScene, decode cX3_fitInScene q.1 = .ok (q.2.1, q.2.2) := by decide +kernel
theorem gX3_fitInScene {d : Nat} {p0 : Nat} {p1 : Nat} {h : jm_H} {r : jm_R} (H : ((jr_I h p0 3 0 0).bind fun x1 => (jr_I h p1 3 0 0).bind fun x3 => (if 150 < ((1 + x1) + x3) then some (.inl (some (.int 0)), h) else some (.inl (some (.int 1)), h))) = some r) : jm_D (d + 1) mX3_fitInScene [.ref p0, .ref p1] h = some r := by
  rw [jm_D_body (Nat.le_of_ble_eq_true rfl)]
  show jm_B d mX3_fitInScene (0, [some (.ref p0), some (.ref p1)], []) h = some r
  refine Eq.trans (jb_nx (i := .iconst 1) (n := 1) (q := (1, [some (.ref p0), some (.ref p1)], [.int 1])) (jq qX3_fitInScene 0 rfl) rfl) ?_
  refine Eq.trans (jb_nx (i := .aload_n 0) (n := 1) (q := (2, [some (.ref p0), some (.ref p1)], [.ref p0, .int 1])) (jq qX3_fitInScene 1 rfl) rfl) ?_
  obtain ⟨x1, e2, H⟩ := jbd H
  refine Eq.trans (jb_nx (i := .getfield 25) (n := 3) (q := (5, [some (.ref p0), some (.ref p1)], [.int x1, .int 1])) (jq qX3_fitInScene 2 rfl) (jo_gf rfl (jr_I_inv e2))) ?_
  refine Eq.trans (jb_nx (i := .iadd) (n := 1) (q := (6, [some (.ref p0), some (.ref p1)], [.int (1 + x1)])) (jq qX3_fitInScene 3 rfl) rfl) ?_
  refine Eq.trans (jb_nx (i := .aload_n 1) (n := 1) (q := (7, [some (.ref p0), some (.ref p1)], [.ref p1, .int (1 + x1)])) (jq qX3_fitInScene 4 rfl) rfl) ?_
  obtain ⟨x3, e4, H⟩ := jbd H
  refine Eq.trans (jb_nx (i := .getfield 25) (n := 3) (q := (10, [some (.ref p0), some (.ref p1)], [.int x3, .int (1 + x1)])) (jq qX3_fitInScene 5 rfl) (jo_gf rfl (jr_I_inv e4))) ?_
  refine Eq.trans (jb_nx (i := .iadd) (n := 1) (q := (11, [some (.ref p0), some (.ref p1)], [.int ((1 + x1) + x3)])) (jq qX3_fitInScene 6 rfl) rfl) ?_
  refine Eq.trans (jb_nx (i := .sipush 150) (n := 3) (q := (14, [some (.ref p0), some (.ref p1)], [.int 150, .int ((1 + x1) + x3)])) (jq qX3_fitInScene 7 rfl) rfl) ?_
  by_cases c5 : 150 < ((1 + x1) + x3)
  · rw [if_pos c5] at H
    refine Eq.trans (jb_nx (i := .if_icmp .gt 7) (n := 3) (q := (21, [some (.ref p0), some (.ref p1)], [])) (jq qX3_fitInScene 8 rfl) (jo_icT (jz_gtT c5) rfl)) ?_
    refine Eq.trans (jb_nx (i := .iconst 0) (n := 1) (q := (22, [some (.ref p0), some (.ref p1)], [.int 0])) (jq qX3_fitInScene 11 rfl) rfl) ?_
    exact Eq.trans (jb_rt (i := .ireturn) (n := 1) (jq qX3_fitInScene 12 rfl) (jo_iret rfl (by decide))) H
  · rw [if_neg c5] at H
    refine Eq.trans (jb_nx (i := .if_icmp .gt 7) (n := 3) (q := (17, [some (.ref p0), some (.ref p1)], [])) (jq qX3_fitInScene 8 rfl) (jo_icF (jz_gtF c5))) ?_
    refine Eq.trans (jb_nx (i := .iconst 1) (n := 1) (q := (18, [some (.ref p0), some (.ref p1)], [.int 1])) (jq qX3_fitInScene 9 rfl) rfl) ?_
    refine Eq.trans (jb_nx (i := .goto 4) (n := 3) (q := (22, [some (.ref p0), some (.ref p1)], [.int 1])) (jq qX3_fitInScene 10 rfl) rfl) ?_
    exact Eq.trans (jb_rt (i := .ireturn) (n := 1) (jq qX3_fitInScene 12 rfl) (jo_iret rfl (by decide))) H
/-! MaskPlays$Part setToScene (LMaskPlays$Part;LMaskPlays$Part;)V -/
def tX3_setToScene : List (Nat × Instr × Nat) := [(0, .aload_n 0, 1), (1, .invokevirtual 56, 3), (4, .aload_n 0, 1), (5, .iconst 2, 1), (6, .lconst 0, 1), (7, .invokevirtual 37, 3), (10, .aload_n 0, 1), (11, .aload_n 1, 1), (12, .iconst 0, 1), (13, .aload_n 1, 1), (14, .getfield 25, 3), (17, .invokevirtual 59, 3), (20, .aload_n 0, 1), (21, .aload_n 2, 1), (22, .iconst 0, 1), (23, .aload_n 2, 1), (24, .getfield 25, 3), (27, .invokevirtual 59, 3), (30, .aload_n 0, 1), (31, .invokevirtual 63, 3), (34, .return_, 1)]
set_option maxRecDepth 100000 in
theorem qX3_setToScene : ∀ q ∈ tX3_setToScene, decode cX3_setToScene q.1 = .ok (q.2.1, q.2.2) := by decide +kernel
theorem gX3_setToScene {d : Nat} {p0 : Nat} {p1 : Nat} {p2 : Nat} {h : jm_H} {r : jm_R} (H : (jm_O h p0 3 (jc_V (jm_D d mX3_clear [.ref p0] h) (fun h1 => jm_O h1 p0 3 (jc_V (jm_D d mX3_add [.ref p0, .int 2, .long 0] h1) (fun h3 => (jr_I h3 p1 3 0 0).bind fun x5 => jm_O h3 p0 3 (jc_V (jm_D d mX3_append [.ref p0, .ref p1, .int 0, .int x5] h3) (fun h7 => (jr_I h7 p2 3 0 0).bind fun x9 => jm_O h7 p0 3 (jc_V (jm_D d mX3_append [.ref p0, .ref p2, .int 0, .int x9] h7) (fun h11 => jm_O h11 p0 3 (jc_V (jm_D d mX3_link [.ref p0] h11) (fun h13 => some (.inl none, h13)) jx)) jx)) jx)) jx)) jx)) = some r) : jm_D (d + 1) mX3_setToScene [.ref p0, .ref p1, .ref p2] h = some r := by
  rw [jm_D_body (Nat.le_of_ble_eq_true rfl)]
  show jm_B d mX3_setToScene (0, [some (.ref p0), some (.ref p1), some (.ref p2)], []) h = some r
  refine Eq.trans (jb_nx (i := .aload_n 0) (n := 1) (q := (1, [some (.ref p0), some (.ref p1), some (.ref p2)], [.ref p0])) (jq qX3_setToScene 0 rfl) rfl) ?_
  obtain ⟨b27, H⟩ := jm_O_inv H
  rcases jcV H with ⟨h1, r2, H⟩ | ⟨w28, h29, r2, H⟩
  · refine Eq.trans (jb_nx (i := .invokevirtual 56) (n := 3) (q := (4, [some (.ref p0), some (.ref p1), some (.ref p2)], [])) (jq qX3_setToScene 1 rfl) (jo_cv (y := mX3_clear) rfl (Nat.le_of_ble_eq_true rfl) rfl (Nat.le_of_ble_eq_true rfl) b27 rfl r2 jo_ret)) ?_
    refine Eq.trans (jb_nx (i := .aload_n 0) (n := 1) (q := (5, [some (.ref p0), some (.ref p1), some (.ref p2)], [.ref p0])) (jq qX3_setToScene 2 rfl) rfl) ?_
    refine Eq.trans (jb_nx (i := .iconst 2) (n := 1) (q := (6, [some (.ref p0), some (.ref p1), some (.ref p2)], [.int 2, .ref p0])) (jq qX3_setToScene 3 rfl) rfl) ?_
    refine Eq.trans (jb_nx (i := .lconst 0) (n := 1) (q := (7, [some (.ref p0), some (.ref p1), some (.ref p2)], [.long 0, .int 2, .ref p0])) (jq qX3_setToScene 4 rfl) rfl) ?_
    obtain ⟨b24, H⟩ := jm_O_inv H
    rcases jcV H with ⟨h3, r4, H⟩ | ⟨w25, h26, r4, H⟩
    · refine Eq.trans (jb_nx (i := .invokevirtual 37) (n := 3) (q := (10, [some (.ref p0), some (.ref p1), some (.ref p2)], [])) (jq qX3_setToScene 5 rfl) (jo_cv (y := mX3_add) rfl (Nat.le_of_ble_eq_true rfl) rfl (Nat.le_of_ble_eq_true rfl) b24 rfl r4 jo_ret)) ?_
      refine Eq.trans (jb_nx (i := .aload_n 0) (n := 1) (q := (11, [some (.ref p0), some (.ref p1), some (.ref p2)], [.ref p0])) (jq qX3_setToScene 6 rfl) rfl) ?_
      refine Eq.trans (jb_nx (i := .aload_n 1) (n := 1) (q := (12, [some (.ref p0), some (.ref p1), some (.ref p2)], [.ref p1, .ref p0])) (jq qX3_setToScene 7 rfl) rfl) ?_
      refine Eq.trans (jb_nx (i := .iconst 0) (n := 1) (q := (13, [some (.ref p0), some (.ref p1), some (.ref p2)], [.int 0, .ref p1, .ref p0])) (jq qX3_setToScene 8 rfl) rfl) ?_
      refine Eq.trans (jb_nx (i := .aload_n 1) (n := 1) (q := (14, [some (.ref p0), some (.ref p1), some (.ref p2)], [.ref p1, .int 0, .ref p1, .ref p0])) (jq qX3_setToScene 9 rfl) rfl) ?_
      obtain ⟨x5, e6, H⟩ := jbd H
      refine Eq.trans (jb_nx (i := .getfield 25) (n := 3) (q := (17, [some (.ref p0), some (.ref p1), some (.ref p2)], [.int x5, .int 0, .ref p1, .ref p0])) (jq qX3_setToScene 10 rfl) (jo_gf rfl (jr_I_inv e6))) ?_
      obtain ⟨b21, H⟩ := jm_O_inv H
      rcases jcV H with ⟨h7, r8, H⟩ | ⟨w22, h23, r8, H⟩
      · refine Eq.trans (jb_nx (i := .invokevirtual 59) (n := 3) (q := (20, [some (.ref p0), some (.ref p1), some (.ref p2)], [])) (jq qX3_setToScene 11 rfl) (jo_cv (y := mX3_append) rfl (Nat.le_of_ble_eq_true rfl) rfl (Nat.le_of_ble_eq_true rfl) b21 rfl r8 jo_ret)) ?_
        refine Eq.trans (jb_nx (i := .aload_n 0) (n := 1) (q := (21, [some (.ref p0), some (.ref p1), some (.ref p2)], [.ref p0])) (jq qX3_setToScene 12 rfl) rfl) ?_
        refine Eq.trans (jb_nx (i := .aload_n 2) (n := 1) (q := (22, [some (.ref p0), some (.ref p1), some (.ref p2)], [.ref p2, .ref p0])) (jq qX3_setToScene 13 rfl) rfl) ?_
        refine Eq.trans (jb_nx (i := .iconst 0) (n := 1) (q := (23, [some (.ref p0), some (.ref p1), some (.ref p2)], [.int 0, .ref p2, .ref p0])) (jq qX3_setToScene 14 rfl) rfl) ?_
        refine Eq.trans (jb_nx (i := .aload_n 2) (n := 1) (q := (24, [some (.ref p0), some (.ref p1), some (.ref p2)], [.ref p2, .int 0, .ref p2, .ref p0])) (jq qX3_setToScene 15 rfl) rfl) ?_
        obtain ⟨x9, e10, H⟩ := jbd H
        refine Eq.trans (jb_nx (i := .getfield 25) (n := 3) (q := (27, [some (.ref p0), some (.ref p1), some (.ref p2)], [.int x9, .int 0, .ref p2, .ref p0])) (jq qX3_setToScene 16 rfl) (jo_gf rfl (jr_I_inv e10))) ?_
        obtain ⟨b18, H⟩ := jm_O_inv H
        rcases jcV H with ⟨h11, r12, H⟩ | ⟨w19, h20, r12, H⟩
        · refine Eq.trans (jb_nx (i := .invokevirtual 59) (n := 3) (q := (30, [some (.ref p0), some (.ref p1), some (.ref p2)], [])) (jq qX3_setToScene 17 rfl) (jo_cv (y := mX3_append) rfl (Nat.le_of_ble_eq_true rfl) rfl (Nat.le_of_ble_eq_true rfl) b18 rfl r12 jo_ret)) ?_
          refine Eq.trans (jb_nx (i := .aload_n 0) (n := 1) (q := (31, [some (.ref p0), some (.ref p1), some (.ref p2)], [.ref p0])) (jq qX3_setToScene 18 rfl) rfl) ?_
          obtain ⟨b15, H⟩ := jm_O_inv H
          rcases jcV H with ⟨h13, r14, H⟩ | ⟨w16, h17, r14, H⟩
          · refine Eq.trans (jb_nx (i := .invokevirtual 63) (n := 3) (q := (34, [some (.ref p0), some (.ref p1), some (.ref p2)], [])) (jq qX3_setToScene 19 rfl) (jo_cv (y := mX3_link) rfl (Nat.le_of_ble_eq_true rfl) rfl (Nat.le_of_ble_eq_true rfl) b15 rfl r14 jo_ret)) ?_
            exact Eq.trans (jb_rt (i := .return_) (n := 1) (jq qX3_setToScene 20 rfl) rfl) H
          · exact Eq.trans (jb_rt (i := .invokevirtual 63) (n := 3) (jq qX3_setToScene 19 rfl) (jo_cv (y := mX3_link) rfl (Nat.le_of_ble_eq_true rfl) rfl (Nat.le_of_ble_eq_true rfl) b15 rfl r14 (jo_exn rfl))) H
        · exact Eq.trans (jb_rt (i := .invokevirtual 59) (n := 3) (jq qX3_setToScene 17 rfl) (jo_cv (y := mX3_append) rfl (Nat.le_of_ble_eq_true rfl) rfl (Nat.le_of_ble_eq_true rfl) b18 rfl r12 (jo_exn rfl))) H
      · exact Eq.trans (jb_rt (i := .invokevirtual 59) (n := 3) (jq qX3_setToScene 11 rfl) (jo_cv (y := mX3_append) rfl (Nat.le_of_ble_eq_true rfl) rfl (Nat.le_of_ble_eq_true rfl) b21 rfl r8 (jo_exn rfl))) H
    · exact Eq.trans (jb_rt (i := .invokevirtual 37) (n := 3) (jq qX3_setToScene 5 rfl) (jo_cv (y := mX3_add) rfl (Nat.le_of_ble_eq_true rfl) rfl (Nat.le_of_ble_eq_true rfl) b24 rfl r4 (jo_exn rfl))) H
  · exact Eq.trans (jb_rt (i := .invokevirtual 56) (n := 3) (jq qX3_setToScene 1 rfl) (jo_cv (y := mX3_clear) rfl (Nat.le_of_ble_eq_true rfl) rfl (Nat.le_of_ble_eq_true rfl) b27 rfl r2 (jo_exn rfl))) H
