/-! ===== LEVEL 2: X6 ===== -/
/-! MaskPlays$Telling <init> (LMaskPlays$Tokens;LMaskPlays$Book;)V -/
def tX6_init : List (Nat × Instr × Nat) := [(0, .aload_n 0, 1), (1, .invokespecial 3, 3), (4, .aload_n 0, 1), (5, .bipush 8, 2), (7, .newarray .long, 2), (9, .putfield 9, 3), (12, .aload_n 0, 1), (13, .aload_n 1, 1), (14, .putfield 15, 3), (17, .aload_n 0, 1), (18, .aload_n 2, 1), (19, .putfield 19, 3), (22, .return_, 1)]
set_option maxRecDepth 100000 in
theorem qX6_init : ∀ q ∈ tX6_init, decode cX6_init q.1 = .ok (q.2.1, q.2.2) := by decide +kernel
theorem gX6_init {d : Nat} {p0 : Nat} {p1 : Nat} {p2 : Nat} {h : jm_H} {r : jm_R} (H : (jm_U p0 (jl_newa h 1 8 fun a2 h3 => (jm_pf h3 p0 6 1 2 (.ref a2)).bind fun h6 => (jm_pf h6 p0 6 0 2 (.ref p1)).bind fun h8 => (jm_pf h8 p0 6 4 2 (.ref p2)).bind fun h10 => some (.inl none, h10))) = some r) : jm_D (d + 1) mX6_init [.ref p0, .ref p1, .ref p2] h = some r := by
  rw [jm_D_body (Nat.le_of_ble_eq_true rfl)]
  show jm_B d mX6_init (0, [some (.ref p0), some (.ref p1), some (.ref p2)], []) h = some r
  refine Eq.trans (jb_nx (i := .aload_n 0) (n := 1) (q := (1, [some (.ref p0), some (.ref p1), some (.ref p2)], [.ref p0])) (jq qX6_init 0 rfl) rfl) ?_
  obtain ⟨u1, H⟩ := jm_U_inv H
  refine Eq.trans (jb_nx (i := .invokespecial 3) (n := 3) (q := (4, [some (.ref p0), some (.ref p1), some (.ref p2)], [])) (jq qX6_init 1 rfl) (jo_oi (z := mX3_clear) rfl (Nat.le_of_ble_eq_true rfl) u1)) ?_
  refine Eq.trans (jb_nx (i := .aload_n 0) (n := 1) (q := (5, [some (.ref p0), some (.ref p1), some (.ref p2)], [.ref p0])) (jq qX6_init 2 rfl) rfl) ?_
  refine Eq.trans (jb_nx (i := .bipush 8) (n := 2) (q := (7, [some (.ref p0), some (.ref p1), some (.ref p2)], [.int 8, .ref p0])) (jq qX6_init 3 rfl) rfl) ?_
  obtain ⟨a2, h3, e4, e5, H⟩ := jl_newa_inv H
  refine Eq.trans (jb_nx (i := .newarray .long) (n := 2) (q := (9, [some (.ref p0), some (.ref p1), some (.ref p2)], [.ref a2, .ref p0])) (jq qX6_init 4 rfl) (jo_newb rfl e4 e5)) ?_
  obtain ⟨h6, e7, H⟩ := jbd H
  refine Eq.trans (jb_nx (i := .putfield 9) (n := 3) (q := (12, [some (.ref p0), some (.ref p1), some (.ref p2)], [])) (jq qX6_init 5 rfl) (jo_pf rfl (Or.inr ⟨rfl, rfl⟩) e7)) ?_
  refine Eq.trans (jb_nx (i := .aload_n 0) (n := 1) (q := (13, [some (.ref p0), some (.ref p1), some (.ref p2)], [.ref p0])) (jq qX6_init 6 rfl) rfl) ?_
  refine Eq.trans (jb_nx (i := .aload_n 1) (n := 1) (q := (14, [some (.ref p0), some (.ref p1), some (.ref p2)], [.ref p1, .ref p0])) (jq qX6_init 7 rfl) rfl) ?_
  obtain ⟨h8, e9, H⟩ := jbd H
  refine Eq.trans (jb_nx (i := .putfield 15) (n := 3) (q := (17, [some (.ref p0), some (.ref p1), some (.ref p2)], [])) (jq qX6_init 8 rfl) (jo_pf rfl (Or.inr ⟨rfl, rfl⟩) e9)) ?_
  refine Eq.trans (jb_nx (i := .aload_n 0) (n := 1) (q := (18, [some (.ref p0), some (.ref p1), some (.ref p2)], [.ref p0])) (jq qX6_init 9 rfl) rfl) ?_
  refine Eq.trans (jb_nx (i := .aload_n 2) (n := 1) (q := (19, [some (.ref p0), some (.ref p1), some (.ref p2)], [.ref p2, .ref p0])) (jq qX6_init 10 rfl) rfl) ?_
  obtain ⟨h10, e11, H⟩ := jbd H
  refine Eq.trans (jb_nx (i := .putfield 19) (n := 3) (q := (22, [some (.ref p0), some (.ref p1), some (.ref p2)], [])) (jq qX6_init 11 rfl) (jo_pf rfl (Or.inl rfl) e11)) ?_
  exact Eq.trans (jb_rt (i := .return_) (n := 1) (jq qX6_init 12 rfl) rfl) H
/-! MaskPlays$Telling firstError (LMaskPlays$Book;)I -/
def tX6_firstError : List (Nat × Instr × Nat) := [(0, .aload_n 0, 1), (1, .aload_n 1, 1), (2, .putfield 19, 3), (5, .aload_n 0, 1), (6, .iconst 0, 1), (7, .putfield 23, 3), (10, .iconst 0, 1), (11, .istore_n 2, 1), (12, .iload_n 2, 1), (13, .sipush 400, 3), (16, .if_icmp .ge 36, 3), (19, .aload_n 0, 1), (20, .getfield 15, 3), (23, .aload_n 0, 1), (24, .getfield 23, 3), (27, .invokevirtual 27, 3), (30, .bipush 37, 2), (32, .if_icmp .eq 20, 3), (35, .aload_n 0, 1), (36, .invokevirtual 33, 3), (39, .istore_n 3, 1), (40, .iload_n 3, 1), (41, .ifCond .eq 5, 3), (44, .iload_n 3, 1), (45, .ireturn, 1), (46, .iinc 2 1, 3), (49, .goto (-37), 3), (52, .aload_n 0, 1), (53, .getfield 19, 3), (56, .aload_n 0, 1), (57, .getfield 15, 3), (60, .invokevirtual 37, 3), (63, .iconst 0, 1), (64, .ireturn, 1)]
set_option maxRecDepth 100000 in
theorem qX6_firstError : ∀ q ∈ tX6_firstError, decode cX6_firstError q.1 = .ok (q.2.1, q.2.2) := by decide +kernel
noncomputable def kX6_firstError_12 (d : Nat) (p0 : Nat) (o1 : Option Value) (i2 : Int32) (o3 : Option Value) (h : jm_H) : Option jm_R := jm_B d mX6_firstError (12, [some (.ref p0), o1, some (.int i2), o3], []) h
theorem gX6_firstError_12 {d : Nat} {p0 : Nat} {o1 : Option Value} {i2 : Int32} {o3 : Option Value} {h : jm_H} {r : jm_R} (H : ((if i2 < 400 then (jr_R h p0 6 0 2).bind fun a15 => (jr_I h p0 6 5 0).bind fun x17 => jm_O h a15 9 (jc_I (jm_D d mX9_kindAt [.ref a15, .int x17] h) (fun x21 h19 => (if x21 = 37 then (jr_R h19 p0 6 4 2).bind fun a23 => (jr_R h19 p0 6 0 2).bind fun a25 => jm_O h19 a23 0 (jc_V (jm_D d mX0_lookUpPlays [.ref a23, .ref a25] h19) (fun h27 => some (.inl (some (.int 0)), h27)) jx) else jm_O h19 p0 6 (jc_I (jm_D d mX6_line [.ref p0] h19) (fun x34 h32 => (if x34 = 0 then kX6_firstError_12 d p0 (jm_dm o1) (i2 + 1) (some (.int x34)) h32 else some (.inl (some (.int x34)), h32))) jx))) jx) else (jr_R h p0 6 4 2).bind fun a6 => (jr_R h p0 6 0 2).bind fun a8 => jm_O h a6 0 (jc_V (jm_D d mX0_lookUpPlays [.ref a6, .ref a8] h) (fun h10 => some (.inl (some (.int 0)), h10)) jx))) = some r) : kX6_firstError_12 d p0 o1 i2 o3 h = some r := by
  show jm_B d mX6_firstError (12, [some (.ref p0), o1, some (.int i2), o3], []) h = some r
  refine Eq.trans (jb_nx (i := .iload_n 2) (n := 1) (q := (13, [some (.ref p0), o1, some (.int i2), o3], [.int i2])) (jq qX6_firstError 8 rfl) rfl) ?_
  refine Eq.trans (jb_nx (i := .sipush 400) (n := 3) (q := (16, [some (.ref p0), o1, some (.int i2), o3], [.int 400, .int i2])) (jq qX6_firstError 9 rfl) rfl) ?_
  by_cases c5 : i2 < 400
  · rw [if_pos c5] at H
    refine Eq.trans (jb_nx (i := .if_icmp .ge 36) (n := 3) (q := (19, [some (.ref p0), o1, some (.int i2), o3], [])) (jq qX6_firstError 10 rfl) (jo_icF (jz_geF c5))) ?_
    refine Eq.trans (jb_nx (i := .aload_n 0) (n := 1) (q := (20, [some (.ref p0), o1, some (.int i2), o3], [.ref p0])) (jq qX6_firstError 11 rfl) rfl) ?_
    obtain ⟨a15, e16, H⟩ := jbd H
    refine Eq.trans (jb_nx (i := .getfield 15) (n := 3) (q := (23, [some (.ref p0), o1, some (.int i2), o3], [.ref a15])) (jq qX6_firstError 12 rfl) (jo_gf rfl (jr_R_inv e16))) ?_
    refine Eq.trans (jb_nx (i := .aload_n 0) (n := 1) (q := (24, [some (.ref p0), o1, some (.int i2), o3], [.ref p0, .ref a15])) (jq qX6_firstError 13 rfl) rfl) ?_
    obtain ⟨x17, e18, H⟩ := jbd H
    refine Eq.trans (jb_nx (i := .getfield 23) (n := 3) (q := (27, [some (.ref p0), o1, some (.int i2), o3], [.int x17, .ref a15])) (jq qX6_firstError 14 rfl) (jo_gf rfl (jr_I_inv e18))) ?_
    obtain ⟨b39, H⟩ := jm_O_inv H
    rcases jcI H with ⟨x21, h19, r20, H⟩ | ⟨w40, h41, r20, H⟩
    · refine Eq.trans (jb_nx (i := .invokevirtual 27) (n := 3) (q := (30, [some (.ref p0), o1, some (.int i2), o3], [.int x21])) (jq qX6_firstError 15 rfl) (jo_cv (y := mX9_kindAt) rfl (Nat.le_of_ble_eq_true rfl) rfl (Nat.le_of_ble_eq_true rfl) b39 rfl r20 jo_ret)) ?_
      refine Eq.trans (jb_nx (i := .bipush 37) (n := 2) (q := (32, [some (.ref p0), o1, some (.int i2), o3], [.int 37, .int x21])) (jq qX6_firstError 16 rfl) rfl) ?_
      by_cases c22 : x21 = 37
      · rw [if_pos c22] at H
        refine Eq.trans (jb_nx (i := .if_icmp .eq 20) (n := 3) (q := (52, [some (.ref p0), o1, some (.int i2), o3], [])) (jq qX6_firstError 17 rfl) (jo_icT (jz_eqT c22) rfl)) ?_
        refine Eq.trans (jb_nx (i := .aload_n 0) (n := 1) (q := (53, [some (.ref p0), o1, some (.int i2), o3], [.ref p0])) (jq qX6_firstError 27 rfl) rfl) ?_
        obtain ⟨a23, e24, H⟩ := jbd H
        refine Eq.trans (jb_nx (i := .getfield 19) (n := 3) (q := (56, [some (.ref p0), o1, some (.int i2), o3], [.ref a23])) (jq qX6_firstError 28 rfl) (jo_gf rfl (jr_R_inv e24))) ?_
        refine Eq.trans (jb_nx (i := .aload_n 0) (n := 1) (q := (57, [some (.ref p0), o1, some (.int i2), o3], [.ref p0, .ref a23])) (jq qX6_firstError 29 rfl) rfl) ?_
        obtain ⟨a25, e26, H⟩ := jbd H
        refine Eq.trans (jb_nx (i := .getfield 15) (n := 3) (q := (60, [some (.ref p0), o1, some (.int i2), o3], [.ref a25, .ref a23])) (jq qX6_firstError 30 rfl) (jo_gf rfl (jr_R_inv e26))) ?_
        obtain ⟨b29, H⟩ := jm_O_inv H
        rcases jcV H with ⟨h27, r28, H⟩ | ⟨w30, h31, r28, H⟩
        · refine Eq.trans (jb_nx (i := .invokevirtual 37) (n := 3) (q := (63, [some (.ref p0), o1, some (.int i2), o3], [])) (jq qX6_firstError 31 rfl) (jo_cv (y := mX0_lookUpPlays) rfl (Nat.le_of_ble_eq_true rfl) rfl (Nat.le_of_ble_eq_true rfl) b29 rfl r28 jo_ret)) ?_
          refine Eq.trans (jb_nx (i := .iconst 0) (n := 1) (q := (64, [some (.ref p0), o1, some (.int i2), o3], [.int 0])) (jq qX6_firstError 32 rfl) rfl) ?_
          exact Eq.trans (jb_rt (i := .ireturn) (n := 1) (jq qX6_firstError 33 rfl) (jo_iret rfl rfl)) H
        · exact Eq.trans (jb_rt (i := .invokevirtual 37) (n := 3) (jq qX6_firstError 31 rfl) (jo_cv (y := mX0_lookUpPlays) rfl (Nat.le_of_ble_eq_true rfl) rfl (Nat.le_of_ble_eq_true rfl) b29 rfl r28 (jo_exn rfl))) H
      · rw [if_neg c22] at H
        refine Eq.trans (jb_nx (i := .if_icmp .eq 20) (n := 3) (q := (35, [some (.ref p0), o1, some (.int i2), o3], [])) (jq qX6_firstError 17 rfl) (jo_icF (jz_eqF c22))) ?_
        refine Eq.trans (jb_nx (i := .aload_n 0) (n := 1) (q := (36, [some (.ref p0), o1, some (.int i2), o3], [.ref p0])) (jq qX6_firstError 18 rfl) rfl) ?_
        obtain ⟨b36, H⟩ := jm_O_inv H
        rcases jcI H with ⟨x34, h32, r33, H⟩ | ⟨w37, h38, r33, H⟩
        · refine Eq.trans (jb_nx (i := .invokevirtual 33) (n := 3) (q := (39, [some (.ref p0), o1, some (.int i2), o3], [.int x34])) (jq qX6_firstError 19 rfl) (jo_cv (y := mX6_line) rfl (Nat.le_of_ble_eq_true rfl) rfl (Nat.le_of_ble_eq_true rfl) b36 rfl r33 jo_ret)) ?_
          refine Eq.trans (jb_nx (i := .istore_n 3) (n := 1) (q := (40, [some (.ref p0), o1, some (.int i2), some (.int x34)], [])) (jq qX6_firstError 20 rfl) rfl) ?_
          refine Eq.trans (jb_nx (i := .iload_n 3) (n := 1) (q := (41, [some (.ref p0), o1, some (.int i2), some (.int x34)], [.int x34])) (jq qX6_firstError 21 rfl) rfl) ?_
          by_cases c35 : x34 = 0
          · rw [if_pos c35] at H
            refine Eq.trans (jb_nx (i := .ifCond .eq 5) (n := 3) (q := (46, [some (.ref p0), o1, some (.int i2), some (.int x34)], [])) (jq qX6_firstError 22 rfl) (jo_ifT (jz_eqT c35) rfl)) ?_
            refine Eq.trans (jb_nx (i := .iinc 2 1) (n := 3) (q := (49, [some (.ref p0), (jm_dm o1), some (.int (i2 + 1)), some (.int x34)], [])) (jq qX6_firstError 25 rfl) rfl) ?_
            refine Eq.trans (jb_nx (i := .goto (-37)) (n := 3) (q := (12, [some (.ref p0), (jm_dm o1), some (.int (i2 + 1)), some (.int x34)], [])) (jq qX6_firstError 26 rfl) rfl) ?_
            exact H
          · rw [if_neg c35] at H
            refine Eq.trans (jb_nx (i := .ifCond .eq 5) (n := 3) (q := (44, [some (.ref p0), o1, some (.int i2), some (.int x34)], [])) (jq qX6_firstError 22 rfl) (jo_ifF (jz_eqF c35))) ?_
            refine Eq.trans (jb_nx (i := .iload_n 3) (n := 1) (q := (45, [some (.ref p0), o1, some (.int i2), some (.int x34)], [.int x34])) (jq qX6_firstError 23 rfl) rfl) ?_
            exact Eq.trans (jb_rt (i := .ireturn) (n := 1) (jq qX6_firstError 24 rfl) (jo_iret rfl rfl)) H
        · exact Eq.trans (jb_rt (i := .invokevirtual 33) (n := 3) (jq qX6_firstError 19 rfl) (jo_cv (y := mX6_line) rfl (Nat.le_of_ble_eq_true rfl) rfl (Nat.le_of_ble_eq_true rfl) b36 rfl r33 (jo_exn rfl))) H
    · exact Eq.trans (jb_rt (i := .invokevirtual 27) (n := 3) (jq qX6_firstError 15 rfl) (jo_cv (y := mX9_kindAt) rfl (Nat.le_of_ble_eq_true rfl) rfl (Nat.le_of_ble_eq_true rfl) b39 rfl r20 (jo_exn rfl))) H
  · rw [if_neg c5] at H
    refine Eq.trans (jb_nx (i := .if_icmp .ge 36) (n := 3) (q := (52, [some (.ref p0), o1, some (.int i2), o3], [])) (jq qX6_firstError 10 rfl) (jo_icT (jz_geT c5) rfl)) ?_
    refine Eq.trans (jb_nx (i := .aload_n 0) (n := 1) (q := (53, [some (.ref p0), o1, some (.int i2), o3], [.ref p0])) (jq qX6_firstError 27 rfl) rfl) ?_
    obtain ⟨a6, e7, H⟩ := jbd H
    refine Eq.trans (jb_nx (i := .getfield 19) (n := 3) (q := (56, [some (.ref p0), o1, some (.int i2), o3], [.ref a6])) (jq qX6_firstError 28 rfl) (jo_gf rfl (jr_R_inv e7))) ?_
    refine Eq.trans (jb_nx (i := .aload_n 0) (n := 1) (q := (57, [some (.ref p0), o1, some (.int i2), o3], [.ref p0, .ref a6])) (jq qX6_firstError 29 rfl) rfl) ?_
    obtain ⟨a8, e9, H⟩ := jbd H
    refine Eq.trans (jb_nx (i := .getfield 15) (n := 3) (q := (60, [some (.ref p0), o1, some (.int i2), o3], [.ref a8, .ref a6])) (jq qX6_firstError 30 rfl) (jo_gf rfl (jr_R_inv e9))) ?_
    obtain ⟨b12, H⟩ := jm_O_inv H
    rcases jcV H with ⟨h10, r11, H⟩ | ⟨w13, h14, r11, H⟩
    · refine Eq.trans (jb_nx (i := .invokevirtual 37) (n := 3) (q := (63, [some (.ref p0), o1, some (.int i2), o3], [])) (jq qX6_firstError 31 rfl) (jo_cv (y := mX0_lookUpPlays) rfl (Nat.le_of_ble_eq_true rfl) rfl (Nat.le_of_ble_eq_true rfl) b12 rfl r11 jo_ret)) ?_
      refine Eq.trans (jb_nx (i := .iconst 0) (n := 1) (q := (64, [some (.ref p0), o1, some (.int i2), o3], [.int 0])) (jq qX6_firstError 32 rfl) rfl) ?_
      exact Eq.trans (jb_rt (i := .ireturn) (n := 1) (jq qX6_firstError 33 rfl) (jo_iret rfl rfl)) H
    · exact Eq.trans (jb_rt (i := .invokevirtual 37) (n := 3) (jq qX6_firstError 31 rfl) (jo_cv (y := mX0_lookUpPlays) rfl (Nat.le_of_ble_eq_true rfl) rfl (Nat.le_of_ble_eq_true rfl) b12 rfl r11 (jo_exn rfl))) H
theorem gX6_firstError {d : Nat} {p0 : Nat} {p1 : Nat} {h : jm_H} {r : jm_R} (H : ((jm_pf h p0 6 4 2 (.ref p1)).bind fun h1 => (jm_pf h1 p0 6 5 0 (.int 0)).bind fun h3 => kX6_firstError_12 d p0 (some (.ref p1)) 0 none h3) = some r) : jm_D (d + 1) mX6_firstError [.ref p0, .ref p1] h = some r := by
  rw [jm_D_body (Nat.le_of_ble_eq_true rfl)]
  show jm_B d mX6_firstError (0, [some (.ref p0), some (.ref p1), none, none], []) h = some r
  refine Eq.trans (jb_nx (i := .aload_n 0) (n := 1) (q := (1, [some (.ref p0), some (.ref p1), none, none], [.ref p0])) (jq qX6_firstError 0 rfl) rfl) ?_
  refine Eq.trans (jb_nx (i := .aload_n 1) (n := 1) (q := (2, [some (.ref p0), some (.ref p1), none, none], [.ref p1, .ref p0])) (jq qX6_firstError 1 rfl) rfl) ?_
  obtain ⟨h1, e2, H⟩ := jbd H
  refine Eq.trans (jb_nx (i := .putfield 19) (n := 3) (q := (5, [some (.ref p0), some (.ref p1), none, none], [])) (jq qX6_firstError 2 rfl) (jo_pf rfl (Or.inl rfl) e2)) ?_
  refine Eq.trans (jb_nx (i := .aload_n 0) (n := 1) (q := (6, [some (.ref p0), some (.ref p1), none, none], [.ref p0])) (jq qX6_firstError 3 rfl) rfl) ?_
  refine Eq.trans (jb_nx (i := .iconst 0) (n := 1) (q := (7, [some (.ref p0), some (.ref p1), none, none], [.int 0, .ref p0])) (jq qX6_firstError 4 rfl) rfl) ?_
  obtain ⟨h3, e4, H⟩ := jbd H
  refine Eq.trans (jb_nx (i := .putfield 23) (n := 3) (q := (10, [some (.ref p0), some (.ref p1), none, none], [])) (jq qX6_firstError 5 rfl) (jo_pf rfl (Or.inl rfl) e4)) ?_
  refine Eq.trans (jb_nx (i := .iconst 0) (n := 1) (q := (11, [some (.ref p0), some (.ref p1), none, none], [.int 0])) (jq qX6_firstError 6 rfl) rfl) ?_
  refine Eq.trans (jb_nx (i := .istore_n 2) (n := 1) (q := (12, [some (.ref p0), some (.ref p1), some (.int 0), none], [])) (jq qX6_firstError 7 rfl) rfl) ?_
  exact H
/-! MaskPlays$Telling line ()I -/
def tX6_line : List (Nat × Instr × Nat) := [(0, .aload_n 0, 1), (1, .getfield 15, 3), (4, .aload_n 0, 1), (5, .getfield 23, 3), (8, .invokevirtual 27, 3), (11, .istore_n 1, 1), (12, .iload_n 1, 1), (13, .ifCond .ne 8, 3), (16, .aload_n 0, 1), (17, .invokevirtual 43, 3), (20, .ireturn, 1), (21, .iload_n 1, 1), (22, .iconst 1, 1), (23, .if_icmp .ne 10, 3), (26, .aload_n 0, 1), (27, .invokevirtual 46, 3), (30, .goto 8, 3), (33, .aload_n 0, 1), (34, .iload_n 1, 1), (35, .invokevirtual 49, 3), (38, .ireturn, 1)]
set_option maxRecDepth 100000 in
theorem qX6_line : ∀ q ∈ tX6_line, decode cX6_line q.1 = .ok (q.2.1, q.2.2) := by decide +kernel
theorem gX6_line {d : Nat} {p0 : Nat} {h : jm_H} {r : jm_R} (H : ((jr_R h p0 6 0 2).bind fun a1 => (jr_I h p0 6 5 0).bind fun x3 => jm_O h a1 9 (jc_I (jm_D d mX9_kindAt [.ref a1, .int x3] h) (fun x7 h5 => (if x7 = 0 then jm_O h5 p0 6 (jc_I (jm_D d mX6_actor [.ref p0] h5) (fun x24 h22 => some (.inl (some (.int x24)), h22)) jx) else (if x7 = 1 then jm_O h5 p0 6 (jc_I (jm_D d mX6_play [.ref p0] h5) (fun x18 h16 => some (.inl (some (.int x18)), h16)) jx) else jm_O h5 p0 6 (jc_I (jm_D d mX6_note [.ref p0, .int x7] h5) (fun x12 h10 => some (.inl (some (.int x12)), h10)) jx)))) jx)) = some r) : jm_D (d + 1) mX6_line [.ref p0] h = some r := by
  rw [jm_D_body (Nat.le_of_ble_eq_true rfl)]
  show jm_B d mX6_line (0, [some (.ref p0), none], []) h = some r
  refine Eq.trans (jb_nx (i := .aload_n 0) (n := 1) (q := (1, [some (.ref p0), none], [.ref p0])) (jq qX6_line 0 rfl) rfl) ?_
  obtain ⟨a1, e2, H⟩ := jbd H
  refine Eq.trans (jb_nx (i := .getfield 15) (n := 3) (q := (4, [some (.ref p0), none], [.ref a1])) (jq qX6_line 1 rfl) (jo_gf rfl (jr_R_inv e2))) ?_
  refine Eq.trans (jb_nx (i := .aload_n 0) (n := 1) (q := (5, [some (.ref p0), none], [.ref p0, .ref a1])) (jq qX6_line 2 rfl) rfl) ?_
  obtain ⟨x3, e4, H⟩ := jbd H
  refine Eq.trans (jb_nx (i := .getfield 23) (n := 3) (q := (8, [some (.ref p0), none], [.int x3, .ref a1])) (jq qX6_line 3 rfl) (jo_gf rfl (jr_I_inv e4))) ?_
  obtain ⟨b28, H⟩ := jm_O_inv H
  rcases jcI H with ⟨x7, h5, r6, H⟩ | ⟨w29, h30, r6, H⟩
  · refine Eq.trans (jb_nx (i := .invokevirtual 27) (n := 3) (q := (11, [some (.ref p0), none], [.int x7])) (jq qX6_line 4 rfl) (jo_cv (y := mX9_kindAt) rfl (Nat.le_of_ble_eq_true rfl) rfl (Nat.le_of_ble_eq_true rfl) b28 rfl r6 jo_ret)) ?_
    refine Eq.trans (jb_nx (i := .istore_n 1) (n := 1) (q := (12, [some (.ref p0), some (.int x7)], [])) (jq qX6_line 5 rfl) rfl) ?_
    refine Eq.trans (jb_nx (i := .iload_n 1) (n := 1) (q := (13, [some (.ref p0), some (.int x7)], [.int x7])) (jq qX6_line 6 rfl) rfl) ?_
    by_cases c8 : x7 = 0
    · rw [if_pos c8] at H
      refine Eq.trans (jb_nx (i := .ifCond .ne 8) (n := 3) (q := (16, [some (.ref p0), some (.int x7)], [])) (jq qX6_line 7 rfl) (jo_ifF (jz_neF c8))) ?_
      refine Eq.trans (jb_nx (i := .aload_n 0) (n := 1) (q := (17, [some (.ref p0), some (.int x7)], [.ref p0])) (jq qX6_line 8 rfl) rfl) ?_
      obtain ⟨b25, H⟩ := jm_O_inv H
      rcases jcI H with ⟨x24, h22, r23, H⟩ | ⟨w26, h27, r23, H⟩
      · refine Eq.trans (jb_nx (i := .invokevirtual 43) (n := 3) (q := (20, [some (.ref p0), some (.int x7)], [.int x24])) (jq qX6_line 9 rfl) (jo_cv (y := mX6_actor) rfl (Nat.le_of_ble_eq_true rfl) rfl (Nat.le_of_ble_eq_true rfl) b25 rfl r23 jo_ret)) ?_
        exact Eq.trans (jb_rt (i := .ireturn) (n := 1) (jq qX6_line 10 rfl) (jo_iret rfl rfl)) H
      · exact Eq.trans (jb_rt (i := .invokevirtual 43) (n := 3) (jq qX6_line 9 rfl) (jo_cv (y := mX6_actor) rfl (Nat.le_of_ble_eq_true rfl) rfl (Nat.le_of_ble_eq_true rfl) b25 rfl r23 (jo_exn rfl))) H
    · rw [if_neg c8] at H
      refine Eq.trans (jb_nx (i := .ifCond .ne 8) (n := 3) (q := (21, [some (.ref p0), some (.int x7)], [])) (jq qX6_line 7 rfl) (jo_ifT (jz_neT c8) rfl)) ?_
      refine Eq.trans (jb_nx (i := .iload_n 1) (n := 1) (q := (22, [some (.ref p0), some (.int x7)], [.int x7])) (jq qX6_line 11 rfl) rfl) ?_
      refine Eq.trans (jb_nx (i := .iconst 1) (n := 1) (q := (23, [some (.ref p0), some (.int x7)], [.int 1, .int x7])) (jq qX6_line 12 rfl) rfl) ?_
      by_cases c9 : x7 = 1
      · rw [if_pos c9] at H
        refine Eq.trans (jb_nx (i := .if_icmp .ne 10) (n := 3) (q := (26, [some (.ref p0), some (.int x7)], [])) (jq qX6_line 13 rfl) (jo_icF (jz_neF c9))) ?_
        refine Eq.trans (jb_nx (i := .aload_n 0) (n := 1) (q := (27, [some (.ref p0), some (.int x7)], [.ref p0])) (jq qX6_line 14 rfl) rfl) ?_
        obtain ⟨b19, H⟩ := jm_O_inv H
        rcases jcI H with ⟨x18, h16, r17, H⟩ | ⟨w20, h21, r17, H⟩
        · refine Eq.trans (jb_nx (i := .invokevirtual 46) (n := 3) (q := (30, [some (.ref p0), some (.int x7)], [.int x18])) (jq qX6_line 15 rfl) (jo_cv (y := mX6_play) rfl (Nat.le_of_ble_eq_true rfl) rfl (Nat.le_of_ble_eq_true rfl) b19 rfl r17 jo_ret)) ?_
          refine Eq.trans (jb_nx (i := .goto 8) (n := 3) (q := (38, [some (.ref p0), some (.int x7)], [.int x18])) (jq qX6_line 16 rfl) rfl) ?_
          exact Eq.trans (jb_rt (i := .ireturn) (n := 1) (jq qX6_line 20 rfl) (jo_iret rfl rfl)) H
        · exact Eq.trans (jb_rt (i := .invokevirtual 46) (n := 3) (jq qX6_line 15 rfl) (jo_cv (y := mX6_play) rfl (Nat.le_of_ble_eq_true rfl) rfl (Nat.le_of_ble_eq_true rfl) b19 rfl r17 (jo_exn rfl))) H
      · rw [if_neg c9] at H
        refine Eq.trans (jb_nx (i := .if_icmp .ne 10) (n := 3) (q := (33, [some (.ref p0), some (.int x7)], [])) (jq qX6_line 13 rfl) (jo_icT (jz_neT c9) rfl)) ?_
        refine Eq.trans (jb_nx (i := .aload_n 0) (n := 1) (q := (34, [some (.ref p0), some (.int x7)], [.ref p0])) (jq qX6_line 17 rfl) rfl) ?_
        refine Eq.trans (jb_nx (i := .iload_n 1) (n := 1) (q := (35, [some (.ref p0), some (.int x7)], [.int x7, .ref p0])) (jq qX6_line 18 rfl) rfl) ?_
        obtain ⟨b13, H⟩ := jm_O_inv H
        rcases jcI H with ⟨x12, h10, r11, H⟩ | ⟨w14, h15, r11, H⟩
        · refine Eq.trans (jb_nx (i := .invokevirtual 49) (n := 3) (q := (38, [some (.ref p0), some (.int x7)], [.int x12])) (jq qX6_line 19 rfl) (jo_cv (y := mX6_note) rfl (Nat.le_of_ble_eq_true rfl) rfl (Nat.le_of_ble_eq_true rfl) b13 rfl r11 jo_ret)) ?_
          exact Eq.trans (jb_rt (i := .ireturn) (n := 1) (jq qX6_line 20 rfl) (jo_iret rfl rfl)) H
        · exact Eq.trans (jb_rt (i := .invokevirtual 49) (n := 3) (jq qX6_line 19 rfl) (jo_cv (y := mX6_note) rfl (Nat.le_of_ble_eq_true rfl) rfl (Nat.le_of_ble_eq_true rfl) b13 rfl r11 (jo_exn rfl))) H
  · exact Eq.trans (jb_rt (i := .invokevirtual 27) (n := 3) (jq qX6_line 4 rfl) (jo_cv (y := mX9_kindAt) rfl (Nat.le_of_ble_eq_true rfl) rfl (Nat.le_of_ble_eq_true rfl) b28 rfl r6 (jo_exn rfl))) H
/-! MaskPlays$Telling actor ()I -/
def tX6_actor : List (Nat × Instr × Nat) := [(0, .aload_n 0, 1), (1, .dup, 1), (2, .getfield 23, 3), (5, .iconst 1, 1), (6, .iadd, 1), (7, .putfield 23, 3), (10, .aload_n 0, 1), (11, .getfield 15, 3), (14, .aload_n 0, 1), (15, .getfield 23, 3), (18, .invokevirtual 52, 3), (21, .lstore_n 1, 1), (22, .aload_n 0, 1), (23, .getfield 19, 3), (26, .lload_n 1, 1), (27, .invokevirtual 56, 3), (30, .ifCond .eq 5, 3), (33, .iconst 2, 1), (34, .ireturn, 1), (35, .aload_n 0, 1), (36, .getfield 19, 3), (39, .getfield 60, 3), (42, .bipush 8, 2), (44, .if_icmp .lt 5, 3), (47, .iconst 4, 1), (48, .ireturn, 1), (49, .aload_n 0, 1), (50, .getfield 19, 3), (53, .lload_n 1, 1), (54, .invokevirtual 63, 3), (57, .aload_n 0, 1), (58, .dup, 1), (59, .getfield 23, 3), (62, .iconst 2, 1), (63, .iadd, 1), (64, .putfield 23, 3), (67, .iconst 0, 1), (68, .ireturn, 1)]
set_option maxRecDepth 100000 in
theorem qX6_actor : ∀ q ∈ tX6_actor, decode cX6_actor q.1 = .ok (q.2.1, q.2.2) := by decide +kernel
theorem gX6_actor {d : Nat} {p0 : Nat} {h : jm_H} {r : jm_R} (H : ((jr_I h p0 6 5 0).bind fun x1 => (jm_pf h p0 6 5 0 (.int (x1 + 1))).bind fun h3 => (jr_R h3 p0 6 0 2).bind fun a5 => (jr_I h3 p0 6 5 0).bind fun x7 => jm_O h3 a5 9 (jc_L (jm_D d mX9_wordAt [.ref a5, .int x7] h3) (fun y11 h9 => (jr_R h9 p0 6 4 2).bind fun a12 => jm_O h9 a12 0 (jc_I (jm_D d mX0_knows [.ref a12, .long y11] h9) (fun x16 h14 => (if x16 = 0 then (jr_R h14 p0 6 4 2).bind fun a18 => (jr_I h14 a18 0 0 0).bind fun x20 => (if x20 < 8 then (jr_R h14 p0 6 4 2).bind fun a23 => jm_O h14 a23 0 (jc_V (jm_D d mX0_addActor [.ref a23, .long y11] h14) (fun h25 => (jr_I h25 p0 6 5 0).bind fun x27 => (jm_pf h25 p0 6 5 0 (.int (x27 + 2))).bind fun h29 => some (.inl (some (.int 0)), h29)) jx) else some (.inl (some (.int 4)), h14)) else some (.inl (some (.int 2)), h14))) jx)) jx)) = some r) : jm_D (d + 1) mX6_actor [.ref p0] h = some r := by
  rw [jm_D_body (Nat.le_of_ble_eq_true rfl)]
  show jm_B d mX6_actor (0, [some (.ref p0), none, none], []) h = some r
  refine Eq.trans (jb_nx (i := .aload_n 0) (n := 1) (q := (1, [some (.ref p0), none, none], [.ref p0])) (jq qX6_actor 0 rfl) rfl) ?_
  refine Eq.trans (jb_nx (i := .dup) (n := 1) (q := (2, [some (.ref p0), none, none], [.ref p0, .ref p0])) (jq qX6_actor 1 rfl) rfl) ?_
  obtain ⟨x1, e2, H⟩ := jbd H
  refine Eq.trans (jb_nx (i := .getfield 23) (n := 3) (q := (5, [some (.ref p0), none, none], [.int x1, .ref p0])) (jq qX6_actor 2 rfl) (jo_gf rfl (jr_I_inv e2))) ?_
  refine Eq.trans (jb_nx (i := .iconst 1) (n := 1) (q := (6, [some (.ref p0), none, none], [.int 1, .int x1, .ref p0])) (jq qX6_actor 3 rfl) rfl) ?_
  refine Eq.trans (jb_nx (i := .iadd) (n := 1) (q := (7, [some (.ref p0), none, none], [.int (x1 + 1), .ref p0])) (jq qX6_actor 4 rfl) rfl) ?_
  obtain ⟨h3, e4, H⟩ := jbd H
  refine Eq.trans (jb_nx (i := .putfield 23) (n := 3) (q := (10, [some (.ref p0), none, none], [])) (jq qX6_actor 5 rfl) (jo_pf rfl (Or.inl rfl) e4)) ?_
  refine Eq.trans (jb_nx (i := .aload_n 0) (n := 1) (q := (11, [some (.ref p0), none, none], [.ref p0])) (jq qX6_actor 6 rfl) rfl) ?_
  obtain ⟨a5, e6, H⟩ := jbd H
  refine Eq.trans (jb_nx (i := .getfield 15) (n := 3) (q := (14, [some (.ref p0), none, none], [.ref a5])) (jq qX6_actor 7 rfl) (jo_gf rfl (jr_R_inv e6))) ?_
  refine Eq.trans (jb_nx (i := .aload_n 0) (n := 1) (q := (15, [some (.ref p0), none, none], [.ref p0, .ref a5])) (jq qX6_actor 8 rfl) rfl) ?_
  obtain ⟨x7, e8, H⟩ := jbd H
  refine Eq.trans (jb_nx (i := .getfield 23) (n := 3) (q := (18, [some (.ref p0), none, none], [.int x7, .ref a5])) (jq qX6_actor 9 rfl) (jo_gf rfl (jr_I_inv e8))) ?_
  obtain ⟨b37, H⟩ := jm_O_inv H
  rcases jcL H with ⟨y11, h9, r10, H⟩ | ⟨w38, h39, r10, H⟩
  · refine Eq.trans (jb_nx (i := .invokevirtual 52) (n := 3) (q := (21, [some (.ref p0), none, none], [.long y11])) (jq qX6_actor 10 rfl) (jo_cv (y := mX9_wordAt) rfl (Nat.le_of_ble_eq_true rfl) rfl (Nat.le_of_ble_eq_true rfl) b37 rfl r10 jo_ret)) ?_
    refine Eq.trans (jb_nx (i := .lstore_n 1) (n := 1) (q := (22, [some (.ref p0), some (.long y11), none], [])) (jq qX6_actor 11 rfl) rfl) ?_
    refine Eq.trans (jb_nx (i := .aload_n 0) (n := 1) (q := (23, [some (.ref p0), some (.long y11), none], [.ref p0])) (jq qX6_actor 12 rfl) rfl) ?_
    obtain ⟨a12, e13, H⟩ := jbd H
    refine Eq.trans (jb_nx (i := .getfield 19) (n := 3) (q := (26, [some (.ref p0), some (.long y11), none], [.ref a12])) (jq qX6_actor 13 rfl) (jo_gf rfl (jr_R_inv e13))) ?_
    refine Eq.trans (jb_nx (i := .lload_n 1) (n := 1) (q := (27, [some (.ref p0), some (.long y11), none], [.long y11, .ref a12])) (jq qX6_actor 14 rfl) rfl) ?_
    obtain ⟨b34, H⟩ := jm_O_inv H
    rcases jcI H with ⟨x16, h14, r15, H⟩ | ⟨w35, h36, r15, H⟩
    · refine Eq.trans (jb_nx (i := .invokevirtual 56) (n := 3) (q := (30, [some (.ref p0), some (.long y11), none], [.int x16])) (jq qX6_actor 15 rfl) (jo_cv (y := mX0_knows) rfl (Nat.le_of_ble_eq_true rfl) rfl (Nat.le_of_ble_eq_true rfl) b34 rfl r15 jo_ret)) ?_
      by_cases c17 : x16 = 0
      · rw [if_pos c17] at H
        refine Eq.trans (jb_nx (i := .ifCond .eq 5) (n := 3) (q := (35, [some (.ref p0), some (.long y11), none], [])) (jq qX6_actor 16 rfl) (jo_ifT (jz_eqT c17) rfl)) ?_
        refine Eq.trans (jb_nx (i := .aload_n 0) (n := 1) (q := (36, [some (.ref p0), some (.long y11), none], [.ref p0])) (jq qX6_actor 19 rfl) rfl) ?_
        obtain ⟨a18, e19, H⟩ := jbd H
        refine Eq.trans (jb_nx (i := .getfield 19) (n := 3) (q := (39, [some (.ref p0), some (.long y11), none], [.ref a18])) (jq qX6_actor 20 rfl) (jo_gf rfl (jr_R_inv e19))) ?_
        obtain ⟨x20, e21, H⟩ := jbd H
        refine Eq.trans (jb_nx (i := .getfield 60) (n := 3) (q := (42, [some (.ref p0), some (.long y11), none], [.int x20])) (jq qX6_actor 21 rfl) (jo_gf rfl (jr_I_inv e21))) ?_
        refine Eq.trans (jb_nx (i := .bipush 8) (n := 2) (q := (44, [some (.ref p0), some (.long y11), none], [.int 8, .int x20])) (jq qX6_actor 22 rfl) rfl) ?_
        by_cases c22 : x20 < 8
        · rw [if_pos c22] at H
          refine Eq.trans (jb_nx (i := .if_icmp .lt 5) (n := 3) (q := (49, [some (.ref p0), some (.long y11), none], [])) (jq qX6_actor 23 rfl) (jo_icT (jz_ltT c22) rfl)) ?_
          refine Eq.trans (jb_nx (i := .aload_n 0) (n := 1) (q := (50, [some (.ref p0), some (.long y11), none], [.ref p0])) (jq qX6_actor 26 rfl) rfl) ?_
          obtain ⟨a23, e24, H⟩ := jbd H
          refine Eq.trans (jb_nx (i := .getfield 19) (n := 3) (q := (53, [some (.ref p0), some (.long y11), none], [.ref a23])) (jq qX6_actor 27 rfl) (jo_gf rfl (jr_R_inv e24))) ?_
          refine Eq.trans (jb_nx (i := .lload_n 1) (n := 1) (q := (54, [some (.ref p0), some (.long y11), none], [.long y11, .ref a23])) (jq qX6_actor 28 rfl) rfl) ?_
          obtain ⟨b31, H⟩ := jm_O_inv H
          rcases jcV H with ⟨h25, r26, H⟩ | ⟨w32, h33, r26, H⟩
          · refine Eq.trans (jb_nx (i := .invokevirtual 63) (n := 3) (q := (57, [some (.ref p0), some (.long y11), none], [])) (jq qX6_actor 29 rfl) (jo_cv (y := mX0_addActor) rfl (Nat.le_of_ble_eq_true rfl) rfl (Nat.le_of_ble_eq_true rfl) b31 rfl r26 jo_ret)) ?_
            refine Eq.trans (jb_nx (i := .aload_n 0) (n := 1) (q := (58, [some (.ref p0), some (.long y11), none], [.ref p0])) (jq qX6_actor 30 rfl) rfl) ?_
            refine Eq.trans (jb_nx (i := .dup) (n := 1) (q := (59, [some (.ref p0), some (.long y11), none], [.ref p0, .ref p0])) (jq qX6_actor 31 rfl) rfl) ?_
            obtain ⟨x27, e28, H⟩ := jbd H
            refine Eq.trans (jb_nx (i := .getfield 23) (n := 3) (q := (62, [some (.ref p0), some (.long y11), none], [.int x27, .ref p0])) (jq qX6_actor 32 rfl) (jo_gf rfl (jr_I_inv e28))) ?_
            refine Eq.trans (jb_nx (i := .iconst 2) (n := 1) (q := (63, [some (.ref p0), some (.long y11), none], [.int 2, .int x27, .ref p0])) (jq qX6_actor 33 rfl) rfl) ?_
            refine Eq.trans (jb_nx (i := .iadd) (n := 1) (q := (64, [some (.ref p0), some (.long y11), none], [.int (x27 + 2), .ref p0])) (jq qX6_actor 34 rfl) rfl) ?_
            obtain ⟨h29, e30, H⟩ := jbd H
            refine Eq.trans (jb_nx (i := .putfield 23) (n := 3) (q := (67, [some (.ref p0), some (.long y11), none], [])) (jq qX6_actor 35 rfl) (jo_pf rfl (Or.inl rfl) e30)) ?_
            refine Eq.trans (jb_nx (i := .iconst 0) (n := 1) (q := (68, [some (.ref p0), some (.long y11), none], [.int 0])) (jq qX6_actor 36 rfl) rfl) ?_
            exact Eq.trans (jb_rt (i := .ireturn) (n := 1) (jq qX6_actor 37 rfl) (jo_iret rfl rfl)) H
          · exact Eq.trans (jb_rt (i := .invokevirtual 63) (n := 3) (jq qX6_actor 29 rfl) (jo_cv (y := mX0_addActor) rfl (Nat.le_of_ble_eq_true rfl) rfl (Nat.le_of_ble_eq_true rfl) b31 rfl r26 (jo_exn rfl))) H
        · rw [if_neg c22] at H
          refine Eq.trans (jb_nx (i := .if_icmp .lt 5) (n := 3) (q := (47, [some (.ref p0), some (.long y11), none], [])) (jq qX6_actor 23 rfl) (jo_icF (jz_ltF c22))) ?_
          refine Eq.trans (jb_nx (i := .iconst 4) (n := 1) (q := (48, [some (.ref p0), some (.long y11), none], [.int 4])) (jq qX6_actor 24 rfl) rfl) ?_
          exact Eq.trans (jb_rt (i := .ireturn) (n := 1) (jq qX6_actor 25 rfl) (jo_iret rfl rfl)) H
      · rw [if_neg c17] at H
        refine Eq.trans (jb_nx (i := .ifCond .eq 5) (n := 3) (q := (33, [some (.ref p0), some (.long y11), none], [])) (jq qX6_actor 16 rfl) (jo_ifF (jz_eqF c17))) ?_
        refine Eq.trans (jb_nx (i := .iconst 2) (n := 1) (q := (34, [some (.ref p0), some (.long y11), none], [.int 2])) (jq qX6_actor 17 rfl) rfl) ?_
        exact Eq.trans (jb_rt (i := .ireturn) (n := 1) (jq qX6_actor 18 rfl) (jo_iret rfl rfl)) H
    · exact Eq.trans (jb_rt (i := .invokevirtual 56) (n := 3) (jq qX6_actor 15 rfl) (jo_cv (y := mX0_knows) rfl (Nat.le_of_ble_eq_true rfl) rfl (Nat.le_of_ble_eq_true rfl) b34 rfl r15 (jo_exn rfl))) H
  · exact Eq.trans (jb_rt (i := .invokevirtual 52) (n := 3) (jq qX6_actor 10 rfl) (jo_cv (y := mX9_wordAt) rfl (Nat.le_of_ble_eq_true rfl) rfl (Nat.le_of_ble_eq_true rfl) b37 rfl r10 (jo_exn rfl))) H
/-! MaskPlays$Telling play ()I -/
def tX6_play : List (Nat × Instr × Nat) := [(0, .aload_n 0, 1), (1, .dup, 1), (2, .getfield 23, 3), (5, .iconst 1, 1), (6, .iadd, 1), (7, .putfield 23, 3), (10, .aload_n 0, 1), (11, .getfield 15, 3), (14, .aload_n 0, 1), (15, .getfield 23, 3), (18, .invokevirtual 52, 3), (21, .lstore_n 1, 1), (22, .aload_n 0, 1), (23, .getfield 19, 3), (26, .lload_n 1, 1), (27, .invokevirtual 56, 3), (30, .ifCond .eq 5, 3), (33, .iconst 2, 1), (34, .ireturn, 1), (35, .aload_n 0, 1), (36, .getfield 19, 3), (39, .getfield 67, 3), (42, .bipush 12, 2), (44, .if_icmp .lt 5, 3), (47, .iconst 4, 1), (48, .ireturn, 1), (49, .aload_n 0, 1), (50, .dup, 1), (51, .getfield 23, 3), (54, .iconst 2, 1), (55, .iadd, 1), (56, .putfield 23, 3), (59, .aload_n 0, 1), (60, .getfield 19, 3), (63, .aload_n 0, 1), (64, .getfield 19, 3), (67, .getfield 67, 3), (70, .invokevirtual 70, 3), (73, .astore_n 3, 1), (74, .aload_n 3, 1), (75, .invokevirtual 74, 3), (78, .aload_n 0, 1), (79, .iconst 0, 1), (80, .putfield 79, 3), (83, .aload_n 0, 1), (84, .iconst 0, 1), (85, .putfield 82, 3), (88, .iconst 0, 1), (89, .istore 4, 2), (91, .iload 4, 2), (93, .sipush 400, 3), (96, .if_icmp .ge 50, 3), (99, .aload_n 0, 1), (100, .getfield 15, 3), (103, .aload_n 0, 1), (104, .getfield 23, 3), (107, .invokevirtual 27, 3), (110, .bipush 24, 2), (112, .if_icmp .eq 34, 3), (115, .aload_n 0, 1), (116, .aload_n 3, 1), (117, .invokevirtual 85, 3), (120, .istore 5, 2), (122, .iload 5, 2), (124, .ifCond .eq 6, 3), (127, .iload 5, 2), (129, .ireturn, 1), (130, .aload_n 0, 1), (131, .dup, 1), (132, .getfield 23, 3), (135, .iconst 1, 1), (136, .iadd, 1), (137, .putfield 23, 3), (140, .iinc 4 1, 3), (143, .goto (-52), 3), (146, .aload_n 0, 1), (147, .getfield 79, 3), (150, .sipush 150, 3), (153, .if_icmp .le 5, 3), (156, .iconst 5, 1), (157, .ireturn, 1), (158, .aload_n 3, 1), (159, .invokevirtual 89, 3), (162, .aload_n 0, 1), (163, .getfield 19, 3), (166, .lload_n 1, 1), (167, .invokevirtual 92, 3), (170, .aload_n 0, 1), (171, .dup, 1), (172, .getfield 23, 3), (175, .iconst 1, 1), (176, .iadd, 1), (177, .putfield 23, 3), (180, .iconst 0, 1), (181, .ireturn, 1)]
set_option maxRecDepth 100000 in
theorem qX6_play : ∀ q ∈ tX6_play, decode cX6_play q.1 = .ok (q.2.1, q.2.2) := by decide +kernel
noncomputable def kX6_play_91 (d : Nat) (p0 : Nat) (j1 : Int64) (p3 : Nat) (i4 : Int32) (o5 : Option Value) (h : jm_H) : Option jm_R := jm_B d mX6_play (91, [some (.ref p0), some (.long j1), none, some (.ref p3), some (.int i4), o5], []) h
noncomputable def kX6_play_146 (d : Nat) (p0 : Nat) (j1 : Int64) (p3 : Nat) (o4 : Option Value) (o5 : Option Value) (h : jm_H) : Option jm_R := jm_B d mX6_play (146, [some (.ref p0), some (.long j1), none, some (.ref p3), o4, o5], []) h
theorem gX6_play_91 {d : Nat} {p0 : Nat} {j1 : Int64} {p3 : Nat} {i4 : Int32} {o5 : Option Value} {h : jm_H} {r : jm_R} (H : ((if i4 < 400 then (jr_R h p0 6 0 2).bind fun a55 => (jr_I h p0 6 5 0).bind fun x57 => jm_O h a55 9 (jc_I (jm_D d mX9_kindAt [.ref a55, .int x57] h) (fun x61 h59 => (if x61 = 24 then kX6_play_146 d p0 j1 p3 (some (.int i4)) o5 h59 else jm_O h59 p0 6 (jc_I (jm_D d mX6_tokenOf [.ref p0, .ref p3] h59) (fun x65 h63 => (if x65 = 0 then (jr_I h63 p0 6 5 0).bind fun x67 => (jm_pf h63 p0 6 5 0 (.int (x67 + 1))).bind fun h69 => kX6_play_91 d p0 j1 p3 (i4 + 1) (some (.int x65)) h69 else some (.inl (some (.int x65)), h63))) jx))) jx) else kX6_play_146 d p0 j1 p3 (some (.int i4)) o5 h)) = some r) : kX6_play_91 d p0 j1 p3 i4 o5 h = some r := by
  show jm_B d mX6_play (91, [some (.ref p0), some (.long j1), none, some (.ref p3), some (.int i4), o5], []) h = some r
  refine Eq.trans (jb_nx (i := .iload 4) (n := 2) (q := (93, [some (.ref p0), some (.long j1), none, some (.ref p3), some (.int i4), o5], [.int i4])) (jq qX6_play 49 rfl) rfl) ?_
  refine Eq.trans (jb_nx (i := .sipush 400) (n := 3) (q := (96, [some (.ref p0), some (.long j1), none, some (.ref p3), some (.int i4), o5], [.int 400, .int i4])) (jq qX6_play 50 rfl) rfl) ?_
  by_cases c54 : i4 < 400
  · rw [if_pos c54] at H
    refine Eq.trans (jb_nx (i := .if_icmp .ge 50) (n := 3) (q := (99, [some (.ref p0), some (.long j1), none, some (.ref p3), some (.int i4), o5], [])) (jq qX6_play 51 rfl) (jo_icF (jz_geF c54))) ?_
    refine Eq.trans (jb_nx (i := .aload_n 0) (n := 1) (q := (100, [some (.ref p0), some (.long j1), none, some (.ref p3), some (.int i4), o5], [.ref p0])) (jq qX6_play 52 rfl) rfl) ?_
    obtain ⟨a55, e56, H⟩ := jbd H
    refine Eq.trans (jb_nx (i := .getfield 15) (n := 3) (q := (103, [some (.ref p0), some (.long j1), none, some (.ref p3), some (.int i4), o5], [.ref a55])) (jq qX6_play 53 rfl) (jo_gf rfl (jr_R_inv e56))) ?_
    refine Eq.trans (jb_nx (i := .aload_n 0) (n := 1) (q := (104, [some (.ref p0), some (.long j1), none, some (.ref p3), some (.int i4), o5], [.ref p0, .ref a55])) (jq qX6_play 54 rfl) rfl) ?_
    obtain ⟨x57, e58, H⟩ := jbd H
    refine Eq.trans (jb_nx (i := .getfield 23) (n := 3) (q := (107, [some (.ref p0), some (.long j1), none, some (.ref p3), some (.int i4), o5], [.int x57, .ref a55])) (jq qX6_play 55 rfl) (jo_gf rfl (jr_I_inv e58))) ?_
    obtain ⟨b74, H⟩ := jm_O_inv H
    rcases jcI H with ⟨x61, h59, r60, H⟩ | ⟨w75, h76, r60, H⟩
    · refine Eq.trans (jb_nx (i := .invokevirtual 27) (n := 3) (q := (110, [some (.ref p0), some (.long j1), none, some (.ref p3), some (.int i4), o5], [.int x61])) (jq qX6_play 56 rfl) (jo_cv (y := mX9_kindAt) rfl (Nat.le_of_ble_eq_true rfl) rfl (Nat.le_of_ble_eq_true rfl) b74 rfl r60 jo_ret)) ?_
      refine Eq.trans (jb_nx (i := .bipush 24) (n := 2) (q := (112, [some (.ref p0), some (.long j1), none, some (.ref p3), some (.int i4), o5], [.int 24, .int x61])) (jq qX6_play 57 rfl) rfl) ?_
      by_cases c62 : x61 = 24
      · rw [if_pos c62] at H
        refine Eq.trans (jb_nx (i := .if_icmp .eq 34) (n := 3) (q := (146, [some (.ref p0), some (.long j1), none, some (.ref p3), some (.int i4), o5], [])) (jq qX6_play 58 rfl) (jo_icT (jz_eqT c62) rfl)) ?_
        exact H
      · rw [if_neg c62] at H
        refine Eq.trans (jb_nx (i := .if_icmp .eq 34) (n := 3) (q := (115, [some (.ref p0), some (.long j1), none, some (.ref p3), some (.int i4), o5], [])) (jq qX6_play 58 rfl) (jo_icF (jz_eqF c62))) ?_
        refine Eq.trans (jb_nx (i := .aload_n 0) (n := 1) (q := (116, [some (.ref p0), some (.long j1), none, some (.ref p3), some (.int i4), o5], [.ref p0])) (jq qX6_play 59 rfl) rfl) ?_
        refine Eq.trans (jb_nx (i := .aload_n 3) (n := 1) (q := (117, [some (.ref p0), some (.long j1), none, some (.ref p3), some (.int i4), o5], [.ref p3, .ref p0])) (jq qX6_play 60 rfl) rfl) ?_
        obtain ⟨b71, H⟩ := jm_O_inv H
        rcases jcI H with ⟨x65, h63, r64, H⟩ | ⟨w72, h73, r64, H⟩
        · refine Eq.trans (jb_nx (i := .invokevirtual 85) (n := 3) (q := (120, [some (.ref p0), some (.long j1), none, some (.ref p3), some (.int i4), o5], [.int x65])) (jq qX6_play 61 rfl) (jo_cv (y := mX6_tokenOf) rfl (Nat.le_of_ble_eq_true rfl) rfl (Nat.le_of_ble_eq_true rfl) b71 rfl r64 jo_ret)) ?_
          refine Eq.trans (jb_nx (i := .istore 5) (n := 2) (q := (122, [some (.ref p0), some (.long j1), none, some (.ref p3), some (.int i4), some (.int x65)], [])) (jq qX6_play 62 rfl) rfl) ?_
          refine Eq.trans (jb_nx (i := .iload 5) (n := 2) (q := (124, [some (.ref p0), some (.long j1), none, some (.ref p3), some (.int i4), some (.int x65)], [.int x65])) (jq qX6_play 63 rfl) rfl) ?_
          by_cases c66 : x65 = 0
          · rw [if_pos c66] at H
            refine Eq.trans (jb_nx (i := .ifCond .eq 6) (n := 3) (q := (130, [some (.ref p0), some (.long j1), none, some (.ref p3), some (.int i4), some (.int x65)], [])) (jq qX6_play 64 rfl) (jo_ifT (jz_eqT c66) rfl)) ?_
            refine Eq.trans (jb_nx (i := .aload_n 0) (n := 1) (q := (131, [some (.ref p0), some (.long j1), none, some (.ref p3), some (.int i4), some (.int x65)], [.ref p0])) (jq qX6_play 67 rfl) rfl) ?_
            refine Eq.trans (jb_nx (i := .dup) (n := 1) (q := (132, [some (.ref p0), some (.long j1), none, some (.ref p3), some (.int i4), some (.int x65)], [.ref p0, .ref p0])) (jq qX6_play 68 rfl) rfl) ?_
            obtain ⟨x67, e68, H⟩ := jbd H
            refine Eq.trans (jb_nx (i := .getfield 23) (n := 3) (q := (135, [some (.ref p0), some (.long j1), none, some (.ref p3), some (.int i4), some (.int x65)], [.int x67, .ref p0])) (jq qX6_play 69 rfl) (jo_gf rfl (jr_I_inv e68))) ?_
            refine Eq.trans (jb_nx (i := .iconst 1) (n := 1) (q := (136, [some (.ref p0), some (.long j1), none, some (.ref p3), some (.int i4), some (.int x65)], [.int 1, .int x67, .ref p0])) (jq qX6_play 70 rfl) rfl) ?_
            refine Eq.trans (jb_nx (i := .iadd) (n := 1) (q := (137, [some (.ref p0), some (.long j1), none, some (.ref p3), some (.int i4), some (.int x65)], [.int (x67 + 1), .ref p0])) (jq qX6_play 71 rfl) rfl) ?_
            obtain ⟨h69, e70, H⟩ := jbd H
            refine Eq.trans (jb_nx (i := .putfield 23) (n := 3) (q := (140, [some (.ref p0), some (.long j1), none, some (.ref p3), some (.int i4), some (.int x65)], [])) (jq qX6_play 72 rfl) (jo_pf rfl (Or.inl rfl) e70)) ?_
            refine Eq.trans (jb_nx (i := .iinc 4 1) (n := 3) (q := (143, [some (.ref p0), some (.long j1), none, some (.ref p3), some (.int (i4 + 1)), some (.int x65)], [])) (jq qX6_play 73 rfl) rfl) ?_
            refine Eq.trans (jb_nx (i := .goto (-52)) (n := 3) (q := (91, [some (.ref p0), some (.long j1), none, some (.ref p3), some (.int (i4 + 1)), some (.int x65)], [])) (jq qX6_play 74 rfl) rfl) ?_
            exact H
          · rw [if_neg c66] at H
            refine Eq.trans (jb_nx (i := .ifCond .eq 6) (n := 3) (q := (127, [some (.ref p0), some (.long j1), none, some (.ref p3), some (.int i4), some (.int x65)], [])) (jq qX6_play 64 rfl) (jo_ifF (jz_eqF c66))) ?_
            refine Eq.trans (jb_nx (i := .iload 5) (n := 2) (q := (129, [some (.ref p0), some (.long j1), none, some (.ref p3), some (.int i4), some (.int x65)], [.int x65])) (jq qX6_play 65 rfl) rfl) ?_
            exact Eq.trans (jb_rt (i := .ireturn) (n := 1) (jq qX6_play 66 rfl) (jo_iret rfl rfl)) H
        · exact Eq.trans (jb_rt (i := .invokevirtual 85) (n := 3) (jq qX6_play 61 rfl) (jo_cv (y := mX6_tokenOf) rfl (Nat.le_of_ble_eq_true rfl) rfl (Nat.le_of_ble_eq_true rfl) b71 rfl r64 (jo_exn rfl))) H
    · exact Eq.trans (jb_rt (i := .invokevirtual 27) (n := 3) (jq qX6_play 56 rfl) (jo_cv (y := mX9_kindAt) rfl (Nat.le_of_ble_eq_true rfl) rfl (Nat.le_of_ble_eq_true rfl) b74 rfl r60 (jo_exn rfl))) H
  · rw [if_neg c54] at H
    refine Eq.trans (jb_nx (i := .if_icmp .ge 50) (n := 3) (q := (146, [some (.ref p0), some (.long j1), none, some (.ref p3), some (.int i4), o5], [])) (jq qX6_play 51 rfl) (jo_icT (jz_geT c54) rfl)) ?_
    exact H
theorem gX6_play_146 {d : Nat} {p0 : Nat} {j1 : Int64} {p3 : Nat} {o4 : Option Value} {o5 : Option Value} {h : jm_H} {r : jm_R} (H : ((jr_I h p0 6 3 0).bind fun x77 => (if 150 < x77 then some (.inl (some (.int 5)), h) else jm_O h p3 3 (jc_V (jm_D d mX3_link [.ref p3] h) (fun h80 => (jr_R h80 p0 6 4 2).bind fun a82 => jm_O h80 a82 0 (jc_V (jm_D d mX0_addPlay [.ref a82, .long j1] h80) (fun h84 => (jr_I h84 p0 6 5 0).bind fun x86 => (jm_pf h84 p0 6 5 0 (.int (x86 + 1))).bind fun h88 => some (.inl (some (.int 0)), h88)) jx)) jx))) = some r) : kX6_play_146 d p0 j1 p3 o4 o5 h = some r := by
  show jm_B d mX6_play (146, [some (.ref p0), some (.long j1), none, some (.ref p3), o4, o5], []) h = some r
  refine Eq.trans (jb_nx (i := .aload_n 0) (n := 1) (q := (147, [some (.ref p0), some (.long j1), none, some (.ref p3), o4, o5], [.ref p0])) (jq qX6_play 75 rfl) rfl) ?_
  obtain ⟨x77, e78, H⟩ := jbd H
  refine Eq.trans (jb_nx (i := .getfield 79) (n := 3) (q := (150, [some (.ref p0), some (.long j1), none, some (.ref p3), o4, o5], [.int x77])) (jq qX6_play 76 rfl) (jo_gf rfl (jr_I_inv e78))) ?_
  refine Eq.trans (jb_nx (i := .sipush 150) (n := 3) (q := (153, [some (.ref p0), some (.long j1), none, some (.ref p3), o4, o5], [.int 150, .int x77])) (jq qX6_play 77 rfl) rfl) ?_
  by_cases c79 : 150 < x77
  · rw [if_pos c79] at H
    refine Eq.trans (jb_nx (i := .if_icmp .le 5) (n := 3) (q := (156, [some (.ref p0), some (.long j1), none, some (.ref p3), o4, o5], [])) (jq qX6_play 78 rfl) (jo_icF (jz_leF c79))) ?_
    refine Eq.trans (jb_nx (i := .iconst 5) (n := 1) (q := (157, [some (.ref p0), some (.long j1), none, some (.ref p3), o4, o5], [.int 5])) (jq qX6_play 79 rfl) rfl) ?_
    exact Eq.trans (jb_rt (i := .ireturn) (n := 1) (jq qX6_play 80 rfl) (jo_iret rfl rfl)) H
  · rw [if_neg c79] at H
    refine Eq.trans (jb_nx (i := .if_icmp .le 5) (n := 3) (q := (158, [some (.ref p0), some (.long j1), none, some (.ref p3), o4, o5], [])) (jq qX6_play 78 rfl) (jo_icT (jz_leT c79) rfl)) ?_
    refine Eq.trans (jb_nx (i := .aload_n 3) (n := 1) (q := (159, [some (.ref p0), some (.long j1), none, some (.ref p3), o4, o5], [.ref p3])) (jq qX6_play 81 rfl) rfl) ?_
    obtain ⟨b93, H⟩ := jm_O_inv H
    rcases jcV H with ⟨h80, r81, H⟩ | ⟨w94, h95, r81, H⟩
    · refine Eq.trans (jb_nx (i := .invokevirtual 89) (n := 3) (q := (162, [some (.ref p0), some (.long j1), none, some (.ref p3), o4, o5], [])) (jq qX6_play 82 rfl) (jo_cv (y := mX3_link) rfl (Nat.le_of_ble_eq_true rfl) rfl (Nat.le_of_ble_eq_true rfl) b93 rfl r81 jo_ret)) ?_
      refine Eq.trans (jb_nx (i := .aload_n 0) (n := 1) (q := (163, [some (.ref p0), some (.long j1), none, some (.ref p3), o4, o5], [.ref p0])) (jq qX6_play 83 rfl) rfl) ?_
      obtain ⟨a82, e83, H⟩ := jbd H
      refine Eq.trans (jb_nx (i := .getfield 19) (n := 3) (q := (166, [some (.ref p0), some (.long j1), none, some (.ref p3), o4, o5], [.ref a82])) (jq qX6_play 84 rfl) (jo_gf rfl (jr_R_inv e83))) ?_
      refine Eq.trans (jb_nx (i := .lload_n 1) (n := 1) (q := (167, [some (.ref p0), some (.long j1), none, some (.ref p3), o4, o5], [.long j1, .ref a82])) (jq qX6_play 85 rfl) rfl) ?_
      obtain ⟨b90, H⟩ := jm_O_inv H
      rcases jcV H with ⟨h84, r85, H⟩ | ⟨w91, h92, r85, H⟩
      · refine Eq.trans (jb_nx (i := .invokevirtual 92) (n := 3) (q := (170, [some (.ref p0), some (.long j1), none, some (.ref p3), o4, o5], [])) (jq qX6_play 86 rfl) (jo_cv (y := mX0_addPlay) rfl (Nat.le_of_ble_eq_true rfl) rfl (Nat.le_of_ble_eq_true rfl) b90 rfl r85 jo_ret)) ?_
        refine Eq.trans (jb_nx (i := .aload_n 0) (n := 1) (q := (171, [some (.ref p0), some (.long j1), none, some (.ref p3), o4, o5], [.ref p0])) (jq qX6_play 87 rfl) rfl) ?_
        refine Eq.trans (jb_nx (i := .dup) (n := 1) (q := (172, [some (.ref p0), some (.long j1), none, some (.ref p3), o4, o5], [.ref p0, .ref p0])) (jq qX6_play 88 rfl) rfl) ?_
        obtain ⟨x86, e87, H⟩ := jbd H
        refine Eq.trans (jb_nx (i := .getfield 23) (n := 3) (q := (175, [some (.ref p0), some (.long j1), none, some (.ref p3), o4, o5], [.int x86, .ref p0])) (jq qX6_play 89 rfl) (jo_gf rfl (jr_I_inv e87))) ?_
        refine Eq.trans (jb_nx (i := .iconst 1) (n := 1) (q := (176, [some (.ref p0), some (.long j1), none, some (.ref p3), o4, o5], [.int 1, .int x86, .ref p0])) (jq qX6_play 90 rfl) rfl) ?_
        refine Eq.trans (jb_nx (i := .iadd) (n := 1) (q := (177, [some (.ref p0), some (.long j1), none, some (.ref p3), o4, o5], [.int (x86 + 1), .ref p0])) (jq qX6_play 91 rfl) rfl) ?_
        obtain ⟨h88, e89, H⟩ := jbd H
        refine Eq.trans (jb_nx (i := .putfield 23) (n := 3) (q := (180, [some (.ref p0), some (.long j1), none, some (.ref p3), o4, o5], [])) (jq qX6_play 92 rfl) (jo_pf rfl (Or.inl rfl) e89)) ?_
        refine Eq.trans (jb_nx (i := .iconst 0) (n := 1) (q := (181, [some (.ref p0), some (.long j1), none, some (.ref p3), o4, o5], [.int 0])) (jq qX6_play 93 rfl) rfl) ?_
        exact Eq.trans (jb_rt (i := .ireturn) (n := 1) (jq qX6_play 94 rfl) (jo_iret rfl rfl)) H
      · exact Eq.trans (jb_rt (i := .invokevirtual 92) (n := 3) (jq qX6_play 86 rfl) (jo_cv (y := mX0_addPlay) rfl (Nat.le_of_ble_eq_true rfl) rfl (Nat.le_of_ble_eq_true rfl) b90 rfl r85 (jo_exn rfl))) H
    · exact Eq.trans (jb_rt (i := .invokevirtual 89) (n := 3) (jq qX6_play 82 rfl) (jo_cv (y := mX3_link) rfl (Nat.le_of_ble_eq_true rfl) rfl (Nat.le_of_ble_eq_true rfl) b93 rfl r81 (jo_exn rfl))) H
theorem gX6_play {d : Nat} {p0 : Nat} {h : jm_H} {r : jm_R} (H : ((jr_I h p0 6 5 0).bind fun x1 => (jm_pf h p0 6 5 0 (.int (x1 + 1))).bind fun h3 => (jr_R h3 p0 6 0 2).bind fun a5 => (jr_I h3 p0 6 5 0).bind fun x7 => jm_O h3 a5 9 (jc_L (jm_D d mX9_wordAt [.ref a5, .int x7] h3) (fun y11 h9 => (jr_R h9 p0 6 4 2).bind fun a12 => jm_O h9 a12 0 (jc_I (jm_D d mX0_knows [.ref a12, .long y11] h9) (fun x16 h14 => (if x16 = 0 then (jr_R h14 p0 6 4 2).bind fun a18 => (jr_I h14 a18 0 1 0).bind fun x20 => (if x20 < 12 then (jr_I h14 p0 6 5 0).bind fun x23 => (jm_pf h14 p0 6 5 0 (.int (x23 + 2))).bind fun h25 => (jr_R h25 p0 6 4 2).bind fun a27 => (jr_R h25 p0 6 4 2).bind fun a29 => (jr_I h25 a29 0 1 0).bind fun x31 => jm_O h25 a27 0 (jc_R (jm_D d mX0_toldAt [.ref a27, .int x31] h25) (fun a35 h33 => jm_O h33 a35 3 (jc_V (jm_D d mX3_clear [.ref a35] h33) (fun h36 => (jm_pf h36 p0 6 3 0 (.int 0)).bind fun h38 => (jm_pf h38 p0 6 2 0 (.int 0)).bind fun h40 => kX6_play_91 d p0 y11 a35 0 none h40) jx)) jx) else some (.inl (some (.int 4)), h14)) else some (.inl (some (.int 2)), h14))) jx)) jx)) = some r) : jm_D (d + 1) mX6_play [.ref p0] h = some r := by
  rw [jm_D_body (Nat.le_of_ble_eq_true rfl)]
  show jm_B d mX6_play (0, [some (.ref p0), none, none, none, none, none], []) h = some r
  refine Eq.trans (jb_nx (i := .aload_n 0) (n := 1) (q := (1, [some (.ref p0), none, none, none, none, none], [.ref p0])) (jq qX6_play 0 rfl) rfl) ?_
  refine Eq.trans (jb_nx (i := .dup) (n := 1) (q := (2, [some (.ref p0), none, none, none, none, none], [.ref p0, .ref p0])) (jq qX6_play 1 rfl) rfl) ?_
  obtain ⟨x1, e2, H⟩ := jbd H
  refine Eq.trans (jb_nx (i := .getfield 23) (n := 3) (q := (5, [some (.ref p0), none, none, none, none, none], [.int x1, .ref p0])) (jq qX6_play 2 rfl) (jo_gf rfl (jr_I_inv e2))) ?_
  refine Eq.trans (jb_nx (i := .iconst 1) (n := 1) (q := (6, [some (.ref p0), none, none, none, none, none], [.int 1, .int x1, .ref p0])) (jq qX6_play 3 rfl) rfl) ?_
  refine Eq.trans (jb_nx (i := .iadd) (n := 1) (q := (7, [some (.ref p0), none, none, none, none, none], [.int (x1 + 1), .ref p0])) (jq qX6_play 4 rfl) rfl) ?_
  obtain ⟨h3, e4, H⟩ := jbd H
  refine Eq.trans (jb_nx (i := .putfield 23) (n := 3) (q := (10, [some (.ref p0), none, none, none, none, none], [])) (jq qX6_play 5 rfl) (jo_pf rfl (Or.inl rfl) e4)) ?_
  refine Eq.trans (jb_nx (i := .aload_n 0) (n := 1) (q := (11, [some (.ref p0), none, none, none, none, none], [.ref p0])) (jq qX6_play 6 rfl) rfl) ?_
  obtain ⟨a5, e6, H⟩ := jbd H
  refine Eq.trans (jb_nx (i := .getfield 15) (n := 3) (q := (14, [some (.ref p0), none, none, none, none, none], [.ref a5])) (jq qX6_play 7 rfl) (jo_gf rfl (jr_R_inv e6))) ?_
  refine Eq.trans (jb_nx (i := .aload_n 0) (n := 1) (q := (15, [some (.ref p0), none, none, none, none, none], [.ref p0, .ref a5])) (jq qX6_play 8 rfl) rfl) ?_
  obtain ⟨x7, e8, H⟩ := jbd H
  refine Eq.trans (jb_nx (i := .getfield 23) (n := 3) (q := (18, [some (.ref p0), none, none, none, none, none], [.int x7, .ref a5])) (jq qX6_play 9 rfl) (jo_gf rfl (jr_I_inv e8))) ?_
  obtain ⟨b51, H⟩ := jm_O_inv H
  rcases jcL H with ⟨y11, h9, r10, H⟩ | ⟨w52, h53, r10, H⟩
  · refine Eq.trans (jb_nx (i := .invokevirtual 52) (n := 3) (q := (21, [some (.ref p0), none, none, none, none, none], [.long y11])) (jq qX6_play 10 rfl) (jo_cv (y := mX9_wordAt) rfl (Nat.le_of_ble_eq_true rfl) rfl (Nat.le_of_ble_eq_true rfl) b51 rfl r10 jo_ret)) ?_
    refine Eq.trans (jb_nx (i := .lstore_n 1) (n := 1) (q := (22, [some (.ref p0), some (.long y11), none, none, none, none], [])) (jq qX6_play 11 rfl) rfl) ?_
    refine Eq.trans (jb_nx (i := .aload_n 0) (n := 1) (q := (23, [some (.ref p0), some (.long y11), none, none, none, none], [.ref p0])) (jq qX6_play 12 rfl) rfl) ?_
    obtain ⟨a12, e13, H⟩ := jbd H
    refine Eq.trans (jb_nx (i := .getfield 19) (n := 3) (q := (26, [some (.ref p0), some (.long y11), none, none, none, none], [.ref a12])) (jq qX6_play 13 rfl) (jo_gf rfl (jr_R_inv e13))) ?_
    refine Eq.trans (jb_nx (i := .lload_n 1) (n := 1) (q := (27, [some (.ref p0), some (.long y11), none, none, none, none], [.long y11, .ref a12])) (jq qX6_play 14 rfl) rfl) ?_
    obtain ⟨b48, H⟩ := jm_O_inv H
    rcases jcI H with ⟨x16, h14, r15, H⟩ | ⟨w49, h50, r15, H⟩
    · refine Eq.trans (jb_nx (i := .invokevirtual 56) (n := 3) (q := (30, [some (.ref p0), some (.long y11), none, none, none, none], [.int x16])) (jq qX6_play 15 rfl) (jo_cv (y := mX0_knows) rfl (Nat.le_of_ble_eq_true rfl) rfl (Nat.le_of_ble_eq_true rfl) b48 rfl r15 jo_ret)) ?_
      by_cases c17 : x16 = 0
      · rw [if_pos c17] at H
        refine Eq.trans (jb_nx (i := .ifCond .eq 5) (n := 3) (q := (35, [some (.ref p0), some (.long y11), none, none, none, none], [])) (jq qX6_play 16 rfl) (jo_ifT (jz_eqT c17) rfl)) ?_
        refine Eq.trans (jb_nx (i := .aload_n 0) (n := 1) (q := (36, [some (.ref p0), some (.long y11), none, none, none, none], [.ref p0])) (jq qX6_play 19 rfl) rfl) ?_
        obtain ⟨a18, e19, H⟩ := jbd H
        refine Eq.trans (jb_nx (i := .getfield 19) (n := 3) (q := (39, [some (.ref p0), some (.long y11), none, none, none, none], [.ref a18])) (jq qX6_play 20 rfl) (jo_gf rfl (jr_R_inv e19))) ?_
        obtain ⟨x20, e21, H⟩ := jbd H
        refine Eq.trans (jb_nx (i := .getfield 67) (n := 3) (q := (42, [some (.ref p0), some (.long y11), none, none, none, none], [.int x20])) (jq qX6_play 21 rfl) (jo_gf rfl (jr_I_inv e21))) ?_
        refine Eq.trans (jb_nx (i := .bipush 12) (n := 2) (q := (44, [some (.ref p0), some (.long y11), none, none, none, none], [.int 12, .int x20])) (jq qX6_play 22 rfl) rfl) ?_
        by_cases c22 : x20 < 12
        · rw [if_pos c22] at H
          refine Eq.trans (jb_nx (i := .if_icmp .lt 5) (n := 3) (q := (49, [some (.ref p0), some (.long y11), none, none, none, none], [])) (jq qX6_play 23 rfl) (jo_icT (jz_ltT c22) rfl)) ?_
          refine Eq.trans (jb_nx (i := .aload_n 0) (n := 1) (q := (50, [some (.ref p0), some (.long y11), none, none, none, none], [.ref p0])) (jq qX6_play 26 rfl) rfl) ?_
          refine Eq.trans (jb_nx (i := .dup) (n := 1) (q := (51, [some (.ref p0), some (.long y11), none, none, none, none], [.ref p0, .ref p0])) (jq qX6_play 27 rfl) rfl) ?_
          obtain ⟨x23, e24, H⟩ := jbd H
          refine Eq.trans (jb_nx (i := .getfield 23) (n := 3) (q := (54, [some (.ref p0), some (.long y11), none, none, none, none], [.int x23, .ref p0])) (jq qX6_play 28 rfl) (jo_gf rfl (jr_I_inv e24))) ?_
          refine Eq.trans (jb_nx (i := .iconst 2) (n := 1) (q := (55, [some (.ref p0), some (.long y11), none, none, none, none], [.int 2, .int x23, .ref p0])) (jq qX6_play 29 rfl) rfl) ?_
          refine Eq.trans (jb_nx (i := .iadd) (n := 1) (q := (56, [some (.ref p0), some (.long y11), none, none, none, none], [.int (x23 + 2), .ref p0])) (jq qX6_play 30 rfl) rfl) ?_
          obtain ⟨h25, e26, H⟩ := jbd H
          refine Eq.trans (jb_nx (i := .putfield 23) (n := 3) (q := (59, [some (.ref p0), some (.long y11), none, none, none, none], [])) (jq qX6_play 31 rfl) (jo_pf rfl (Or.inl rfl) e26)) ?_
          refine Eq.trans (jb_nx (i := .aload_n 0) (n := 1) (q := (60, [some (.ref p0), some (.long y11), none, none, none, none], [.ref p0])) (jq qX6_play 32 rfl) rfl) ?_
          obtain ⟨a27, e28, H⟩ := jbd H
          refine Eq.trans (jb_nx (i := .getfield 19) (n := 3) (q := (63, [some (.ref p0), some (.long y11), none, none, none, none], [.ref a27])) (jq qX6_play 33 rfl) (jo_gf rfl (jr_R_inv e28))) ?_
          refine Eq.trans (jb_nx (i := .aload_n 0) (n := 1) (q := (64, [some (.ref p0), some (.long y11), none, none, none, none], [.ref p0, .ref a27])) (jq qX6_play 34 rfl) rfl) ?_
          obtain ⟨a29, e30, H⟩ := jbd H
          refine Eq.trans (jb_nx (i := .getfield 19) (n := 3) (q := (67, [some (.ref p0), some (.long y11), none, none, none, none], [.ref a29, .ref a27])) (jq qX6_play 35 rfl) (jo_gf rfl (jr_R_inv e30))) ?_
          obtain ⟨x31, e32, H⟩ := jbd H
          refine Eq.trans (jb_nx (i := .getfield 67) (n := 3) (q := (70, [some (.ref p0), some (.long y11), none, none, none, none], [.int x31, .ref a27])) (jq qX6_play 36 rfl) (jo_gf rfl (jr_I_inv e32))) ?_
          obtain ⟨b45, H⟩ := jm_O_inv H
          rcases jcR H with ⟨a35, h33, r34, H⟩ | ⟨w46, h47, r34, H⟩
          · refine Eq.trans (jb_nx (i := .invokevirtual 70) (n := 3) (q := (73, [some (.ref p0), some (.long y11), none, none, none, none], [.ref a35])) (jq qX6_play 37 rfl) (jo_cv (y := mX0_toldAt) rfl (Nat.le_of_ble_eq_true rfl) rfl (Nat.le_of_ble_eq_true rfl) b45 rfl r34 jo_ret)) ?_
            refine Eq.trans (jb_nx (i := .astore_n 3) (n := 1) (q := (74, [some (.ref p0), some (.long y11), none, some (.ref a35), none, none], [])) (jq qX6_play 38 rfl) rfl) ?_
            refine Eq.trans (jb_nx (i := .aload_n 3) (n := 1) (q := (75, [some (.ref p0), some (.long y11), none, some (.ref a35), none, none], [.ref a35])) (jq qX6_play 39 rfl) rfl) ?_
            obtain ⟨b42, H⟩ := jm_O_inv H
            rcases jcV H with ⟨h36, r37, H⟩ | ⟨w43, h44, r37, H⟩
            · refine Eq.trans (jb_nx (i := .invokevirtual 74) (n := 3) (q := (78, [some (.ref p0), some (.long y11), none, some (.ref a35), none, none], [])) (jq qX6_play 40 rfl) (jo_cv (y := mX3_clear) rfl (Nat.le_of_ble_eq_true rfl) rfl (Nat.le_of_ble_eq_true rfl) b42 rfl r37 jo_ret)) ?_
              refine Eq.trans (jb_nx (i := .aload_n 0) (n := 1) (q := (79, [some (.ref p0), some (.long y11), none, some (.ref a35), none, none], [.ref p0])) (jq qX6_play 41 rfl) rfl) ?_
              refine Eq.trans (jb_nx (i := .iconst 0) (n := 1) (q := (80, [some (.ref p0), some (.long y11), none, some (.ref a35), none, none], [.int 0, .ref p0])) (jq qX6_play 42 rfl) rfl) ?_
              obtain ⟨h38, e39, H⟩ := jbd H
              refine Eq.trans (jb_nx (i := .putfield 79) (n := 3) (q := (83, [some (.ref p0), some (.long y11), none, some (.ref a35), none, none], [])) (jq qX6_play 43 rfl) (jo_pf rfl (Or.inl rfl) e39)) ?_
              refine Eq.trans (jb_nx (i := .aload_n 0) (n := 1) (q := (84, [some (.ref p0), some (.long y11), none, some (.ref a35), none, none], [.ref p0])) (jq qX6_play 44 rfl) rfl) ?_
              refine Eq.trans (jb_nx (i := .iconst 0) (n := 1) (q := (85, [some (.ref p0), some (.long y11), none, some (.ref a35), none, none], [.int 0, .ref p0])) (jq qX6_play 45 rfl) rfl) ?_
              obtain ⟨h40, e41, H⟩ := jbd H
              refine Eq.trans (jb_nx (i := .putfield 82) (n := 3) (q := (88, [some (.ref p0), some (.long y11), none, some (.ref a35), none, none], [])) (jq qX6_play 46 rfl) (jo_pf rfl (Or.inl rfl) e41)) ?_
              refine Eq.trans (jb_nx (i := .iconst 0) (n := 1) (q := (89, [some (.ref p0), some (.long y11), none, some (.ref a35), none, none], [.int 0])) (jq qX6_play 47 rfl) rfl) ?_
              refine Eq.trans (jb_nx (i := .istore 4) (n := 2) (q := (91, [some (.ref p0), some (.long y11), none, some (.ref a35), some (.int 0), none], [])) (jq qX6_play 48 rfl) rfl) ?_
              exact H
            · exact Eq.trans (jb_rt (i := .invokevirtual 74) (n := 3) (jq qX6_play 40 rfl) (jo_cv (y := mX3_clear) rfl (Nat.le_of_ble_eq_true rfl) rfl (Nat.le_of_ble_eq_true rfl) b42 rfl r37 (jo_exn rfl))) H
          · exact Eq.trans (jb_rt (i := .invokevirtual 70) (n := 3) (jq qX6_play 37 rfl) (jo_cv (y := mX0_toldAt) rfl (Nat.le_of_ble_eq_true rfl) rfl (Nat.le_of_ble_eq_true rfl) b45 rfl r34 (jo_exn rfl))) H
        · rw [if_neg c22] at H
          refine Eq.trans (jb_nx (i := .if_icmp .lt 5) (n := 3) (q := (47, [some (.ref p0), some (.long y11), none, none, none, none], [])) (jq qX6_play 23 rfl) (jo_icF (jz_ltF c22))) ?_
          refine Eq.trans (jb_nx (i := .iconst 4) (n := 1) (q := (48, [some (.ref p0), some (.long y11), none, none, none, none], [.int 4])) (jq qX6_play 24 rfl) rfl) ?_
          exact Eq.trans (jb_rt (i := .ireturn) (n := 1) (jq qX6_play 25 rfl) (jo_iret rfl rfl)) H
      · rw [if_neg c17] at H
        refine Eq.trans (jb_nx (i := .ifCond .eq 5) (n := 3) (q := (33, [some (.ref p0), some (.long y11), none, none, none, none], [])) (jq qX6_play 16 rfl) (jo_ifF (jz_eqF c17))) ?_
        refine Eq.trans (jb_nx (i := .iconst 2) (n := 1) (q := (34, [some (.ref p0), some (.long y11), none, none, none, none], [.int 2])) (jq qX6_play 17 rfl) rfl) ?_
        exact Eq.trans (jb_rt (i := .ireturn) (n := 1) (jq qX6_play 18 rfl) (jo_iret rfl rfl)) H
    · exact Eq.trans (jb_rt (i := .invokevirtual 56) (n := 3) (jq qX6_play 15 rfl) (jo_cv (y := mX0_knows) rfl (Nat.le_of_ble_eq_true rfl) rfl (Nat.le_of_ble_eq_true rfl) b48 rfl r15 (jo_exn rfl))) H
  · exact Eq.trans (jb_rt (i := .invokevirtual 52) (n := 3) (jq qX6_play 10 rfl) (jo_cv (y := mX9_wordAt) rfl (Nat.le_of_ble_eq_true rfl) rfl (Nat.le_of_ble_eq_true rfl) b51 rfl r10 (jo_exn rfl))) H
/-! MaskPlays$Telling tokenOf (LMaskPlays$Part;)I -/
def tX6_tokenOf : List (Nat × Instr × Nat) := [(0, .aload_n 0, 1), (1, .getfield 15, 3), (4, .aload_n 0, 1), (5, .getfield 23, 3), (8, .invokevirtual 27, 3), (11, .lookupswitch 107 #[(3, 41), (21, 57), (22, 69), (35, 101)], 41), (52, .aload_n 0, 1), (53, .dup, 1), (54, .getfield 23, 3), (57, .iconst 1, 1), (58, .iadd, 1), (59, .putfield 23, 3), (62, .aload_n 0, 1), (63, .aload_n 1, 1), (64, .invokevirtual 95, 3), (67, .ireturn, 1), (68, .aload_n 0, 1), (69, .dup, 1), (70, .getfield 82, 3), (73, .iconst 1, 1), (74, .isub, 1), (75, .putfield 82, 3), (78, .iconst 0, 1), (79, .ireturn, 1), (80, .iconst 1, 1), (81, .istore_n 2, 1), (82, .iload_n 2, 1), (83, .aload_n 0, 1), (84, .getfield 15, 3), (87, .aload_n 0, 1), (88, .getfield 23, 3), (91, .invokevirtual 98, 3), (94, .if_icmp .ge 16, 3), (97, .aload_n 0, 1), (98, .aload_n 1, 1), (99, .iconst 2, 1), (100, .lconst 0, 1), (101, .invokevirtual 101, 3), (104, .iinc 2 1, 3), (107, .goto (-25), 3), (110, .iconst 0, 1), (111, .ireturn, 1), (112, .aload_n 0, 1), (113, .aload_n 1, 1), (114, .invokevirtual 105, 3), (117, .ireturn, 1), (118, .iconst 0, 1), (119, .ireturn, 1)]
set_option maxRecDepth 100000 in
theorem qX6_tokenOf : ∀ q ∈ tX6_tokenOf, decode cX6_tokenOf q.1 = .ok (q.2.1, q.2.2) := by decide +kernel
noncomputable def kX6_tokenOf_82 (d : Nat) (p0 : Nat) (p1 : Nat) (i2 : Int32) (h : jm_H) : Option jm_R := jm_B d mX6_tokenOf (82, [some (.ref p0), some (.ref p1), some (.int i2)], []) h
theorem gX6_tokenOf_82 {d : Nat} {p0 : Nat} {p1 : Nat} {i2 : Int32} {h : jm_H} {r : jm_R} (H : ((jr_R h p0 6 0 2).bind fun a35 => (jr_I h p0 6 5 0).bind fun x37 => jm_O h a35 9 (jc_I (jm_D d mX9_markAt [.ref a35, .int x37] h) (fun x41 h39 => (if i2 < x41 then jm_O h39 p0 6 (jc_V (jm_D d mX6_addTo [.ref p0, .ref p1, .int 2, .long 0] h39) (fun h43 => kX6_tokenOf_82 d p0 p1 (i2 + 1) h43) jx) else some (.inl (some (.int 0)), h39))) jx)) = some r) : kX6_tokenOf_82 d p0 p1 i2 h = some r := by
  show jm_B d mX6_tokenOf (82, [some (.ref p0), some (.ref p1), some (.int i2)], []) h = some r
  refine Eq.trans (jb_nx (i := .iload_n 2) (n := 1) (q := (83, [some (.ref p0), some (.ref p1), some (.int i2)], [.int i2])) (jq qX6_tokenOf 26 rfl) rfl) ?_
  refine Eq.trans (jb_nx (i := .aload_n 0) (n := 1) (q := (84, [some (.ref p0), some (.ref p1), some (.int i2)], [.ref p0, .int i2])) (jq qX6_tokenOf 27 rfl) rfl) ?_
  obtain ⟨a35, e36, H⟩ := jbd H
  refine Eq.trans (jb_nx (i := .getfield 15) (n := 3) (q := (87, [some (.ref p0), some (.ref p1), some (.int i2)], [.ref a35, .int i2])) (jq qX6_tokenOf 28 rfl) (jo_gf rfl (jr_R_inv e36))) ?_
  refine Eq.trans (jb_nx (i := .aload_n 0) (n := 1) (q := (88, [some (.ref p0), some (.ref p1), some (.int i2)], [.ref p0, .ref a35, .int i2])) (jq qX6_tokenOf 29 rfl) rfl) ?_
  obtain ⟨x37, e38, H⟩ := jbd H
  refine Eq.trans (jb_nx (i := .getfield 23) (n := 3) (q := (91, [some (.ref p0), some (.ref p1), some (.int i2)], [.int x37, .ref a35, .int i2])) (jq qX6_tokenOf 30 rfl) (jo_gf rfl (jr_I_inv e38))) ?_
  obtain ⟨b48, H⟩ := jm_O_inv H
  rcases jcI H with ⟨x41, h39, r40, H⟩ | ⟨w49, h50, r40, H⟩
  · refine Eq.trans (jb_nx (i := .invokevirtual 98) (n := 3) (q := (94, [some (.ref p0), some (.ref p1), some (.int i2)], [.int x41, .int i2])) (jq qX6_tokenOf 31 rfl) (jo_cv (y := mX9_markAt) rfl (Nat.le_of_ble_eq_true rfl) rfl (Nat.le_of_ble_eq_true rfl) b48 rfl r40 jo_ret)) ?_
    by_cases c42 : i2 < x41
    · rw [if_pos c42] at H
      refine Eq.trans (jb_nx (i := .if_icmp .ge 16) (n := 3) (q := (97, [some (.ref p0), some (.ref p1), some (.int i2)], [])) (jq qX6_tokenOf 32 rfl) (jo_icF (jz_geF c42))) ?_
      refine Eq.trans (jb_nx (i := .aload_n 0) (n := 1) (q := (98, [some (.ref p0), some (.ref p1), some (.int i2)], [.ref p0])) (jq qX6_tokenOf 33 rfl) rfl) ?_
      refine Eq.trans (jb_nx (i := .aload_n 1) (n := 1) (q := (99, [some (.ref p0), some (.ref p1), some (.int i2)], [.ref p1, .ref p0])) (jq qX6_tokenOf 34 rfl) rfl) ?_
      refine Eq.trans (jb_nx (i := .iconst 2) (n := 1) (q := (100, [some (.ref p0), some (.ref p1), some (.int i2)], [.int 2, .ref p1, .ref p0])) (jq qX6_tokenOf 35 rfl) rfl) ?_
      refine Eq.trans (jb_nx (i := .lconst 0) (n := 1) (q := (101, [some (.ref p0), some (.ref p1), some (.int i2)], [.long 0, .int 2, .ref p1, .ref p0])) (jq qX6_tokenOf 36 rfl) rfl) ?_
      obtain ⟨b45, H⟩ := jm_O_inv H
      rcases jcV H with ⟨h43, r44, H⟩ | ⟨w46, h47, r44, H⟩
      · refine Eq.trans (jb_nx (i := .invokevirtual 101) (n := 3) (q := (104, [some (.ref p0), some (.ref p1), some (.int i2)], [])) (jq qX6_tokenOf 37 rfl) (jo_cv (y := mX6_addTo) rfl (Nat.le_of_ble_eq_true rfl) rfl (Nat.le_of_ble_eq_true rfl) b45 rfl r44 jo_ret)) ?_
        refine Eq.trans (jb_nx (i := .iinc 2 1) (n := 3) (q := (107, [some (.ref p0), some (.ref p1), some (.int (i2 + 1))], [])) (jq qX6_tokenOf 38 rfl) rfl) ?_
        refine Eq.trans (jb_nx (i := .goto (-25)) (n := 3) (q := (82, [some (.ref p0), some (.ref p1), some (.int (i2 + 1))], [])) (jq qX6_tokenOf 39 rfl) rfl) ?_
        exact H
      · exact Eq.trans (jb_rt (i := .invokevirtual 101) (n := 3) (jq qX6_tokenOf 37 rfl) (jo_cv (y := mX6_addTo) rfl (Nat.le_of_ble_eq_true rfl) rfl (Nat.le_of_ble_eq_true rfl) b45 rfl r44 (jo_exn rfl))) H
    · rw [if_neg c42] at H
      refine Eq.trans (jb_nx (i := .if_icmp .ge 16) (n := 3) (q := (110, [some (.ref p0), some (.ref p1), some (.int i2)], [])) (jq qX6_tokenOf 32 rfl) (jo_icT (jz_geT c42) rfl)) ?_
      refine Eq.trans (jb_nx (i := .iconst 0) (n := 1) (q := (111, [some (.ref p0), some (.ref p1), some (.int i2)], [.int 0])) (jq qX6_tokenOf 40 rfl) rfl) ?_
      exact Eq.trans (jb_rt (i := .ireturn) (n := 1) (jq qX6_tokenOf 41 rfl) (jo_iret rfl rfl)) H
  · exact Eq.trans (jb_rt (i := .invokevirtual 98) (n := 3) (jq qX6_tokenOf 31 rfl) (jo_cv (y := mX9_markAt) rfl (Nat.le_of_ble_eq_true rfl) rfl (Nat.le_of_ble_eq_true rfl) b48 rfl r40 (jo_exn rfl))) H
theorem gX6_tokenOf {d : Nat} {p0 : Nat} {p1 : Nat} {h : jm_H} {r : jm_R} (H : ((jr_R h p0 6 0 2).bind fun a1 => (jr_I h p0 6 5 0).bind fun x3 => jm_O h a1 9 (jc_I (jm_D d mX9_kindAt [.ref a1, .int x3] h) (fun x7 h5 => (if x7 = 3 then (jr_I h5 p0 6 5 0).bind fun x9 => (jm_pf h5 p0 6 5 0 (.int (x9 + 1))).bind fun h11 => jm_O h11 p0 6 (jc_I (jm_D d mX6_mask [.ref p0, .ref p1] h11) (fun x15 h13 => some (.inl (some (.int x15)), h13)) jx) else (if x7 = 21 then (jr_I h5 p0 6 2 0).bind fun x20 => (jm_pf h5 p0 6 2 0 (.int (x20 - 1))).bind fun h22 => some (.inl (some (.int 0)), h22) else (if x7 = 22 then kX6_tokenOf_82 d p0 p1 1 h5 else (if x7 = 35 then jm_O h5 p0 6 (jc_I (jm_D d mX6_name [.ref p0, .ref p1] h5) (fun x28 h26 => some (.inl (some (.int x28)), h26)) jx) else some (.inl (some (.int 0)), h5)))))) jx)) = some r) : jm_D (d + 1) mX6_tokenOf [.ref p0, .ref p1] h = some r := by
  rw [jm_D_body (Nat.le_of_ble_eq_true rfl)]
  show jm_B d mX6_tokenOf (0, [some (.ref p0), some (.ref p1), none], []) h = some r
  refine Eq.trans (jb_nx (i := .aload_n 0) (n := 1) (q := (1, [some (.ref p0), some (.ref p1), none], [.ref p0])) (jq qX6_tokenOf 0 rfl) rfl) ?_
  obtain ⟨a1, e2, H⟩ := jbd H
  refine Eq.trans (jb_nx (i := .getfield 15) (n := 3) (q := (4, [some (.ref p0), some (.ref p1), none], [.ref a1])) (jq qX6_tokenOf 1 rfl) (jo_gf rfl (jr_R_inv e2))) ?_
  refine Eq.trans (jb_nx (i := .aload_n 0) (n := 1) (q := (5, [some (.ref p0), some (.ref p1), none], [.ref p0, .ref a1])) (jq qX6_tokenOf 2 rfl) rfl) ?_
  obtain ⟨x3, e4, H⟩ := jbd H
  refine Eq.trans (jb_nx (i := .getfield 23) (n := 3) (q := (8, [some (.ref p0), some (.ref p1), none], [.int x3, .ref a1])) (jq qX6_tokenOf 3 rfl) (jo_gf rfl (jr_I_inv e4))) ?_
  obtain ⟨b32, H⟩ := jm_O_inv H
  rcases jcI H with ⟨x7, h5, r6, H⟩ | ⟨w33, h34, r6, H⟩
  · refine Eq.trans (jb_nx (i := .invokevirtual 27) (n := 3) (q := (11, [some (.ref p0), some (.ref p1), none], [.int x7])) (jq qX6_tokenOf 4 rfl) (jo_cv (y := mX9_kindAt) rfl (Nat.le_of_ble_eq_true rfl) rfl (Nat.le_of_ble_eq_true rfl) b32 rfl r6 jo_ret)) ?_
    by_cases c8 : x7 = 3
    · rw [if_pos c8] at H
      refine Eq.trans (jb_nx (i := .lookupswitch 107 #[(3, 41), (21, 57), (22, 69), (35, 101)]) (n := 41) (q := (52, [some (.ref p0), some (.ref p1), none], [])) (jq qX6_tokenOf 5 rfl) (by rw [c8]; rfl)) ?_
      refine Eq.trans (jb_nx (i := .aload_n 0) (n := 1) (q := (53, [some (.ref p0), some (.ref p1), none], [.ref p0])) (jq qX6_tokenOf 6 rfl) rfl) ?_
      refine Eq.trans (jb_nx (i := .dup) (n := 1) (q := (54, [some (.ref p0), some (.ref p1), none], [.ref p0, .ref p0])) (jq qX6_tokenOf 7 rfl) rfl) ?_
      obtain ⟨x9, e10, H⟩ := jbd H
      refine Eq.trans (jb_nx (i := .getfield 23) (n := 3) (q := (57, [some (.ref p0), some (.ref p1), none], [.int x9, .ref p0])) (jq qX6_tokenOf 8 rfl) (jo_gf rfl (jr_I_inv e10))) ?_
      refine Eq.trans (jb_nx (i := .iconst 1) (n := 1) (q := (58, [some (.ref p0), some (.ref p1), none], [.int 1, .int x9, .ref p0])) (jq qX6_tokenOf 9 rfl) rfl) ?_
      refine Eq.trans (jb_nx (i := .iadd) (n := 1) (q := (59, [some (.ref p0), some (.ref p1), none], [.int (x9 + 1), .ref p0])) (jq qX6_tokenOf 10 rfl) rfl) ?_
      obtain ⟨h11, e12, H⟩ := jbd H
      refine Eq.trans (jb_nx (i := .putfield 23) (n := 3) (q := (62, [some (.ref p0), some (.ref p1), none], [])) (jq qX6_tokenOf 11 rfl) (jo_pf rfl (Or.inl rfl) e12)) ?_
      refine Eq.trans (jb_nx (i := .aload_n 0) (n := 1) (q := (63, [some (.ref p0), some (.ref p1), none], [.ref p0])) (jq qX6_tokenOf 12 rfl) rfl) ?_
      refine Eq.trans (jb_nx (i := .aload_n 1) (n := 1) (q := (64, [some (.ref p0), some (.ref p1), none], [.ref p1, .ref p0])) (jq qX6_tokenOf 13 rfl) rfl) ?_
      obtain ⟨b16, H⟩ := jm_O_inv H
      rcases jcI H with ⟨x15, h13, r14, H⟩ | ⟨w17, h18, r14, H⟩
      · refine Eq.trans (jb_nx (i := .invokevirtual 95) (n := 3) (q := (67, [some (.ref p0), some (.ref p1), none], [.int x15])) (jq qX6_tokenOf 14 rfl) (jo_cv (y := mX6_mask) rfl (Nat.le_of_ble_eq_true rfl) rfl (Nat.le_of_ble_eq_true rfl) b16 rfl r14 jo_ret)) ?_
        exact Eq.trans (jb_rt (i := .ireturn) (n := 1) (jq qX6_tokenOf 15 rfl) (jo_iret rfl rfl)) H
      · exact Eq.trans (jb_rt (i := .invokevirtual 95) (n := 3) (jq qX6_tokenOf 14 rfl) (jo_cv (y := mX6_mask) rfl (Nat.le_of_ble_eq_true rfl) rfl (Nat.le_of_ble_eq_true rfl) b16 rfl r14 (jo_exn rfl))) H
    · rw [if_neg c8] at H
      by_cases c19 : x7 = 21
      · rw [if_pos c19] at H
        refine Eq.trans (jb_nx (i := .lookupswitch 107 #[(3, 41), (21, 57), (22, 69), (35, 101)]) (n := 41) (q := (68, [some (.ref p0), some (.ref p1), none], [])) (jq qX6_tokenOf 5 rfl) (by rw [c19]; rfl)) ?_
        refine Eq.trans (jb_nx (i := .aload_n 0) (n := 1) (q := (69, [some (.ref p0), some (.ref p1), none], [.ref p0])) (jq qX6_tokenOf 16 rfl) rfl) ?_
        refine Eq.trans (jb_nx (i := .dup) (n := 1) (q := (70, [some (.ref p0), some (.ref p1), none], [.ref p0, .ref p0])) (jq qX6_tokenOf 17 rfl) rfl) ?_
        obtain ⟨x20, e21, H⟩ := jbd H
        refine Eq.trans (jb_nx (i := .getfield 82) (n := 3) (q := (73, [some (.ref p0), some (.ref p1), none], [.int x20, .ref p0])) (jq qX6_tokenOf 18 rfl) (jo_gf rfl (jr_I_inv e21))) ?_
        refine Eq.trans (jb_nx (i := .iconst 1) (n := 1) (q := (74, [some (.ref p0), some (.ref p1), none], [.int 1, .int x20, .ref p0])) (jq qX6_tokenOf 19 rfl) rfl) ?_
        refine Eq.trans (jb_nx (i := .isub) (n := 1) (q := (75, [some (.ref p0), some (.ref p1), none], [.int (x20 - 1), .ref p0])) (jq qX6_tokenOf 20 rfl) rfl) ?_
        obtain ⟨h22, e23, H⟩ := jbd H
        refine Eq.trans (jb_nx (i := .putfield 82) (n := 3) (q := (78, [some (.ref p0), some (.ref p1), none], [])) (jq qX6_tokenOf 21 rfl) (jo_pf rfl (Or.inl rfl) e23)) ?_
        refine Eq.trans (jb_nx (i := .iconst 0) (n := 1) (q := (79, [some (.ref p0), some (.ref p1), none], [.int 0])) (jq qX6_tokenOf 22 rfl) rfl) ?_
        exact Eq.trans (jb_rt (i := .ireturn) (n := 1) (jq qX6_tokenOf 23 rfl) (jo_iret rfl rfl)) H
      · rw [if_neg c19] at H
        by_cases c24 : x7 = 22
        · rw [if_pos c24] at H
          refine Eq.trans (jb_nx (i := .lookupswitch 107 #[(3, 41), (21, 57), (22, 69), (35, 101)]) (n := 41) (q := (80, [some (.ref p0), some (.ref p1), none], [])) (jq qX6_tokenOf 5 rfl) (by rw [c24]; rfl)) ?_
          refine Eq.trans (jb_nx (i := .iconst 1) (n := 1) (q := (81, [some (.ref p0), some (.ref p1), none], [.int 1])) (jq qX6_tokenOf 24 rfl) rfl) ?_
          refine Eq.trans (jb_nx (i := .istore_n 2) (n := 1) (q := (82, [some (.ref p0), some (.ref p1), some (.int 1)], [])) (jq qX6_tokenOf 25 rfl) rfl) ?_
          exact H
        · rw [if_neg c24] at H
          by_cases c25 : x7 = 35
          · rw [if_pos c25] at H
            refine Eq.trans (jb_nx (i := .lookupswitch 107 #[(3, 41), (21, 57), (22, 69), (35, 101)]) (n := 41) (q := (112, [some (.ref p0), some (.ref p1), none], [])) (jq qX6_tokenOf 5 rfl) (by rw [c25]; rfl)) ?_
            refine Eq.trans (jb_nx (i := .aload_n 0) (n := 1) (q := (113, [some (.ref p0), some (.ref p1), none], [.ref p0])) (jq qX6_tokenOf 42 rfl) rfl) ?_
            refine Eq.trans (jb_nx (i := .aload_n 1) (n := 1) (q := (114, [some (.ref p0), some (.ref p1), none], [.ref p1, .ref p0])) (jq qX6_tokenOf 43 rfl) rfl) ?_
            obtain ⟨b29, H⟩ := jm_O_inv H
            rcases jcI H with ⟨x28, h26, r27, H⟩ | ⟨w30, h31, r27, H⟩
            · refine Eq.trans (jb_nx (i := .invokevirtual 105) (n := 3) (q := (117, [some (.ref p0), some (.ref p1), none], [.int x28])) (jq qX6_tokenOf 44 rfl) (jo_cv (y := mX6_name) rfl (Nat.le_of_ble_eq_true rfl) rfl (Nat.le_of_ble_eq_true rfl) b29 rfl r27 jo_ret)) ?_
              exact Eq.trans (jb_rt (i := .ireturn) (n := 1) (jq qX6_tokenOf 45 rfl) (jo_iret rfl rfl)) H
            · exact Eq.trans (jb_rt (i := .invokevirtual 105) (n := 3) (jq qX6_tokenOf 44 rfl) (jo_cv (y := mX6_name) rfl (Nat.le_of_ble_eq_true rfl) rfl (Nat.le_of_ble_eq_true rfl) b29 rfl r27 (jo_exn rfl))) H
          · rw [if_neg c25] at H
            refine Eq.trans (jb_nx (i := .lookupswitch 107 #[(3, 41), (21, 57), (22, 69), (35, 101)]) (n := 41) (q := (118, [some (.ref p0), some (.ref p1), none], [])) (jq qX6_tokenOf 5 rfl) (jo_lookD (by decide +kernel) (by intro p hp; simp only [List.mem_cons, List.not_mem_nil, or_false] at hp; rcases hp with rfl | rfl | rfl | rfl; { exact jz_ti rfl c8 }; { exact jz_ti rfl c19 }; { exact jz_ti rfl c24 }; { exact jz_ti rfl c25 }) rfl)) ?_
            refine Eq.trans (jb_nx (i := .iconst 0) (n := 1) (q := (119, [some (.ref p0), some (.ref p1), none], [.int 0])) (jq qX6_tokenOf 46 rfl) rfl) ?_
            exact Eq.trans (jb_rt (i := .ireturn) (n := 1) (jq qX6_tokenOf 47 rfl) (jo_iret rfl rfl)) H
  · exact Eq.trans (jb_rt (i := .invokevirtual 27) (n := 3) (jq qX6_tokenOf 4 rfl) (jo_cv (y := mX9_kindAt) rfl (Nat.le_of_ble_eq_true rfl) rfl (Nat.le_of_ble_eq_true rfl) b32 rfl r6 (jo_exn rfl))) H
/-! MaskPlays$Telling mask (LMaskPlays$Part;)I -/
def tX6_mask : List (Nat × Instr × Nat) := [(0, .aload_n 0, 1), (1, .getfield 15, 3), (4, .aload_n 0, 1), (5, .getfield 23, 3), (8, .invokevirtual 52, 3), (11, .lstore_n 2, 1), (12, .aload_n 0, 1), (13, .getfield 19, 3), (16, .lload_n 2, 1), (17, .invokevirtual 56, 3), (20, .ifCond .eq 5, 3), (23, .iconst 2, 1), (24, .ireturn, 1), (25, .aload_n 0, 1), (26, .getfield 82, 3), (29, .ifCond .lt 35, 3), (32, .aload_n 0, 1), (33, .getfield 82, 3), (36, .aload_n 0, 1), (37, .getfield 9, 3), (40, .arraylength, 1), (41, .if_icmp .ge 23, 3), (44, .aload_n 0, 1), (45, .getfield 9, 3), (48, .aload_n 0, 1), (49, .getfield 82, 3), (52, .lload_n 2, 1), (53, .lastore, 1), (54, .aload_n 0, 1), (55, .dup, 1), (56, .getfield 82, 3), (59, .iconst 1, 1), (60, .iadd, 1), (61, .putfield 82, 3), (64, .aload_n 0, 1), (65, .aload_n 1, 1), (66, .iconst 1, 1), (67, .lload_n 2, 1), (68, .invokevirtual 101, 3), (71, .iconst 0, 1), (72, .ireturn, 1)]
set_option maxRecDepth 100000 in
theorem qX6_mask : ∀ q ∈ tX6_mask, decode cX6_mask q.1 = .ok (q.2.1, q.2.2) := by decide +kernel
theorem gX6_mask {d : Nat} {p0 : Nat} {p1 : Nat} {h : jm_H} {r : jm_R} (H : ((jr_R h p0 6 0 2).bind fun a1 => (jr_I h p0 6 5 0).bind fun x3 => jm_O h a1 9 (jc_L (jm_D d mX9_wordAt [.ref a1, .int x3] h) (fun y7 h5 => (jr_R h5 p0 6 4 2).bind fun a8 => jm_O h5 a8 0 (jc_I (jm_D d mX0_knows [.ref a8, .long y7] h5) (fun x12 h10 => (if x12 = 0 then (jr_I h10 p0 6 2 0).bind fun x14 => (if x14 < 0 then jm_O h10 p0 6 (jc_V (jm_D d mX6_addTo [.ref p0, .ref p1, .int 1, .long y7] h10) (fun h17 => some (.inl (some (.int 0)), h17)) jx) else (jr_I h10 p0 6 2 0).bind fun x22 => (jr_R h10 p0 6 1 2).bind fun a24 => (jm_len h10 a24).bind fun n26 => (if x22 < (Int32.ofNat n26) then (jr_R h10 p0 6 1 2).bind fun a34 => (jr_I h10 p0 6 2 0).bind fun x36 => (jm_asl h10 a34 x36 y7).bind fun h38 => (jr_I h38 p0 6 2 0).bind fun x40 => (jm_pf h38 p0 6 2 0 (.int (x40 + 1))).bind fun h42 => jm_O h42 p0 6 (jc_V (jm_D d mX6_addTo [.ref p0, .ref p1, .int 1, .long y7] h42) (fun h44 => some (.inl (some (.int 0)), h44)) jx) else jm_O h10 p0 6 (jc_V (jm_D d mX6_addTo [.ref p0, .ref p1, .int 1, .long y7] h10) (fun h29 => some (.inl (some (.int 0)), h29)) jx))) else some (.inl (some (.int 2)), h10))) jx)) jx)) = some r) : jm_D (d + 1) mX6_mask [.ref p0, .ref p1] h = some r := by
  rw [jm_D_body (Nat.le_of_ble_eq_true rfl)]
  show jm_B d mX6_mask (0, [some (.ref p0), some (.ref p1), none, none], []) h = some r
  refine Eq.trans (jb_nx (i := .aload_n 0) (n := 1) (q := (1, [some (.ref p0), some (.ref p1), none, none], [.ref p0])) (jq qX6_mask 0 rfl) rfl) ?_
  obtain ⟨a1, e2, H⟩ := jbd H
  refine Eq.trans (jb_nx (i := .getfield 15) (n := 3) (q := (4, [some (.ref p0), some (.ref p1), none, none], [.ref a1])) (jq qX6_mask 1 rfl) (jo_gf rfl (jr_R_inv e2))) ?_
  refine Eq.trans (jb_nx (i := .aload_n 0) (n := 1) (q := (5, [some (.ref p0), some (.ref p1), none, none], [.ref p0, .ref a1])) (jq qX6_mask 2 rfl) rfl) ?_
  obtain ⟨x3, e4, H⟩ := jbd H
  refine Eq.trans (jb_nx (i := .getfield 23) (n := 3) (q := (8, [some (.ref p0), some (.ref p1), none, none], [.int x3, .ref a1])) (jq qX6_mask 3 rfl) (jo_gf rfl (jr_I_inv e4))) ?_
  obtain ⟨b52, H⟩ := jm_O_inv H
  rcases jcL H with ⟨y7, h5, r6, H⟩ | ⟨w53, h54, r6, H⟩
  · refine Eq.trans (jb_nx (i := .invokevirtual 52) (n := 3) (q := (11, [some (.ref p0), some (.ref p1), none, none], [.long y7])) (jq qX6_mask 4 rfl) (jo_cv (y := mX9_wordAt) rfl (Nat.le_of_ble_eq_true rfl) rfl (Nat.le_of_ble_eq_true rfl) b52 rfl r6 jo_ret)) ?_
    refine Eq.trans (jb_nx (i := .lstore_n 2) (n := 1) (q := (12, [some (.ref p0), some (.ref p1), some (.long y7), none], [])) (jq qX6_mask 5 rfl) rfl) ?_
    refine Eq.trans (jb_nx (i := .aload_n 0) (n := 1) (q := (13, [some (.ref p0), some (.ref p1), some (.long y7), none], [.ref p0])) (jq qX6_mask 6 rfl) rfl) ?_
    obtain ⟨a8, e9, H⟩ := jbd H
    refine Eq.trans (jb_nx (i := .getfield 19) (n := 3) (q := (16, [some (.ref p0), some (.ref p1), some (.long y7), none], [.ref a8])) (jq qX6_mask 7 rfl) (jo_gf rfl (jr_R_inv e9))) ?_
    refine Eq.trans (jb_nx (i := .lload_n 2) (n := 1) (q := (17, [some (.ref p0), some (.ref p1), some (.long y7), none], [.long y7, .ref a8])) (jq qX6_mask 8 rfl) rfl) ?_
    obtain ⟨b49, H⟩ := jm_O_inv H
    rcases jcI H with ⟨x12, h10, r11, H⟩ | ⟨w50, h51, r11, H⟩
    · refine Eq.trans (jb_nx (i := .invokevirtual 56) (n := 3) (q := (20, [some (.ref p0), some (.ref p1), some (.long y7), none], [.int x12])) (jq qX6_mask 9 rfl) (jo_cv (y := mX0_knows) rfl (Nat.le_of_ble_eq_true rfl) rfl (Nat.le_of_ble_eq_true rfl) b49 rfl r11 jo_ret)) ?_
      by_cases c13 : x12 = 0
      · rw [if_pos c13] at H
        refine Eq.trans (jb_nx (i := .ifCond .eq 5) (n := 3) (q := (25, [some (.ref p0), some (.ref p1), some (.long y7), none], [])) (jq qX6_mask 10 rfl) (jo_ifT (jz_eqT c13) rfl)) ?_
        refine Eq.trans (jb_nx (i := .aload_n 0) (n := 1) (q := (26, [some (.ref p0), some (.ref p1), some (.long y7), none], [.ref p0])) (jq qX6_mask 13 rfl) rfl) ?_
        obtain ⟨x14, e15, H⟩ := jbd H
        refine Eq.trans (jb_nx (i := .getfield 82) (n := 3) (q := (29, [some (.ref p0), some (.ref p1), some (.long y7), none], [.int x14])) (jq qX6_mask 14 rfl) (jo_gf rfl (jr_I_inv e15))) ?_
        by_cases c16 : x14 < 0
        · rw [if_pos c16] at H
          refine Eq.trans (jb_nx (i := .ifCond .lt 35) (n := 3) (q := (64, [some (.ref p0), some (.ref p1), some (.long y7), none], [])) (jq qX6_mask 15 rfl) (jo_ifT (jz_ltT c16) rfl)) ?_
          refine Eq.trans (jb_nx (i := .aload_n 0) (n := 1) (q := (65, [some (.ref p0), some (.ref p1), some (.long y7), none], [.ref p0])) (jq qX6_mask 34 rfl) rfl) ?_
          refine Eq.trans (jb_nx (i := .aload_n 1) (n := 1) (q := (66, [some (.ref p0), some (.ref p1), some (.long y7), none], [.ref p1, .ref p0])) (jq qX6_mask 35 rfl) rfl) ?_
          refine Eq.trans (jb_nx (i := .iconst 1) (n := 1) (q := (67, [some (.ref p0), some (.ref p1), some (.long y7), none], [.int 1, .ref p1, .ref p0])) (jq qX6_mask 36 rfl) rfl) ?_
          refine Eq.trans (jb_nx (i := .lload_n 2) (n := 1) (q := (68, [some (.ref p0), some (.ref p1), some (.long y7), none], [.long y7, .int 1, .ref p1, .ref p0])) (jq qX6_mask 37 rfl) rfl) ?_
          obtain ⟨b19, H⟩ := jm_O_inv H
          rcases jcV H with ⟨h17, r18, H⟩ | ⟨w20, h21, r18, H⟩
          · refine Eq.trans (jb_nx (i := .invokevirtual 101) (n := 3) (q := (71, [some (.ref p0), some (.ref p1), some (.long y7), none], [])) (jq qX6_mask 38 rfl) (jo_cv (y := mX6_addTo) rfl (Nat.le_of_ble_eq_true rfl) rfl (Nat.le_of_ble_eq_true rfl) b19 rfl r18 jo_ret)) ?_
            refine Eq.trans (jb_nx (i := .iconst 0) (n := 1) (q := (72, [some (.ref p0), some (.ref p1), some (.long y7), none], [.int 0])) (jq qX6_mask 39 rfl) rfl) ?_
            exact Eq.trans (jb_rt (i := .ireturn) (n := 1) (jq qX6_mask 40 rfl) (jo_iret rfl rfl)) H
          · exact Eq.trans (jb_rt (i := .invokevirtual 101) (n := 3) (jq qX6_mask 38 rfl) (jo_cv (y := mX6_addTo) rfl (Nat.le_of_ble_eq_true rfl) rfl (Nat.le_of_ble_eq_true rfl) b19 rfl r18 (jo_exn rfl))) H
        · rw [if_neg c16] at H
          refine Eq.trans (jb_nx (i := .ifCond .lt 35) (n := 3) (q := (32, [some (.ref p0), some (.ref p1), some (.long y7), none], [])) (jq qX6_mask 15 rfl) (jo_ifF (jz_ltF c16))) ?_
          refine Eq.trans (jb_nx (i := .aload_n 0) (n := 1) (q := (33, [some (.ref p0), some (.ref p1), some (.long y7), none], [.ref p0])) (jq qX6_mask 16 rfl) rfl) ?_
          obtain ⟨x22, e23, H⟩ := jbd H
          refine Eq.trans (jb_nx (i := .getfield 82) (n := 3) (q := (36, [some (.ref p0), some (.ref p1), some (.long y7), none], [.int x22])) (jq qX6_mask 17 rfl) (jo_gf rfl (jr_I_inv e23))) ?_
          refine Eq.trans (jb_nx (i := .aload_n 0) (n := 1) (q := (37, [some (.ref p0), some (.ref p1), some (.long y7), none], [.ref p0, .int x22])) (jq qX6_mask 18 rfl) rfl) ?_
          obtain ⟨a24, e25, H⟩ := jbd H
          refine Eq.trans (jb_nx (i := .getfield 9) (n := 3) (q := (40, [some (.ref p0), some (.ref p1), some (.long y7), none], [.ref a24, .int x22])) (jq qX6_mask 19 rfl) (jo_gf rfl (jr_R_inv e25))) ?_
          obtain ⟨n26, e27, H⟩ := jbd H
          refine Eq.trans (jb_nx (i := .arraylength) (n := 1) (q := (41, [some (.ref p0), some (.ref p1), some (.long y7), none], [.int (Int32.ofNat n26), .int x22])) (jq qX6_mask 20 rfl) (jo_len e27)) ?_
          by_cases c28 : x22 < (Int32.ofNat n26)
          · rw [if_pos c28] at H
            refine Eq.trans (jb_nx (i := .if_icmp .ge 23) (n := 3) (q := (44, [some (.ref p0), some (.ref p1), some (.long y7), none], [])) (jq qX6_mask 21 rfl) (jo_icF (jz_geF c28))) ?_
            refine Eq.trans (jb_nx (i := .aload_n 0) (n := 1) (q := (45, [some (.ref p0), some (.ref p1), some (.long y7), none], [.ref p0])) (jq qX6_mask 22 rfl) rfl) ?_
            obtain ⟨a34, e35, H⟩ := jbd H
            refine Eq.trans (jb_nx (i := .getfield 9) (n := 3) (q := (48, [some (.ref p0), some (.ref p1), some (.long y7), none], [.ref a34])) (jq qX6_mask 23 rfl) (jo_gf rfl (jr_R_inv e35))) ?_
            refine Eq.trans (jb_nx (i := .aload_n 0) (n := 1) (q := (49, [some (.ref p0), some (.ref p1), some (.long y7), none], [.ref p0, .ref a34])) (jq qX6_mask 24 rfl) rfl) ?_
            obtain ⟨x36, e37, H⟩ := jbd H
            refine Eq.trans (jb_nx (i := .getfield 82) (n := 3) (q := (52, [some (.ref p0), some (.ref p1), some (.long y7), none], [.int x36, .ref a34])) (jq qX6_mask 25 rfl) (jo_gf rfl (jr_I_inv e37))) ?_
            refine Eq.trans (jb_nx (i := .lload_n 2) (n := 1) (q := (53, [some (.ref p0), some (.ref p1), some (.long y7), none], [.long y7, .int x36, .ref a34])) (jq qX6_mask 26 rfl) rfl) ?_
            obtain ⟨h38, e39, H⟩ := jbd H
            refine Eq.trans (jb_nx (i := .lastore) (n := 1) (q := (54, [some (.ref p0), some (.ref p1), some (.long y7), none], [])) (jq qX6_mask 27 rfl) (jo_las e39)) ?_
            refine Eq.trans (jb_nx (i := .aload_n 0) (n := 1) (q := (55, [some (.ref p0), some (.ref p1), some (.long y7), none], [.ref p0])) (jq qX6_mask 28 rfl) rfl) ?_
            refine Eq.trans (jb_nx (i := .dup) (n := 1) (q := (56, [some (.ref p0), some (.ref p1), some (.long y7), none], [.ref p0, .ref p0])) (jq qX6_mask 29 rfl) rfl) ?_
            obtain ⟨x40, e41, H⟩ := jbd H
            refine Eq.trans (jb_nx (i := .getfield 82) (n := 3) (q := (59, [some (.ref p0), some (.ref p1), some (.long y7), none], [.int x40, .ref p0])) (jq qX6_mask 30 rfl) (jo_gf rfl (jr_I_inv e41))) ?_
            refine Eq.trans (jb_nx (i := .iconst 1) (n := 1) (q := (60, [some (.ref p0), some (.ref p1), some (.long y7), none], [.int 1, .int x40, .ref p0])) (jq qX6_mask 31 rfl) rfl) ?_
            refine Eq.trans (jb_nx (i := .iadd) (n := 1) (q := (61, [some (.ref p0), some (.ref p1), some (.long y7), none], [.int (x40 + 1), .ref p0])) (jq qX6_mask 32 rfl) rfl) ?_
            obtain ⟨h42, e43, H⟩ := jbd H
            refine Eq.trans (jb_nx (i := .putfield 82) (n := 3) (q := (64, [some (.ref p0), some (.ref p1), some (.long y7), none], [])) (jq qX6_mask 33 rfl) (jo_pf rfl (Or.inl rfl) e43)) ?_
            refine Eq.trans (jb_nx (i := .aload_n 0) (n := 1) (q := (65, [some (.ref p0), some (.ref p1), some (.long y7), none], [.ref p0])) (jq qX6_mask 34 rfl) rfl) ?_
            refine Eq.trans (jb_nx (i := .aload_n 1) (n := 1) (q := (66, [some (.ref p0), some (.ref p1), some (.long y7), none], [.ref p1, .ref p0])) (jq qX6_mask 35 rfl) rfl) ?_
            refine Eq.trans (jb_nx (i := .iconst 1) (n := 1) (q := (67, [some (.ref p0), some (.ref p1), some (.long y7), none], [.int 1, .ref p1, .ref p0])) (jq qX6_mask 36 rfl) rfl) ?_
            refine Eq.trans (jb_nx (i := .lload_n 2) (n := 1) (q := (68, [some (.ref p0), some (.ref p1), some (.long y7), none], [.long y7, .int 1, .ref p1, .ref p0])) (jq qX6_mask 37 rfl) rfl) ?_
            obtain ⟨b46, H⟩ := jm_O_inv H
            rcases jcV H with ⟨h44, r45, H⟩ | ⟨w47, h48, r45, H⟩
            · refine Eq.trans (jb_nx (i := .invokevirtual 101) (n := 3) (q := (71, [some (.ref p0), some (.ref p1), some (.long y7), none], [])) (jq qX6_mask 38 rfl) (jo_cv (y := mX6_addTo) rfl (Nat.le_of_ble_eq_true rfl) rfl (Nat.le_of_ble_eq_true rfl) b46 rfl r45 jo_ret)) ?_
              refine Eq.trans (jb_nx (i := .iconst 0) (n := 1) (q := (72, [some (.ref p0), some (.ref p1), some (.long y7), none], [.int 0])) (jq qX6_mask 39 rfl) rfl) ?_
              exact Eq.trans (jb_rt (i := .ireturn) (n := 1) (jq qX6_mask 40 rfl) (jo_iret rfl rfl)) H
            · exact Eq.trans (jb_rt (i := .invokevirtual 101) (n := 3) (jq qX6_mask 38 rfl) (jo_cv (y := mX6_addTo) rfl (Nat.le_of_ble_eq_true rfl) rfl (Nat.le_of_ble_eq_true rfl) b46 rfl r45 (jo_exn rfl))) H
          · rw [if_neg c28] at H
            refine Eq.trans (jb_nx (i := .if_icmp .ge 23) (n := 3) (q := (64, [some (.ref p0), some (.ref p1), some (.long y7), none], [])) (jq qX6_mask 21 rfl) (jo_icT (jz_geT c28) rfl)) ?_
            refine Eq.trans (jb_nx (i := .aload_n 0) (n := 1) (q := (65, [some (.ref p0), some (.ref p1), some (.long y7), none], [.ref p0])) (jq qX6_mask 34 rfl) rfl) ?_
            refine Eq.trans (jb_nx (i := .aload_n 1) (n := 1) (q := (66, [some (.ref p0), some (.ref p1), some (.long y7), none], [.ref p1, .ref p0])) (jq qX6_mask 35 rfl) rfl) ?_
            refine Eq.trans (jb_nx (i := .iconst 1) (n := 1) (q := (67, [some (.ref p0), some (.ref p1), some (.long y7), none], [.int 1, .ref p1, .ref p0])) (jq qX6_mask 36 rfl) rfl) ?_
            refine Eq.trans (jb_nx (i := .lload_n 2) (n := 1) (q := (68, [some (.ref p0), some (.ref p1), some (.long y7), none], [.long y7, .int 1, .ref p1, .ref p0])) (jq qX6_mask 37 rfl) rfl) ?_
            obtain ⟨b31, H⟩ := jm_O_inv H
            rcases jcV H with ⟨h29, r30, H⟩ | ⟨w32, h33, r30, H⟩
            · refine Eq.trans (jb_nx (i := .invokevirtual 101) (n := 3) (q := (71, [some (.ref p0), some (.ref p1), some (.long y7), none], [])) (jq qX6_mask 38 rfl) (jo_cv (y := mX6_addTo) rfl (Nat.le_of_ble_eq_true rfl) rfl (Nat.le_of_ble_eq_true rfl) b31 rfl r30 jo_ret)) ?_
              refine Eq.trans (jb_nx (i := .iconst 0) (n := 1) (q := (72, [some (.ref p0), some (.ref p1), some (.long y7), none], [.int 0])) (jq qX6_mask 39 rfl) rfl) ?_
              exact Eq.trans (jb_rt (i := .ireturn) (n := 1) (jq qX6_mask 40 rfl) (jo_iret rfl rfl)) H
            · exact Eq.trans (jb_rt (i := .invokevirtual 101) (n := 3) (jq qX6_mask 38 rfl) (jo_cv (y := mX6_addTo) rfl (Nat.le_of_ble_eq_true rfl) rfl (Nat.le_of_ble_eq_true rfl) b31 rfl r30 (jo_exn rfl))) H
      · rw [if_neg c13] at H
        refine Eq.trans (jb_nx (i := .ifCond .eq 5) (n := 3) (q := (23, [some (.ref p0), some (.ref p1), some (.long y7), none], [])) (jq qX6_mask 10 rfl) (jo_ifF (jz_eqF c13))) ?_
        refine Eq.trans (jb_nx (i := .iconst 2) (n := 1) (q := (24, [some (.ref p0), some (.ref p1), some (.long y7), none], [.int 2])) (jq qX6_mask 11 rfl) rfl) ?_
        exact Eq.trans (jb_rt (i := .ireturn) (n := 1) (jq qX6_mask 12 rfl) (jo_iret rfl rfl)) H
    · exact Eq.trans (jb_rt (i := .invokevirtual 56) (n := 3) (jq qX6_mask 9 rfl) (jo_cv (y := mX0_knows) rfl (Nat.le_of_ble_eq_true rfl) rfl (Nat.le_of_ble_eq_true rfl) b49 rfl r11 (jo_exn rfl))) H
  · exact Eq.trans (jb_rt (i := .invokevirtual 52) (n := 3) (jq qX6_mask 4 rfl) (jo_cv (y := mX9_wordAt) rfl (Nat.le_of_ble_eq_true rfl) rfl (Nat.le_of_ble_eq_true rfl) b52 rfl r6 (jo_exn rfl))) H
/-! MaskPlays$Telling addTo (LMaskPlays$Part;IJ)V -/
def tX6_addTo : List (Nat × Instr × Nat) := [(0, .aload_n 1, 1), (1, .iload_n 2, 1), (2, .lload_n 3, 1), (3, .invokevirtual 108, 3), (6, .aload_n 0, 1), (7, .dup, 1), (8, .getfield 79, 3), (11, .iconst 1, 1), (12, .iadd, 1), (13, .putfield 79, 3), (16, .return_, 1)]
set_option maxRecDepth 100000 in
theorem qX6_addTo : ∀ q ∈ tX6_addTo, decode cX6_addTo q.1 = .ok (q.2.1, q.2.2) := by decide +kernel
theorem gX6_addTo {d : Nat} {p0 : Nat} {p1 : Nat} {i2 : Int32} {j3 : Int64} {h : jm_H} {r : jm_R} (H : (jm_O h p1 3 (jc_V (jm_D d mX3_add [.ref p1, .int i2, .long j3] h) (fun h1 => (jr_I h1 p0 6 3 0).bind fun x3 => (jm_pf h1 p0 6 3 0 (.int (x3 + 1))).bind fun h5 => some (.inl none, h5)) jx)) = some r) : jm_D (d + 1) mX6_addTo [.ref p0, .ref p1, .int i2, .long j3] h = some r := by
  rw [jm_D_body (Nat.le_of_ble_eq_true rfl)]
  show jm_B d mX6_addTo (0, [some (.ref p0), some (.ref p1), some (.int i2), some (.long j3), none], []) h = some r
  refine Eq.trans (jb_nx (i := .aload_n 1) (n := 1) (q := (1, [some (.ref p0), some (.ref p1), some (.int i2), some (.long j3), none], [.ref p1])) (jq qX6_addTo 0 rfl) rfl) ?_
  refine Eq.trans (jb_nx (i := .iload_n 2) (n := 1) (q := (2, [some (.ref p0), some (.ref p1), some (.int i2), some (.long j3), none], [.int i2, .ref p1])) (jq qX6_addTo 1 rfl) rfl) ?_
  refine Eq.trans (jb_nx (i := .lload_n 3) (n := 1) (q := (3, [some (.ref p0), some (.ref p1), some (.int i2), some (.long j3), none], [.long j3, .int i2, .ref p1])) (jq qX6_addTo 2 rfl) rfl) ?_
  obtain ⟨b7, H⟩ := jm_O_inv H
  rcases jcV H with ⟨h1, r2, H⟩ | ⟨w8, h9, r2, H⟩
  · refine Eq.trans (jb_nx (i := .invokevirtual 108) (n := 3) (q := (6, [some (.ref p0), some (.ref p1), some (.int i2), some (.long j3), none], [])) (jq qX6_addTo 3 rfl) (jo_cv (y := mX3_add) rfl (Nat.le_of_ble_eq_true rfl) rfl (Nat.le_of_ble_eq_true rfl) b7 rfl r2 jo_ret)) ?_
    refine Eq.trans (jb_nx (i := .aload_n 0) (n := 1) (q := (7, [some (.ref p0), some (.ref p1), some (.int i2), some (.long j3), none], [.ref p0])) (jq qX6_addTo 4 rfl) rfl) ?_
    refine Eq.trans (jb_nx (i := .dup) (n := 1) (q := (8, [some (.ref p0), some (.ref p1), some (.int i2), some (.long j3), none], [.ref p0, .ref p0])) (jq qX6_addTo 5 rfl) rfl) ?_
    obtain ⟨x3, e4, H⟩ := jbd H
    refine Eq.trans (jb_nx (i := .getfield 79) (n := 3) (q := (11, [some (.ref p0), some (.ref p1), some (.int i2), some (.long j3), none], [.int x3, .ref p0])) (jq qX6_addTo 6 rfl) (jo_gf rfl (jr_I_inv e4))) ?_
    refine Eq.trans (jb_nx (i := .iconst 1) (n := 1) (q := (12, [some (.ref p0), some (.ref p1), some (.int i2), some (.long j3), none], [.int 1, .int x3, .ref p0])) (jq qX6_addTo 7 rfl) rfl) ?_
    refine Eq.trans (jb_nx (i := .iadd) (n := 1) (q := (13, [some (.ref p0), some (.ref p1), some (.int i2), some (.long j3), none], [.int (x3 + 1), .ref p0])) (jq qX6_addTo 8 rfl) rfl) ?_
    obtain ⟨h5, e6, H⟩ := jbd H
    refine Eq.trans (jb_nx (i := .putfield 79) (n := 3) (q := (16, [some (.ref p0), some (.ref p1), some (.int i2), some (.long j3), none], [])) (jq qX6_addTo 9 rfl) (jo_pf rfl (Or.inl rfl) e6)) ?_
    exact Eq.trans (jb_rt (i := .return_) (n := 1) (jq qX6_addTo 10 rfl) rfl) H
  · exact Eq.trans (jb_rt (i := .invokevirtual 108) (n := 3) (jq qX6_addTo 3 rfl) (jo_cv (y := mX3_add) rfl (Nat.le_of_ble_eq_true rfl) rfl (Nat.le_of_ble_eq_true rfl) b7 rfl r2 (jo_exn rfl))) H
/-! MaskPlays$Telling name (LMaskPlays$Part;)I -/
def tX6_name : List (Nat × Instr × Nat) := [(0, .aload_n 0, 1), (1, .getfield 15, 3), (4, .aload_n 0, 1), (5, .getfield 23, 3), (8, .invokevirtual 52, 3), (11, .lstore_n 2, 1), (12, .aload_n 0, 1), (13, .lload_n 2, 1), (14, .invokevirtual 112, 3), (17, .ifCond .ne 14, 3), (20, .aload_n 0, 1), (21, .getfield 19, 3), (24, .lload_n 2, 1), (25, .invokevirtual 115, 3), (28, .ifCond .lt 12, 3), (31, .aload_n 0, 1), (32, .aload_n 1, 1), (33, .iconst 0, 1), (34, .lload_n 2, 1), (35, .invokevirtual 101, 3), (38, .iconst 0, 1), (39, .ireturn, 1), (40, .aload_n 0, 1), (41, .getfield 19, 3), (44, .lload_n 2, 1), (45, .invokevirtual 119, 3), (48, .istore 4, 2), (50, .iload 4, 2), (52, .ifCond .ge 5, 3), (55, .iconst 3, 1), (56, .ireturn, 1), (57, .aload_n 0, 1), (58, .getfield 19, 3), (61, .iload 4, 2), (63, .invokevirtual 70, 3), (66, .astore 5, 2), (68, .aload_n 1, 1), (69, .aload 5, 2), (71, .iconst 0, 1), (72, .aload 5, 2), (74, .getfield 122, 3), (77, .invokevirtual 125, 3), (80, .aload_n 0, 1), (81, .dup, 1), (82, .getfield 79, 3), (85, .aload 5, 2), (87, .getfield 122, 3), (90, .iadd, 1), (91, .putfield 79, 3), (94, .iconst 0, 1), (95, .ireturn, 1)]
set_option maxRecDepth 100000 in
theorem qX6_name : ∀ q ∈ tX6_name, decode cX6_name q.1 = .ok (q.2.1, q.2.2) := by decide +kernel
theorem gX6_name {d : Nat} {p0 : Nat} {p1 : Nat} {h : jm_H} {r : jm_R} (H : ((jr_R h p0 6 0 2).bind fun a1 => (jr_I h p0 6 5 0).bind fun x3 => jm_O h a1 9 (jc_L (jm_D d mX9_wordAt [.ref a1, .int x3] h) (fun y7 h5 => jm_O h5 p0 6 (jc_I (jm_D d mX6_isMaskAround [.ref p0, .long y7] h5) (fun x10 h8 => (if x10 = 0 then (jr_R h8 p0 6 4 2).bind fun a17 => jm_O h8 a17 0 (jc_I (jm_D d mX0_actorOf [.ref a17, .long y7] h8) (fun x21 h19 => (if x21 < 0 then (jr_R h19 p0 6 4 2).bind fun a23 => jm_O h19 a23 0 (jc_I (jm_D d mX0_playOf [.ref a23, .long y7] h19) (fun x27 h25 => (if x27 < 0 then some (.inl (some (.int 3)), h25) else (jr_R h25 p0 6 4 2).bind fun a29 => jm_O h25 a29 0 (jc_R (jm_D d mX0_toldAt [.ref a29, .int x27] h25) (fun a33 h31 => (jr_I h31 a33 3 0 0).bind fun x34 => jm_O h31 p1 3 (jc_V (jm_D d mX3_append [.ref p1, .ref a33, .int 0, .int x34] h31) (fun h36 => (jr_I h36 p0 6 3 0).bind fun x38 => (jr_I h36 a33 3 0 0).bind fun x40 => (jm_pf h36 p0 6 3 0 (.int (x38 + x40))).bind fun h42 => some (.inl (some (.int 0)), h42)) jx)) jx))) jx) else jm_O h19 p0 6 (jc_V (jm_D d mX6_addTo [.ref p0, .ref p1, .int 0, .long y7] h19) (fun h53 => some (.inl (some (.int 0)), h53)) jx))) jx) else jm_O h8 p0 6 (jc_V (jm_D d mX6_addTo [.ref p0, .ref p1, .int 0, .long y7] h8) (fun h12 => some (.inl (some (.int 0)), h12)) jx))) jx)) jx)) = some r) : jm_D (d + 1) mX6_name [.ref p0, .ref p1] h = some r := by
  rw [jm_D_body (Nat.le_of_ble_eq_true rfl)]
  show jm_B d mX6_name (0, [some (.ref p0), some (.ref p1), none, none, none, none], []) h = some r
  refine Eq.trans (jb_nx (i := .aload_n 0) (n := 1) (q := (1, [some (.ref p0), some (.ref p1), none, none, none, none], [.ref p0])) (jq qX6_name 0 rfl) rfl) ?_
  obtain ⟨a1, e2, H⟩ := jbd H
  refine Eq.trans (jb_nx (i := .getfield 15) (n := 3) (q := (4, [some (.ref p0), some (.ref p1), none, none, none, none], [.ref a1])) (jq qX6_name 1 rfl) (jo_gf rfl (jr_R_inv e2))) ?_
  refine Eq.trans (jb_nx (i := .aload_n 0) (n := 1) (q := (5, [some (.ref p0), some (.ref p1), none, none, none, none], [.ref p0, .ref a1])) (jq qX6_name 2 rfl) rfl) ?_
  obtain ⟨x3, e4, H⟩ := jbd H
  refine Eq.trans (jb_nx (i := .getfield 23) (n := 3) (q := (8, [some (.ref p0), some (.ref p1), none, none, none, none], [.int x3, .ref a1])) (jq qX6_name 3 rfl) (jo_gf rfl (jr_I_inv e4))) ?_
  obtain ⟨b64, H⟩ := jm_O_inv H
  rcases jcL H with ⟨y7, h5, r6, H⟩ | ⟨w65, h66, r6, H⟩
  · refine Eq.trans (jb_nx (i := .invokevirtual 52) (n := 3) (q := (11, [some (.ref p0), some (.ref p1), none, none, none, none], [.long y7])) (jq qX6_name 4 rfl) (jo_cv (y := mX9_wordAt) rfl (Nat.le_of_ble_eq_true rfl) rfl (Nat.le_of_ble_eq_true rfl) b64 rfl r6 jo_ret)) ?_
    refine Eq.trans (jb_nx (i := .lstore_n 2) (n := 1) (q := (12, [some (.ref p0), some (.ref p1), some (.long y7), none, none, none], [])) (jq qX6_name 5 rfl) rfl) ?_
    refine Eq.trans (jb_nx (i := .aload_n 0) (n := 1) (q := (13, [some (.ref p0), some (.ref p1), some (.long y7), none, none, none], [.ref p0])) (jq qX6_name 6 rfl) rfl) ?_
    refine Eq.trans (jb_nx (i := .lload_n 2) (n := 1) (q := (14, [some (.ref p0), some (.ref p1), some (.long y7), none, none, none], [.long y7, .ref p0])) (jq qX6_name 7 rfl) rfl) ?_
    obtain ⟨b61, H⟩ := jm_O_inv H
    rcases jcI H with ⟨x10, h8, r9, H⟩ | ⟨w62, h63, r9, H⟩
    · refine Eq.trans (jb_nx (i := .invokevirtual 112) (n := 3) (q := (17, [some (.ref p0), some (.ref p1), some (.long y7), none, none, none], [.int x10])) (jq qX6_name 8 rfl) (jo_cv (y := mX6_isMaskAround) rfl (Nat.le_of_ble_eq_true rfl) rfl (Nat.le_of_ble_eq_true rfl) b61 rfl r9 jo_ret)) ?_
      by_cases c11 : x10 = 0
      · rw [if_pos c11] at H
        refine Eq.trans (jb_nx (i := .ifCond .ne 14) (n := 3) (q := (20, [some (.ref p0), some (.ref p1), some (.long y7), none, none, none], [])) (jq qX6_name 9 rfl) (jo_ifF (jz_neF c11))) ?_
        refine Eq.trans (jb_nx (i := .aload_n 0) (n := 1) (q := (21, [some (.ref p0), some (.ref p1), some (.long y7), none, none, none], [.ref p0])) (jq qX6_name 10 rfl) rfl) ?_
        obtain ⟨a17, e18, H⟩ := jbd H
        refine Eq.trans (jb_nx (i := .getfield 19) (n := 3) (q := (24, [some (.ref p0), some (.ref p1), some (.long y7), none, none, none], [.ref a17])) (jq qX6_name 11 rfl) (jo_gf rfl (jr_R_inv e18))) ?_
        refine Eq.trans (jb_nx (i := .lload_n 2) (n := 1) (q := (25, [some (.ref p0), some (.ref p1), some (.long y7), none, none, none], [.long y7, .ref a17])) (jq qX6_name 12 rfl) rfl) ?_
        obtain ⟨b58, H⟩ := jm_O_inv H
        rcases jcI H with ⟨x21, h19, r20, H⟩ | ⟨w59, h60, r20, H⟩
        · refine Eq.trans (jb_nx (i := .invokevirtual 115) (n := 3) (q := (28, [some (.ref p0), some (.ref p1), some (.long y7), none, none, none], [.int x21])) (jq qX6_name 13 rfl) (jo_cv (y := mX0_actorOf) rfl (Nat.le_of_ble_eq_true rfl) rfl (Nat.le_of_ble_eq_true rfl) b58 rfl r20 jo_ret)) ?_
          by_cases c22 : x21 < 0
          · rw [if_pos c22] at H
            refine Eq.trans (jb_nx (i := .ifCond .lt 12) (n := 3) (q := (40, [some (.ref p0), some (.ref p1), some (.long y7), none, none, none], [])) (jq qX6_name 14 rfl) (jo_ifT (jz_ltT c22) rfl)) ?_
            refine Eq.trans (jb_nx (i := .aload_n 0) (n := 1) (q := (41, [some (.ref p0), some (.ref p1), some (.long y7), none, none, none], [.ref p0])) (jq qX6_name 22 rfl) rfl) ?_
            obtain ⟨a23, e24, H⟩ := jbd H
            refine Eq.trans (jb_nx (i := .getfield 19) (n := 3) (q := (44, [some (.ref p0), some (.ref p1), some (.long y7), none, none, none], [.ref a23])) (jq qX6_name 23 rfl) (jo_gf rfl (jr_R_inv e24))) ?_
            refine Eq.trans (jb_nx (i := .lload_n 2) (n := 1) (q := (45, [some (.ref p0), some (.ref p1), some (.long y7), none, none, none], [.long y7, .ref a23])) (jq qX6_name 24 rfl) rfl) ?_
            obtain ⟨b50, H⟩ := jm_O_inv H
            rcases jcI H with ⟨x27, h25, r26, H⟩ | ⟨w51, h52, r26, H⟩
            · refine Eq.trans (jb_nx (i := .invokevirtual 119) (n := 3) (q := (48, [some (.ref p0), some (.ref p1), some (.long y7), none, none, none], [.int x27])) (jq qX6_name 25 rfl) (jo_cv (y := mX0_playOf) rfl (Nat.le_of_ble_eq_true rfl) rfl (Nat.le_of_ble_eq_true rfl) b50 rfl r26 jo_ret)) ?_
              refine Eq.trans (jb_nx (i := .istore 4) (n := 2) (q := (50, [some (.ref p0), some (.ref p1), some (.long y7), none, some (.int x27), none], [])) (jq qX6_name 26 rfl) rfl) ?_
              refine Eq.trans (jb_nx (i := .iload 4) (n := 2) (q := (52, [some (.ref p0), some (.ref p1), some (.long y7), none, some (.int x27), none], [.int x27])) (jq qX6_name 27 rfl) rfl) ?_
              by_cases c28 : x27 < 0
              · rw [if_pos c28] at H
                refine Eq.trans (jb_nx (i := .ifCond .ge 5) (n := 3) (q := (55, [some (.ref p0), some (.ref p1), some (.long y7), none, some (.int x27), none], [])) (jq qX6_name 28 rfl) (jo_ifF (jz_geF c28))) ?_
                refine Eq.trans (jb_nx (i := .iconst 3) (n := 1) (q := (56, [some (.ref p0), some (.ref p1), some (.long y7), none, some (.int x27), none], [.int 3])) (jq qX6_name 29 rfl) rfl) ?_
                exact Eq.trans (jb_rt (i := .ireturn) (n := 1) (jq qX6_name 30 rfl) (jo_iret rfl rfl)) H
              · rw [if_neg c28] at H
                refine Eq.trans (jb_nx (i := .ifCond .ge 5) (n := 3) (q := (57, [some (.ref p0), some (.ref p1), some (.long y7), none, some (.int x27), none], [])) (jq qX6_name 28 rfl) (jo_ifT (jz_geT c28) rfl)) ?_
                refine Eq.trans (jb_nx (i := .aload_n 0) (n := 1) (q := (58, [some (.ref p0), some (.ref p1), some (.long y7), none, some (.int x27), none], [.ref p0])) (jq qX6_name 31 rfl) rfl) ?_
                obtain ⟨a29, e30, H⟩ := jbd H
                refine Eq.trans (jb_nx (i := .getfield 19) (n := 3) (q := (61, [some (.ref p0), some (.ref p1), some (.long y7), none, some (.int x27), none], [.ref a29])) (jq qX6_name 32 rfl) (jo_gf rfl (jr_R_inv e30))) ?_
                refine Eq.trans (jb_nx (i := .iload 4) (n := 2) (q := (63, [some (.ref p0), some (.ref p1), some (.long y7), none, some (.int x27), none], [.int x27, .ref a29])) (jq qX6_name 33 rfl) rfl) ?_
                obtain ⟨b47, H⟩ := jm_O_inv H
                rcases jcR H with ⟨a33, h31, r32, H⟩ | ⟨w48, h49, r32, H⟩
                · refine Eq.trans (jb_nx (i := .invokevirtual 70) (n := 3) (q := (66, [some (.ref p0), some (.ref p1), some (.long y7), none, some (.int x27), none], [.ref a33])) (jq qX6_name 34 rfl) (jo_cv (y := mX0_toldAt) rfl (Nat.le_of_ble_eq_true rfl) rfl (Nat.le_of_ble_eq_true rfl) b47 rfl r32 jo_ret)) ?_
                  refine Eq.trans (jb_nx (i := .astore 5) (n := 2) (q := (68, [some (.ref p0), some (.ref p1), some (.long y7), none, some (.int x27), some (.ref a33)], [])) (jq qX6_name 35 rfl) rfl) ?_
                  refine Eq.trans (jb_nx (i := .aload_n 1) (n := 1) (q := (69, [some (.ref p0), some (.ref p1), some (.long y7), none, some (.int x27), some (.ref a33)], [.ref p1])) (jq qX6_name 36 rfl) rfl) ?_
                  refine Eq.trans (jb_nx (i := .aload 5) (n := 2) (q := (71, [some (.ref p0), some (.ref p1), some (.long y7), none, some (.int x27), some (.ref a33)], [.ref a33, .ref p1])) (jq qX6_name 37 rfl) rfl) ?_
                  refine Eq.trans (jb_nx (i := .iconst 0) (n := 1) (q := (72, [some (.ref p0), some (.ref p1), some (.long y7), none, some (.int x27), some (.ref a33)], [.int 0, .ref a33, .ref p1])) (jq qX6_name 38 rfl) rfl) ?_
                  refine Eq.trans (jb_nx (i := .aload 5) (n := 2) (q := (74, [some (.ref p0), some (.ref p1), some (.long y7), none, some (.int x27), some (.ref a33)], [.ref a33, .int 0, .ref a33, .ref p1])) (jq qX6_name 39 rfl) rfl) ?_
                  obtain ⟨x34, e35, H⟩ := jbd H
                  refine Eq.trans (jb_nx (i := .getfield 122) (n := 3) (q := (77, [some (.ref p0), some (.ref p1), some (.long y7), none, some (.int x27), some (.ref a33)], [.int x34, .int 0, .ref a33, .ref p1])) (jq qX6_name 40 rfl) (jo_gf rfl (jr_I_inv e35))) ?_
                  obtain ⟨b44, H⟩ := jm_O_inv H
                  rcases jcV H with ⟨h36, r37, H⟩ | ⟨w45, h46, r37, H⟩
                  · refine Eq.trans (jb_nx (i := .invokevirtual 125) (n := 3) (q := (80, [some (.ref p0), some (.ref p1), some (.long y7), none, some (.int x27), some (.ref a33)], [])) (jq qX6_name 41 rfl) (jo_cv (y := mX3_append) rfl (Nat.le_of_ble_eq_true rfl) rfl (Nat.le_of_ble_eq_true rfl) b44 rfl r37 jo_ret)) ?_
                    refine Eq.trans (jb_nx (i := .aload_n 0) (n := 1) (q := (81, [some (.ref p0), some (.ref p1), some (.long y7), none, some (.int x27), some (.ref a33)], [.ref p0])) (jq qX6_name 42 rfl) rfl) ?_
                    refine Eq.trans (jb_nx (i := .dup) (n := 1) (q := (82, [some (.ref p0), some (.ref p1), some (.long y7), none, some (.int x27), some (.ref a33)], [.ref p0, .ref p0])) (jq qX6_name 43 rfl) rfl) ?_
                    obtain ⟨x38, e39, H⟩ := jbd H
                    refine Eq.trans (jb_nx (i := .getfield 79) (n := 3) (q := (85, [some (.ref p0), some (.ref p1), some (.long y7), none, some (.int x27), some (.ref a33)], [.int x38, .ref p0])) (jq qX6_name 44 rfl) (jo_gf rfl (jr_I_inv e39))) ?_
                    refine Eq.trans (jb_nx (i := .aload 5) (n := 2) (q := (87, [some (.ref p0), some (.ref p1), some (.long y7), none, some (.int x27), some (.ref a33)], [.ref a33, .int x38, .ref p0])) (jq qX6_name 45 rfl) rfl) ?_
                    obtain ⟨x40, e41, H⟩ := jbd H
                    refine Eq.trans (jb_nx (i := .getfield 122) (n := 3) (q := (90, [some (.ref p0), some (.ref p1), some (.long y7), none, some (.int x27), some (.ref a33)], [.int x40, .int x38, .ref p0])) (jq qX6_name 46 rfl) (jo_gf rfl (jr_I_inv e41))) ?_
                    refine Eq.trans (jb_nx (i := .iadd) (n := 1) (q := (91, [some (.ref p0), some (.ref p1), some (.long y7), none, some (.int x27), some (.ref a33)], [.int (x38 + x40), .ref p0])) (jq qX6_name 47 rfl) rfl) ?_
                    obtain ⟨h42, e43, H⟩ := jbd H
                    refine Eq.trans (jb_nx (i := .putfield 79) (n := 3) (q := (94, [some (.ref p0), some (.ref p1), some (.long y7), none, some (.int x27), some (.ref a33)], [])) (jq qX6_name 48 rfl) (jo_pf rfl (Or.inl rfl) e43)) ?_
                    refine Eq.trans (jb_nx (i := .iconst 0) (n := 1) (q := (95, [some (.ref p0), some (.ref p1), some (.long y7), none, some (.int x27), some (.ref a33)], [.int 0])) (jq qX6_name 49 rfl) rfl) ?_
                    exact Eq.trans (jb_rt (i := .ireturn) (n := 1) (jq qX6_name 50 rfl) (jo_iret rfl rfl)) H
                  · exact Eq.trans (jb_rt (i := .invokevirtual 125) (n := 3) (jq qX6_name 41 rfl) (jo_cv (y := mX3_append) rfl (Nat.le_of_ble_eq_true rfl) rfl (Nat.le_of_ble_eq_true rfl) b44 rfl r37 (jo_exn rfl))) H
                · exact Eq.trans (jb_rt (i := .invokevirtual 70) (n := 3) (jq qX6_name 34 rfl) (jo_cv (y := mX0_toldAt) rfl (Nat.le_of_ble_eq_true rfl) rfl (Nat.le_of_ble_eq_true rfl) b47 rfl r32 (jo_exn rfl))) H
            · exact Eq.trans (jb_rt (i := .invokevirtual 119) (n := 3) (jq qX6_name 25 rfl) (jo_cv (y := mX0_playOf) rfl (Nat.le_of_ble_eq_true rfl) rfl (Nat.le_of_ble_eq_true rfl) b50 rfl r26 (jo_exn rfl))) H
          · rw [if_neg c22] at H
            refine Eq.trans (jb_nx (i := .ifCond .lt 12) (n := 3) (q := (31, [some (.ref p0), some (.ref p1), some (.long y7), none, none, none], [])) (jq qX6_name 14 rfl) (jo_ifF (jz_ltF c22))) ?_
            refine Eq.trans (jb_nx (i := .aload_n 0) (n := 1) (q := (32, [some (.ref p0), some (.ref p1), some (.long y7), none, none, none], [.ref p0])) (jq qX6_name 15 rfl) rfl) ?_
            refine Eq.trans (jb_nx (i := .aload_n 1) (n := 1) (q := (33, [some (.ref p0), some (.ref p1), some (.long y7), none, none, none], [.ref p1, .ref p0])) (jq qX6_name 16 rfl) rfl) ?_
            refine Eq.trans (jb_nx (i := .iconst 0) (n := 1) (q := (34, [some (.ref p0), some (.ref p1), some (.long y7), none, none, none], [.int 0, .ref p1, .ref p0])) (jq qX6_name 17 rfl) rfl) ?_
            refine Eq.trans (jb_nx (i := .lload_n 2) (n := 1) (q := (35, [some (.ref p0), some (.ref p1), some (.long y7), none, none, none], [.long y7, .int 0, .ref p1, .ref p0])) (jq qX6_name 18 rfl) rfl) ?_
            obtain ⟨b55, H⟩ := jm_O_inv H
            rcases jcV H with ⟨h53, r54, H⟩ | ⟨w56, h57, r54, H⟩
            · refine Eq.trans (jb_nx (i := .invokevirtual 101) (n := 3) (q := (38, [some (.ref p0), some (.ref p1), some (.long y7), none, none, none], [])) (jq qX6_name 19 rfl) (jo_cv (y := mX6_addTo) rfl (Nat.le_of_ble_eq_true rfl) rfl (Nat.le_of_ble_eq_true rfl) b55 rfl r54 jo_ret)) ?_
              refine Eq.trans (jb_nx (i := .iconst 0) (n := 1) (q := (39, [some (.ref p0), some (.ref p1), some (.long y7), none, none, none], [.int 0])) (jq qX6_name 20 rfl) rfl) ?_
              exact Eq.trans (jb_rt (i := .ireturn) (n := 1) (jq qX6_name 21 rfl) (jo_iret rfl rfl)) H
            · exact Eq.trans (jb_rt (i := .invokevirtual 101) (n := 3) (jq qX6_name 19 rfl) (jo_cv (y := mX6_addTo) rfl (Nat.le_of_ble_eq_true rfl) rfl (Nat.le_of_ble_eq_true rfl) b55 rfl r54 (jo_exn rfl))) H
        · exact Eq.trans (jb_rt (i := .invokevirtual 115) (n := 3) (jq qX6_name 13 rfl) (jo_cv (y := mX0_actorOf) rfl (Nat.le_of_ble_eq_true rfl) rfl (Nat.le_of_ble_eq_true rfl) b58 rfl r20 (jo_exn rfl))) H
      · rw [if_neg c11] at H
        refine Eq.trans (jb_nx (i := .ifCond .ne 14) (n := 3) (q := (31, [some (.ref p0), some (.ref p1), some (.long y7), none, none, none], [])) (jq qX6_name 9 rfl) (jo_ifT (jz_neT c11) rfl)) ?_
        refine Eq.trans (jb_nx (i := .aload_n 0) (n := 1) (q := (32, [some (.ref p0), some (.ref p1), some (.long y7), none, none, none], [.ref p0])) (jq qX6_name 15 rfl) rfl) ?_
        refine Eq.trans (jb_nx (i := .aload_n 1) (n := 1) (q := (33, [some (.ref p0), some (.ref p1), some (.long y7), none, none, none], [.ref p1, .ref p0])) (jq qX6_name 16 rfl) rfl) ?_
        refine Eq.trans (jb_nx (i := .iconst 0) (n := 1) (q := (34, [some (.ref p0), some (.ref p1), some (.long y7), none, none, none], [.int 0, .ref p1, .ref p0])) (jq qX6_name 17 rfl) rfl) ?_
        refine Eq.trans (jb_nx (i := .lload_n 2) (n := 1) (q := (35, [some (.ref p0), some (.ref p1), some (.long y7), none, none, none], [.long y7, .int 0, .ref p1, .ref p0])) (jq qX6_name 18 rfl) rfl) ?_
        obtain ⟨b14, H⟩ := jm_O_inv H
        rcases jcV H with ⟨h12, r13, H⟩ | ⟨w15, h16, r13, H⟩
        · refine Eq.trans (jb_nx (i := .invokevirtual 101) (n := 3) (q := (38, [some (.ref p0), some (.ref p1), some (.long y7), none, none, none], [])) (jq qX6_name 19 rfl) (jo_cv (y := mX6_addTo) rfl (Nat.le_of_ble_eq_true rfl) rfl (Nat.le_of_ble_eq_true rfl) b14 rfl r13 jo_ret)) ?_
          refine Eq.trans (jb_nx (i := .iconst 0) (n := 1) (q := (39, [some (.ref p0), some (.ref p1), some (.long y7), none, none, none], [.int 0])) (jq qX6_name 20 rfl) rfl) ?_
          exact Eq.trans (jb_rt (i := .ireturn) (n := 1) (jq qX6_name 21 rfl) (jo_iret rfl rfl)) H
        · exact Eq.trans (jb_rt (i := .invokevirtual 101) (n := 3) (jq qX6_name 19 rfl) (jo_cv (y := mX6_addTo) rfl (Nat.le_of_ble_eq_true rfl) rfl (Nat.le_of_ble_eq_true rfl) b14 rfl r13 (jo_exn rfl))) H
    · exact Eq.trans (jb_rt (i := .invokevirtual 112) (n := 3) (jq qX6_name 8 rfl) (jo_cv (y := mX6_isMaskAround) rfl (Nat.le_of_ble_eq_true rfl) rfl (Nat.le_of_ble_eq_true rfl) b61 rfl r9 (jo_exn rfl))) H
  · exact Eq.trans (jb_rt (i := .invokevirtual 52) (n := 3) (jq qX6_name 4 rfl) (jo_cv (y := mX9_wordAt) rfl (Nat.le_of_ble_eq_true rfl) rfl (Nat.le_of_ble_eq_true rfl) b64 rfl r6 (jo_exn rfl))) H
/-! MaskPlays$Telling isMaskAround (J)Z -/
def tX6_isMaskAround : List (Nat × Instr × Nat) := [(0, .iconst 0, 1), (1, .istore_n 3, 1), (2, .iload_n 3, 1), (3, .aload_n 0, 1), (4, .getfield 82, 3), (7, .if_icmp .ge 31, 3), (10, .iload_n 3, 1), (11, .aload_n 0, 1), (12, .getfield 9, 3), (15, .arraylength, 1), (16, .if_icmp .ge 22, 3), (19, .aload_n 0, 1), (20, .getfield 9, 3), (23, .iload_n 3, 1), (24, .laload, 1), (25, .lload_n 1, 1), (26, .lcmp, 1), (27, .ifCond .ne 5, 3), (30, .iconst 1, 1), (31, .ireturn, 1), (32, .iinc 3 1, 3), (35, .goto (-33), 3), (38, .iconst 0, 1), (39, .ireturn, 1)]
set_option maxRecDepth 100000 in
theorem qX6_isMaskAround : ∀ q ∈ tX6_isMaskAround, decode cX6_isMaskAround q.1 = .ok (q.2.1, q.2.2) := by decide +kernel
noncomputable def kX6_isMaskAround_2 (d : Nat) (p0 : Nat) (j1 : Int64) (i3 : Int32) (h : jm_H) : Option jm_R := jm_B d mX6_isMaskAround (2, [some (.ref p0), some (.long j1), none, some (.int i3)], []) h
theorem gX6_isMaskAround_2 {d : Nat} {p0 : Nat} {j1 : Int64} {i3 : Int32} {h : jm_H} {r : jm_R} (H : ((jr_I h p0 6 2 0).bind fun x1 => (if i3 < x1 then (jr_R h p0 6 1 2).bind fun a4 => (jm_len h a4).bind fun n6 => (if i3 < (Int32.ofNat n6) then (jr_R h p0 6 1 2).bind fun a9 => (jm_all h a9 i3).bind fun y11 => (if (lg_cmp y11 j1) = 0 then some (.inl (some (.int 1)), h) else kX6_isMaskAround_2 d p0 j1 (i3 + 1) h) else some (.inl (some (.int 0)), h)) else some (.inl (some (.int 0)), h))) = some r) : kX6_isMaskAround_2 d p0 j1 i3 h = some r := by
  show jm_B d mX6_isMaskAround (2, [some (.ref p0), some (.long j1), none, some (.int i3)], []) h = some r
  refine Eq.trans (jb_nx (i := .iload_n 3) (n := 1) (q := (3, [some (.ref p0), some (.long j1), none, some (.int i3)], [.int i3])) (jq qX6_isMaskAround 2 rfl) rfl) ?_
  refine Eq.trans (jb_nx (i := .aload_n 0) (n := 1) (q := (4, [some (.ref p0), some (.long j1), none, some (.int i3)], [.ref p0, .int i3])) (jq qX6_isMaskAround 3 rfl) rfl) ?_
  obtain ⟨x1, e2, H⟩ := jbd H
  refine Eq.trans (jb_nx (i := .getfield 82) (n := 3) (q := (7, [some (.ref p0), some (.long j1), none, some (.int i3)], [.int x1, .int i3])) (jq qX6_isMaskAround 4 rfl) (jo_gf rfl (jr_I_inv e2))) ?_
  by_cases c3 : i3 < x1
  · rw [if_pos c3] at H
    refine Eq.trans (jb_nx (i := .if_icmp .ge 31) (n := 3) (q := (10, [some (.ref p0), some (.long j1), none, some (.int i3)], [])) (jq qX6_isMaskAround 5 rfl) (jo_icF (jz_geF c3))) ?_
    refine Eq.trans (jb_nx (i := .iload_n 3) (n := 1) (q := (11, [some (.ref p0), some (.long j1), none, some (.int i3)], [.int i3])) (jq qX6_isMaskAround 6 rfl) rfl) ?_
    refine Eq.trans (jb_nx (i := .aload_n 0) (n := 1) (q := (12, [some (.ref p0), some (.long j1), none, some (.int i3)], [.ref p0, .int i3])) (jq qX6_isMaskAround 7 rfl) rfl) ?_
    obtain ⟨a4, e5, H⟩ := jbd H
    refine Eq.trans (jb_nx (i := .getfield 9) (n := 3) (q := (15, [some (.ref p0), some (.long j1), none, some (.int i3)], [.ref a4, .int i3])) (jq qX6_isMaskAround 8 rfl) (jo_gf rfl (jr_R_inv e5))) ?_
    obtain ⟨n6, e7, H⟩ := jbd H
    refine Eq.trans (jb_nx (i := .arraylength) (n := 1) (q := (16, [some (.ref p0), some (.long j1), none, some (.int i3)], [.int (Int32.ofNat n6), .int i3])) (jq qX6_isMaskAround 9 rfl) (jo_len e7)) ?_
    by_cases c8 : i3 < (Int32.ofNat n6)
    · rw [if_pos c8] at H
      refine Eq.trans (jb_nx (i := .if_icmp .ge 22) (n := 3) (q := (19, [some (.ref p0), some (.long j1), none, some (.int i3)], [])) (jq qX6_isMaskAround 10 rfl) (jo_icF (jz_geF c8))) ?_
      refine Eq.trans (jb_nx (i := .aload_n 0) (n := 1) (q := (20, [some (.ref p0), some (.long j1), none, some (.int i3)], [.ref p0])) (jq qX6_isMaskAround 11 rfl) rfl) ?_
      obtain ⟨a9, e10, H⟩ := jbd H
      refine Eq.trans (jb_nx (i := .getfield 9) (n := 3) (q := (23, [some (.ref p0), some (.long j1), none, some (.int i3)], [.ref a9])) (jq qX6_isMaskAround 12 rfl) (jo_gf rfl (jr_R_inv e10))) ?_
      refine Eq.trans (jb_nx (i := .iload_n 3) (n := 1) (q := (24, [some (.ref p0), some (.long j1), none, some (.int i3)], [.int i3, .ref a9])) (jq qX6_isMaskAround 13 rfl) rfl) ?_
      obtain ⟨y11, e12, H⟩ := jbd H
      refine Eq.trans (jb_nx (i := .laload) (n := 1) (q := (25, [some (.ref p0), some (.long j1), none, some (.int i3)], [.long y11])) (jq qX6_isMaskAround 14 rfl) (jo_lal e12)) ?_
      refine Eq.trans (jb_nx (i := .lload_n 1) (n := 1) (q := (26, [some (.ref p0), some (.long j1), none, some (.int i3)], [.long j1, .long y11])) (jq qX6_isMaskAround 15 rfl) rfl) ?_
      refine Eq.trans (jb_nx (i := .lcmp) (n := 1) (q := (27, [some (.ref p0), some (.long j1), none, some (.int i3)], [.int (lg_cmp y11 j1)])) (jq qX6_isMaskAround 16 rfl) rfl) ?_
      by_cases c13 : (lg_cmp y11 j1) = 0
      · rw [if_pos c13] at H
        refine Eq.trans (jb_nx (i := .ifCond .ne 5) (n := 3) (q := (30, [some (.ref p0), some (.long j1), none, some (.int i3)], [])) (jq qX6_isMaskAround 17 rfl) (jo_ifF (jz_neF c13))) ?_
        refine Eq.trans (jb_nx (i := .iconst 1) (n := 1) (q := (31, [some (.ref p0), some (.long j1), none, some (.int i3)], [.int 1])) (jq qX6_isMaskAround 18 rfl) rfl) ?_
        exact Eq.trans (jb_rt (i := .ireturn) (n := 1) (jq qX6_isMaskAround 19 rfl) (jo_iret rfl (by decide))) H
      · rw [if_neg c13] at H
        refine Eq.trans (jb_nx (i := .ifCond .ne 5) (n := 3) (q := (32, [some (.ref p0), some (.long j1), none, some (.int i3)], [])) (jq qX6_isMaskAround 17 rfl) (jo_ifT (jz_neT c13) rfl)) ?_
        refine Eq.trans (jb_nx (i := .iinc 3 1) (n := 3) (q := (35, [some (.ref p0), some (.long j1), none, some (.int (i3 + 1))], [])) (jq qX6_isMaskAround 20 rfl) rfl) ?_
        refine Eq.trans (jb_nx (i := .goto (-33)) (n := 3) (q := (2, [some (.ref p0), some (.long j1), none, some (.int (i3 + 1))], [])) (jq qX6_isMaskAround 21 rfl) rfl) ?_
        exact H
    · rw [if_neg c8] at H
      refine Eq.trans (jb_nx (i := .if_icmp .ge 22) (n := 3) (q := (38, [some (.ref p0), some (.long j1), none, some (.int i3)], [])) (jq qX6_isMaskAround 10 rfl) (jo_icT (jz_geT c8) rfl)) ?_
      refine Eq.trans (jb_nx (i := .iconst 0) (n := 1) (q := (39, [some (.ref p0), some (.long j1), none, some (.int i3)], [.int 0])) (jq qX6_isMaskAround 22 rfl) rfl) ?_
      exact Eq.trans (jb_rt (i := .ireturn) (n := 1) (jq qX6_isMaskAround 23 rfl) (jo_iret rfl (by decide))) H
  · rw [if_neg c3] at H
    refine Eq.trans (jb_nx (i := .if_icmp .ge 31) (n := 3) (q := (38, [some (.ref p0), some (.long j1), none, some (.int i3)], [])) (jq qX6_isMaskAround 5 rfl) (jo_icT (jz_geT c3) rfl)) ?_
    refine Eq.trans (jb_nx (i := .iconst 0) (n := 1) (q := (39, [some (.ref p0), some (.long j1), none, some (.int i3)], [.int 0])) (jq qX6_isMaskAround 22 rfl) rfl) ?_
    exact Eq.trans (jb_rt (i := .ireturn) (n := 1) (jq qX6_isMaskAround 23 rfl) (jo_iret rfl (by decide))) H
theorem gX6_isMaskAround {d : Nat} {p0 : Nat} {j1 : Int64} {h : jm_H} {r : jm_R} (H : (kX6_isMaskAround_2 d p0 j1 0 h) = some r) : jm_D (d + 1) mX6_isMaskAround [.ref p0, .long j1] h = some r := by
  rw [jm_D_body (Nat.le_of_ble_eq_true rfl)]
  show jm_B d mX6_isMaskAround (0, [some (.ref p0), some (.long j1), none, none], []) h = some r
  refine Eq.trans (jb_nx (i := .iconst 0) (n := 1) (q := (1, [some (.ref p0), some (.long j1), none, none], [.int 0])) (jq qX6_isMaskAround 0 rfl) rfl) ?_
  refine Eq.trans (jb_nx (i := .istore_n 3) (n := 1) (q := (2, [some (.ref p0), some (.long j1), none, some (.int 0)], [])) (jq qX6_isMaskAround 1 rfl) rfl) ?_
  exact H
/-! MaskPlays$Telling note (I)I -/
def tX6_note : List (Nat × Instr × Nat) := [(0, .aload_n 0, 1), (1, .getfield 19, 3), (4, .getfield 129, 3), (7, .bipush 16, 2), (9, .if_icmp .lt 5, 3), (12, .iconst 4, 1), (13, .ireturn, 1), (14, .aload_n 0, 1), (15, .dup, 1), (16, .getfield 23, 3), (19, .iconst 1, 1), (20, .iadd, 1), (21, .putfield 23, 3), (24, .aload_n 0, 1), (25, .getfield 23, 3), (28, .istore_n 2, 1), (29, .iconst (-1), 1), (30, .istore_n 3, 1), (31, .iconst 0, 1), (32, .istore 4, 2), (34, .iload 4, 2), (36, .sipush 400, 3), (39, .if_icmp .ge 122, 3), (42, .aload_n 0, 1), (43, .getfield 15, 3), (46, .aload_n 0, 1), (47, .getfield 23, 3), (50, .invokevirtual 27, 3), (53, .bipush 24, 2), (55, .if_icmp .eq 106, 3), (58, .aload_n 0, 1), (59, .getfield 15, 3), (62, .aload_n 0, 1), (63, .getfield 23, 3), (66, .invokevirtual 27, 3), (69, .bipush 8, 2), (71, .if_icmp .ne 18, 3), (74, .aload_n 0, 1), (75, .getfield 15, 3), (78, .aload_n 0, 1), (79, .getfield 23, 3), (82, .invokevirtual 98, 3), (85, .istore_n 3, 1), (86, .goto 59, 3), (89, .aload_n 0, 1), (90, .getfield 15, 3), (93, .aload_n 0, 1), (94, .getfield 23, 3), (97, .invokevirtual 27, 3), (100, .bipush 35, 2), (102, .if_icmp .ne 43, 3), (105, .aload_n 0, 1), (106, .getfield 19, 3), (109, .aload_n 0, 1), (110, .getfield 15, 3), (113, .aload_n 0, 1), (114, .getfield 23, 3), (117, .invokevirtual 52, 3), (120, .invokevirtual 119, 3), (123, .istore 5, 2), (125, .iload 5, 2), (127, .ifCond .ge 5, 3), (130, .iconst 3, 1), (131, .ireturn, 1), (132, .aload_n 0, 1), (133, .getfield 15, 3), (136, .aload_n 0, 1), (137, .getfield 23, 3), (140, .iload 5, 2), (142, .invokevirtual 134, 3), (145, .aload_n 0, 1), (146, .dup, 1), (147, .getfield 23, 3), (150, .iconst 1, 1), (151, .iadd, 1), (152, .putfield 23, 3), (155, .iinc 4 1, 3), (158, .goto (-124), 3), (161, .iload_n 1, 1), (162, .iconst 5, 1), (163, .if_icmp .ne 9, 3), (166, .iload_n 2, 1), (167, .iconst 2, 1), (168, .iadd, 1), (169, .goto 4, 3), (172, .iload_n 2, 1), (173, .istore 4, 2), (175, .aload_n 0, 1), (176, .getfield 19, 3), (179, .iload_n 1, 1), (180, .aload_n 0, 1), (181, .getfield 15, 3), (184, .iload 4, 2), (186, .invokevirtual 98, 3), (189, .aload_n 0, 1), (190, .getfield 15, 3), (193, .iload_n 2, 1), (194, .invokevirtual 98, 3), (197, .iload_n 3, 1), (198, .invokevirtual 138, 3), (201, .aload_n 0, 1), (202, .dup, 1), (203, .getfield 23, 3), (206, .iconst 1, 1), (207, .iadd, 1), (208, .putfield 23, 3), (211, .iconst 0, 1), (212, .ireturn, 1)]
set_option maxRecDepth 100000 in
theorem qX6_note : ∀ q ∈ tX6_note, decode cX6_note q.1 = .ok (q.2.1, q.2.2) := by decide +kernel
noncomputable def kX6_note_34 (d : Nat) (p0 : Nat) (i1 : Int32) (i2 : Int32) (i3 : Int32) (i4 : Int32) (o5 : Option Value) (h : jm_H) : Option jm_R := jm_B d mX6_note (34, [some (.ref p0), some (.int i1), some (.int i2), some (.int i3), some (.int i4), o5], []) h
noncomputable def kX6_note_145 (d : Nat) (p0 : Nat) (i1 : Int32) (i2 : Int32) (i3 : Int32) (i4 : Int32) (o5 : Option Value) (h : jm_H) : Option jm_R := jm_B d mX6_note (145, [some (.ref p0), some (.int i1), some (.int i2), some (.int i3), some (.int i4), o5], []) h
noncomputable def kX6_note_173 (d : Nat) (p0 : Nat) (i1 : Int32) (i2 : Int32) (i3 : Int32) (o4 : Option Value) (o5 : Option Value) (si0 : Int32) (h : jm_H) : Option jm_R := jm_B d mX6_note (173, [some (.ref p0), some (.int i1), some (.int i2), some (.int i3), o4, o5], [.int si0]) h
theorem gX6_note_34 {d : Nat} {p0 : Nat} {i1 : Int32} {i2 : Int32} {i3 : Int32} {i4 : Int32} {o5 : Option Value} {h : jm_H} {r : jm_R} (H : ((if i4 < 400 then (jr_R h p0 6 0 2).bind fun a14 => (jr_I h p0 6 5 0).bind fun x16 => jm_O h a14 9 (jc_I (jm_D d mX9_kindAt [.ref a14, .int x16] h) (fun x20 h18 => (if x20 = 24 then (if i1 = 5 then kX6_note_173 d p0 i1 i2 i3 (some (.int i4)) o5 (i2 + 2) h18 else kX6_note_173 d p0 i1 i2 i3 (some (.int i4)) o5 i2 h18) else (jr_R h18 p0 6 0 2).bind fun a23 => (jr_I h18 p0 6 5 0).bind fun x25 => jm_O h18 a23 9 (jc_I (jm_D d mX9_kindAt [.ref a23, .int x25] h18) (fun x29 h27 => (if x29 = 8 then (jr_R h27 p0 6 0 2).bind fun a70 => (jr_I h27 p0 6 5 0).bind fun x72 => jm_O h27 a70 9 (jc_I (jm_D d mX9_markAt [.ref a70, .int x72] h27) (fun x76 h74 => kX6_note_145 d p0 i1 i2 x76 i4 o5 h74) jx) else (jr_R h27 p0 6 0 2).bind fun a31 => (jr_I h27 p0 6 5 0).bind fun x33 => jm_O h27 a31 9 (jc_I (jm_D d mX9_kindAt [.ref a31, .int x33] h27) (fun x37 h35 => (if x37 = 35 then (jr_R h35 p0 6 4 2).bind fun a39 => (jr_R h35 p0 6 0 2).bind fun a41 => (jr_I h35 p0 6 5 0).bind fun x43 => jm_O h35 a41 9 (jc_L (jm_D d mX9_wordAt [.ref a41, .int x43] h35) (fun y47 h45 => jm_O h45 a39 0 (jc_I (jm_D d mX0_playOf [.ref a39, .long y47] h45) (fun x50 h48 => (if x50 < 0 then some (.inl (some (.int 3)), h48) else (jr_R h48 p0 6 0 2).bind fun a52 => (jr_I h48 p0 6 5 0).bind fun x54 => jm_O h48 a52 9 (jc_V (jm_D d mX9_mark [.ref a52, .int x54, .int x50] h48) (fun h56 => kX6_note_145 d p0 i1 i2 i3 i4 (some (.int x50)) h56) jx))) jx)) jx) else kX6_note_145 d p0 i1 i2 i3 i4 o5 h35)) jx))) jx))) jx) else (if i1 = 5 then kX6_note_173 d p0 i1 i2 i3 (some (.int i4)) o5 (i2 + 2) h else kX6_note_173 d p0 i1 i2 i3 (some (.int i4)) o5 i2 h))) = some r) : kX6_note_34 d p0 i1 i2 i3 i4 o5 h = some r := by
  show jm_B d mX6_note (34, [some (.ref p0), some (.int i1), some (.int i2), some (.int i3), some (.int i4), o5], []) h = some r
  refine Eq.trans (jb_nx (i := .iload 4) (n := 2) (q := (36, [some (.ref p0), some (.int i1), some (.int i2), some (.int i3), some (.int i4), o5], [.int i4])) (jq qX6_note 20 rfl) rfl) ?_
  refine Eq.trans (jb_nx (i := .sipush 400) (n := 3) (q := (39, [some (.ref p0), some (.int i1), some (.int i2), some (.int i3), some (.int i4), o5], [.int 400, .int i4])) (jq qX6_note 21 rfl) rfl) ?_
  by_cases c12 : i4 < 400
  · rw [if_pos c12] at H
    refine Eq.trans (jb_nx (i := .if_icmp .ge 122) (n := 3) (q := (42, [some (.ref p0), some (.int i1), some (.int i2), some (.int i3), some (.int i4), o5], [])) (jq qX6_note 22 rfl) (jo_icF (jz_geF c12))) ?_
    refine Eq.trans (jb_nx (i := .aload_n 0) (n := 1) (q := (43, [some (.ref p0), some (.int i1), some (.int i2), some (.int i3), some (.int i4), o5], [.ref p0])) (jq qX6_note 23 rfl) rfl) ?_
    obtain ⟨a14, e15, H⟩ := jbd H
    refine Eq.trans (jb_nx (i := .getfield 15) (n := 3) (q := (46, [some (.ref p0), some (.int i1), some (.int i2), some (.int i3), some (.int i4), o5], [.ref a14])) (jq qX6_note 24 rfl) (jo_gf rfl (jr_R_inv e15))) ?_
    refine Eq.trans (jb_nx (i := .aload_n 0) (n := 1) (q := (47, [some (.ref p0), some (.int i1), some (.int i2), some (.int i3), some (.int i4), o5], [.ref p0, .ref a14])) (jq qX6_note 25 rfl) rfl) ?_
    obtain ⟨x16, e17, H⟩ := jbd H
    refine Eq.trans (jb_nx (i := .getfield 23) (n := 3) (q := (50, [some (.ref p0), some (.int i1), some (.int i2), some (.int i3), some (.int i4), o5], [.int x16, .ref a14])) (jq qX6_note 26 rfl) (jo_gf rfl (jr_I_inv e17))) ?_
    obtain ⟨b83, H⟩ := jm_O_inv H
    rcases jcI H with ⟨x20, h18, r19, H⟩ | ⟨w84, h85, r19, H⟩
    · refine Eq.trans (jb_nx (i := .invokevirtual 27) (n := 3) (q := (53, [some (.ref p0), some (.int i1), some (.int i2), some (.int i3), some (.int i4), o5], [.int x20])) (jq qX6_note 27 rfl) (jo_cv (y := mX9_kindAt) rfl (Nat.le_of_ble_eq_true rfl) rfl (Nat.le_of_ble_eq_true rfl) b83 rfl r19 jo_ret)) ?_
      refine Eq.trans (jb_nx (i := .bipush 24) (n := 2) (q := (55, [some (.ref p0), some (.int i1), some (.int i2), some (.int i3), some (.int i4), o5], [.int 24, .int x20])) (jq qX6_note 28 rfl) rfl) ?_
      by_cases c21 : x20 = 24
      · rw [if_pos c21] at H
        refine Eq.trans (jb_nx (i := .if_icmp .eq 106) (n := 3) (q := (161, [some (.ref p0), some (.int i1), some (.int i2), some (.int i3), some (.int i4), o5], [])) (jq qX6_note 29 rfl) (jo_icT (jz_eqT c21) rfl)) ?_
        refine Eq.trans (jb_nx (i := .iload_n 1) (n := 1) (q := (162, [some (.ref p0), some (.int i1), some (.int i2), some (.int i3), some (.int i4), o5], [.int i1])) (jq qX6_note 78 rfl) rfl) ?_
        refine Eq.trans (jb_nx (i := .iconst 5) (n := 1) (q := (163, [some (.ref p0), some (.int i1), some (.int i2), some (.int i3), some (.int i4), o5], [.int 5, .int i1])) (jq qX6_note 79 rfl) rfl) ?_
        by_cases c22 : i1 = 5
        · rw [if_pos c22] at H
          refine Eq.trans (jb_nx (i := .if_icmp .ne 9) (n := 3) (q := (166, [some (.ref p0), some (.int i1), some (.int i2), some (.int i3), some (.int i4), o5], [])) (jq qX6_note 80 rfl) (jo_icF (jz_neF c22))) ?_
          refine Eq.trans (jb_nx (i := .iload_n 2) (n := 1) (q := (167, [some (.ref p0), some (.int i1), some (.int i2), some (.int i3), some (.int i4), o5], [.int i2])) (jq qX6_note 81 rfl) rfl) ?_
          refine Eq.trans (jb_nx (i := .iconst 2) (n := 1) (q := (168, [some (.ref p0), some (.int i1), some (.int i2), some (.int i3), some (.int i4), o5], [.int 2, .int i2])) (jq qX6_note 82 rfl) rfl) ?_
          refine Eq.trans (jb_nx (i := .iadd) (n := 1) (q := (169, [some (.ref p0), some (.int i1), some (.int i2), some (.int i3), some (.int i4), o5], [.int (i2 + 2)])) (jq qX6_note 83 rfl) rfl) ?_
          refine Eq.trans (jb_nx (i := .goto 4) (n := 3) (q := (173, [some (.ref p0), some (.int i1), some (.int i2), some (.int i3), some (.int i4), o5], [.int (i2 + 2)])) (jq qX6_note 84 rfl) rfl) ?_
          exact H
        · rw [if_neg c22] at H
          refine Eq.trans (jb_nx (i := .if_icmp .ne 9) (n := 3) (q := (172, [some (.ref p0), some (.int i1), some (.int i2), some (.int i3), some (.int i4), o5], [])) (jq qX6_note 80 rfl) (jo_icT (jz_neT c22) rfl)) ?_
          refine Eq.trans (jb_nx (i := .iload_n 2) (n := 1) (q := (173, [some (.ref p0), some (.int i1), some (.int i2), some (.int i3), some (.int i4), o5], [.int i2])) (jq qX6_note 85 rfl) rfl) ?_
          exact H
      · rw [if_neg c21] at H
        refine Eq.trans (jb_nx (i := .if_icmp .eq 106) (n := 3) (q := (58, [some (.ref p0), some (.int i1), some (.int i2), some (.int i3), some (.int i4), o5], [])) (jq qX6_note 29 rfl) (jo_icF (jz_eqF c21))) ?_
        refine Eq.trans (jb_nx (i := .aload_n 0) (n := 1) (q := (59, [some (.ref p0), some (.int i1), some (.int i2), some (.int i3), some (.int i4), o5], [.ref p0])) (jq qX6_note 30 rfl) rfl) ?_
        obtain ⟨a23, e24, H⟩ := jbd H
        refine Eq.trans (jb_nx (i := .getfield 15) (n := 3) (q := (62, [some (.ref p0), some (.int i1), some (.int i2), some (.int i3), some (.int i4), o5], [.ref a23])) (jq qX6_note 31 rfl) (jo_gf rfl (jr_R_inv e24))) ?_
        refine Eq.trans (jb_nx (i := .aload_n 0) (n := 1) (q := (63, [some (.ref p0), some (.int i1), some (.int i2), some (.int i3), some (.int i4), o5], [.ref p0, .ref a23])) (jq qX6_note 32 rfl) rfl) ?_
        obtain ⟨x25, e26, H⟩ := jbd H
        refine Eq.trans (jb_nx (i := .getfield 23) (n := 3) (q := (66, [some (.ref p0), some (.int i1), some (.int i2), some (.int i3), some (.int i4), o5], [.int x25, .ref a23])) (jq qX6_note 33 rfl) (jo_gf rfl (jr_I_inv e26))) ?_
        obtain ⟨b80, H⟩ := jm_O_inv H
        rcases jcI H with ⟨x29, h27, r28, H⟩ | ⟨w81, h82, r28, H⟩
        · refine Eq.trans (jb_nx (i := .invokevirtual 27) (n := 3) (q := (69, [some (.ref p0), some (.int i1), some (.int i2), some (.int i3), some (.int i4), o5], [.int x29])) (jq qX6_note 34 rfl) (jo_cv (y := mX9_kindAt) rfl (Nat.le_of_ble_eq_true rfl) rfl (Nat.le_of_ble_eq_true rfl) b80 rfl r28 jo_ret)) ?_
          refine Eq.trans (jb_nx (i := .bipush 8) (n := 2) (q := (71, [some (.ref p0), some (.int i1), some (.int i2), some (.int i3), some (.int i4), o5], [.int 8, .int x29])) (jq qX6_note 35 rfl) rfl) ?_
          by_cases c30 : x29 = 8
          · rw [if_pos c30] at H
            refine Eq.trans (jb_nx (i := .if_icmp .ne 18) (n := 3) (q := (74, [some (.ref p0), some (.int i1), some (.int i2), some (.int i3), some (.int i4), o5], [])) (jq qX6_note 36 rfl) (jo_icF (jz_neF c30))) ?_
            refine Eq.trans (jb_nx (i := .aload_n 0) (n := 1) (q := (75, [some (.ref p0), some (.int i1), some (.int i2), some (.int i3), some (.int i4), o5], [.ref p0])) (jq qX6_note 37 rfl) rfl) ?_
            obtain ⟨a70, e71, H⟩ := jbd H
            refine Eq.trans (jb_nx (i := .getfield 15) (n := 3) (q := (78, [some (.ref p0), some (.int i1), some (.int i2), some (.int i3), some (.int i4), o5], [.ref a70])) (jq qX6_note 38 rfl) (jo_gf rfl (jr_R_inv e71))) ?_
            refine Eq.trans (jb_nx (i := .aload_n 0) (n := 1) (q := (79, [some (.ref p0), some (.int i1), some (.int i2), some (.int i3), some (.int i4), o5], [.ref p0, .ref a70])) (jq qX6_note 39 rfl) rfl) ?_
            obtain ⟨x72, e73, H⟩ := jbd H
            refine Eq.trans (jb_nx (i := .getfield 23) (n := 3) (q := (82, [some (.ref p0), some (.int i1), some (.int i2), some (.int i3), some (.int i4), o5], [.int x72, .ref a70])) (jq qX6_note 40 rfl) (jo_gf rfl (jr_I_inv e73))) ?_
            obtain ⟨b77, H⟩ := jm_O_inv H
            rcases jcI H with ⟨x76, h74, r75, H⟩ | ⟨w78, h79, r75, H⟩
            · refine Eq.trans (jb_nx (i := .invokevirtual 98) (n := 3) (q := (85, [some (.ref p0), some (.int i1), some (.int i2), some (.int i3), some (.int i4), o5], [.int x76])) (jq qX6_note 41 rfl) (jo_cv (y := mX9_markAt) rfl (Nat.le_of_ble_eq_true rfl) rfl (Nat.le_of_ble_eq_true rfl) b77 rfl r75 jo_ret)) ?_
              refine Eq.trans (jb_nx (i := .istore_n 3) (n := 1) (q := (86, [some (.ref p0), some (.int i1), some (.int i2), some (.int x76), some (.int i4), o5], [])) (jq qX6_note 42 rfl) rfl) ?_
              refine Eq.trans (jb_nx (i := .goto 59) (n := 3) (q := (145, [some (.ref p0), some (.int i1), some (.int i2), some (.int x76), some (.int i4), o5], [])) (jq qX6_note 43 rfl) rfl) ?_
              exact H
            · exact Eq.trans (jb_rt (i := .invokevirtual 98) (n := 3) (jq qX6_note 41 rfl) (jo_cv (y := mX9_markAt) rfl (Nat.le_of_ble_eq_true rfl) rfl (Nat.le_of_ble_eq_true rfl) b77 rfl r75 (jo_exn rfl))) H
          · rw [if_neg c30] at H
            refine Eq.trans (jb_nx (i := .if_icmp .ne 18) (n := 3) (q := (89, [some (.ref p0), some (.int i1), some (.int i2), some (.int i3), some (.int i4), o5], [])) (jq qX6_note 36 rfl) (jo_icT (jz_neT c30) rfl)) ?_
            refine Eq.trans (jb_nx (i := .aload_n 0) (n := 1) (q := (90, [some (.ref p0), some (.int i1), some (.int i2), some (.int i3), some (.int i4), o5], [.ref p0])) (jq qX6_note 44 rfl) rfl) ?_
            obtain ⟨a31, e32, H⟩ := jbd H
            refine Eq.trans (jb_nx (i := .getfield 15) (n := 3) (q := (93, [some (.ref p0), some (.int i1), some (.int i2), some (.int i3), some (.int i4), o5], [.ref a31])) (jq qX6_note 45 rfl) (jo_gf rfl (jr_R_inv e32))) ?_
            refine Eq.trans (jb_nx (i := .aload_n 0) (n := 1) (q := (94, [some (.ref p0), some (.int i1), some (.int i2), some (.int i3), some (.int i4), o5], [.ref p0, .ref a31])) (jq qX6_note 46 rfl) rfl) ?_
            obtain ⟨x33, e34, H⟩ := jbd H
            refine Eq.trans (jb_nx (i := .getfield 23) (n := 3) (q := (97, [some (.ref p0), some (.int i1), some (.int i2), some (.int i3), some (.int i4), o5], [.int x33, .ref a31])) (jq qX6_note 47 rfl) (jo_gf rfl (jr_I_inv e34))) ?_
            obtain ⟨b67, H⟩ := jm_O_inv H
            rcases jcI H with ⟨x37, h35, r36, H⟩ | ⟨w68, h69, r36, H⟩
            · refine Eq.trans (jb_nx (i := .invokevirtual 27) (n := 3) (q := (100, [some (.ref p0), some (.int i1), some (.int i2), some (.int i3), some (.int i4), o5], [.int x37])) (jq qX6_note 48 rfl) (jo_cv (y := mX9_kindAt) rfl (Nat.le_of_ble_eq_true rfl) rfl (Nat.le_of_ble_eq_true rfl) b67 rfl r36 jo_ret)) ?_
              refine Eq.trans (jb_nx (i := .bipush 35) (n := 2) (q := (102, [some (.ref p0), some (.int i1), some (.int i2), some (.int i3), some (.int i4), o5], [.int 35, .int x37])) (jq qX6_note 49 rfl) rfl) ?_
              by_cases c38 : x37 = 35
              · rw [if_pos c38] at H
                refine Eq.trans (jb_nx (i := .if_icmp .ne 43) (n := 3) (q := (105, [some (.ref p0), some (.int i1), some (.int i2), some (.int i3), some (.int i4), o5], [])) (jq qX6_note 50 rfl) (jo_icF (jz_neF c38))) ?_
                refine Eq.trans (jb_nx (i := .aload_n 0) (n := 1) (q := (106, [some (.ref p0), some (.int i1), some (.int i2), some (.int i3), some (.int i4), o5], [.ref p0])) (jq qX6_note 51 rfl) rfl) ?_
                obtain ⟨a39, e40, H⟩ := jbd H
                refine Eq.trans (jb_nx (i := .getfield 19) (n := 3) (q := (109, [some (.ref p0), some (.int i1), some (.int i2), some (.int i3), some (.int i4), o5], [.ref a39])) (jq qX6_note 52 rfl) (jo_gf rfl (jr_R_inv e40))) ?_
                refine Eq.trans (jb_nx (i := .aload_n 0) (n := 1) (q := (110, [some (.ref p0), some (.int i1), some (.int i2), some (.int i3), some (.int i4), o5], [.ref p0, .ref a39])) (jq qX6_note 53 rfl) rfl) ?_
                obtain ⟨a41, e42, H⟩ := jbd H
                refine Eq.trans (jb_nx (i := .getfield 15) (n := 3) (q := (113, [some (.ref p0), some (.int i1), some (.int i2), some (.int i3), some (.int i4), o5], [.ref a41, .ref a39])) (jq qX6_note 54 rfl) (jo_gf rfl (jr_R_inv e42))) ?_
                refine Eq.trans (jb_nx (i := .aload_n 0) (n := 1) (q := (114, [some (.ref p0), some (.int i1), some (.int i2), some (.int i3), some (.int i4), o5], [.ref p0, .ref a41, .ref a39])) (jq qX6_note 55 rfl) rfl) ?_
                obtain ⟨x43, e44, H⟩ := jbd H
                refine Eq.trans (jb_nx (i := .getfield 23) (n := 3) (q := (117, [some (.ref p0), some (.int i1), some (.int i2), some (.int i3), some (.int i4), o5], [.int x43, .ref a41, .ref a39])) (jq qX6_note 56 rfl) (jo_gf rfl (jr_I_inv e44))) ?_
                obtain ⟨b64, H⟩ := jm_O_inv H
                rcases jcL H with ⟨y47, h45, r46, H⟩ | ⟨w65, h66, r46, H⟩
                · refine Eq.trans (jb_nx (i := .invokevirtual 52) (n := 3) (q := (120, [some (.ref p0), some (.int i1), some (.int i2), some (.int i3), some (.int i4), o5], [.long y47, .ref a39])) (jq qX6_note 57 rfl) (jo_cv (y := mX9_wordAt) rfl (Nat.le_of_ble_eq_true rfl) rfl (Nat.le_of_ble_eq_true rfl) b64 rfl r46 jo_ret)) ?_
                  obtain ⟨b61, H⟩ := jm_O_inv H
                  rcases jcI H with ⟨x50, h48, r49, H⟩ | ⟨w62, h63, r49, H⟩
                  · refine Eq.trans (jb_nx (i := .invokevirtual 119) (n := 3) (q := (123, [some (.ref p0), some (.int i1), some (.int i2), some (.int i3), some (.int i4), o5], [.int x50])) (jq qX6_note 58 rfl) (jo_cv (y := mX0_playOf) rfl (Nat.le_of_ble_eq_true rfl) rfl (Nat.le_of_ble_eq_true rfl) b61 rfl r49 jo_ret)) ?_
                    refine Eq.trans (jb_nx (i := .istore 5) (n := 2) (q := (125, [some (.ref p0), some (.int i1), some (.int i2), some (.int i3), some (.int i4), some (.int x50)], [])) (jq qX6_note 59 rfl) rfl) ?_
                    refine Eq.trans (jb_nx (i := .iload 5) (n := 2) (q := (127, [some (.ref p0), some (.int i1), some (.int i2), some (.int i3), some (.int i4), some (.int x50)], [.int x50])) (jq qX6_note 60 rfl) rfl) ?_
                    by_cases c51 : x50 < 0
                    · rw [if_pos c51] at H
                      refine Eq.trans (jb_nx (i := .ifCond .ge 5) (n := 3) (q := (130, [some (.ref p0), some (.int i1), some (.int i2), some (.int i3), some (.int i4), some (.int x50)], [])) (jq qX6_note 61 rfl) (jo_ifF (jz_geF c51))) ?_
                      refine Eq.trans (jb_nx (i := .iconst 3) (n := 1) (q := (131, [some (.ref p0), some (.int i1), some (.int i2), some (.int i3), some (.int i4), some (.int x50)], [.int 3])) (jq qX6_note 62 rfl) rfl) ?_
                      exact Eq.trans (jb_rt (i := .ireturn) (n := 1) (jq qX6_note 63 rfl) (jo_iret rfl rfl)) H
                    · rw [if_neg c51] at H
                      refine Eq.trans (jb_nx (i := .ifCond .ge 5) (n := 3) (q := (132, [some (.ref p0), some (.int i1), some (.int i2), some (.int i3), some (.int i4), some (.int x50)], [])) (jq qX6_note 61 rfl) (jo_ifT (jz_geT c51) rfl)) ?_
                      refine Eq.trans (jb_nx (i := .aload_n 0) (n := 1) (q := (133, [some (.ref p0), some (.int i1), some (.int i2), some (.int i3), some (.int i4), some (.int x50)], [.ref p0])) (jq qX6_note 64 rfl) rfl) ?_
                      obtain ⟨a52, e53, H⟩ := jbd H
                      refine Eq.trans (jb_nx (i := .getfield 15) (n := 3) (q := (136, [some (.ref p0), some (.int i1), some (.int i2), some (.int i3), some (.int i4), some (.int x50)], [.ref a52])) (jq qX6_note 65 rfl) (jo_gf rfl (jr_R_inv e53))) ?_
                      refine Eq.trans (jb_nx (i := .aload_n 0) (n := 1) (q := (137, [some (.ref p0), some (.int i1), some (.int i2), some (.int i3), some (.int i4), some (.int x50)], [.ref p0, .ref a52])) (jq qX6_note 66 rfl) rfl) ?_
                      obtain ⟨x54, e55, H⟩ := jbd H
                      refine Eq.trans (jb_nx (i := .getfield 23) (n := 3) (q := (140, [some (.ref p0), some (.int i1), some (.int i2), some (.int i3), some (.int i4), some (.int x50)], [.int x54, .ref a52])) (jq qX6_note 67 rfl) (jo_gf rfl (jr_I_inv e55))) ?_
                      refine Eq.trans (jb_nx (i := .iload 5) (n := 2) (q := (142, [some (.ref p0), some (.int i1), some (.int i2), some (.int i3), some (.int i4), some (.int x50)], [.int x50, .int x54, .ref a52])) (jq qX6_note 68 rfl) rfl) ?_
                      obtain ⟨b58, H⟩ := jm_O_inv H
                      rcases jcV H with ⟨h56, r57, H⟩ | ⟨w59, h60, r57, H⟩
                      · refine Eq.trans (jb_nx (i := .invokevirtual 134) (n := 3) (q := (145, [some (.ref p0), some (.int i1), some (.int i2), some (.int i3), some (.int i4), some (.int x50)], [])) (jq qX6_note 69 rfl) (jo_cv (y := mX9_mark) rfl (Nat.le_of_ble_eq_true rfl) rfl (Nat.le_of_ble_eq_true rfl) b58 rfl r57 jo_ret)) ?_
                        exact H
                      · exact Eq.trans (jb_rt (i := .invokevirtual 134) (n := 3) (jq qX6_note 69 rfl) (jo_cv (y := mX9_mark) rfl (Nat.le_of_ble_eq_true rfl) rfl (Nat.le_of_ble_eq_true rfl) b58 rfl r57 (jo_exn rfl))) H
                  · exact Eq.trans (jb_rt (i := .invokevirtual 119) (n := 3) (jq qX6_note 58 rfl) (jo_cv (y := mX0_playOf) rfl (Nat.le_of_ble_eq_true rfl) rfl (Nat.le_of_ble_eq_true rfl) b61 rfl r49 (jo_exn rfl))) H
                · exact Eq.trans (jb_rt (i := .invokevirtual 52) (n := 3) (jq qX6_note 57 rfl) (jo_cv (y := mX9_wordAt) rfl (Nat.le_of_ble_eq_true rfl) rfl (Nat.le_of_ble_eq_true rfl) b64 rfl r46 (jo_exn rfl))) H
              · rw [if_neg c38] at H
                refine Eq.trans (jb_nx (i := .if_icmp .ne 43) (n := 3) (q := (145, [some (.ref p0), some (.int i1), some (.int i2), some (.int i3), some (.int i4), o5], [])) (jq qX6_note 50 rfl) (jo_icT (jz_neT c38) rfl)) ?_
                exact H
            · exact Eq.trans (jb_rt (i := .invokevirtual 27) (n := 3) (jq qX6_note 48 rfl) (jo_cv (y := mX9_kindAt) rfl (Nat.le_of_ble_eq_true rfl) rfl (Nat.le_of_ble_eq_true rfl) b67 rfl r36 (jo_exn rfl))) H
        · exact Eq.trans (jb_rt (i := .invokevirtual 27) (n := 3) (jq qX6_note 34 rfl) (jo_cv (y := mX9_kindAt) rfl (Nat.le_of_ble_eq_true rfl) rfl (Nat.le_of_ble_eq_true rfl) b80 rfl r28 (jo_exn rfl))) H
    · exact Eq.trans (jb_rt (i := .invokevirtual 27) (n := 3) (jq qX6_note 27 rfl) (jo_cv (y := mX9_kindAt) rfl (Nat.le_of_ble_eq_true rfl) rfl (Nat.le_of_ble_eq_true rfl) b83 rfl r19 (jo_exn rfl))) H
  · rw [if_neg c12] at H
    refine Eq.trans (jb_nx (i := .if_icmp .ge 122) (n := 3) (q := (161, [some (.ref p0), some (.int i1), some (.int i2), some (.int i3), some (.int i4), o5], [])) (jq qX6_note 22 rfl) (jo_icT (jz_geT c12) rfl)) ?_
    refine Eq.trans (jb_nx (i := .iload_n 1) (n := 1) (q := (162, [some (.ref p0), some (.int i1), some (.int i2), some (.int i3), some (.int i4), o5], [.int i1])) (jq qX6_note 78 rfl) rfl) ?_
    refine Eq.trans (jb_nx (i := .iconst 5) (n := 1) (q := (163, [some (.ref p0), some (.int i1), some (.int i2), some (.int i3), some (.int i4), o5], [.int 5, .int i1])) (jq qX6_note 79 rfl) rfl) ?_
    by_cases c13 : i1 = 5
    · rw [if_pos c13] at H
      refine Eq.trans (jb_nx (i := .if_icmp .ne 9) (n := 3) (q := (166, [some (.ref p0), some (.int i1), some (.int i2), some (.int i3), some (.int i4), o5], [])) (jq qX6_note 80 rfl) (jo_icF (jz_neF c13))) ?_
      refine Eq.trans (jb_nx (i := .iload_n 2) (n := 1) (q := (167, [some (.ref p0), some (.int i1), some (.int i2), some (.int i3), some (.int i4), o5], [.int i2])) (jq qX6_note 81 rfl) rfl) ?_
      refine Eq.trans (jb_nx (i := .iconst 2) (n := 1) (q := (168, [some (.ref p0), some (.int i1), some (.int i2), some (.int i3), some (.int i4), o5], [.int 2, .int i2])) (jq qX6_note 82 rfl) rfl) ?_
      refine Eq.trans (jb_nx (i := .iadd) (n := 1) (q := (169, [some (.ref p0), some (.int i1), some (.int i2), some (.int i3), some (.int i4), o5], [.int (i2 + 2)])) (jq qX6_note 83 rfl) rfl) ?_
      refine Eq.trans (jb_nx (i := .goto 4) (n := 3) (q := (173, [some (.ref p0), some (.int i1), some (.int i2), some (.int i3), some (.int i4), o5], [.int (i2 + 2)])) (jq qX6_note 84 rfl) rfl) ?_
      exact H
    · rw [if_neg c13] at H
      refine Eq.trans (jb_nx (i := .if_icmp .ne 9) (n := 3) (q := (172, [some (.ref p0), some (.int i1), some (.int i2), some (.int i3), some (.int i4), o5], [])) (jq qX6_note 80 rfl) (jo_icT (jz_neT c13) rfl)) ?_
      refine Eq.trans (jb_nx (i := .iload_n 2) (n := 1) (q := (173, [some (.ref p0), some (.int i1), some (.int i2), some (.int i3), some (.int i4), o5], [.int i2])) (jq qX6_note 85 rfl) rfl) ?_
      exact H
theorem gX6_note_145 {d : Nat} {p0 : Nat} {i1 : Int32} {i2 : Int32} {i3 : Int32} {i4 : Int32} {o5 : Option Value} {h : jm_H} {r : jm_R} (H : ((jr_I h p0 6 5 0).bind fun x86 => (jm_pf h p0 6 5 0 (.int (x86 + 1))).bind fun h88 => kX6_note_34 d p0 i1 i2 i3 (i4 + 1) o5 h88) = some r) : kX6_note_145 d p0 i1 i2 i3 i4 o5 h = some r := by
  show jm_B d mX6_note (145, [some (.ref p0), some (.int i1), some (.int i2), some (.int i3), some (.int i4), o5], []) h = some r
  refine Eq.trans (jb_nx (i := .aload_n 0) (n := 1) (q := (146, [some (.ref p0), some (.int i1), some (.int i2), some (.int i3), some (.int i4), o5], [.ref p0])) (jq qX6_note 70 rfl) rfl) ?_
  refine Eq.trans (jb_nx (i := .dup) (n := 1) (q := (147, [some (.ref p0), some (.int i1), some (.int i2), some (.int i3), some (.int i4), o5], [.ref p0, .ref p0])) (jq qX6_note 71 rfl) rfl) ?_
  obtain ⟨x86, e87, H⟩ := jbd H
  refine Eq.trans (jb_nx (i := .getfield 23) (n := 3) (q := (150, [some (.ref p0), some (.int i1), some (.int i2), some (.int i3), some (.int i4), o5], [.int x86, .ref p0])) (jq qX6_note 72 rfl) (jo_gf rfl (jr_I_inv e87))) ?_
  refine Eq.trans (jb_nx (i := .iconst 1) (n := 1) (q := (151, [some (.ref p0), some (.int i1), some (.int i2), some (.int i3), some (.int i4), o5], [.int 1, .int x86, .ref p0])) (jq qX6_note 73 rfl) rfl) ?_
  refine Eq.trans (jb_nx (i := .iadd) (n := 1) (q := (152, [some (.ref p0), some (.int i1), some (.int i2), some (.int i3), some (.int i4), o5], [.int (x86 + 1), .ref p0])) (jq qX6_note 74 rfl) rfl) ?_
  obtain ⟨h88, e89, H⟩ := jbd H
  refine Eq.trans (jb_nx (i := .putfield 23) (n := 3) (q := (155, [some (.ref p0), some (.int i1), some (.int i2), some (.int i3), some (.int i4), o5], [])) (jq qX6_note 75 rfl) (jo_pf rfl (Or.inl rfl) e89)) ?_
  refine Eq.trans (jb_nx (i := .iinc 4 1) (n := 3) (q := (158, [some (.ref p0), some (.int i1), some (.int i2), some (.int i3), some (.int (i4 + 1)), o5], [])) (jq qX6_note 76 rfl) rfl) ?_
  refine Eq.trans (jb_nx (i := .goto (-124)) (n := 3) (q := (34, [some (.ref p0), some (.int i1), some (.int i2), some (.int i3), some (.int (i4 + 1)), o5], [])) (jq qX6_note 77 rfl) rfl) ?_
  exact H
theorem gX6_note_173 {d : Nat} {p0 : Nat} {i1 : Int32} {i2 : Int32} {i3 : Int32} {o4 : Option Value} {o5 : Option Value} {si0 : Int32} {h : jm_H} {r : jm_R} (H : ((jr_R h p0 6 4 2).bind fun a90 => (jr_R h p0 6 0 2).bind fun a92 => jm_O h a92 9 (jc_I (jm_D d mX9_markAt [.ref a92, .int si0] h) (fun x96 h94 => (jr_R h94 p0 6 0 2).bind fun a97 => jm_O h94 a97 9 (jc_I (jm_D d mX9_markAt [.ref a97, .int i2] h94) (fun x101 h99 => jm_O h99 a90 0 (jc_V (jm_D d mX0_addNote [.ref a90, .int i1, .int x96, .int x101, .int i3] h99) (fun h102 => (jr_I h102 p0 6 5 0).bind fun x104 => (jm_pf h102 p0 6 5 0 (.int (x104 + 1))).bind fun h106 => some (.inl (some (.int 0)), h106)) jx)) jx)) jx)) = some r) : kX6_note_173 d p0 i1 i2 i3 o4 o5 si0 h = some r := by
  show jm_B d mX6_note (173, [some (.ref p0), some (.int i1), some (.int i2), some (.int i3), o4, o5], [.int si0]) h = some r
  refine Eq.trans (jb_nx (i := .istore 4) (n := 2) (q := (175, [some (.ref p0), some (.int i1), some (.int i2), some (.int i3), some (.int si0), o5], [])) (jq qX6_note 86 rfl) rfl) ?_
  refine Eq.trans (jb_nx (i := .aload_n 0) (n := 1) (q := (176, [some (.ref p0), some (.int i1), some (.int i2), some (.int i3), some (.int si0), o5], [.ref p0])) (jq qX6_note 87 rfl) rfl) ?_
  obtain ⟨a90, e91, H⟩ := jbd H
  refine Eq.trans (jb_nx (i := .getfield 19) (n := 3) (q := (179, [some (.ref p0), some (.int i1), some (.int i2), some (.int i3), some (.int si0), o5], [.ref a90])) (jq qX6_note 88 rfl) (jo_gf rfl (jr_R_inv e91))) ?_
  refine Eq.trans (jb_nx (i := .iload_n 1) (n := 1) (q := (180, [some (.ref p0), some (.int i1), some (.int i2), some (.int i3), some (.int si0), o5], [.int i1, .ref a90])) (jq qX6_note 89 rfl) rfl) ?_
  refine Eq.trans (jb_nx (i := .aload_n 0) (n := 1) (q := (181, [some (.ref p0), some (.int i1), some (.int i2), some (.int i3), some (.int si0), o5], [.ref p0, .int i1, .ref a90])) (jq qX6_note 90 rfl) rfl) ?_
  obtain ⟨a92, e93, H⟩ := jbd H
  refine Eq.trans (jb_nx (i := .getfield 15) (n := 3) (q := (184, [some (.ref p0), some (.int i1), some (.int i2), some (.int i3), some (.int si0), o5], [.ref a92, .int i1, .ref a90])) (jq qX6_note 91 rfl) (jo_gf rfl (jr_R_inv e93))) ?_
  refine Eq.trans (jb_nx (i := .iload 4) (n := 2) (q := (186, [some (.ref p0), some (.int i1), some (.int i2), some (.int i3), some (.int si0), o5], [.int si0, .ref a92, .int i1, .ref a90])) (jq qX6_note 92 rfl) rfl) ?_
  obtain ⟨b114, H⟩ := jm_O_inv H
  rcases jcI H with ⟨x96, h94, r95, H⟩ | ⟨w115, h116, r95, H⟩
  · refine Eq.trans (jb_nx (i := .invokevirtual 98) (n := 3) (q := (189, [some (.ref p0), some (.int i1), some (.int i2), some (.int i3), some (.int si0), o5], [.int x96, .int i1, .ref a90])) (jq qX6_note 93 rfl) (jo_cv (y := mX9_markAt) rfl (Nat.le_of_ble_eq_true rfl) rfl (Nat.le_of_ble_eq_true rfl) b114 rfl r95 jo_ret)) ?_
    refine Eq.trans (jb_nx (i := .aload_n 0) (n := 1) (q := (190, [some (.ref p0), some (.int i1), some (.int i2), some (.int i3), some (.int si0), o5], [.ref p0, .int x96, .int i1, .ref a90])) (jq qX6_note 94 rfl) rfl) ?_
    obtain ⟨a97, e98, H⟩ := jbd H
    refine Eq.trans (jb_nx (i := .getfield 15) (n := 3) (q := (193, [some (.ref p0), some (.int i1), some (.int i2), some (.int i3), some (.int si0), o5], [.ref a97, .int x96, .int i1, .ref a90])) (jq qX6_note 95 rfl) (jo_gf rfl (jr_R_inv e98))) ?_
    refine Eq.trans (jb_nx (i := .iload_n 2) (n := 1) (q := (194, [some (.ref p0), some (.int i1), some (.int i2), some (.int i3), some (.int si0), o5], [.int i2, .ref a97, .int x96, .int i1, .ref a90])) (jq qX6_note 96 rfl) rfl) ?_
    obtain ⟨b111, H⟩ := jm_O_inv H
    rcases jcI H with ⟨x101, h99, r100, H⟩ | ⟨w112, h113, r100, H⟩
    · refine Eq.trans (jb_nx (i := .invokevirtual 98) (n := 3) (q := (197, [some (.ref p0), some (.int i1), some (.int i2), some (.int i3), some (.int si0), o5], [.int x101, .int x96, .int i1, .ref a90])) (jq qX6_note 97 rfl) (jo_cv (y := mX9_markAt) rfl (Nat.le_of_ble_eq_true rfl) rfl (Nat.le_of_ble_eq_true rfl) b111 rfl r100 jo_ret)) ?_
      refine Eq.trans (jb_nx (i := .iload_n 3) (n := 1) (q := (198, [some (.ref p0), some (.int i1), some (.int i2), some (.int i3), some (.int si0), o5], [.int i3, .int x101, .int x96, .int i1, .ref a90])) (jq qX6_note 98 rfl) rfl) ?_
      obtain ⟨b108, H⟩ := jm_O_inv H
      rcases jcV H with ⟨h102, r103, H⟩ | ⟨w109, h110, r103, H⟩
      · refine Eq.trans (jb_nx (i := .invokevirtual 138) (n := 3) (q := (201, [some (.ref p0), some (.int i1), some (.int i2), some (.int i3), some (.int si0), o5], [])) (jq qX6_note 99 rfl) (jo_cv (y := mX0_addNote) rfl (Nat.le_of_ble_eq_true rfl) rfl (Nat.le_of_ble_eq_true rfl) b108 rfl r103 jo_ret)) ?_
        refine Eq.trans (jb_nx (i := .aload_n 0) (n := 1) (q := (202, [some (.ref p0), some (.int i1), some (.int i2), some (.int i3), some (.int si0), o5], [.ref p0])) (jq qX6_note 100 rfl) rfl) ?_
        refine Eq.trans (jb_nx (i := .dup) (n := 1) (q := (203, [some (.ref p0), some (.int i1), some (.int i2), some (.int i3), some (.int si0), o5], [.ref p0, .ref p0])) (jq qX6_note 101 rfl) rfl) ?_
        obtain ⟨x104, e105, H⟩ := jbd H
        refine Eq.trans (jb_nx (i := .getfield 23) (n := 3) (q := (206, [some (.ref p0), some (.int i1), some (.int i2), some (.int i3), some (.int si0), o5], [.int x104, .ref p0])) (jq qX6_note 102 rfl) (jo_gf rfl (jr_I_inv e105))) ?_
        refine Eq.trans (jb_nx (i := .iconst 1) (n := 1) (q := (207, [some (.ref p0), some (.int i1), some (.int i2), some (.int i3), some (.int si0), o5], [.int 1, .int x104, .ref p0])) (jq qX6_note 103 rfl) rfl) ?_
        refine Eq.trans (jb_nx (i := .iadd) (n := 1) (q := (208, [some (.ref p0), some (.int i1), some (.int i2), some (.int i3), some (.int si0), o5], [.int (x104 + 1), .ref p0])) (jq qX6_note 104 rfl) rfl) ?_
        obtain ⟨h106, e107, H⟩ := jbd H
        refine Eq.trans (jb_nx (i := .putfield 23) (n := 3) (q := (211, [some (.ref p0), some (.int i1), some (.int i2), some (.int i3), some (.int si0), o5], [])) (jq qX6_note 105 rfl) (jo_pf rfl (Or.inl rfl) e107)) ?_
        refine Eq.trans (jb_nx (i := .iconst 0) (n := 1) (q := (212, [some (.ref p0), some (.int i1), some (.int i2), some (.int i3), some (.int si0), o5], [.int 0])) (jq qX6_note 106 rfl) rfl) ?_
        exact Eq.trans (jb_rt (i := .ireturn) (n := 1) (jq qX6_note 107 rfl) (jo_iret rfl rfl)) H
      · exact Eq.trans (jb_rt (i := .invokevirtual 138) (n := 3) (jq qX6_note 99 rfl) (jo_cv (y := mX0_addNote) rfl (Nat.le_of_ble_eq_true rfl) rfl (Nat.le_of_ble_eq_true rfl) b108 rfl r103 (jo_exn rfl))) H
    · exact Eq.trans (jb_rt (i := .invokevirtual 98) (n := 3) (jq qX6_note 97 rfl) (jo_cv (y := mX9_markAt) rfl (Nat.le_of_ble_eq_true rfl) rfl (Nat.le_of_ble_eq_true rfl) b111 rfl r100 (jo_exn rfl))) H
  · exact Eq.trans (jb_rt (i := .invokevirtual 98) (n := 3) (jq qX6_note 93 rfl) (jo_cv (y := mX9_markAt) rfl (Nat.le_of_ble_eq_true rfl) rfl (Nat.le_of_ble_eq_true rfl) b114 rfl r95 (jo_exn rfl))) H
theorem gX6_note {d : Nat} {p0 : Nat} {i1 : Int32} {h : jm_H} {r : jm_R} (H : ((jr_R h p0 6 4 2).bind fun a1 => (jr_I h a1 0 2 0).bind fun x3 => (if x3 < 16 then (jr_I h p0 6 5 0).bind fun x6 => (jm_pf h p0 6 5 0 (.int (x6 + 1))).bind fun h8 => (jr_I h8 p0 6 5 0).bind fun x10 => kX6_note_34 d p0 i1 x10 (-1) 0 none h8 else some (.inl (some (.int 4)), h))) = some r) : jm_D (d + 1) mX6_note [.ref p0, .int i1] h = some r := by
  rw [jm_D_body (Nat.le_of_ble_eq_true rfl)]
  show jm_B d mX6_note (0, [some (.ref p0), some (.int i1), none, none, none, none], []) h = some r
  refine Eq.trans (jb_nx (i := .aload_n 0) (n := 1) (q := (1, [some (.ref p0), some (.int i1), none, none, none, none], [.ref p0])) (jq qX6_note 0 rfl) rfl) ?_
  obtain ⟨a1, e2, H⟩ := jbd H
  refine Eq.trans (jb_nx (i := .getfield 19) (n := 3) (q := (4, [some (.ref p0), some (.int i1), none, none, none, none], [.ref a1])) (jq qX6_note 1 rfl) (jo_gf rfl (jr_R_inv e2))) ?_
  obtain ⟨x3, e4, H⟩ := jbd H
  refine Eq.trans (jb_nx (i := .getfield 129) (n := 3) (q := (7, [some (.ref p0), some (.int i1), none, none, none, none], [.int x3])) (jq qX6_note 2 rfl) (jo_gf rfl (jr_I_inv e4))) ?_
  refine Eq.trans (jb_nx (i := .bipush 16) (n := 2) (q := (9, [some (.ref p0), some (.int i1), none, none, none, none], [.int 16, .int x3])) (jq qX6_note 3 rfl) rfl) ?_
  by_cases c5 : x3 < 16
  · rw [if_pos c5] at H
    refine Eq.trans (jb_nx (i := .if_icmp .lt 5) (n := 3) (q := (14, [some (.ref p0), some (.int i1), none, none, none, none], [])) (jq qX6_note 4 rfl) (jo_icT (jz_ltT c5) rfl)) ?_
    refine Eq.trans (jb_nx (i := .aload_n 0) (n := 1) (q := (15, [some (.ref p0), some (.int i1), none, none, none, none], [.ref p0])) (jq qX6_note 7 rfl) rfl) ?_
    refine Eq.trans (jb_nx (i := .dup) (n := 1) (q := (16, [some (.ref p0), some (.int i1), none, none, none, none], [.ref p0, .ref p0])) (jq qX6_note 8 rfl) rfl) ?_
    obtain ⟨x6, e7, H⟩ := jbd H
    refine Eq.trans (jb_nx (i := .getfield 23) (n := 3) (q := (19, [some (.ref p0), some (.int i1), none, none, none, none], [.int x6, .ref p0])) (jq qX6_note 9 rfl) (jo_gf rfl (jr_I_inv e7))) ?_
    refine Eq.trans (jb_nx (i := .iconst 1) (n := 1) (q := (20, [some (.ref p0), some (.int i1), none, none, none, none], [.int 1, .int x6, .ref p0])) (jq qX6_note 10 rfl) rfl) ?_
    refine Eq.trans (jb_nx (i := .iadd) (n := 1) (q := (21, [some (.ref p0), some (.int i1), none, none, none, none], [.int (x6 + 1), .ref p0])) (jq qX6_note 11 rfl) rfl) ?_
    obtain ⟨h8, e9, H⟩ := jbd H
    refine Eq.trans (jb_nx (i := .putfield 23) (n := 3) (q := (24, [some (.ref p0), some (.int i1), none, none, none, none], [])) (jq qX6_note 12 rfl) (jo_pf rfl (Or.inl rfl) e9)) ?_
    refine Eq.trans (jb_nx (i := .aload_n 0) (n := 1) (q := (25, [some (.ref p0), some (.int i1), none, none, none, none], [.ref p0])) (jq qX6_note 13 rfl) rfl) ?_
    obtain ⟨x10, e11, H⟩ := jbd H
    refine Eq.trans (jb_nx (i := .getfield 23) (n := 3) (q := (28, [some (.ref p0), some (.int i1), none, none, none, none], [.int x10])) (jq qX6_note 14 rfl) (jo_gf rfl (jr_I_inv e11))) ?_
    refine Eq.trans (jb_nx (i := .istore_n 2) (n := 1) (q := (29, [some (.ref p0), some (.int i1), some (.int x10), none, none, none], [])) (jq qX6_note 15 rfl) rfl) ?_
    refine Eq.trans (jb_nx (i := .iconst (-1)) (n := 1) (q := (30, [some (.ref p0), some (.int i1), some (.int x10), none, none, none], [.int (-1)])) (jq qX6_note 16 rfl) rfl) ?_
    refine Eq.trans (jb_nx (i := .istore_n 3) (n := 1) (q := (31, [some (.ref p0), some (.int i1), some (.int x10), some (.int (-1)), none, none], [])) (jq qX6_note 17 rfl) rfl) ?_
    refine Eq.trans (jb_nx (i := .iconst 0) (n := 1) (q := (32, [some (.ref p0), some (.int i1), some (.int x10), some (.int (-1)), none, none], [.int 0])) (jq qX6_note 18 rfl) rfl) ?_
    refine Eq.trans (jb_nx (i := .istore 4) (n := 2) (q := (34, [some (.ref p0), some (.int i1), some (.int x10), some (.int (-1)), some (.int 0), none], [])) (jq qX6_note 19 rfl) rfl) ?_
    exact H
  · rw [if_neg c5] at H
    refine Eq.trans (jb_nx (i := .if_icmp .lt 5) (n := 3) (q := (12, [some (.ref p0), some (.int i1), none, none, none, none], [])) (jq qX6_note 4 rfl) (jo_icF (jz_ltF c5))) ?_
    refine Eq.trans (jb_nx (i := .iconst 4) (n := 1) (q := (13, [some (.ref p0), some (.int i1), none, none, none, none], [.int 4])) (jq qX6_note 5 rfl) rfl) ?_
    exact Eq.trans (jb_rt (i := .ireturn) (n := 1) (jq qX6_note 6 rfl) (jo_iret rfl rfl)) H
/-! MaskPlays$Telling place ()I -/
def tX6_place : List (Nat × Instr × Nat) := [(0, .aload_n 0, 1), (1, .getfield 23, 3), (4, .ireturn, 1)]
set_option maxRecDepth 100000 in
theorem qX6_place : ∀ q ∈ tX6_place, decode cX6_place q.1 = .ok (q.2.1, q.2.2) := by decide +kernel
theorem gX6_place {d : Nat} {p0 : Nat} {h : jm_H} {r : jm_R} (H : ((jr_I h p0 6 5 0).bind fun x1 => some (.inl (some (.int x1)), h)) = some r) : jm_D (d + 1) mX6_place [.ref p0] h = some r := by
  rw [jm_D_body (Nat.le_of_ble_eq_true rfl)]
  show jm_B d mX6_place (0, [some (.ref p0)], []) h = some r
  refine Eq.trans (jb_nx (i := .aload_n 0) (n := 1) (q := (1, [some (.ref p0)], [.ref p0])) (jq qX6_place 0 rfl) rfl) ?_
  obtain ⟨x1, e2, H⟩ := jbd H
  refine Eq.trans (jb_nx (i := .getfield 23) (n := 3) (q := (4, [some (.ref p0)], [.int x1])) (jq qX6_place 1 rfl) (jo_gf rfl (jr_I_inv e2))) ?_
  exact Eq.trans (jb_rt (i := .ireturn) (n := 1) (jq qX6_place 2 rfl) (jo_iret rfl rfl)) H
