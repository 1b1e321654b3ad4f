/-! ===== LEVEL 2: X7 ===== -/
theorem jz_ti {x c : Int32} {k : Int} (hk : c.toInt = k) (h : ¬ x = c) : ¬ x.toInt = k := fun e => h (Int32.toInt_inj.mp (e.trans hk.symm))
/-! MaskPlays$Tests <init> ()V -/
def tX7_init : List (Nat × Instr × Nat) := [(0, .aload_n 0, 1), (1, .invokespecial 3, 3), (4, .aload_n 0, 1), (5, .sipush 400, 3), (8, .newarray .int, 2), (10, .putfield 9, 3), (13, .return_, 1)]
set_option maxRecDepth 100000 in
theorem qX7_init : ∀ q ∈ tX7_init, decode cX7_init q.1 = .ok (q.2.1, q.2.2) := by decide +kernel
theorem gX7_init {d : Nat} {p0 : Nat} {h : jm_H} {r : jm_R} (H : (jm_U p0 (jl_newa h 0 400 fun a2 h3 => (jm_pf h3 p0 7 0 2 (.ref a2)).bind fun h6 => some (.inl none, h6))) = some r) : jm_D (d + 1) mX7_init [.ref p0] h = some r := by
  rw [jm_D_body (Nat.le_of_ble_eq_true rfl)]
  show jm_B d mX7_init (0, [some (.ref p0)], []) h = some r
  refine Eq.trans (jb_nx (i := .aload_n 0) (n := 1) (q := (1, [some (.ref p0)], [.ref p0])) (jq qX7_init 0 rfl) rfl) ?_
  obtain ⟨u1, H⟩ := jm_U_inv H
  refine Eq.trans (jb_nx (i := .invokespecial 3) (n := 3) (q := (4, [some (.ref p0)], [])) (jq qX7_init 1 rfl) (jo_oi (z := mX3_clear) rfl (Nat.le_of_ble_eq_true rfl) u1)) ?_
  refine Eq.trans (jb_nx (i := .aload_n 0) (n := 1) (q := (5, [some (.ref p0)], [.ref p0])) (jq qX7_init 2 rfl) rfl) ?_
  refine Eq.trans (jb_nx (i := .sipush 400) (n := 3) (q := (8, [some (.ref p0)], [.int 400, .ref p0])) (jq qX7_init 3 rfl) rfl) ?_
  obtain ⟨a2, h3, e4, e5, H⟩ := jl_newa_inv H
  refine Eq.trans (jb_nx (i := .newarray .int) (n := 2) (q := (10, [some (.ref p0)], [.ref a2, .ref p0])) (jq qX7_init 4 rfl) (jo_newb rfl e4 e5)) ?_
  obtain ⟨h6, e7, H⟩ := jbd H
  refine Eq.trans (jb_nx (i := .putfield 9) (n := 3) (q := (13, [some (.ref p0)], [])) (jq qX7_init 5 rfl) (jo_pf rfl (Or.inr ⟨rfl, rfl⟩) e7)) ?_
  exact Eq.trans (jb_rt (i := .return_) (n := 1) (jq qX7_init 6 rfl) rfl) H
/-! MaskPlays$Tests holds (LMaskPlays$Book;ILMaskPlays$Stage;)Z -/
def tX7_holds : List (Nat × Instr × Nat) := [(0, .iload_n 2, 1), (1, .iconst (-1), 1), (2, .if_icmp .ne 5, 3), (5, .iconst 1, 1), (6, .ireturn, 1), (7, .aload_n 0, 1), (8, .iconst 0, 1), (9, .putfield 17, 3), (12, .iload_n 2, 1), (13, .istore 4, 2), (15, .iload 4, 2), (17, .aload_n 1, 1), (18, .getfield 21, 3), (21, .if_icmp .ge 40, 3), (24, .aload_n 1, 1), (25, .iload 4, 2), (27, .invokevirtual 26, 3), (30, .istore 5, 2), (32, .iload 5, 2), (34, .bipush 37, 2), (36, .if_icmp .ne 6, 3), (39, .goto 22, 3), (42, .aload_n 0, 1), (43, .iload 5, 2), (45, .aload_n 1, 1), (46, .iload 4, 2), (48, .invokevirtual 30, 3), (51, .aload_n 3, 1), (52, .invokevirtual 33, 3), (55, .iinc 4 1, 3), (58, .goto (-43), 3), (61, .aload_n 0, 1), (62, .invokevirtual 37, 3), (65, .ifCond .eq 7, 3), (68, .iconst 1, 1), (69, .goto 4, 3), (72, .iconst 0, 1), (73, .ireturn, 1)]
set_option maxRecDepth 100000 in
theorem qX7_holds : ∀ q ∈ tX7_holds, decode cX7_holds q.1 = .ok (q.2.1, q.2.2) := by decide +kernel
noncomputable def kX7_holds_15 (d : Nat) (p0 : Nat) (p1 : Nat) (o2 : Option Value) (p3 : Nat) (i4 : Int32) (o5 : Option Value) (h : jm_H) : Option jm_R := jm_B d mX7_holds (15, [some (.ref p0), some (.ref p1), o2, some (.ref p3), some (.int i4), o5], []) h
theorem gX7_holds_15 {d : Nat} {p0 : Nat} {p1 : Nat} {o2 : Option Value} {p3 : Nat} {i4 : Int32} {o5 : Option Value} {h : jm_H} {r : jm_R} (H : ((jr_I h p1 0 3 0).bind fun x4 => (if i4 < x4 then jm_O h p1 0 (jc_I (jm_D d mX0_codeKindAt [.ref p1, .int i4] h) (fun x16 h14 => (if x16 = 37 then jm_O h14 p0 7 (jc_I (jm_D d mX7_pop [.ref p0] h14) (fun x31 h29 => (if x31 = 0 then some (.inl (some (.int 0)), h29) else some (.inl (some (.int 1)), h29))) jx) else jm_O h14 p1 0 (jc_I (jm_D d mX0_codeValueAt [.ref p1, .int i4] h14) (fun x20 h18 => jm_O h18 p0 7 (jc_V (jm_D d mX7_reckon [.ref p0, .int x16, .int x20, .ref p3] h18) (fun h21 => kX7_holds_15 d p0 p1 o2 p3 (i4 + 1) (some (.int x16)) h21) jx)) jx))) jx) else jm_O h p0 7 (jc_I (jm_D d mX7_pop [.ref p0] h) (fun x9 h7 => (if x9 = 0 then some (.inl (some (.int 0)), h7) else some (.inl (some (.int 1)), h7))) jx))) = some r) : kX7_holds_15 d p0 p1 o2 p3 i4 o5 h = some r := by
  show jm_B d mX7_holds (15, [some (.ref p0), some (.ref p1), o2, some (.ref p3), some (.int i4), o5], []) h = some r
  refine Eq.trans (jb_nx (i := .iload 4) (n := 2) (q := (17, [some (.ref p0), some (.ref p1), o2, some (.ref p3), some (.int i4), o5], [.int i4])) (jq qX7_holds 10 rfl) rfl) ?_
  refine Eq.trans (jb_nx (i := .aload_n 1) (n := 1) (q := (18, [some (.ref p0), some (.ref p1), o2, some (.ref p3), some (.int i4), o5], [.ref p1, .int i4])) (jq qX7_holds 11 rfl) rfl) ?_
  obtain ⟨x4, e5, H⟩ := jbd H
  refine Eq.trans (jb_nx (i := .getfield 21) (n := 3) (q := (21, [some (.ref p0), some (.ref p1), o2, some (.ref p3), some (.int i4), o5], [.int x4, .int i4])) (jq qX7_holds 12 rfl) (jo_gf rfl (jr_I_inv e5))) ?_
  by_cases c6 : i4 < x4
  · rw [if_pos c6] at H
    refine Eq.trans (jb_nx (i := .if_icmp .ge 40) (n := 3) (q := (24, [some (.ref p0), some (.ref p1), o2, some (.ref p3), some (.int i4), o5], [])) (jq qX7_holds 13 rfl) (jo_icF (jz_geF c6))) ?_
    refine Eq.trans (jb_nx (i := .aload_n 1) (n := 1) (q := (25, [some (.ref p0), some (.ref p1), o2, some (.ref p3), some (.int i4), o5], [.ref p1])) (jq qX7_holds 14 rfl) rfl) ?_
    refine Eq.trans (jb_nx (i := .iload 4) (n := 2) (q := (27, [some (.ref p0), some (.ref p1), o2, some (.ref p3), some (.int i4), o5], [.int i4, .ref p1])) (jq qX7_holds 15 rfl) rfl) ?_
    obtain ⟨b36, H⟩ := jm_O_inv H
    rcases jcI H with ⟨x16, h14, r15, H⟩ | ⟨w37, h38, r15, H⟩
    · refine Eq.trans (jb_nx (i := .invokevirtual 26) (n := 3) (q := (30, [some (.ref p0), some (.ref p1), o2, some (.ref p3), some (.int i4), o5], [.int x16])) (jq qX7_holds 16 rfl) (jo_cv (y := mX0_codeKindAt) rfl (Nat.le_of_ble_eq_true rfl) rfl (Nat.le_of_ble_eq_true rfl) b36 rfl r15 jo_ret)) ?_
      refine Eq.trans (jb_nx (i := .istore 5) (n := 2) (q := (32, [some (.ref p0), some (.ref p1), o2, some (.ref p3), some (.int i4), some (.int x16)], [])) (jq qX7_holds 17 rfl) rfl) ?_
      refine Eq.trans (jb_nx (i := .iload 5) (n := 2) (q := (34, [some (.ref p0), some (.ref p1), o2, some (.ref p3), some (.int i4), some (.int x16)], [.int x16])) (jq qX7_holds 18 rfl) rfl) ?_
      refine Eq.trans (jb_nx (i := .bipush 37) (n := 2) (q := (36, [some (.ref p0), some (.ref p1), o2, some (.ref p3), some (.int i4), some (.int x16)], [.int 37, .int x16])) (jq qX7_holds 19 rfl) rfl) ?_
      by_cases c17 : x16 = 37
      · rw [if_pos c17] at H
        refine Eq.trans (jb_nx (i := .if_icmp .ne 6) (n := 3) (q := (39, [some (.ref p0), some (.ref p1), o2, some (.ref p3), some (.int i4), some (.int x16)], [])) (jq qX7_holds 20 rfl) (jo_icF (jz_neF c17))) ?_
        refine Eq.trans (jb_nx (i := .goto 22) (n := 3) (q := (61, [some (.ref p0), some (.ref p1), o2, some (.ref p3), some (.int i4), some (.int x16)], [])) (jq qX7_holds 21 rfl) rfl) ?_
        refine Eq.trans (jb_nx (i := .aload_n 0) (n := 1) (q := (62, [some (.ref p0), some (.ref p1), o2, some (.ref p3), some (.int i4), some (.int x16)], [.ref p0])) (jq qX7_holds 31 rfl) rfl) ?_
        obtain ⟨b33, H⟩ := jm_O_inv H
        rcases jcI H with ⟨x31, h29, r30, H⟩ | ⟨w34, h35, r30, H⟩
        · refine Eq.trans (jb_nx (i := .invokevirtual 37) (n := 3) (q := (65, [some (.ref p0), some (.ref p1), o2, some (.ref p3), some (.int i4), some (.int x16)], [.int x31])) (jq qX7_holds 32 rfl) (jo_cv (y := mX7_pop) rfl (Nat.le_of_ble_eq_true rfl) rfl (Nat.le_of_ble_eq_true rfl) b33 rfl r30 jo_ret)) ?_
          by_cases c32 : x31 = 0
          · rw [if_pos c32] at H
            refine Eq.trans (jb_nx (i := .ifCond .eq 7) (n := 3) (q := (72, [some (.ref p0), some (.ref p1), o2, some (.ref p3), some (.int i4), some (.int x16)], [])) (jq qX7_holds 33 rfl) (jo_ifT (jz_eqT c32) rfl)) ?_
            refine Eq.trans (jb_nx (i := .iconst 0) (n := 1) (q := (73, [some (.ref p0), some (.ref p1), o2, some (.ref p3), some (.int i4), some (.int x16)], [.int 0])) (jq qX7_holds 36 rfl) rfl) ?_
            exact Eq.trans (jb_rt (i := .ireturn) (n := 1) (jq qX7_holds 37 rfl) (jo_iret rfl (by decide))) H
          · rw [if_neg c32] at H
            refine Eq.trans (jb_nx (i := .ifCond .eq 7) (n := 3) (q := (68, [some (.ref p0), some (.ref p1), o2, some (.ref p3), some (.int i4), some (.int x16)], [])) (jq qX7_holds 33 rfl) (jo_ifF (jz_eqF c32))) ?_
            refine Eq.trans (jb_nx (i := .iconst 1) (n := 1) (q := (69, [some (.ref p0), some (.ref p1), o2, some (.ref p3), some (.int i4), some (.int x16)], [.int 1])) (jq qX7_holds 34 rfl) rfl) ?_
            refine Eq.trans (jb_nx (i := .goto 4) (n := 3) (q := (73, [some (.ref p0), some (.ref p1), o2, some (.ref p3), some (.int i4), some (.int x16)], [.int 1])) (jq qX7_holds 35 rfl) rfl) ?_
            exact Eq.trans (jb_rt (i := .ireturn) (n := 1) (jq qX7_holds 37 rfl) (jo_iret rfl (by decide))) H
        · exact Eq.trans (jb_rt (i := .invokevirtual 37) (n := 3) (jq qX7_holds 32 rfl) (jo_cv (y := mX7_pop) rfl (Nat.le_of_ble_eq_true rfl) rfl (Nat.le_of_ble_eq_true rfl) b33 rfl r30 (jo_exn rfl))) H
      · rw [if_neg c17] at H
        refine Eq.trans (jb_nx (i := .if_icmp .ne 6) (n := 3) (q := (42, [some (.ref p0), some (.ref p1), o2, some (.ref p3), some (.int i4), some (.int x16)], [])) (jq qX7_holds 20 rfl) (jo_icT (jz_neT c17) rfl)) ?_
        refine Eq.trans (jb_nx (i := .aload_n 0) (n := 1) (q := (43, [some (.ref p0), some (.ref p1), o2, some (.ref p3), some (.int i4), some (.int x16)], [.ref p0])) (jq qX7_holds 22 rfl) rfl) ?_
        refine Eq.trans (jb_nx (i := .iload 5) (n := 2) (q := (45, [some (.ref p0), some (.ref p1), o2, some (.ref p3), some (.int i4), some (.int x16)], [.int x16, .ref p0])) (jq qX7_holds 23 rfl) rfl) ?_
        refine Eq.trans (jb_nx (i := .aload_n 1) (n := 1) (q := (46, [some (.ref p0), some (.ref p1), o2, some (.ref p3), some (.int i4), some (.int x16)], [.ref p1, .int x16, .ref p0])) (jq qX7_holds 24 rfl) rfl) ?_
        refine Eq.trans (jb_nx (i := .iload 4) (n := 2) (q := (48, [some (.ref p0), some (.ref p1), o2, some (.ref p3), some (.int i4), some (.int x16)], [.int i4, .ref p1, .int x16, .ref p0])) (jq qX7_holds 25 rfl) rfl) ?_
        obtain ⟨b26, H⟩ := jm_O_inv H
        rcases jcI H with ⟨x20, h18, r19, H⟩ | ⟨w27, h28, r19, H⟩
        · refine Eq.trans (jb_nx (i := .invokevirtual 30) (n := 3) (q := (51, [some (.ref p0), some (.ref p1), o2, some (.ref p3), some (.int i4), some (.int x16)], [.int x20, .int x16, .ref p0])) (jq qX7_holds 26 rfl) (jo_cv (y := mX0_codeValueAt) rfl (Nat.le_of_ble_eq_true rfl) rfl (Nat.le_of_ble_eq_true rfl) b26 rfl r19 jo_ret)) ?_
          refine Eq.trans (jb_nx (i := .aload_n 3) (n := 1) (q := (52, [some (.ref p0), some (.ref p1), o2, some (.ref p3), some (.int i4), some (.int x16)], [.ref p3, .int x20, .int x16, .ref p0])) (jq qX7_holds 27 rfl) rfl) ?_
          obtain ⟨b23, H⟩ := jm_O_inv H
          rcases jcV H with ⟨h21, r22, H⟩ | ⟨w24, h25, r22, H⟩
          · refine Eq.trans (jb_nx (i := .invokevirtual 33) (n := 3) (q := (55, [some (.ref p0), some (.ref p1), o2, some (.ref p3), some (.int i4), some (.int x16)], [])) (jq qX7_holds 28 rfl) (jo_cv (y := mX7_reckon) rfl (Nat.le_of_ble_eq_true rfl) rfl (Nat.le_of_ble_eq_true rfl) b23 rfl r22 jo_ret)) ?_
            refine Eq.trans (jb_nx (i := .iinc 4 1) (n := 3) (q := (58, [some (.ref p0), some (.ref p1), o2, some (.ref p3), some (.int (i4 + 1)), some (.int x16)], [])) (jq qX7_holds 29 rfl) rfl) ?_
            refine Eq.trans (jb_nx (i := .goto (-43)) (n := 3) (q := (15, [some (.ref p0), some (.ref p1), o2, some (.ref p3), some (.int (i4 + 1)), some (.int x16)], [])) (jq qX7_holds 30 rfl) rfl) ?_
            exact H
          · exact Eq.trans (jb_rt (i := .invokevirtual 33) (n := 3) (jq qX7_holds 28 rfl) (jo_cv (y := mX7_reckon) rfl (Nat.le_of_ble_eq_true rfl) rfl (Nat.le_of_ble_eq_true rfl) b23 rfl r22 (jo_exn rfl))) H
        · exact Eq.trans (jb_rt (i := .invokevirtual 30) (n := 3) (jq qX7_holds 26 rfl) (jo_cv (y := mX0_codeValueAt) rfl (Nat.le_of_ble_eq_true rfl) rfl (Nat.le_of_ble_eq_true rfl) b26 rfl r19 (jo_exn rfl))) H
    · exact Eq.trans (jb_rt (i := .invokevirtual 26) (n := 3) (jq qX7_holds 16 rfl) (jo_cv (y := mX0_codeKindAt) rfl (Nat.le_of_ble_eq_true rfl) rfl (Nat.le_of_ble_eq_true rfl) b36 rfl r15 (jo_exn rfl))) H
  · rw [if_neg c6] at H
    refine Eq.trans (jb_nx (i := .if_icmp .ge 40) (n := 3) (q := (61, [some (.ref p0), some (.ref p1), o2, some (.ref p3), some (.int i4), o5], [])) (jq qX7_holds 13 rfl) (jo_icT (jz_geT c6) rfl)) ?_
    refine Eq.trans (jb_nx (i := .aload_n 0) (n := 1) (q := (62, [some (.ref p0), some (.ref p1), o2, some (.ref p3), some (.int i4), o5], [.ref p0])) (jq qX7_holds 31 rfl) rfl) ?_
    obtain ⟨b11, H⟩ := jm_O_inv H
    rcases jcI H with ⟨x9, h7, r8, H⟩ | ⟨w12, h13, r8, H⟩
    · refine Eq.trans (jb_nx (i := .invokevirtual 37) (n := 3) (q := (65, [some (.ref p0), some (.ref p1), o2, some (.ref p3), some (.int i4), o5], [.int x9])) (jq qX7_holds 32 rfl) (jo_cv (y := mX7_pop) rfl (Nat.le_of_ble_eq_true rfl) rfl (Nat.le_of_ble_eq_true rfl) b11 rfl r8 jo_ret)) ?_
      by_cases c10 : x9 = 0
      · rw [if_pos c10] at H
        refine Eq.trans (jb_nx (i := .ifCond .eq 7) (n := 3) (q := (72, [some (.ref p0), some (.ref p1), o2, some (.ref p3), some (.int i4), o5], [])) (jq qX7_holds 33 rfl) (jo_ifT (jz_eqT c10) rfl)) ?_
        refine Eq.trans (jb_nx (i := .iconst 0) (n := 1) (q := (73, [some (.ref p0), some (.ref p1), o2, some (.ref p3), some (.int i4), o5], [.int 0])) (jq qX7_holds 36 rfl) rfl) ?_
        exact Eq.trans (jb_rt (i := .ireturn) (n := 1) (jq qX7_holds 37 rfl) (jo_iret rfl (by decide))) H
      · rw [if_neg c10] at H
        refine Eq.trans (jb_nx (i := .ifCond .eq 7) (n := 3) (q := (68, [some (.ref p0), some (.ref p1), o2, some (.ref p3), some (.int i4), o5], [])) (jq qX7_holds 33 rfl) (jo_ifF (jz_eqF c10))) ?_
        refine Eq.trans (jb_nx (i := .iconst 1) (n := 1) (q := (69, [some (.ref p0), some (.ref p1), o2, some (.ref p3), some (.int i4), o5], [.int 1])) (jq qX7_holds 34 rfl) rfl) ?_
        refine Eq.trans (jb_nx (i := .goto 4) (n := 3) (q := (73, [some (.ref p0), some (.ref p1), o2, some (.ref p3), some (.int i4), o5], [.int 1])) (jq qX7_holds 35 rfl) rfl) ?_
        exact Eq.trans (jb_rt (i := .ireturn) (n := 1) (jq qX7_holds 37 rfl) (jo_iret rfl (by decide))) H
    · exact Eq.trans (jb_rt (i := .invokevirtual 37) (n := 3) (jq qX7_holds 32 rfl) (jo_cv (y := mX7_pop) rfl (Nat.le_of_ble_eq_true rfl) rfl (Nat.le_of_ble_eq_true rfl) b11 rfl r8 (jo_exn rfl))) H
theorem gX7_holds {d : Nat} {p0 : Nat} {p1 : Nat} {i2 : Int32} {p3 : Nat} {h : jm_H} {r : jm_R} (H : ((if i2 = (-1) then some (.inl (some (.int 1)), h) else (jm_pf h p0 7 1 0 (.int 0)).bind fun h2 => kX7_holds_15 d p0 p1 (some (.int i2)) p3 i2 none h2)) = some r) : jm_D (d + 1) mX7_holds [.ref p0, .ref p1, .int i2, .ref p3] h = some r := by
  rw [jm_D_body (Nat.le_of_ble_eq_true rfl)]
  show jm_B d mX7_holds (0, [some (.ref p0), some (.ref p1), some (.int i2), some (.ref p3), none, none], []) h = some r
  refine Eq.trans (jb_nx (i := .iload_n 2) (n := 1) (q := (1, [some (.ref p0), some (.ref p1), some (.int i2), some (.ref p3), none, none], [.int i2])) (jq qX7_holds 0 rfl) rfl) ?_
  refine Eq.trans (jb_nx (i := .iconst (-1)) (n := 1) (q := (2, [some (.ref p0), some (.ref p1), some (.int i2), some (.ref p3), none, none], [.int (-1), .int i2])) (jq qX7_holds 1 rfl) rfl) ?_
  by_cases c1 : i2 = (-1)
  · rw [if_pos c1] at H
    refine Eq.trans (jb_nx (i := .if_icmp .ne 5) (n := 3) (q := (5, [some (.ref p0), some (.ref p1), some (.int i2), some (.ref p3), none, none], [])) (jq qX7_holds 2 rfl) (jo_icF (jz_neF c1))) ?_
    refine Eq.trans (jb_nx (i := .iconst 1) (n := 1) (q := (6, [some (.ref p0), some (.ref p1), some (.int i2), some (.ref p3), none, none], [.int 1])) (jq qX7_holds 3 rfl) rfl) ?_
    exact Eq.trans (jb_rt (i := .ireturn) (n := 1) (jq qX7_holds 4 rfl) (jo_iret rfl (by decide))) H
  · rw [if_neg c1] at H
    refine Eq.trans (jb_nx (i := .if_icmp .ne 5) (n := 3) (q := (7, [some (.ref p0), some (.ref p1), some (.int i2), some (.ref p3), none, none], [])) (jq qX7_holds 2 rfl) (jo_icT (jz_neT c1) rfl)) ?_
    refine Eq.trans (jb_nx (i := .aload_n 0) (n := 1) (q := (8, [some (.ref p0), some (.ref p1), some (.int i2), some (.ref p3), none, none], [.ref p0])) (jq qX7_holds 5 rfl) rfl) ?_
    refine Eq.trans (jb_nx (i := .iconst 0) (n := 1) (q := (9, [some (.ref p0), some (.ref p1), some (.int i2), some (.ref p3), none, none], [.int 0, .ref p0])) (jq qX7_holds 6 rfl) rfl) ?_
    obtain ⟨h2, e3, H⟩ := jbd H
    refine Eq.trans (jb_nx (i := .putfield 17) (n := 3) (q := (12, [some (.ref p0), some (.ref p1), some (.int i2), some (.ref p3), none, none], [])) (jq qX7_holds 7 rfl) (jo_pf rfl (Or.inl rfl) e3)) ?_
    refine Eq.trans (jb_nx (i := .iload_n 2) (n := 1) (q := (13, [some (.ref p0), some (.ref p1), some (.int i2), some (.ref p3), none, none], [.int i2])) (jq qX7_holds 8 rfl) rfl) ?_
    refine Eq.trans (jb_nx (i := .istore 4) (n := 2) (q := (15, [some (.ref p0), some (.ref p1), some (.int i2), some (.ref p3), some (.int i2), none], [])) (jq qX7_holds 9 rfl) rfl) ?_
    exact H
/-! MaskPlays$Tests reckon (IILMaskPlays$Stage;)V -/
def tX7_reckon : List (Nat × Instr × Nat) := [(0, .iload_n 1, 1), (1, .tableswitch 239 9 39 #[147, 189, 189, 189, 189, 205, 158, 239, 239, 239, 239, 239, 239, 239, 239, 239, 239, 239, 239, 239, 239, 239, 239, 239, 239, 239, 139, 139, 239, 239, 177], 139), (140, .aload_n 0, 1), (141, .iload_n 2, 1), (142, .invokevirtual 41, 3), (145, .goto 136, 3), (148, .aload_n 0, 1), (149, .aload_n 3, 1), (150, .getfield 45, 3), (153, .invokevirtual 41, 3), (156, .goto 125, 3), (159, .aload_n 0, 1), (160, .aload_n 0, 1), (161, .invokevirtual 37, 3), (164, .ifCond .ne 7, 3), (167, .iconst 1, 1), (168, .goto 4, 3), (171, .iconst 0, 1), (172, .invokevirtual 41, 3), (175, .goto 106, 3), (178, .aload_n 0, 1), (179, .aload_n 0, 1), (180, .invokevirtual 37, 3), (183, .ineg, 1), (184, .invokevirtual 41, 3), (187, .goto 94, 3), (190, .aload_n 0, 1), (191, .iload_n 1, 1), (192, .aload_n 0, 1), (193, .invokevirtual 37, 3), (196, .aload_n 3, 1), (197, .invokestatic 50, 3), (200, .invokevirtual 41, 3), (203, .goto 78, 3), (206, .aload_n 0, 1), (207, .aload_n 3, 1), (208, .aload_n 0, 1), (209, .invokevirtual 37, 3), (212, .invokevirtual 54, 3), (215, .aload_n 3, 1), (216, .aload_n 0, 1), (217, .invokevirtual 37, 3), (220, .invokevirtual 54, 3), (223, .invokevirtual 58, 3), (226, .ifCond .eq 7, 3), (229, .iconst 1, 1), (230, .goto 4, 3), (233, .iconst 0, 1), (234, .invokevirtual 41, 3), (237, .goto 44, 3), (240, .aload_n 0, 1), (241, .invokevirtual 37, 3), (244, .istore 4, 2), (246, .aload_n 0, 1), (247, .invokevirtual 37, 3), (250, .istore 5, 2), (252, .aload_n 0, 1), (253, .iload_n 1, 1), (254, .bipush 30, 2), (256, .if_icmp .ge 14, 3), (259, .iload_n 1, 1), (260, .iload 5, 2), (262, .iload 4, 2), (264, .invokestatic 64, 3), (267, .goto 11, 3), (270, .iload_n 1, 1), (271, .iload 5, 2), (273, .iload 4, 2), (275, .invokestatic 68, 3), (278, .invokevirtual 41, 3), (281, .return_, 1)]
set_option maxRecDepth 100000 in
theorem qX7_reckon : ∀ q ∈ tX7_reckon, decode cX7_reckon q.1 = .ok (q.2.1, q.2.2) := by decide +kernel
theorem gX7_reckon {d : Nat} {p0 : Nat} {i1 : Int32} {i2 : Int32} {p3 : Nat} {h : jm_H} {r : jm_R} (H : ((if i1 = 9 then (jr_I h p3 4 0 0).bind fun x2 => jm_O h p0 7 (jc_V (jm_D d mX7_push [.ref p0, .int x2] h) (fun h4 => some (.inl none, h4)) jx) else (if i1 = 10 then jm_O h p0 7 (jc_I (jm_D d mX7_pop [.ref p0] h) (fun x12 h10 => jc_I (jm_D d mX7_ofPlay [.int i1, .int x12, .ref p3] h10) (fun x15 h13 => jm_O h13 p0 7 (jc_V (jm_D d mX7_push [.ref p0, .int x15] h13) (fun h16 => some (.inl none, h16)) jx)) jx) jx) else (if i1 = 11 then jm_O h p0 7 (jc_I (jm_D d mX7_pop [.ref p0] h) (fun x29 h27 => jc_I (jm_D d mX7_ofPlay [.int i1, .int x29, .ref p3] h27) (fun x32 h30 => jm_O h30 p0 7 (jc_V (jm_D d mX7_push [.ref p0, .int x32] h30) (fun h33 => some (.inl none, h33)) jx)) jx) jx) else (if i1 = 12 then jm_O h p0 7 (jc_I (jm_D d mX7_pop [.ref p0] h) (fun x46 h44 => jc_I (jm_D d mX7_ofPlay [.int i1, .int x46, .ref p3] h44) (fun x49 h47 => jm_O h47 p0 7 (jc_V (jm_D d mX7_push [.ref p0, .int x49] h47) (fun h50 => some (.inl none, h50)) jx)) jx) jx) else (if i1 = 13 then jm_O h p0 7 (jc_I (jm_D d mX7_pop [.ref p0] h) (fun x63 h61 => jc_I (jm_D d mX7_ofPlay [.int i1, .int x63, .ref p3] h61) (fun x66 h64 => jm_O h64 p0 7 (jc_V (jm_D d mX7_push [.ref p0, .int x66] h64) (fun h67 => some (.inl none, h67)) jx)) jx) jx) else (if i1 = 14 then jm_O h p0 7 (jc_I (jm_D d mX7_pop [.ref p0] h) (fun x80 h78 => jm_O h78 p3 4 (jc_R (jm_D d mX4_partAt [.ref p3, .int x80] h78) (fun a83 h81 => jm_O h81 p0 7 (jc_I (jm_D d mX7_pop [.ref p0] h81) (fun x86 h84 => jm_O h84 p3 4 (jc_R (jm_D d mX4_partAt [.ref p3, .int x86] h84) (fun a89 h87 => jm_O h87 a83 3 (jc_I (jm_D d mX3_isLike [.ref a83, .ref a89] h87) (fun x92 h90 => (if x92 = 0 then jm_O h90 p0 7 (jc_V (jm_D d mX7_push [.ref p0, .int 0] h90) (fun h94 => some (.inl none, h94)) jx) else jm_O h90 p0 7 (jc_V (jm_D d mX7_push [.ref p0, .int 1] h90) (fun h99 => some (.inl none, h99)) jx))) jx)) jx)) jx)) jx)) jx) else (if i1 = 15 then jm_O h p0 7 (jc_I (jm_D d mX7_pop [.ref p0] h) (fun x122 h120 => (if x122 = 0 then jm_O h120 p0 7 (jc_V (jm_D d mX7_push [.ref p0, .int 1] h120) (fun h129 => some (.inl none, h129)) jx) else jm_O h120 p0 7 (jc_V (jm_D d mX7_push [.ref p0, .int 0] h120) (fun h124 => some (.inl none, h124)) jx))) jx) else (if i1 = 35 then jm_O h p0 7 (jc_V (jm_D d mX7_push [.ref p0, .int i2] h) (fun h138 => some (.inl none, h138)) jx) else (if i1 = 36 then jm_O h p0 7 (jc_V (jm_D d mX7_push [.ref p0, .int i2] h) (fun h144 => some (.inl none, h144)) jx) else (if i1 = 39 then jm_O h p0 7 (jc_I (jm_D d mX7_pop [.ref p0] h) (fun x152 h150 => jm_O h150 p0 7 (jc_V (jm_D d mX7_push [.ref p0, .int (-x152)] h150) (fun h153 => some (.inl none, h153)) jx)) jx) else jm_O h p0 7 (jc_I (jm_D d mX7_pop [.ref p0] h) (fun x163 h161 => jm_O h161 p0 7 (jc_I (jm_D d mX7_pop [.ref p0] h161) (fun x166 h164 => (if i1 < 30 then jc_I (jm_D d mX7_ofNumbers [.int i1, .int x166, .int x163] h164) (fun x180 h178 => jm_O h178 p0 7 (jc_V (jm_D d mX7_push [.ref p0, .int x180] h178) (fun h181 => some (.inl none, h181)) jx)) jx else jc_I (jm_D d mX7_ofOrder [.int i1, .int x166, .int x163] h164) (fun x170 h168 => jm_O h168 p0 7 (jc_V (jm_D d mX7_push [.ref p0, .int x170] h168) (fun h171 => some (.inl none, h171)) jx)) jx)) jx)) jx)))))))))))) = some r) : jm_D (d + 1) mX7_reckon [.ref p0, .int i1, .int i2, .ref p3] h = some r := by
  rw [jm_D_body (Nat.le_of_ble_eq_true rfl)]
  show jm_B d mX7_reckon (0, [some (.ref p0), some (.int i1), some (.int i2), some (.ref p3), none, none], []) h = some r
  refine Eq.trans (jb_nx (i := .iload_n 1) (n := 1) (q := (1, [some (.ref p0), some (.int i1), some (.int i2), some (.ref p3), none, none], [.int i1])) (jq qX7_reckon 0 rfl) rfl) ?_
  by_cases c1 : i1 = 9
  · rw [if_pos c1] at H
    refine Eq.trans (jb_nx (i := .tableswitch 239 9 39 #[147, 189, 189, 189, 189, 205, 158, 239, 239, 239, 239, 239, 239, 239, 239, 239, 239, 239, 239, 239, 239, 239, 239, 239, 239, 239, 139, 139, 239, 239, 177]) (n := 139) (q := (148, [some (.ref p0), some (.int i1), some (.int i2), some (.ref p3), none, none], [])) (jq qX7_reckon 1 rfl) (by rw [c1]; rfl)) ?_
    refine Eq.trans (jb_nx (i := .aload_n 0) (n := 1) (q := (149, [some (.ref p0), some (.int i1), some (.int i2), some (.ref p3), none, none], [.ref p0])) (jq qX7_reckon 6 rfl) rfl) ?_
    refine Eq.trans (jb_nx (i := .aload_n 3) (n := 1) (q := (150, [some (.ref p0), some (.int i1), some (.int i2), some (.ref p3), none, none], [.ref p3, .ref p0])) (jq qX7_reckon 7 rfl) rfl) ?_
    obtain ⟨x2, e3, H⟩ := jbd H
    refine Eq.trans (jb_nx (i := .getfield 45) (n := 3) (q := (153, [some (.ref p0), some (.int i1), some (.int i2), some (.ref p3), none, none], [.int x2, .ref p0])) (jq qX7_reckon 8 rfl) (jo_gf rfl (jr_I_inv e3))) ?_
    obtain ⟨b6, H⟩ := jm_O_inv H
    rcases jcV H with ⟨h4, r5, H⟩ | ⟨w7, h8, r5, H⟩
    · refine Eq.trans (jb_nx (i := .invokevirtual 41) (n := 3) (q := (156, [some (.ref p0), some (.int i1), some (.int i2), some (.ref p3), none, none], [])) (jq qX7_reckon 9 rfl) (jo_cv (y := mX7_push) rfl (Nat.le_of_ble_eq_true rfl) rfl (Nat.le_of_ble_eq_true rfl) b6 rfl r5 jo_ret)) ?_
      refine Eq.trans (jb_nx (i := .goto 125) (n := 3) (q := (281, [some (.ref p0), some (.int i1), some (.int i2), some (.ref p3), none, none], [])) (jq qX7_reckon 10 rfl) rfl) ?_
      exact Eq.trans (jb_rt (i := .return_) (n := 1) (jq qX7_reckon 70 rfl) rfl) H
    · exact Eq.trans (jb_rt (i := .invokevirtual 41) (n := 3) (jq qX7_reckon 9 rfl) (jo_cv (y := mX7_push) rfl (Nat.le_of_ble_eq_true rfl) rfl (Nat.le_of_ble_eq_true rfl) b6 rfl r5 (jo_exn rfl))) H
  · rw [if_neg c1] at H
    by_cases c9 : i1 = 10
    · rw [if_pos c9] at H
      refine Eq.trans (jb_nx (i := .tableswitch 239 9 39 #[147, 189, 189, 189, 189, 205, 158, 239, 239, 239, 239, 239, 239, 239, 239, 239, 239, 239, 239, 239, 239, 239, 239, 239, 239, 239, 139, 139, 239, 239, 177]) (n := 139) (q := (190, [some (.ref p0), some (.int i1), some (.int i2), some (.ref p3), none, none], [])) (jq qX7_reckon 1 rfl) (by rw [c9]; rfl)) ?_
      refine Eq.trans (jb_nx (i := .aload_n 0) (n := 1) (q := (191, [some (.ref p0), some (.int i1), some (.int i2), some (.ref p3), none, none], [.ref p0])) (jq qX7_reckon 26 rfl) rfl) ?_
      refine Eq.trans (jb_nx (i := .iload_n 1) (n := 1) (q := (192, [some (.ref p0), some (.int i1), some (.int i2), some (.ref p3), none, none], [.int i1, .ref p0])) (jq qX7_reckon 27 rfl) rfl) ?_
      refine Eq.trans (jb_nx (i := .aload_n 0) (n := 1) (q := (193, [some (.ref p0), some (.int i1), some (.int i2), some (.ref p3), none, none], [.ref p0, .int i1, .ref p0])) (jq qX7_reckon 28 rfl) rfl) ?_
      obtain ⟨b23, H⟩ := jm_O_inv H
      rcases jcI H with ⟨x12, h10, r11, H⟩ | ⟨w24, h25, r11, H⟩
      · refine Eq.trans (jb_nx (i := .invokevirtual 37) (n := 3) (q := (196, [some (.ref p0), some (.int i1), some (.int i2), some (.ref p3), none, none], [.int x12, .int i1, .ref p0])) (jq qX7_reckon 29 rfl) (jo_cv (y := mX7_pop) rfl (Nat.le_of_ble_eq_true rfl) rfl (Nat.le_of_ble_eq_true rfl) b23 rfl r11 jo_ret)) ?_
        refine Eq.trans (jb_nx (i := .aload_n 3) (n := 1) (q := (197, [some (.ref p0), some (.int i1), some (.int i2), some (.ref p3), none, none], [.ref p3, .int x12, .int i1, .ref p0])) (jq qX7_reckon 30 rfl) rfl) ?_
        rcases jcI H with ⟨x15, h13, r14, H⟩ | ⟨w21, h22, r14, H⟩
        · refine Eq.trans (jb_nx (i := .invokestatic 50) (n := 3) (q := (200, [some (.ref p0), some (.int i1), some (.int i2), some (.ref p3), none, none], [.int x15, .ref p0])) (jq qX7_reckon 31 rfl) (jo_cs (y := mX7_ofPlay) (w := 1) (by decide) rfl (Nat.le_of_ble_eq_true rfl) rfl (Nat.le_of_ble_eq_true rfl) rfl r14 jo_ret)) ?_
          obtain ⟨b18, H⟩ := jm_O_inv H
          rcases jcV H with ⟨h16, r17, H⟩ | ⟨w19, h20, r17, H⟩
          · refine Eq.trans (jb_nx (i := .invokevirtual 41) (n := 3) (q := (203, [some (.ref p0), some (.int i1), some (.int i2), some (.ref p3), none, none], [])) (jq qX7_reckon 32 rfl) (jo_cv (y := mX7_push) rfl (Nat.le_of_ble_eq_true rfl) rfl (Nat.le_of_ble_eq_true rfl) b18 rfl r17 jo_ret)) ?_
            refine Eq.trans (jb_nx (i := .goto 78) (n := 3) (q := (281, [some (.ref p0), some (.int i1), some (.int i2), some (.ref p3), none, none], [])) (jq qX7_reckon 33 rfl) rfl) ?_
            exact Eq.trans (jb_rt (i := .return_) (n := 1) (jq qX7_reckon 70 rfl) rfl) H
          · exact Eq.trans (jb_rt (i := .invokevirtual 41) (n := 3) (jq qX7_reckon 32 rfl) (jo_cv (y := mX7_push) rfl (Nat.le_of_ble_eq_true rfl) rfl (Nat.le_of_ble_eq_true rfl) b18 rfl r17 (jo_exn rfl))) H
        · exact Eq.trans (jb_rt (i := .invokestatic 50) (n := 3) (jq qX7_reckon 31 rfl) (jo_cs (y := mX7_ofPlay) (w := 1) (by decide) rfl (Nat.le_of_ble_eq_true rfl) rfl (Nat.le_of_ble_eq_true rfl) rfl r14 (jo_exn rfl))) H
      · exact Eq.trans (jb_rt (i := .invokevirtual 37) (n := 3) (jq qX7_reckon 29 rfl) (jo_cv (y := mX7_pop) rfl (Nat.le_of_ble_eq_true rfl) rfl (Nat.le_of_ble_eq_true rfl) b23 rfl r11 (jo_exn rfl))) H
    · rw [if_neg c9] at H
      by_cases c26 : i1 = 11
      · rw [if_pos c26] at H
        refine Eq.trans (jb_nx (i := .tableswitch 239 9 39 #[147, 189, 189, 189, 189, 205, 158, 239, 239, 239, 239, 239, 239, 239, 239, 239, 239, 239, 239, 239, 239, 239, 239, 239, 239, 239, 139, 139, 239, 239, 177]) (n := 139) (q := (190, [some (.ref p0), some (.int i1), some (.int i2), some (.ref p3), none, none], [])) (jq qX7_reckon 1 rfl) (by rw [c26]; rfl)) ?_
        refine Eq.trans (jb_nx (i := .aload_n 0) (n := 1) (q := (191, [some (.ref p0), some (.int i1), some (.int i2), some (.ref p3), none, none], [.ref p0])) (jq qX7_reckon 26 rfl) rfl) ?_
        refine Eq.trans (jb_nx (i := .iload_n 1) (n := 1) (q := (192, [some (.ref p0), some (.int i1), some (.int i2), some (.ref p3), none, none], [.int i1, .ref p0])) (jq qX7_reckon 27 rfl) rfl) ?_
        refine Eq.trans (jb_nx (i := .aload_n 0) (n := 1) (q := (193, [some (.ref p0), some (.int i1), some (.int i2), some (.ref p3), none, none], [.ref p0, .int i1, .ref p0])) (jq qX7_reckon 28 rfl) rfl) ?_
        obtain ⟨b40, H⟩ := jm_O_inv H
        rcases jcI H with ⟨x29, h27, r28, H⟩ | ⟨w41, h42, r28, H⟩
        · refine Eq.trans (jb_nx (i := .invokevirtual 37) (n := 3) (q := (196, [some (.ref p0), some (.int i1), some (.int i2), some (.ref p3), none, none], [.int x29, .int i1, .ref p0])) (jq qX7_reckon 29 rfl) (jo_cv (y := mX7_pop) rfl (Nat.le_of_ble_eq_true rfl) rfl (Nat.le_of_ble_eq_true rfl) b40 rfl r28 jo_ret)) ?_
          refine Eq.trans (jb_nx (i := .aload_n 3) (n := 1) (q := (197, [some (.ref p0), some (.int i1), some (.int i2), some (.ref p3), none, none], [.ref p3, .int x29, .int i1, .ref p0])) (jq qX7_reckon 30 rfl) rfl) ?_
          rcases jcI H with ⟨x32, h30, r31, H⟩ | ⟨w38, h39, r31, H⟩
          · refine Eq.trans (jb_nx (i := .invokestatic 50) (n := 3) (q := (200, [some (.ref p0), some (.int i1), some (.int i2), some (.ref p3), none, none], [.int x32, .ref p0])) (jq qX7_reckon 31 rfl) (jo_cs (y := mX7_ofPlay) (w := 1) (by decide) rfl (Nat.le_of_ble_eq_true rfl) rfl (Nat.le_of_ble_eq_true rfl) rfl r31 jo_ret)) ?_
            obtain ⟨b35, H⟩ := jm_O_inv H
            rcases jcV H with ⟨h33, r34, H⟩ | ⟨w36, h37, r34, H⟩
            · refine Eq.trans (jb_nx (i := .invokevirtual 41) (n := 3) (q := (203, [some (.ref p0), some (.int i1), some (.int i2), some (.ref p3), none, none], [])) (jq qX7_reckon 32 rfl) (jo_cv (y := mX7_push) rfl (Nat.le_of_ble_eq_true rfl) rfl (Nat.le_of_ble_eq_true rfl) b35 rfl r34 jo_ret)) ?_
              refine Eq.trans (jb_nx (i := .goto 78) (n := 3) (q := (281, [some (.ref p0), some (.int i1), some (.int i2), some (.ref p3), none, none], [])) (jq qX7_reckon 33 rfl) rfl) ?_
              exact Eq.trans (jb_rt (i := .return_) (n := 1) (jq qX7_reckon 70 rfl) rfl) H
            · exact Eq.trans (jb_rt (i := .invokevirtual 41) (n := 3) (jq qX7_reckon 32 rfl) (jo_cv (y := mX7_push) rfl (Nat.le_of_ble_eq_true rfl) rfl (Nat.le_of_ble_eq_true rfl) b35 rfl r34 (jo_exn rfl))) H
          · exact Eq.trans (jb_rt (i := .invokestatic 50) (n := 3) (jq qX7_reckon 31 rfl) (jo_cs (y := mX7_ofPlay) (w := 1) (by decide) rfl (Nat.le_of_ble_eq_true rfl) rfl (Nat.le_of_ble_eq_true rfl) rfl r31 (jo_exn rfl))) H
        · exact Eq.trans (jb_rt (i := .invokevirtual 37) (n := 3) (jq qX7_reckon 29 rfl) (jo_cv (y := mX7_pop) rfl (Nat.le_of_ble_eq_true rfl) rfl (Nat.le_of_ble_eq_true rfl) b40 rfl r28 (jo_exn rfl))) H
      · rw [if_neg c26] at H
        by_cases c43 : i1 = 12
        · rw [if_pos c43] at H
          refine Eq.trans (jb_nx (i := .tableswitch 239 9 39 #[147, 189, 189, 189, 189, 205, 158, 239, 239, 239, 239, 239, 239, 239, 239, 239, 239, 239, 239, 239, 239, 239, 239, 239, 239, 239, 139, 139, 239, 239, 177]) (n := 139) (q := (190, [some (.ref p0), some (.int i1), some (.int i2), some (.ref p3), none, none], [])) (jq qX7_reckon 1 rfl) (by rw [c43]; rfl)) ?_
          refine Eq.trans (jb_nx (i := .aload_n 0) (n := 1) (q := (191, [some (.ref p0), some (.int i1), some (.int i2), some (.ref p3), none, none], [.ref p0])) (jq qX7_reckon 26 rfl) rfl) ?_
          refine Eq.trans (jb_nx (i := .iload_n 1) (n := 1) (q := (192, [some (.ref p0), some (.int i1), some (.int i2), some (.ref p3), none, none], [.int i1, .ref p0])) (jq qX7_reckon 27 rfl) rfl) ?_
          refine Eq.trans (jb_nx (i := .aload_n 0) (n := 1) (q := (193, [some (.ref p0), some (.int i1), some (.int i2), some (.ref p3), none, none], [.ref p0, .int i1, .ref p0])) (jq qX7_reckon 28 rfl) rfl) ?_
          obtain ⟨b57, H⟩ := jm_O_inv H
          rcases jcI H with ⟨x46, h44, r45, H⟩ | ⟨w58, h59, r45, H⟩
          · refine Eq.trans (jb_nx (i := .invokevirtual 37) (n := 3) (q := (196, [some (.ref p0), some (.int i1), some (.int i2), some (.ref p3), none, none], [.int x46, .int i1, .ref p0])) (jq qX7_reckon 29 rfl) (jo_cv (y := mX7_pop) rfl (Nat.le_of_ble_eq_true rfl) rfl (Nat.le_of_ble_eq_true rfl) b57 rfl r45 jo_ret)) ?_
            refine Eq.trans (jb_nx (i := .aload_n 3) (n := 1) (q := (197, [some (.ref p0), some (.int i1), some (.int i2), some (.ref p3), none, none], [.ref p3, .int x46, .int i1, .ref p0])) (jq qX7_reckon 30 rfl) rfl) ?_
            rcases jcI H with ⟨x49, h47, r48, H⟩ | ⟨w55, h56, r48, H⟩
            · refine Eq.trans (jb_nx (i := .invokestatic 50) (n := 3) (q := (200, [some (.ref p0), some (.int i1), some (.int i2), some (.ref p3), none, none], [.int x49, .ref p0])) (jq qX7_reckon 31 rfl) (jo_cs (y := mX7_ofPlay) (w := 1) (by decide) rfl (Nat.le_of_ble_eq_true rfl) rfl (Nat.le_of_ble_eq_true rfl) rfl r48 jo_ret)) ?_
              obtain ⟨b52, H⟩ := jm_O_inv H
              rcases jcV H with ⟨h50, r51, H⟩ | ⟨w53, h54, r51, H⟩
              · refine Eq.trans (jb_nx (i := .invokevirtual 41) (n := 3) (q := (203, [some (.ref p0), some (.int i1), some (.int i2), some (.ref p3), none, none], [])) (jq qX7_reckon 32 rfl) (jo_cv (y := mX7_push) rfl (Nat.le_of_ble_eq_true rfl) rfl (Nat.le_of_ble_eq_true rfl) b52 rfl r51 jo_ret)) ?_
                refine Eq.trans (jb_nx (i := .goto 78) (n := 3) (q := (281, [some (.ref p0), some (.int i1), some (.int i2), some (.ref p3), none, none], [])) (jq qX7_reckon 33 rfl) rfl) ?_
                exact Eq.trans (jb_rt (i := .return_) (n := 1) (jq qX7_reckon 70 rfl) rfl) H
              · exact Eq.trans (jb_rt (i := .invokevirtual 41) (n := 3) (jq qX7_reckon 32 rfl) (jo_cv (y := mX7_push) rfl (Nat.le_of_ble_eq_true rfl) rfl (Nat.le_of_ble_eq_true rfl) b52 rfl r51 (jo_exn rfl))) H
            · exact Eq.trans (jb_rt (i := .invokestatic 50) (n := 3) (jq qX7_reckon 31 rfl) (jo_cs (y := mX7_ofPlay) (w := 1) (by decide) rfl (Nat.le_of_ble_eq_true rfl) rfl (Nat.le_of_ble_eq_true rfl) rfl r48 (jo_exn rfl))) H
          · exact Eq.trans (jb_rt (i := .invokevirtual 37) (n := 3) (jq qX7_reckon 29 rfl) (jo_cv (y := mX7_pop) rfl (Nat.le_of_ble_eq_true rfl) rfl (Nat.le_of_ble_eq_true rfl) b57 rfl r45 (jo_exn rfl))) H
        · rw [if_neg c43] at H
          by_cases c60 : i1 = 13
          · rw [if_pos c60] at H
            refine Eq.trans (jb_nx (i := .tableswitch 239 9 39 #[147, 189, 189, 189, 189, 205, 158, 239, 239, 239, 239, 239, 239, 239, 239, 239, 239, 239, 239, 239, 239, 239, 239, 239, 239, 239, 139, 139, 239, 239, 177]) (n := 139) (q := (190, [some (.ref p0), some (.int i1), some (.int i2), some (.ref p3), none, none], [])) (jq qX7_reckon 1 rfl) (by rw [c60]; rfl)) ?_
            refine Eq.trans (jb_nx (i := .aload_n 0) (n := 1) (q := (191, [some (.ref p0), some (.int i1), some (.int i2), some (.ref p3), none, none], [.ref p0])) (jq qX7_reckon 26 rfl) rfl) ?_
            refine Eq.trans (jb_nx (i := .iload_n 1) (n := 1) (q := (192, [some (.ref p0), some (.int i1), some (.int i2), some (.ref p3), none, none], [.int i1, .ref p0])) (jq qX7_reckon 27 rfl) rfl) ?_
            refine Eq.trans (jb_nx (i := .aload_n 0) (n := 1) (q := (193, [some (.ref p0), some (.int i1), some (.int i2), some (.ref p3), none, none], [.ref p0, .int i1, .ref p0])) (jq qX7_reckon 28 rfl) rfl) ?_
            obtain ⟨b74, H⟩ := jm_O_inv H
            rcases jcI H with ⟨x63, h61, r62, H⟩ | ⟨w75, h76, r62, H⟩
            · refine Eq.trans (jb_nx (i := .invokevirtual 37) (n := 3) (q := (196, [some (.ref p0), some (.int i1), some (.int i2), some (.ref p3), none, none], [.int x63, .int i1, .ref p0])) (jq qX7_reckon 29 rfl) (jo_cv (y := mX7_pop) rfl (Nat.le_of_ble_eq_true rfl) rfl (Nat.le_of_ble_eq_true rfl) b74 rfl r62 jo_ret)) ?_
              refine Eq.trans (jb_nx (i := .aload_n 3) (n := 1) (q := (197, [some (.ref p0), some (.int i1), some (.int i2), some (.ref p3), none, none], [.ref p3, .int x63, .int i1, .ref p0])) (jq qX7_reckon 30 rfl) rfl) ?_
              rcases jcI H with ⟨x66, h64, r65, H⟩ | ⟨w72, h73, r65, H⟩
              · refine Eq.trans (jb_nx (i := .invokestatic 50) (n := 3) (q := (200, [some (.ref p0), some (.int i1), some (.int i2), some (.ref p3), none, none], [.int x66, .ref p0])) (jq qX7_reckon 31 rfl) (jo_cs (y := mX7_ofPlay) (w := 1) (by decide) rfl (Nat.le_of_ble_eq_true rfl) rfl (Nat.le_of_ble_eq_true rfl) rfl r65 jo_ret)) ?_
                obtain ⟨b69, H⟩ := jm_O_inv H
                rcases jcV H with ⟨h67, r68, H⟩ | ⟨w70, h71, r68, H⟩
                · refine Eq.trans (jb_nx (i := .invokevirtual 41) (n := 3) (q := (203, [some (.ref p0), some (.int i1), some (.int i2), some (.ref p3), none, none], [])) (jq qX7_reckon 32 rfl) (jo_cv (y := mX7_push) rfl (Nat.le_of_ble_eq_true rfl) rfl (Nat.le_of_ble_eq_true rfl) b69 rfl r68 jo_ret)) ?_
                  refine Eq.trans (jb_nx (i := .goto 78) (n := 3) (q := (281, [some (.ref p0), some (.int i1), some (.int i2), some (.ref p3), none, none], [])) (jq qX7_reckon 33 rfl) rfl) ?_
                  exact Eq.trans (jb_rt (i := .return_) (n := 1) (jq qX7_reckon 70 rfl) rfl) H
                · exact Eq.trans (jb_rt (i := .invokevirtual 41) (n := 3) (jq qX7_reckon 32 rfl) (jo_cv (y := mX7_push) rfl (Nat.le_of_ble_eq_true rfl) rfl (Nat.le_of_ble_eq_true rfl) b69 rfl r68 (jo_exn rfl))) H
              · exact Eq.trans (jb_rt (i := .invokestatic 50) (n := 3) (jq qX7_reckon 31 rfl) (jo_cs (y := mX7_ofPlay) (w := 1) (by decide) rfl (Nat.le_of_ble_eq_true rfl) rfl (Nat.le_of_ble_eq_true rfl) rfl r65 (jo_exn rfl))) H
            · exact Eq.trans (jb_rt (i := .invokevirtual 37) (n := 3) (jq qX7_reckon 29 rfl) (jo_cv (y := mX7_pop) rfl (Nat.le_of_ble_eq_true rfl) rfl (Nat.le_of_ble_eq_true rfl) b74 rfl r62 (jo_exn rfl))) H
          · rw [if_neg c60] at H
            by_cases c77 : i1 = 14
            · rw [if_pos c77] at H
              refine Eq.trans (jb_nx (i := .tableswitch 239 9 39 #[147, 189, 189, 189, 189, 205, 158, 239, 239, 239, 239, 239, 239, 239, 239, 239, 239, 239, 239, 239, 239, 239, 239, 239, 239, 239, 139, 139, 239, 239, 177]) (n := 139) (q := (206, [some (.ref p0), some (.int i1), some (.int i2), some (.ref p3), none, none], [])) (jq qX7_reckon 1 rfl) (by rw [c77]; rfl)) ?_
              refine Eq.trans (jb_nx (i := .aload_n 0) (n := 1) (q := (207, [some (.ref p0), some (.int i1), some (.int i2), some (.ref p3), none, none], [.ref p0])) (jq qX7_reckon 34 rfl) rfl) ?_
              refine Eq.trans (jb_nx (i := .aload_n 3) (n := 1) (q := (208, [some (.ref p0), some (.int i1), some (.int i2), some (.ref p3), none, none], [.ref p3, .ref p0])) (jq qX7_reckon 35 rfl) rfl) ?_
              refine Eq.trans (jb_nx (i := .aload_n 0) (n := 1) (q := (209, [some (.ref p0), some (.int i1), some (.int i2), some (.ref p3), none, none], [.ref p0, .ref p3, .ref p0])) (jq qX7_reckon 36 rfl) rfl) ?_
              obtain ⟨b116, H⟩ := jm_O_inv H
              rcases jcI H with ⟨x80, h78, r79, H⟩ | ⟨w117, h118, r79, H⟩
              · refine Eq.trans (jb_nx (i := .invokevirtual 37) (n := 3) (q := (212, [some (.ref p0), some (.int i1), some (.int i2), some (.ref p3), none, none], [.int x80, .ref p3, .ref p0])) (jq qX7_reckon 37 rfl) (jo_cv (y := mX7_pop) rfl (Nat.le_of_ble_eq_true rfl) rfl (Nat.le_of_ble_eq_true rfl) b116 rfl r79 jo_ret)) ?_
                obtain ⟨b113, H⟩ := jm_O_inv H
                rcases jcR H with ⟨a83, h81, r82, H⟩ | ⟨w114, h115, r82, H⟩
                · refine Eq.trans (jb_nx (i := .invokevirtual 54) (n := 3) (q := (215, [some (.ref p0), some (.int i1), some (.int i2), some (.ref p3), none, none], [.ref a83, .ref p0])) (jq qX7_reckon 38 rfl) (jo_cv (y := mX4_partAt) rfl (Nat.le_of_ble_eq_true rfl) rfl (Nat.le_of_ble_eq_true rfl) b113 rfl r82 jo_ret)) ?_
                  refine Eq.trans (jb_nx (i := .aload_n 3) (n := 1) (q := (216, [some (.ref p0), some (.int i1), some (.int i2), some (.ref p3), none, none], [.ref p3, .ref a83, .ref p0])) (jq qX7_reckon 39 rfl) rfl) ?_
                  refine Eq.trans (jb_nx (i := .aload_n 0) (n := 1) (q := (217, [some (.ref p0), some (.int i1), some (.int i2), some (.ref p3), none, none], [.ref p0, .ref p3, .ref a83, .ref p0])) (jq qX7_reckon 40 rfl) rfl) ?_
                  obtain ⟨b110, H⟩ := jm_O_inv H
                  rcases jcI H with ⟨x86, h84, r85, H⟩ | ⟨w111, h112, r85, H⟩
                  · refine Eq.trans (jb_nx (i := .invokevirtual 37) (n := 3) (q := (220, [some (.ref p0), some (.int i1), some (.int i2), some (.ref p3), none, none], [.int x86, .ref p3, .ref a83, .ref p0])) (jq qX7_reckon 41 rfl) (jo_cv (y := mX7_pop) rfl (Nat.le_of_ble_eq_true rfl) rfl (Nat.le_of_ble_eq_true rfl) b110 rfl r85 jo_ret)) ?_
                    obtain ⟨b107, H⟩ := jm_O_inv H
                    rcases jcR H with ⟨a89, h87, r88, H⟩ | ⟨w108, h109, r88, H⟩
                    · refine Eq.trans (jb_nx (i := .invokevirtual 54) (n := 3) (q := (223, [some (.ref p0), some (.int i1), some (.int i2), some (.ref p3), none, none], [.ref a89, .ref a83, .ref p0])) (jq qX7_reckon 42 rfl) (jo_cv (y := mX4_partAt) rfl (Nat.le_of_ble_eq_true rfl) rfl (Nat.le_of_ble_eq_true rfl) b107 rfl r88 jo_ret)) ?_
                      obtain ⟨b104, H⟩ := jm_O_inv H
                      rcases jcI H with ⟨x92, h90, r91, H⟩ | ⟨w105, h106, r91, H⟩
                      · refine Eq.trans (jb_nx (i := .invokevirtual 58) (n := 3) (q := (226, [some (.ref p0), some (.int i1), some (.int i2), some (.ref p3), none, none], [.int x92, .ref p0])) (jq qX7_reckon 43 rfl) (jo_cv (y := mX3_isLike) rfl (Nat.le_of_ble_eq_true rfl) rfl (Nat.le_of_ble_eq_true rfl) b104 rfl r91 jo_ret)) ?_
                        by_cases c93 : x92 = 0
                        · rw [if_pos c93] at H
                          refine Eq.trans (jb_nx (i := .ifCond .eq 7) (n := 3) (q := (233, [some (.ref p0), some (.int i1), some (.int i2), some (.ref p3), none, none], [.ref p0])) (jq qX7_reckon 44 rfl) (jo_ifT (jz_eqT c93) rfl)) ?_
                          refine Eq.trans (jb_nx (i := .iconst 0) (n := 1) (q := (234, [some (.ref p0), some (.int i1), some (.int i2), some (.ref p3), none, none], [.int 0, .ref p0])) (jq qX7_reckon 47 rfl) rfl) ?_
                          obtain ⟨b96, H⟩ := jm_O_inv H
                          rcases jcV H with ⟨h94, r95, H⟩ | ⟨w97, h98, r95, H⟩
                          · refine Eq.trans (jb_nx (i := .invokevirtual 41) (n := 3) (q := (237, [some (.ref p0), some (.int i1), some (.int i2), some (.ref p3), none, none], [])) (jq qX7_reckon 48 rfl) (jo_cv (y := mX7_push) rfl (Nat.le_of_ble_eq_true rfl) rfl (Nat.le_of_ble_eq_true rfl) b96 rfl r95 jo_ret)) ?_
                            refine Eq.trans (jb_nx (i := .goto 44) (n := 3) (q := (281, [some (.ref p0), some (.int i1), some (.int i2), some (.ref p3), none, none], [])) (jq qX7_reckon 49 rfl) rfl) ?_
                            exact Eq.trans (jb_rt (i := .return_) (n := 1) (jq qX7_reckon 70 rfl) rfl) H
                          · exact Eq.trans (jb_rt (i := .invokevirtual 41) (n := 3) (jq qX7_reckon 48 rfl) (jo_cv (y := mX7_push) rfl (Nat.le_of_ble_eq_true rfl) rfl (Nat.le_of_ble_eq_true rfl) b96 rfl r95 (jo_exn rfl))) H
                        · rw [if_neg c93] at H
                          refine Eq.trans (jb_nx (i := .ifCond .eq 7) (n := 3) (q := (229, [some (.ref p0), some (.int i1), some (.int i2), some (.ref p3), none, none], [.ref p0])) (jq qX7_reckon 44 rfl) (jo_ifF (jz_eqF c93))) ?_
                          refine Eq.trans (jb_nx (i := .iconst 1) (n := 1) (q := (230, [some (.ref p0), some (.int i1), some (.int i2), some (.ref p3), none, none], [.int 1, .ref p0])) (jq qX7_reckon 45 rfl) rfl) ?_
                          refine Eq.trans (jb_nx (i := .goto 4) (n := 3) (q := (234, [some (.ref p0), some (.int i1), some (.int i2), some (.ref p3), none, none], [.int 1, .ref p0])) (jq qX7_reckon 46 rfl) rfl) ?_
                          obtain ⟨b101, H⟩ := jm_O_inv H
                          rcases jcV H with ⟨h99, r100, H⟩ | ⟨w102, h103, r100, H⟩
                          · refine Eq.trans (jb_nx (i := .invokevirtual 41) (n := 3) (q := (237, [some (.ref p0), some (.int i1), some (.int i2), some (.ref p3), none, none], [])) (jq qX7_reckon 48 rfl) (jo_cv (y := mX7_push) rfl (Nat.le_of_ble_eq_true rfl) rfl (Nat.le_of_ble_eq_true rfl) b101 rfl r100 jo_ret)) ?_
                            refine Eq.trans (jb_nx (i := .goto 44) (n := 3) (q := (281, [some (.ref p0), some (.int i1), some (.int i2), some (.ref p3), none, none], [])) (jq qX7_reckon 49 rfl) rfl) ?_
                            exact Eq.trans (jb_rt (i := .return_) (n := 1) (jq qX7_reckon 70 rfl) rfl) H
                          · exact Eq.trans (jb_rt (i := .invokevirtual 41) (n := 3) (jq qX7_reckon 48 rfl) (jo_cv (y := mX7_push) rfl (Nat.le_of_ble_eq_true rfl) rfl (Nat.le_of_ble_eq_true rfl) b101 rfl r100 (jo_exn rfl))) H
                      · exact Eq.trans (jb_rt (i := .invokevirtual 58) (n := 3) (jq qX7_reckon 43 rfl) (jo_cv (y := mX3_isLike) rfl (Nat.le_of_ble_eq_true rfl) rfl (Nat.le_of_ble_eq_true rfl) b104 rfl r91 (jo_exn rfl))) H
                    · exact Eq.trans (jb_rt (i := .invokevirtual 54) (n := 3) (jq qX7_reckon 42 rfl) (jo_cv (y := mX4_partAt) rfl (Nat.le_of_ble_eq_true rfl) rfl (Nat.le_of_ble_eq_true rfl) b107 rfl r88 (jo_exn rfl))) H
                  · exact Eq.trans (jb_rt (i := .invokevirtual 37) (n := 3) (jq qX7_reckon 41 rfl) (jo_cv (y := mX7_pop) rfl (Nat.le_of_ble_eq_true rfl) rfl (Nat.le_of_ble_eq_true rfl) b110 rfl r85 (jo_exn rfl))) H
                · exact Eq.trans (jb_rt (i := .invokevirtual 54) (n := 3) (jq qX7_reckon 38 rfl) (jo_cv (y := mX4_partAt) rfl (Nat.le_of_ble_eq_true rfl) rfl (Nat.le_of_ble_eq_true rfl) b113 rfl r82 (jo_exn rfl))) H
              · exact Eq.trans (jb_rt (i := .invokevirtual 37) (n := 3) (jq qX7_reckon 37 rfl) (jo_cv (y := mX7_pop) rfl (Nat.le_of_ble_eq_true rfl) rfl (Nat.le_of_ble_eq_true rfl) b116 rfl r79 (jo_exn rfl))) H
            · rw [if_neg c77] at H
              by_cases c119 : i1 = 15
              · rw [if_pos c119] at H
                refine Eq.trans (jb_nx (i := .tableswitch 239 9 39 #[147, 189, 189, 189, 189, 205, 158, 239, 239, 239, 239, 239, 239, 239, 239, 239, 239, 239, 239, 239, 239, 239, 239, 239, 239, 239, 139, 139, 239, 239, 177]) (n := 139) (q := (159, [some (.ref p0), some (.int i1), some (.int i2), some (.ref p3), none, none], [])) (jq qX7_reckon 1 rfl) (by rw [c119]; rfl)) ?_
                refine Eq.trans (jb_nx (i := .aload_n 0) (n := 1) (q := (160, [some (.ref p0), some (.int i1), some (.int i2), some (.ref p3), none, none], [.ref p0])) (jq qX7_reckon 11 rfl) rfl) ?_
                refine Eq.trans (jb_nx (i := .aload_n 0) (n := 1) (q := (161, [some (.ref p0), some (.int i1), some (.int i2), some (.ref p3), none, none], [.ref p0, .ref p0])) (jq qX7_reckon 12 rfl) rfl) ?_
                obtain ⟨b134, H⟩ := jm_O_inv H
                rcases jcI H with ⟨x122, h120, r121, H⟩ | ⟨w135, h136, r121, H⟩
                · refine Eq.trans (jb_nx (i := .invokevirtual 37) (n := 3) (q := (164, [some (.ref p0), some (.int i1), some (.int i2), some (.ref p3), none, none], [.int x122, .ref p0])) (jq qX7_reckon 13 rfl) (jo_cv (y := mX7_pop) rfl (Nat.le_of_ble_eq_true rfl) rfl (Nat.le_of_ble_eq_true rfl) b134 rfl r121 jo_ret)) ?_
                  by_cases c123 : x122 = 0
                  · rw [if_pos c123] at H
                    refine Eq.trans (jb_nx (i := .ifCond .ne 7) (n := 3) (q := (167, [some (.ref p0), some (.int i1), some (.int i2), some (.ref p3), none, none], [.ref p0])) (jq qX7_reckon 14 rfl) (jo_ifF (jz_neF c123))) ?_
                    refine Eq.trans (jb_nx (i := .iconst 1) (n := 1) (q := (168, [some (.ref p0), some (.int i1), some (.int i2), some (.ref p3), none, none], [.int 1, .ref p0])) (jq qX7_reckon 15 rfl) rfl) ?_
                    refine Eq.trans (jb_nx (i := .goto 4) (n := 3) (q := (172, [some (.ref p0), some (.int i1), some (.int i2), some (.ref p3), none, none], [.int 1, .ref p0])) (jq qX7_reckon 16 rfl) rfl) ?_
                    obtain ⟨b131, H⟩ := jm_O_inv H
                    rcases jcV H with ⟨h129, r130, H⟩ | ⟨w132, h133, r130, H⟩
                    · refine Eq.trans (jb_nx (i := .invokevirtual 41) (n := 3) (q := (175, [some (.ref p0), some (.int i1), some (.int i2), some (.ref p3), none, none], [])) (jq qX7_reckon 18 rfl) (jo_cv (y := mX7_push) rfl (Nat.le_of_ble_eq_true rfl) rfl (Nat.le_of_ble_eq_true rfl) b131 rfl r130 jo_ret)) ?_
                      refine Eq.trans (jb_nx (i := .goto 106) (n := 3) (q := (281, [some (.ref p0), some (.int i1), some (.int i2), some (.ref p3), none, none], [])) (jq qX7_reckon 19 rfl) rfl) ?_
                      exact Eq.trans (jb_rt (i := .return_) (n := 1) (jq qX7_reckon 70 rfl) rfl) H
                    · exact Eq.trans (jb_rt (i := .invokevirtual 41) (n := 3) (jq qX7_reckon 18 rfl) (jo_cv (y := mX7_push) rfl (Nat.le_of_ble_eq_true rfl) rfl (Nat.le_of_ble_eq_true rfl) b131 rfl r130 (jo_exn rfl))) H
                  · rw [if_neg c123] at H
                    refine Eq.trans (jb_nx (i := .ifCond .ne 7) (n := 3) (q := (171, [some (.ref p0), some (.int i1), some (.int i2), some (.ref p3), none, none], [.ref p0])) (jq qX7_reckon 14 rfl) (jo_ifT (jz_neT c123) rfl)) ?_
                    refine Eq.trans (jb_nx (i := .iconst 0) (n := 1) (q := (172, [some (.ref p0), some (.int i1), some (.int i2), some (.ref p3), none, none], [.int 0, .ref p0])) (jq qX7_reckon 17 rfl) rfl) ?_
                    obtain ⟨b126, H⟩ := jm_O_inv H
                    rcases jcV H with ⟨h124, r125, H⟩ | ⟨w127, h128, r125, H⟩
                    · refine Eq.trans (jb_nx (i := .invokevirtual 41) (n := 3) (q := (175, [some (.ref p0), some (.int i1), some (.int i2), some (.ref p3), none, none], [])) (jq qX7_reckon 18 rfl) (jo_cv (y := mX7_push) rfl (Nat.le_of_ble_eq_true rfl) rfl (Nat.le_of_ble_eq_true rfl) b126 rfl r125 jo_ret)) ?_
                      refine Eq.trans (jb_nx (i := .goto 106) (n := 3) (q := (281, [some (.ref p0), some (.int i1), some (.int i2), some (.ref p3), none, none], [])) (jq qX7_reckon 19 rfl) rfl) ?_
                      exact Eq.trans (jb_rt (i := .return_) (n := 1) (jq qX7_reckon 70 rfl) rfl) H
                    · exact Eq.trans (jb_rt (i := .invokevirtual 41) (n := 3) (jq qX7_reckon 18 rfl) (jo_cv (y := mX7_push) rfl (Nat.le_of_ble_eq_true rfl) rfl (Nat.le_of_ble_eq_true rfl) b126 rfl r125 (jo_exn rfl))) H
                · exact Eq.trans (jb_rt (i := .invokevirtual 37) (n := 3) (jq qX7_reckon 13 rfl) (jo_cv (y := mX7_pop) rfl (Nat.le_of_ble_eq_true rfl) rfl (Nat.le_of_ble_eq_true rfl) b134 rfl r121 (jo_exn rfl))) H
              · rw [if_neg c119] at H
                by_cases c137 : i1 = 35
                · rw [if_pos c137] at H
                  refine Eq.trans (jb_nx (i := .tableswitch 239 9 39 #[147, 189, 189, 189, 189, 205, 158, 239, 239, 239, 239, 239, 239, 239, 239, 239, 239, 239, 239, 239, 239, 239, 239, 239, 239, 239, 139, 139, 239, 239, 177]) (n := 139) (q := (140, [some (.ref p0), some (.int i1), some (.int i2), some (.ref p3), none, none], [])) (jq qX7_reckon 1 rfl) (by rw [c137]; rfl)) ?_
                  refine Eq.trans (jb_nx (i := .aload_n 0) (n := 1) (q := (141, [some (.ref p0), some (.int i1), some (.int i2), some (.ref p3), none, none], [.ref p0])) (jq qX7_reckon 2 rfl) rfl) ?_
                  refine Eq.trans (jb_nx (i := .iload_n 2) (n := 1) (q := (142, [some (.ref p0), some (.int i1), some (.int i2), some (.ref p3), none, none], [.int i2, .ref p0])) (jq qX7_reckon 3 rfl) rfl) ?_
                  obtain ⟨b140, H⟩ := jm_O_inv H
                  rcases jcV H with ⟨h138, r139, H⟩ | ⟨w141, h142, r139, H⟩
                  · refine Eq.trans (jb_nx (i := .invokevirtual 41) (n := 3) (q := (145, [some (.ref p0), some (.int i1), some (.int i2), some (.ref p3), none, none], [])) (jq qX7_reckon 4 rfl) (jo_cv (y := mX7_push) rfl (Nat.le_of_ble_eq_true rfl) rfl (Nat.le_of_ble_eq_true rfl) b140 rfl r139 jo_ret)) ?_
                    refine Eq.trans (jb_nx (i := .goto 136) (n := 3) (q := (281, [some (.ref p0), some (.int i1), some (.int i2), some (.ref p3), none, none], [])) (jq qX7_reckon 5 rfl) rfl) ?_
                    exact Eq.trans (jb_rt (i := .return_) (n := 1) (jq qX7_reckon 70 rfl) rfl) H
                  · exact Eq.trans (jb_rt (i := .invokevirtual 41) (n := 3) (jq qX7_reckon 4 rfl) (jo_cv (y := mX7_push) rfl (Nat.le_of_ble_eq_true rfl) rfl (Nat.le_of_ble_eq_true rfl) b140 rfl r139 (jo_exn rfl))) H
                · rw [if_neg c137] at H
                  by_cases c143 : i1 = 36
                  · rw [if_pos c143] at H
                    refine Eq.trans (jb_nx (i := .tableswitch 239 9 39 #[147, 189, 189, 189, 189, 205, 158, 239, 239, 239, 239, 239, 239, 239, 239, 239, 239, 239, 239, 239, 239, 239, 239, 239, 239, 239, 139, 139, 239, 239, 177]) (n := 139) (q := (140, [some (.ref p0), some (.int i1), some (.int i2), some (.ref p3), none, none], [])) (jq qX7_reckon 1 rfl) (by rw [c143]; rfl)) ?_
                    refine Eq.trans (jb_nx (i := .aload_n 0) (n := 1) (q := (141, [some (.ref p0), some (.int i1), some (.int i2), some (.ref p3), none, none], [.ref p0])) (jq qX7_reckon 2 rfl) rfl) ?_
                    refine Eq.trans (jb_nx (i := .iload_n 2) (n := 1) (q := (142, [some (.ref p0), some (.int i1), some (.int i2), some (.ref p3), none, none], [.int i2, .ref p0])) (jq qX7_reckon 3 rfl) rfl) ?_
                    obtain ⟨b146, H⟩ := jm_O_inv H
                    rcases jcV H with ⟨h144, r145, H⟩ | ⟨w147, h148, r145, H⟩
                    · refine Eq.trans (jb_nx (i := .invokevirtual 41) (n := 3) (q := (145, [some (.ref p0), some (.int i1), some (.int i2), some (.ref p3), none, none], [])) (jq qX7_reckon 4 rfl) (jo_cv (y := mX7_push) rfl (Nat.le_of_ble_eq_true rfl) rfl (Nat.le_of_ble_eq_true rfl) b146 rfl r145 jo_ret)) ?_
                      refine Eq.trans (jb_nx (i := .goto 136) (n := 3) (q := (281, [some (.ref p0), some (.int i1), some (.int i2), some (.ref p3), none, none], [])) (jq qX7_reckon 5 rfl) rfl) ?_
                      exact Eq.trans (jb_rt (i := .return_) (n := 1) (jq qX7_reckon 70 rfl) rfl) H
                    · exact Eq.trans (jb_rt (i := .invokevirtual 41) (n := 3) (jq qX7_reckon 4 rfl) (jo_cv (y := mX7_push) rfl (Nat.le_of_ble_eq_true rfl) rfl (Nat.le_of_ble_eq_true rfl) b146 rfl r145 (jo_exn rfl))) H
                  · rw [if_neg c143] at H
                    by_cases c149 : i1 = 39
                    · rw [if_pos c149] at H
                      refine Eq.trans (jb_nx (i := .tableswitch 239 9 39 #[147, 189, 189, 189, 189, 205, 158, 239, 239, 239, 239, 239, 239, 239, 239, 239, 239, 239, 239, 239, 239, 239, 239, 239, 239, 239, 139, 139, 239, 239, 177]) (n := 139) (q := (178, [some (.ref p0), some (.int i1), some (.int i2), some (.ref p3), none, none], [])) (jq qX7_reckon 1 rfl) (by rw [c149]; rfl)) ?_
                      refine Eq.trans (jb_nx (i := .aload_n 0) (n := 1) (q := (179, [some (.ref p0), some (.int i1), some (.int i2), some (.ref p3), none, none], [.ref p0])) (jq qX7_reckon 20 rfl) rfl) ?_
                      refine Eq.trans (jb_nx (i := .aload_n 0) (n := 1) (q := (180, [some (.ref p0), some (.int i1), some (.int i2), some (.ref p3), none, none], [.ref p0, .ref p0])) (jq qX7_reckon 21 rfl) rfl) ?_
                      obtain ⟨b158, H⟩ := jm_O_inv H
                      rcases jcI H with ⟨x152, h150, r151, H⟩ | ⟨w159, h160, r151, H⟩
                      · refine Eq.trans (jb_nx (i := .invokevirtual 37) (n := 3) (q := (183, [some (.ref p0), some (.int i1), some (.int i2), some (.ref p3), none, none], [.int x152, .ref p0])) (jq qX7_reckon 22 rfl) (jo_cv (y := mX7_pop) rfl (Nat.le_of_ble_eq_true rfl) rfl (Nat.le_of_ble_eq_true rfl) b158 rfl r151 jo_ret)) ?_
                        refine Eq.trans (jb_nx (i := .ineg) (n := 1) (q := (184, [some (.ref p0), some (.int i1), some (.int i2), some (.ref p3), none, none], [.int (-x152), .ref p0])) (jq qX7_reckon 23 rfl) rfl) ?_
                        obtain ⟨b155, H⟩ := jm_O_inv H
                        rcases jcV H with ⟨h153, r154, H⟩ | ⟨w156, h157, r154, H⟩
                        · refine Eq.trans (jb_nx (i := .invokevirtual 41) (n := 3) (q := (187, [some (.ref p0), some (.int i1), some (.int i2), some (.ref p3), none, none], [])) (jq qX7_reckon 24 rfl) (jo_cv (y := mX7_push) rfl (Nat.le_of_ble_eq_true rfl) rfl (Nat.le_of_ble_eq_true rfl) b155 rfl r154 jo_ret)) ?_
                          refine Eq.trans (jb_nx (i := .goto 94) (n := 3) (q := (281, [some (.ref p0), some (.int i1), some (.int i2), some (.ref p3), none, none], [])) (jq qX7_reckon 25 rfl) rfl) ?_
                          exact Eq.trans (jb_rt (i := .return_) (n := 1) (jq qX7_reckon 70 rfl) rfl) H
                        · exact Eq.trans (jb_rt (i := .invokevirtual 41) (n := 3) (jq qX7_reckon 24 rfl) (jo_cv (y := mX7_push) rfl (Nat.le_of_ble_eq_true rfl) rfl (Nat.le_of_ble_eq_true rfl) b155 rfl r154 (jo_exn rfl))) H
                      · exact Eq.trans (jb_rt (i := .invokevirtual 37) (n := 3) (jq qX7_reckon 22 rfl) (jo_cv (y := mX7_pop) rfl (Nat.le_of_ble_eq_true rfl) rfl (Nat.le_of_ble_eq_true rfl) b158 rfl r151 (jo_exn rfl))) H
                    · rw [if_neg c149] at H
                      refine Eq.trans (jb_nx (i := .tableswitch 239 9 39 #[147, 189, 189, 189, 189, 205, 158, 239, 239, 239, 239, 239, 239, 239, 239, 239, 239, 239, 239, 239, 239, 239, 239, 239, 239, 239, 139, 139, 239, 239, 177]) (n := 139) (q := (240, [some (.ref p0), some (.int i1), some (.int i2), some (.ref p3), none, none], [])) (jq qX7_reckon 1 rfl) (jo_tabD (ks := [9, 10, 11, 12, 13, 14, 15, 35, 36, 39]) (by decide +kernel) (by intro k hk; simp only [List.mem_cons, List.not_mem_nil, or_false] at hk; rcases hk with rfl | rfl | rfl | rfl | rfl | rfl | rfl | rfl | rfl | rfl; { exact jz_ti rfl c1 }; { exact jz_ti rfl c9 }; { exact jz_ti rfl c26 }; { exact jz_ti rfl c43 }; { exact jz_ti rfl c60 }; { exact jz_ti rfl c77 }; { exact jz_ti rfl c119 }; { exact jz_ti rfl c137 }; { exact jz_ti rfl c143 }; { exact jz_ti rfl c149 }) rfl)) ?_
                      refine Eq.trans (jb_nx (i := .aload_n 0) (n := 1) (q := (241, [some (.ref p0), some (.int i1), some (.int i2), some (.ref p3), none, none], [.ref p0])) (jq qX7_reckon 50 rfl) rfl) ?_
                      obtain ⟨b191, H⟩ := jm_O_inv H
                      rcases jcI H with ⟨x163, h161, r162, H⟩ | ⟨w192, h193, r162, H⟩
                      · refine Eq.trans (jb_nx (i := .invokevirtual 37) (n := 3) (q := (244, [some (.ref p0), some (.int i1), some (.int i2), some (.ref p3), none, none], [.int x163])) (jq qX7_reckon 51 rfl) (jo_cv (y := mX7_pop) rfl (Nat.le_of_ble_eq_true rfl) rfl (Nat.le_of_ble_eq_true rfl) b191 rfl r162 jo_ret)) ?_
                        refine Eq.trans (jb_nx (i := .istore 4) (n := 2) (q := (246, [some (.ref p0), some (.int i1), some (.int i2), some (.ref p3), some (.int x163), none], [])) (jq qX7_reckon 52 rfl) rfl) ?_
                        refine Eq.trans (jb_nx (i := .aload_n 0) (n := 1) (q := (247, [some (.ref p0), some (.int i1), some (.int i2), some (.ref p3), some (.int x163), none], [.ref p0])) (jq qX7_reckon 53 rfl) rfl) ?_
                        obtain ⟨b188, H⟩ := jm_O_inv H
                        rcases jcI H with ⟨x166, h164, r165, H⟩ | ⟨w189, h190, r165, H⟩
                        · refine Eq.trans (jb_nx (i := .invokevirtual 37) (n := 3) (q := (250, [some (.ref p0), some (.int i1), some (.int i2), some (.ref p3), some (.int x163), none], [.int x166])) (jq qX7_reckon 54 rfl) (jo_cv (y := mX7_pop) rfl (Nat.le_of_ble_eq_true rfl) rfl (Nat.le_of_ble_eq_true rfl) b188 rfl r165 jo_ret)) ?_
                          refine Eq.trans (jb_nx (i := .istore 5) (n := 2) (q := (252, [some (.ref p0), some (.int i1), some (.int i2), some (.ref p3), some (.int x163), some (.int x166)], [])) (jq qX7_reckon 55 rfl) rfl) ?_
                          refine Eq.trans (jb_nx (i := .aload_n 0) (n := 1) (q := (253, [some (.ref p0), some (.int i1), some (.int i2), some (.ref p3), some (.int x163), some (.int x166)], [.ref p0])) (jq qX7_reckon 56 rfl) rfl) ?_
                          refine Eq.trans (jb_nx (i := .iload_n 1) (n := 1) (q := (254, [some (.ref p0), some (.int i1), some (.int i2), some (.ref p3), some (.int x163), some (.int x166)], [.int i1, .ref p0])) (jq qX7_reckon 57 rfl) rfl) ?_
                          refine Eq.trans (jb_nx (i := .bipush 30) (n := 2) (q := (256, [some (.ref p0), some (.int i1), some (.int i2), some (.ref p3), some (.int x163), some (.int x166)], [.int 30, .int i1, .ref p0])) (jq qX7_reckon 58 rfl) rfl) ?_
                          by_cases c167 : i1 < 30
                          · rw [if_pos c167] at H
                            refine Eq.trans (jb_nx (i := .if_icmp .ge 14) (n := 3) (q := (259, [some (.ref p0), some (.int i1), some (.int i2), some (.ref p3), some (.int x163), some (.int x166)], [.ref p0])) (jq qX7_reckon 59 rfl) (jo_icF (jz_geF c167))) ?_
                            refine Eq.trans (jb_nx (i := .iload_n 1) (n := 1) (q := (260, [some (.ref p0), some (.int i1), some (.int i2), some (.ref p3), some (.int x163), some (.int x166)], [.int i1, .ref p0])) (jq qX7_reckon 60 rfl) rfl) ?_
                            refine Eq.trans (jb_nx (i := .iload 5) (n := 2) (q := (262, [some (.ref p0), some (.int i1), some (.int i2), some (.ref p3), some (.int x163), some (.int x166)], [.int x166, .int i1, .ref p0])) (jq qX7_reckon 61 rfl) rfl) ?_
                            refine Eq.trans (jb_nx (i := .iload 4) (n := 2) (q := (264, [some (.ref p0), some (.int i1), some (.int i2), some (.ref p3), some (.int x163), some (.int x166)], [.int x163, .int x166, .int i1, .ref p0])) (jq qX7_reckon 62 rfl) rfl) ?_
                            rcases jcI H with ⟨x180, h178, r179, H⟩ | ⟨w186, h187, r179, H⟩
                            · refine Eq.trans (jb_nx (i := .invokestatic 64) (n := 3) (q := (267, [some (.ref p0), some (.int i1), some (.int i2), some (.ref p3), some (.int x163), some (.int x166)], [.int x180, .ref p0])) (jq qX7_reckon 63 rfl) (jo_cs (y := mX7_ofNumbers) (w := 1) (by decide) rfl (Nat.le_of_ble_eq_true rfl) rfl (Nat.le_of_ble_eq_true rfl) rfl r179 jo_ret)) ?_
                              refine Eq.trans (jb_nx (i := .goto 11) (n := 3) (q := (278, [some (.ref p0), some (.int i1), some (.int i2), some (.ref p3), some (.int x163), some (.int x166)], [.int x180, .ref p0])) (jq qX7_reckon 64 rfl) rfl) ?_
                              obtain ⟨b183, H⟩ := jm_O_inv H
                              rcases jcV H with ⟨h181, r182, H⟩ | ⟨w184, h185, r182, H⟩
                              · refine Eq.trans (jb_nx (i := .invokevirtual 41) (n := 3) (q := (281, [some (.ref p0), some (.int i1), some (.int i2), some (.ref p3), some (.int x163), some (.int x166)], [])) (jq qX7_reckon 69 rfl) (jo_cv (y := mX7_push) rfl (Nat.le_of_ble_eq_true rfl) rfl (Nat.le_of_ble_eq_true rfl) b183 rfl r182 jo_ret)) ?_
                                exact Eq.trans (jb_rt (i := .return_) (n := 1) (jq qX7_reckon 70 rfl) rfl) H
                              · exact Eq.trans (jb_rt (i := .invokevirtual 41) (n := 3) (jq qX7_reckon 69 rfl) (jo_cv (y := mX7_push) rfl (Nat.le_of_ble_eq_true rfl) rfl (Nat.le_of_ble_eq_true rfl) b183 rfl r182 (jo_exn rfl))) H
                            · exact Eq.trans (jb_rt (i := .invokestatic 64) (n := 3) (jq qX7_reckon 63 rfl) (jo_cs (y := mX7_ofNumbers) (w := 1) (by decide) rfl (Nat.le_of_ble_eq_true rfl) rfl (Nat.le_of_ble_eq_true rfl) rfl r179 (jo_exn rfl))) H
                          · rw [if_neg c167] at H
                            refine Eq.trans (jb_nx (i := .if_icmp .ge 14) (n := 3) (q := (270, [some (.ref p0), some (.int i1), some (.int i2), some (.ref p3), some (.int x163), some (.int x166)], [.ref p0])) (jq qX7_reckon 59 rfl) (jo_icT (jz_geT c167) rfl)) ?_
                            refine Eq.trans (jb_nx (i := .iload_n 1) (n := 1) (q := (271, [some (.ref p0), some (.int i1), some (.int i2), some (.ref p3), some (.int x163), some (.int x166)], [.int i1, .ref p0])) (jq qX7_reckon 65 rfl) rfl) ?_
                            refine Eq.trans (jb_nx (i := .iload 5) (n := 2) (q := (273, [some (.ref p0), some (.int i1), some (.int i2), some (.ref p3), some (.int x163), some (.int x166)], [.int x166, .int i1, .ref p0])) (jq qX7_reckon 66 rfl) rfl) ?_
                            refine Eq.trans (jb_nx (i := .iload 4) (n := 2) (q := (275, [some (.ref p0), some (.int i1), some (.int i2), some (.ref p3), some (.int x163), some (.int x166)], [.int x163, .int x166, .int i1, .ref p0])) (jq qX7_reckon 67 rfl) rfl) ?_
                            rcases jcI H with ⟨x170, h168, r169, H⟩ | ⟨w176, h177, r169, H⟩
                            · refine Eq.trans (jb_nx (i := .invokestatic 68) (n := 3) (q := (278, [some (.ref p0), some (.int i1), some (.int i2), some (.ref p3), some (.int x163), some (.int x166)], [.int x170, .ref p0])) (jq qX7_reckon 68 rfl) (jo_cs (y := mX7_ofOrder) (w := 1) (by decide) rfl (Nat.le_of_ble_eq_true rfl) rfl (Nat.le_of_ble_eq_true rfl) rfl r169 jo_ret)) ?_
                              obtain ⟨b173, H⟩ := jm_O_inv H
                              rcases jcV H with ⟨h171, r172, H⟩ | ⟨w174, h175, r172, H⟩
                              · refine Eq.trans (jb_nx (i := .invokevirtual 41) (n := 3) (q := (281, [some (.ref p0), some (.int i1), some (.int i2), some (.ref p3), some (.int x163), some (.int x166)], [])) (jq qX7_reckon 69 rfl) (jo_cv (y := mX7_push) rfl (Nat.le_of_ble_eq_true rfl) rfl (Nat.le_of_ble_eq_true rfl) b173 rfl r172 jo_ret)) ?_
                                exact Eq.trans (jb_rt (i := .return_) (n := 1) (jq qX7_reckon 70 rfl) rfl) H
                              · exact Eq.trans (jb_rt (i := .invokevirtual 41) (n := 3) (jq qX7_reckon 69 rfl) (jo_cv (y := mX7_push) rfl (Nat.le_of_ble_eq_true rfl) rfl (Nat.le_of_ble_eq_true rfl) b173 rfl r172 (jo_exn rfl))) H
                            · exact Eq.trans (jb_rt (i := .invokestatic 68) (n := 3) (jq qX7_reckon 68 rfl) (jo_cs (y := mX7_ofOrder) (w := 1) (by decide) rfl (Nat.le_of_ble_eq_true rfl) rfl (Nat.le_of_ble_eq_true rfl) rfl r169 (jo_exn rfl))) H
                        · exact Eq.trans (jb_rt (i := .invokevirtual 37) (n := 3) (jq qX7_reckon 54 rfl) (jo_cv (y := mX7_pop) rfl (Nat.le_of_ble_eq_true rfl) rfl (Nat.le_of_ble_eq_true rfl) b188 rfl r165 (jo_exn rfl))) H
                      · exact Eq.trans (jb_rt (i := .invokevirtual 37) (n := 3) (jq qX7_reckon 51 rfl) (jo_cv (y := mX7_pop) rfl (Nat.le_of_ble_eq_true rfl) rfl (Nat.le_of_ble_eq_true rfl) b191 rfl r162 (jo_exn rfl))) H
/-! MaskPlays$Tests push (I)V -/
def tX7_push : List (Nat × Instr × Nat) := [(0, .aload_n 0, 1), (1, .getfield 17, 3), (4, .ifCond .lt 35, 3), (7, .aload_n 0, 1), (8, .getfield 17, 3), (11, .aload_n 0, 1), (12, .getfield 9, 3), (15, .arraylength, 1), (16, .if_icmp .ge 23, 3), (19, .aload_n 0, 1), (20, .getfield 9, 3), (23, .aload_n 0, 1), (24, .getfield 17, 3), (27, .iload_n 1, 1), (28, .iastore, 1), (29, .aload_n 0, 1), (30, .dup, 1), (31, .getfield 17, 3), (34, .iconst 1, 1), (35, .iadd, 1), (36, .putfield 17, 3), (39, .return_, 1)]
set_option maxRecDepth 100000 in
theorem qX7_push : ∀ q ∈ tX7_push, decode cX7_push q.1 = .ok (q.2.1, q.2.2) := by decide +kernel
theorem gX7_push {d : Nat} {p0 : Nat} {i1 : Int32} {h : jm_H} {r : jm_R} (H : ((jr_I h p0 7 1 0).bind fun x1 => (if x1 < 0 then some (.inl none, h) else (jr_I h p0 7 1 0).bind fun x4 => (jr_R h p0 7 0 2).bind fun a6 => (jm_len h a6).bind fun n8 => (if x4 < (Int32.ofNat n8) then (jr_R h p0 7 0 2).bind fun a11 => (jr_I h p0 7 1 0).bind fun x13 => (jm_asi h a11 0 x13 i1).bind fun h15 => (jr_I h15 p0 7 1 0).bind fun x17 => (jm_pf h15 p0 7 1 0 (.int (x17 + 1))).bind fun h19 => some (.inl none, h19) else some (.inl none, h)))) = some r) : jm_D (d + 1) mX7_push [.ref p0, .int i1] h = some r := by
  rw [jm_D_body (Nat.le_of_ble_eq_true rfl)]
  show jm_B d mX7_push (0, [some (.ref p0), some (.int i1)], []) h = some r
  refine Eq.trans (jb_nx (i := .aload_n 0) (n := 1) (q := (1, [some (.ref p0), some (.int i1)], [.ref p0])) (jq qX7_push 0 rfl) rfl) ?_
  obtain ⟨x1, e2, H⟩ := jbd H
  refine Eq.trans (jb_nx (i := .getfield 17) (n := 3) (q := (4, [some (.ref p0), some (.int i1)], [.int x1])) (jq qX7_push 1 rfl) (jo_gf rfl (jr_I_inv e2))) ?_
  by_cases c3 : x1 < 0
  · rw [if_pos c3] at H
    refine Eq.trans (jb_nx (i := .ifCond .lt 35) (n := 3) (q := (39, [some (.ref p0), some (.int i1)], [])) (jq qX7_push 2 rfl) (jo_ifT (jz_ltT c3) rfl)) ?_
    exact Eq.trans (jb_rt (i := .return_) (n := 1) (jq qX7_push 21 rfl) rfl) H
  · rw [if_neg c3] at H
    refine Eq.trans (jb_nx (i := .ifCond .lt 35) (n := 3) (q := (7, [some (.ref p0), some (.int i1)], [])) (jq qX7_push 2 rfl) (jo_ifF (jz_ltF c3))) ?_
    refine Eq.trans (jb_nx (i := .aload_n 0) (n := 1) (q := (8, [some (.ref p0), some (.int i1)], [.ref p0])) (jq qX7_push 3 rfl) rfl) ?_
    obtain ⟨x4, e5, H⟩ := jbd H
    refine Eq.trans (jb_nx (i := .getfield 17) (n := 3) (q := (11, [some (.ref p0), some (.int i1)], [.int x4])) (jq qX7_push 4 rfl) (jo_gf rfl (jr_I_inv e5))) ?_
    refine Eq.trans (jb_nx (i := .aload_n 0) (n := 1) (q := (12, [some (.ref p0), some (.int i1)], [.ref p0, .int x4])) (jq qX7_push 5 rfl) rfl) ?_
    obtain ⟨a6, e7, H⟩ := jbd H
    refine Eq.trans (jb_nx (i := .getfield 9) (n := 3) (q := (15, [some (.ref p0), some (.int i1)], [.ref a6, .int x4])) (jq qX7_push 6 rfl) (jo_gf rfl (jr_R_inv e7))) ?_
    obtain ⟨n8, e9, H⟩ := jbd H
    refine Eq.trans (jb_nx (i := .arraylength) (n := 1) (q := (16, [some (.ref p0), some (.int i1)], [.int (Int32.ofNat n8), .int x4])) (jq qX7_push 7 rfl) (jo_len e9)) ?_
    by_cases c10 : x4 < (Int32.ofNat n8)
    · rw [if_pos c10] at H
      refine Eq.trans (jb_nx (i := .if_icmp .ge 23) (n := 3) (q := (19, [some (.ref p0), some (.int i1)], [])) (jq qX7_push 8 rfl) (jo_icF (jz_geF c10))) ?_
      refine Eq.trans (jb_nx (i := .aload_n 0) (n := 1) (q := (20, [some (.ref p0), some (.int i1)], [.ref p0])) (jq qX7_push 9 rfl) rfl) ?_
      obtain ⟨a11, e12, H⟩ := jbd H
      refine Eq.trans (jb_nx (i := .getfield 9) (n := 3) (q := (23, [some (.ref p0), some (.int i1)], [.ref a11])) (jq qX7_push 10 rfl) (jo_gf rfl (jr_R_inv e12))) ?_
      refine Eq.trans (jb_nx (i := .aload_n 0) (n := 1) (q := (24, [some (.ref p0), some (.int i1)], [.ref p0, .ref a11])) (jq qX7_push 11 rfl) rfl) ?_
      obtain ⟨x13, e14, H⟩ := jbd H
      refine Eq.trans (jb_nx (i := .getfield 17) (n := 3) (q := (27, [some (.ref p0), some (.int i1)], [.int x13, .ref a11])) (jq qX7_push 12 rfl) (jo_gf rfl (jr_I_inv e14))) ?_
      refine Eq.trans (jb_nx (i := .iload_n 1) (n := 1) (q := (28, [some (.ref p0), some (.int i1)], [.int i1, .int x13, .ref a11])) (jq qX7_push 13 rfl) rfl) ?_
      obtain ⟨h15, e16, H⟩ := jbd H
      refine Eq.trans (jb_nx (i := .iastore) (n := 1) (q := (29, [some (.ref p0), some (.int i1)], [])) (jq qX7_push 14 rfl) (jo_ias e16)) ?_
      refine Eq.trans (jb_nx (i := .aload_n 0) (n := 1) (q := (30, [some (.ref p0), some (.int i1)], [.ref p0])) (jq qX7_push 15 rfl) rfl) ?_
      refine Eq.trans (jb_nx (i := .dup) (n := 1) (q := (31, [some (.ref p0), some (.int i1)], [.ref p0, .ref p0])) (jq qX7_push 16 rfl) rfl) ?_
      obtain ⟨x17, e18, H⟩ := jbd H
      refine Eq.trans (jb_nx (i := .getfield 17) (n := 3) (q := (34, [some (.ref p0), some (.int i1)], [.int x17, .ref p0])) (jq qX7_push 17 rfl) (jo_gf rfl (jr_I_inv e18))) ?_
      refine Eq.trans (jb_nx (i := .iconst 1) (n := 1) (q := (35, [some (.ref p0), some (.int i1)], [.int 1, .int x17, .ref p0])) (jq qX7_push 18 rfl) rfl) ?_
      refine Eq.trans (jb_nx (i := .iadd) (n := 1) (q := (36, [some (.ref p0), some (.int i1)], [.int (x17 + 1), .ref p0])) (jq qX7_push 19 rfl) rfl) ?_
      obtain ⟨h19, e20, H⟩ := jbd H
      refine Eq.trans (jb_nx (i := .putfield 17) (n := 3) (q := (39, [some (.ref p0), some (.int i1)], [])) (jq qX7_push 20 rfl) (jo_pf rfl (Or.inl rfl) e20)) ?_
      exact Eq.trans (jb_rt (i := .return_) (n := 1) (jq qX7_push 21 rfl) rfl) H
    · rw [if_neg c10] at H
      refine Eq.trans (jb_nx (i := .if_icmp .ge 23) (n := 3) (q := (39, [some (.ref p0), some (.int i1)], [])) (jq qX7_push 8 rfl) (jo_icT (jz_geT c10) rfl)) ?_
      exact Eq.trans (jb_rt (i := .return_) (n := 1) (jq qX7_push 21 rfl) rfl) H
/-! MaskPlays$Tests pop ()I -/
def tX7_pop : List (Nat × Instr × Nat) := [(0, .aload_n 0, 1), (1, .getfield 17, 3), (4, .ifCond .le 15, 3), (7, .aload_n 0, 1), (8, .getfield 17, 3), (11, .aload_n 0, 1), (12, .getfield 9, 3), (15, .arraylength, 1), (16, .if_icmp .le 5, 3), (19, .iconst 0, 1), (20, .ireturn, 1), (21, .aload_n 0, 1), (22, .dup, 1), (23, .getfield 17, 3), (26, .iconst 1, 1), (27, .isub, 1), (28, .putfield 17, 3), (31, .aload_n 0, 1), (32, .getfield 9, 3), (35, .aload_n 0, 1), (36, .getfield 17, 3), (39, .iaload, 1), (40, .ireturn, 1)]
set_option maxRecDepth 100000 in
theorem qX7_pop : ∀ q ∈ tX7_pop, decode cX7_pop q.1 = .ok (q.2.1, q.2.2) := by decide +kernel
theorem gX7_pop {d : Nat} {p0 : Nat} {h : jm_H} {r : jm_R} (H : ((jr_I h p0 7 1 0).bind fun x1 => (if 0 < x1 then (jr_I h p0 7 1 0).bind fun x4 => (jr_R h p0 7 0 2).bind fun a6 => (jm_len h a6).bind fun n8 => (if (Int32.ofNat n8) < x4 then some (.inl (some (.int 0)), h) else (jr_I h p0 7 1 0).bind fun x11 => (jm_pf h p0 7 1 0 (.int (x11 - 1))).bind fun h13 => (jr_R h13 p0 7 0 2).bind fun a15 => (jr_I h13 p0 7 1 0).bind fun x17 => (jm_ali h13 a15 0 x17).bind fun x19 => some (.inl (some (.int x19)), h13)) else some (.inl (some (.int 0)), h))) = some r) : jm_D (d + 1) mX7_pop [.ref p0] h = some r := by
  rw [jm_D_body (Nat.le_of_ble_eq_true rfl)]
  show jm_B d mX7_pop (0, [some (.ref p0)], []) h = some r
  refine Eq.trans (jb_nx (i := .aload_n 0) (n := 1) (q := (1, [some (.ref p0)], [.ref p0])) (jq qX7_pop 0 rfl) rfl) ?_
  obtain ⟨x1, e2, H⟩ := jbd H
  refine Eq.trans (jb_nx (i := .getfield 17) (n := 3) (q := (4, [some (.ref p0)], [.int x1])) (jq qX7_pop 1 rfl) (jo_gf rfl (jr_I_inv e2))) ?_
  by_cases c3 : 0 < x1
  · rw [if_pos c3] at H
    refine Eq.trans (jb_nx (i := .ifCond .le 15) (n := 3) (q := (7, [some (.ref p0)], [])) (jq qX7_pop 2 rfl) (jo_ifF (jz_leF c3))) ?_
    refine Eq.trans (jb_nx (i := .aload_n 0) (n := 1) (q := (8, [some (.ref p0)], [.ref p0])) (jq qX7_pop 3 rfl) rfl) ?_
    obtain ⟨x4, e5, H⟩ := jbd H
    refine Eq.trans (jb_nx (i := .getfield 17) (n := 3) (q := (11, [some (.ref p0)], [.int x4])) (jq qX7_pop 4 rfl) (jo_gf rfl (jr_I_inv e5))) ?_
    refine Eq.trans (jb_nx (i := .aload_n 0) (n := 1) (q := (12, [some (.ref p0)], [.ref p0, .int x4])) (jq qX7_pop 5 rfl) rfl) ?_
    obtain ⟨a6, e7, H⟩ := jbd H
    refine Eq.trans (jb_nx (i := .getfield 9) (n := 3) (q := (15, [some (.ref p0)], [.ref a6, .int x4])) (jq qX7_pop 6 rfl) (jo_gf rfl (jr_R_inv e7))) ?_
    obtain ⟨n8, e9, H⟩ := jbd H
    refine Eq.trans (jb_nx (i := .arraylength) (n := 1) (q := (16, [some (.ref p0)], [.int (Int32.ofNat n8), .int x4])) (jq qX7_pop 7 rfl) (jo_len e9)) ?_
    by_cases c10 : (Int32.ofNat n8) < x4
    · rw [if_pos c10] at H
      refine Eq.trans (jb_nx (i := .if_icmp .le 5) (n := 3) (q := (19, [some (.ref p0)], [])) (jq qX7_pop 8 rfl) (jo_icF (jz_leF c10))) ?_
      refine Eq.trans (jb_nx (i := .iconst 0) (n := 1) (q := (20, [some (.ref p0)], [.int 0])) (jq qX7_pop 9 rfl) rfl) ?_
      exact Eq.trans (jb_rt (i := .ireturn) (n := 1) (jq qX7_pop 10 rfl) (jo_iret rfl rfl)) H
    · rw [if_neg c10] at H
      refine Eq.trans (jb_nx (i := .if_icmp .le 5) (n := 3) (q := (21, [some (.ref p0)], [])) (jq qX7_pop 8 rfl) (jo_icT (jz_leT c10) rfl)) ?_
      refine Eq.trans (jb_nx (i := .aload_n 0) (n := 1) (q := (22, [some (.ref p0)], [.ref p0])) (jq qX7_pop 11 rfl) rfl) ?_
      refine Eq.trans (jb_nx (i := .dup) (n := 1) (q := (23, [some (.ref p0)], [.ref p0, .ref p0])) (jq qX7_pop 12 rfl) rfl) ?_
      obtain ⟨x11, e12, H⟩ := jbd H
      refine Eq.trans (jb_nx (i := .getfield 17) (n := 3) (q := (26, [some (.ref p0)], [.int x11, .ref p0])) (jq qX7_pop 13 rfl) (jo_gf rfl (jr_I_inv e12))) ?_
      refine Eq.trans (jb_nx (i := .iconst 1) (n := 1) (q := (27, [some (.ref p0)], [.int 1, .int x11, .ref p0])) (jq qX7_pop 14 rfl) rfl) ?_
      refine Eq.trans (jb_nx (i := .isub) (n := 1) (q := (28, [some (.ref p0)], [.int (x11 - 1), .ref p0])) (jq qX7_pop 15 rfl) rfl) ?_
      obtain ⟨h13, e14, H⟩ := jbd H
      refine Eq.trans (jb_nx (i := .putfield 17) (n := 3) (q := (31, [some (.ref p0)], [])) (jq qX7_pop 16 rfl) (jo_pf rfl (Or.inl rfl) e14)) ?_
      refine Eq.trans (jb_nx (i := .aload_n 0) (n := 1) (q := (32, [some (.ref p0)], [.ref p0])) (jq qX7_pop 17 rfl) rfl) ?_
      obtain ⟨a15, e16, H⟩ := jbd H
      refine Eq.trans (jb_nx (i := .getfield 9) (n := 3) (q := (35, [some (.ref p0)], [.ref a15])) (jq qX7_pop 18 rfl) (jo_gf rfl (jr_R_inv e16))) ?_
      refine Eq.trans (jb_nx (i := .aload_n 0) (n := 1) (q := (36, [some (.ref p0)], [.ref p0, .ref a15])) (jq qX7_pop 19 rfl) rfl) ?_
      obtain ⟨x17, e18, H⟩ := jbd H
      refine Eq.trans (jb_nx (i := .getfield 17) (n := 3) (q := (39, [some (.ref p0)], [.int x17, .ref a15])) (jq qX7_pop 20 rfl) (jo_gf rfl (jr_I_inv e18))) ?_
      obtain ⟨x19, e20, H⟩ := jbd H
      refine Eq.trans (jb_nx (i := .iaload) (n := 1) (q := (40, [some (.ref p0)], [.int x19])) (jq qX7_pop 21 rfl) (jo_ial e20)) ?_
      exact Eq.trans (jb_rt (i := .ireturn) (n := 1) (jq qX7_pop 22 rfl) (jo_iret rfl rfl)) H
  · rw [if_neg c3] at H
    refine Eq.trans (jb_nx (i := .ifCond .le 15) (n := 3) (q := (19, [some (.ref p0)], [])) (jq qX7_pop 2 rfl) (jo_ifT (jz_leT c3) rfl)) ?_
    refine Eq.trans (jb_nx (i := .iconst 0) (n := 1) (q := (20, [some (.ref p0)], [.int 0])) (jq qX7_pop 9 rfl) rfl) ?_
    exact Eq.trans (jb_rt (i := .ireturn) (n := 1) (jq qX7_pop 10 rfl) (jo_iret rfl rfl)) H
/-! MaskPlays$Tests ofPlay (IILMaskPlays$Stage;)I -/
def tX7_ofPlay : List (Nat × Instr × Nat) := [(0, .iload_n 0, 1), (1, .tableswitch 52 10 12 #[27, 36, 46], 27), (28, .aload_n 2, 1), (29, .iload_n 1, 1), (30, .invokevirtual 54, 3), (33, .getfield 71, 3), (36, .ireturn, 1), (37, .aload_n 2, 1), (38, .iload_n 1, 1), (39, .invokevirtual 54, 3), (42, .iconst 1, 1), (43, .invokevirtual 74, 3), (46, .ireturn, 1), (47, .aload_n 2, 1), (48, .iload_n 1, 1), (49, .invokevirtual 77, 3), (52, .ireturn, 1), (53, .aload_n 2, 1), (54, .iload_n 1, 1), (55, .invokevirtual 54, 3), (58, .invokevirtual 80, 3), (61, .ifCond .ge 7, 3), (64, .iconst 1, 1), (65, .goto 4, 3), (68, .iconst 0, 1), (69, .ireturn, 1)]
set_option maxRecDepth 100000 in
theorem qX7_ofPlay : ∀ q ∈ tX7_ofPlay, decode cX7_ofPlay q.1 = .ok (q.2.1, q.2.2) := by decide +kernel
theorem gX7_ofPlay {d : Nat} {i0 : Int32} {i1 : Int32} {p2 : Nat} {h : jm_H} {r : jm_R} (H : ((if i0 = 10 then jm_O h p2 4 (jc_R (jm_D d mX4_partAt [.ref p2, .int i1] h) (fun a4 h2 => (jr_I h2 a4 3 0 0).bind fun x5 => some (.inl (some (.int x5)), h2)) jx) else (if i0 = 11 then jm_O h p2 4 (jc_R (jm_D d mX4_partAt [.ref p2, .int i1] h) (fun a13 h11 => jm_O h11 a13 3 (jc_I (jm_D d mX3_countOf [.ref a13, .int 1] h11) (fun x16 h14 => some (.inl (some (.int x16)), h14)) jx)) jx) else (if i0 = 12 then jm_O h p2 4 (jc_I (jm_D d mX4_stepsAt [.ref p2, .int i1] h) (fun x26 h24 => some (.inl (some (.int x26)), h24)) jx) else jm_O h p2 4 (jc_R (jm_D d mX4_partAt [.ref p2, .int i1] h) (fun a32 h30 => jm_O h30 a32 3 (jc_I (jm_D d mX3_readyScene [.ref a32] h30) (fun x35 h33 => (if x35 < 0 then some (.inl (some (.int 1)), h33) else some (.inl (some (.int 0)), h33))) jx)) jx))))) = some r) : jm_D (d + 1) mX7_ofPlay [.int i0, .int i1, .ref p2] h = some r := by
  rw [jm_D_body (Nat.le_of_ble_eq_true rfl)]
  show jm_B d mX7_ofPlay (0, [some (.int i0), some (.int i1), some (.ref p2)], []) h = some r
  refine Eq.trans (jb_nx (i := .iload_n 0) (n := 1) (q := (1, [some (.int i0), some (.int i1), some (.ref p2)], [.int i0])) (jq qX7_ofPlay 0 rfl) rfl) ?_
  by_cases c1 : i0 = 10
  · rw [if_pos c1] at H
    refine Eq.trans (jb_nx (i := .tableswitch 52 10 12 #[27, 36, 46]) (n := 27) (q := (28, [some (.int i0), some (.int i1), some (.ref p2)], [])) (jq qX7_ofPlay 1 rfl) (by rw [c1]; rfl)) ?_
    refine Eq.trans (jb_nx (i := .aload_n 2) (n := 1) (q := (29, [some (.int i0), some (.int i1), some (.ref p2)], [.ref p2])) (jq qX7_ofPlay 2 rfl) rfl) ?_
    refine Eq.trans (jb_nx (i := .iload_n 1) (n := 1) (q := (30, [some (.int i0), some (.int i1), some (.ref p2)], [.int i1, .ref p2])) (jq qX7_ofPlay 3 rfl) rfl) ?_
    obtain ⟨b7, H⟩ := jm_O_inv H
    rcases jcR H with ⟨a4, h2, r3, H⟩ | ⟨w8, h9, r3, H⟩
    · refine Eq.trans (jb_nx (i := .invokevirtual 54) (n := 3) (q := (33, [some (.int i0), some (.int i1), some (.ref p2)], [.ref a4])) (jq qX7_ofPlay 4 rfl) (jo_cv (y := mX4_partAt) rfl (Nat.le_of_ble_eq_true rfl) rfl (Nat.le_of_ble_eq_true rfl) b7 rfl r3 jo_ret)) ?_
      obtain ⟨x5, e6, H⟩ := jbd H
      refine Eq.trans (jb_nx (i := .getfield 71) (n := 3) (q := (36, [some (.int i0), some (.int i1), some (.ref p2)], [.int x5])) (jq qX7_ofPlay 5 rfl) (jo_gf rfl (jr_I_inv e6))) ?_
      exact Eq.trans (jb_rt (i := .ireturn) (n := 1) (jq qX7_ofPlay 6 rfl) (jo_iret rfl rfl)) H
    · exact Eq.trans (jb_rt (i := .invokevirtual 54) (n := 3) (jq qX7_ofPlay 4 rfl) (jo_cv (y := mX4_partAt) rfl (Nat.le_of_ble_eq_true rfl) rfl (Nat.le_of_ble_eq_true rfl) b7 rfl r3 (jo_exn rfl))) H
  · rw [if_neg c1] at H
    by_cases c10 : i0 = 11
    · rw [if_pos c10] at H
      refine Eq.trans (jb_nx (i := .tableswitch 52 10 12 #[27, 36, 46]) (n := 27) (q := (37, [some (.int i0), some (.int i1), some (.ref p2)], [])) (jq qX7_ofPlay 1 rfl) (by rw [c10]; rfl)) ?_
      refine Eq.trans (jb_nx (i := .aload_n 2) (n := 1) (q := (38, [some (.int i0), some (.int i1), some (.ref p2)], [.ref p2])) (jq qX7_ofPlay 7 rfl) rfl) ?_
      refine Eq.trans (jb_nx (i := .iload_n 1) (n := 1) (q := (39, [some (.int i0), some (.int i1), some (.ref p2)], [.int i1, .ref p2])) (jq qX7_ofPlay 8 rfl) rfl) ?_
      obtain ⟨b20, H⟩ := jm_O_inv H
      rcases jcR H with ⟨a13, h11, r12, H⟩ | ⟨w21, h22, r12, H⟩
      · refine Eq.trans (jb_nx (i := .invokevirtual 54) (n := 3) (q := (42, [some (.int i0), some (.int i1), some (.ref p2)], [.ref a13])) (jq qX7_ofPlay 9 rfl) (jo_cv (y := mX4_partAt) rfl (Nat.le_of_ble_eq_true rfl) rfl (Nat.le_of_ble_eq_true rfl) b20 rfl r12 jo_ret)) ?_
        refine Eq.trans (jb_nx (i := .iconst 1) (n := 1) (q := (43, [some (.int i0), some (.int i1), some (.ref p2)], [.int 1, .ref a13])) (jq qX7_ofPlay 10 rfl) rfl) ?_
        obtain ⟨b17, H⟩ := jm_O_inv H
        rcases jcI H with ⟨x16, h14, r15, H⟩ | ⟨w18, h19, r15, H⟩
        · refine Eq.trans (jb_nx (i := .invokevirtual 74) (n := 3) (q := (46, [some (.int i0), some (.int i1), some (.ref p2)], [.int x16])) (jq qX7_ofPlay 11 rfl) (jo_cv (y := mX3_countOf) rfl (Nat.le_of_ble_eq_true rfl) rfl (Nat.le_of_ble_eq_true rfl) b17 rfl r15 jo_ret)) ?_
          exact Eq.trans (jb_rt (i := .ireturn) (n := 1) (jq qX7_ofPlay 12 rfl) (jo_iret rfl rfl)) H
        · exact Eq.trans (jb_rt (i := .invokevirtual 74) (n := 3) (jq qX7_ofPlay 11 rfl) (jo_cv (y := mX3_countOf) rfl (Nat.le_of_ble_eq_true rfl) rfl (Nat.le_of_ble_eq_true rfl) b17 rfl r15 (jo_exn rfl))) H
      · exact Eq.trans (jb_rt (i := .invokevirtual 54) (n := 3) (jq qX7_ofPlay 9 rfl) (jo_cv (y := mX4_partAt) rfl (Nat.le_of_ble_eq_true rfl) rfl (Nat.le_of_ble_eq_true rfl) b20 rfl r12 (jo_exn rfl))) H
    · rw [if_neg c10] at H
      by_cases c23 : i0 = 12
      · rw [if_pos c23] at H
        refine Eq.trans (jb_nx (i := .tableswitch 52 10 12 #[27, 36, 46]) (n := 27) (q := (47, [some (.int i0), some (.int i1), some (.ref p2)], [])) (jq qX7_ofPlay 1 rfl) (by rw [c23]; rfl)) ?_
        refine Eq.trans (jb_nx (i := .aload_n 2) (n := 1) (q := (48, [some (.int i0), some (.int i1), some (.ref p2)], [.ref p2])) (jq qX7_ofPlay 13 rfl) rfl) ?_
        refine Eq.trans (jb_nx (i := .iload_n 1) (n := 1) (q := (49, [some (.int i0), some (.int i1), some (.ref p2)], [.int i1, .ref p2])) (jq qX7_ofPlay 14 rfl) rfl) ?_
        obtain ⟨b27, H⟩ := jm_O_inv H
        rcases jcI H with ⟨x26, h24, r25, H⟩ | ⟨w28, h29, r25, H⟩
        · refine Eq.trans (jb_nx (i := .invokevirtual 77) (n := 3) (q := (52, [some (.int i0), some (.int i1), some (.ref p2)], [.int x26])) (jq qX7_ofPlay 15 rfl) (jo_cv (y := mX4_stepsAt) rfl (Nat.le_of_ble_eq_true rfl) rfl (Nat.le_of_ble_eq_true rfl) b27 rfl r25 jo_ret)) ?_
          exact Eq.trans (jb_rt (i := .ireturn) (n := 1) (jq qX7_ofPlay 16 rfl) (jo_iret rfl rfl)) H
        · exact Eq.trans (jb_rt (i := .invokevirtual 77) (n := 3) (jq qX7_ofPlay 15 rfl) (jo_cv (y := mX4_stepsAt) rfl (Nat.le_of_ble_eq_true rfl) rfl (Nat.le_of_ble_eq_true rfl) b27 rfl r25 (jo_exn rfl))) H
      · rw [if_neg c23] at H
        refine Eq.trans (jb_nx (i := .tableswitch 52 10 12 #[27, 36, 46]) (n := 27) (q := (53, [some (.int i0), some (.int i1), some (.ref p2)], [])) (jq qX7_ofPlay 1 rfl) (jo_tabD (ks := [10, 11, 12]) (by decide +kernel) (by intro k hk; simp only [List.mem_cons, List.not_mem_nil, or_false] at hk; rcases hk with rfl | rfl | rfl; { exact jz_ti rfl c1 }; { exact jz_ti rfl c10 }; { exact jz_ti rfl c23 }) rfl)) ?_
        refine Eq.trans (jb_nx (i := .aload_n 2) (n := 1) (q := (54, [some (.int i0), some (.int i1), some (.ref p2)], [.ref p2])) (jq qX7_ofPlay 17 rfl) rfl) ?_
        refine Eq.trans (jb_nx (i := .iload_n 1) (n := 1) (q := (55, [some (.int i0), some (.int i1), some (.ref p2)], [.int i1, .ref p2])) (jq qX7_ofPlay 18 rfl) rfl) ?_
        obtain ⟨b40, H⟩ := jm_O_inv H
        rcases jcR H with ⟨a32, h30, r31, H⟩ | ⟨w41, h42, r31, H⟩
        · refine Eq.trans (jb_nx (i := .invokevirtual 54) (n := 3) (q := (58, [some (.int i0), some (.int i1), some (.ref p2)], [.ref a32])) (jq qX7_ofPlay 19 rfl) (jo_cv (y := mX4_partAt) rfl (Nat.le_of_ble_eq_true rfl) rfl (Nat.le_of_ble_eq_true rfl) b40 rfl r31 jo_ret)) ?_
          obtain ⟨b37, H⟩ := jm_O_inv H
          rcases jcI H with ⟨x35, h33, r34, H⟩ | ⟨w38, h39, r34, H⟩
          · refine Eq.trans (jb_nx (i := .invokevirtual 80) (n := 3) (q := (61, [some (.int i0), some (.int i1), some (.ref p2)], [.int x35])) (jq qX7_ofPlay 20 rfl) (jo_cv (y := mX3_readyScene) rfl (Nat.le_of_ble_eq_true rfl) rfl (Nat.le_of_ble_eq_true rfl) b37 rfl r34 jo_ret)) ?_
            by_cases c36 : x35 < 0
            · rw [if_pos c36] at H
              refine Eq.trans (jb_nx (i := .ifCond .ge 7) (n := 3) (q := (64, [some (.int i0), some (.int i1), some (.ref p2)], [])) (jq qX7_ofPlay 21 rfl) (jo_ifF (jz_geF c36))) ?_
              refine Eq.trans (jb_nx (i := .iconst 1) (n := 1) (q := (65, [some (.int i0), some (.int i1), some (.ref p2)], [.int 1])) (jq qX7_ofPlay 22 rfl) rfl) ?_
              refine Eq.trans (jb_nx (i := .goto 4) (n := 3) (q := (69, [some (.int i0), some (.int i1), some (.ref p2)], [.int 1])) (jq qX7_ofPlay 23 rfl) rfl) ?_
              exact Eq.trans (jb_rt (i := .ireturn) (n := 1) (jq qX7_ofPlay 25 rfl) (jo_iret rfl rfl)) H
            · rw [if_neg c36] at H
              refine Eq.trans (jb_nx (i := .ifCond .ge 7) (n := 3) (q := (68, [some (.int i0), some (.int i1), some (.ref p2)], [])) (jq qX7_ofPlay 21 rfl) (jo_ifT (jz_geT c36) rfl)) ?_
              refine Eq.trans (jb_nx (i := .iconst 0) (n := 1) (q := (69, [some (.int i0), some (.int i1), some (.ref p2)], [.int 0])) (jq qX7_ofPlay 24 rfl) rfl) ?_
              exact Eq.trans (jb_rt (i := .ireturn) (n := 1) (jq qX7_ofPlay 25 rfl) (jo_iret rfl rfl)) H
          · exact Eq.trans (jb_rt (i := .invokevirtual 80) (n := 3) (jq qX7_ofPlay 20 rfl) (jo_cv (y := mX3_readyScene) rfl (Nat.le_of_ble_eq_true rfl) rfl (Nat.le_of_ble_eq_true rfl) b37 rfl r34 (jo_exn rfl))) H
        · exact Eq.trans (jb_rt (i := .invokevirtual 54) (n := 3) (jq qX7_ofPlay 19 rfl) (jo_cv (y := mX4_partAt) rfl (Nat.le_of_ble_eq_true rfl) rfl (Nat.le_of_ble_eq_true rfl) b40 rfl r31 (jo_exn rfl))) H
/-! MaskPlays$Tests ofNumbers (III)I -/
def tX7_ofNumbers : List (Nat × Instr × Nat) := [(0, .iload_n 0, 1), (1, .tableswitch 111 16 29 #[107, 111, 95, 101, 111, 111, 111, 111, 111, 111, 71, 75, 79, 83], 71), (72, .iload_n 1, 1), (73, .iload_n 2, 1), (74, .iadd, 1), (75, .ireturn, 1), (76, .iload_n 1, 1), (77, .iload_n 2, 1), (78, .isub, 1), (79, .ireturn, 1), (80, .iload_n 1, 1), (81, .iload_n 2, 1), (82, .imul, 1), (83, .ireturn, 1), (84, .iload_n 2, 1), (85, .ifCond .ne 7, 3), (88, .iconst 0, 1), (89, .goto 6, 3), (92, .iload_n 1, 1), (93, .iload_n 2, 1), (94, .idiv, 1), (95, .ireturn, 1), (96, .iload_n 1, 1), (97, .iload_n 2, 1), (98, .invokestatic 83, 3), (101, .ireturn, 1), (102, .iload_n 1, 1), (103, .iload_n 2, 1), (104, .invokestatic 89, 3), (107, .ireturn, 1), (108, .iload_n 1, 1), (109, .iload_n 2, 1), (110, .iand, 1), (111, .ireturn, 1), (112, .iload_n 1, 1), (113, .iload_n 2, 1), (114, .ior, 1), (115, .ireturn, 1)]
set_option maxRecDepth 100000 in
theorem qX7_ofNumbers : ∀ q ∈ tX7_ofNumbers, decode cX7_ofNumbers q.1 = .ok (q.2.1, q.2.2) := by decide +kernel
theorem gX7_ofNumbers {d : Nat} {i0 : Int32} {i1 : Int32} {i2 : Int32} {h : jm_H} {r : jm_R} (H : ((if i0 = 16 then some (.inl (some (.int (i1 &&& i2))), h) else (if i0 = 18 then some (.inl (some (.int (if i2 < i1 then i2 else i1))), h) else (if i0 = 19 then some (.inl (some (.int (if i1 < i2 then i2 else i1))), h) else (if i0 = 26 then some (.inl (some (.int (i1 + i2))), h) else (if i0 = 27 then some (.inl (some (.int (i1 - i2))), h) else (if i0 = 28 then some (.inl (some (.int (i1 * i2))), h) else (if i0 = 29 then (if i2 = 0 then some (.inl (some (.int 0)), h) else (if i2 = 0 then none else some (.inl (some (.int (i1 / i2))), h))) else some (.inl (some (.int (i1 ||| i2))), h))))))))) = some r) : jm_D (d + 1) mX7_ofNumbers [.int i0, .int i1, .int i2] h = some r := by
  rw [jm_D_body (Nat.le_of_ble_eq_true rfl)]
  show jm_B d mX7_ofNumbers (0, [some (.int i0), some (.int i1), some (.int i2)], []) h = some r
  refine Eq.trans (jb_nx (i := .iload_n 0) (n := 1) (q := (1, [some (.int i0), some (.int i1), some (.int i2)], [.int i0])) (jq qX7_ofNumbers 0 rfl) rfl) ?_
  by_cases c1 : i0 = 16
  · rw [if_pos c1] at H
    refine Eq.trans (jb_nx (i := .tableswitch 111 16 29 #[107, 111, 95, 101, 111, 111, 111, 111, 111, 111, 71, 75, 79, 83]) (n := 71) (q := (108, [some (.int i0), some (.int i1), some (.int i2)], [])) (jq qX7_ofNumbers 1 rfl) (by rw [c1]; rfl)) ?_
    refine Eq.trans (jb_nx (i := .iload_n 1) (n := 1) (q := (109, [some (.int i0), some (.int i1), some (.int i2)], [.int i1])) (jq qX7_ofNumbers 30 rfl) rfl) ?_
    refine Eq.trans (jb_nx (i := .iload_n 2) (n := 1) (q := (110, [some (.int i0), some (.int i1), some (.int i2)], [.int i2, .int i1])) (jq qX7_ofNumbers 31 rfl) rfl) ?_
    refine Eq.trans (jb_nx (i := .iand) (n := 1) (q := (111, [some (.int i0), some (.int i1), some (.int i2)], [.int (i1 &&& i2)])) (jq qX7_ofNumbers 32 rfl) rfl) ?_
    exact Eq.trans (jb_rt (i := .ireturn) (n := 1) (jq qX7_ofNumbers 33 rfl) (jo_iret rfl rfl)) H
  · rw [if_neg c1] at H
    by_cases c2 : i0 = 18
    · rw [if_pos c2] at H
      refine Eq.trans (jb_nx (i := .tableswitch 111 16 29 #[107, 111, 95, 101, 111, 111, 111, 111, 111, 111, 71, 75, 79, 83]) (n := 71) (q := (96, [some (.int i0), some (.int i1), some (.int i2)], [])) (jq qX7_ofNumbers 1 rfl) (by rw [c2]; rfl)) ?_
      refine Eq.trans (jb_nx (i := .iload_n 1) (n := 1) (q := (97, [some (.int i0), some (.int i1), some (.int i2)], [.int i1])) (jq qX7_ofNumbers 22 rfl) rfl) ?_
      refine Eq.trans (jb_nx (i := .iload_n 2) (n := 1) (q := (98, [some (.int i0), some (.int i1), some (.int i2)], [.int i2, .int i1])) (jq qX7_ofNumbers 23 rfl) rfl) ?_
      refine Eq.trans (jb_nx (i := .invokestatic 83) (n := 3) (q := (101, [some (.int i0), some (.int i1), some (.int i2)], [.int (if i2 < i1 then i2 else i1)])) (jq qX7_ofNumbers 24 rfl) (jo_mn (z := mX3_clear) rfl (Nat.le_of_ble_eq_true rfl))) ?_
      exact Eq.trans (jb_rt (i := .ireturn) (n := 1) (jq qX7_ofNumbers 25 rfl) (jo_iret rfl rfl)) H
    · rw [if_neg c2] at H
      by_cases c3 : i0 = 19
      · rw [if_pos c3] at H
        refine Eq.trans (jb_nx (i := .tableswitch 111 16 29 #[107, 111, 95, 101, 111, 111, 111, 111, 111, 111, 71, 75, 79, 83]) (n := 71) (q := (102, [some (.int i0), some (.int i1), some (.int i2)], [])) (jq qX7_ofNumbers 1 rfl) (by rw [c3]; rfl)) ?_
        refine Eq.trans (jb_nx (i := .iload_n 1) (n := 1) (q := (103, [some (.int i0), some (.int i1), some (.int i2)], [.int i1])) (jq qX7_ofNumbers 26 rfl) rfl) ?_
        refine Eq.trans (jb_nx (i := .iload_n 2) (n := 1) (q := (104, [some (.int i0), some (.int i1), some (.int i2)], [.int i2, .int i1])) (jq qX7_ofNumbers 27 rfl) rfl) ?_
        refine Eq.trans (jb_nx (i := .invokestatic 89) (n := 3) (q := (107, [some (.int i0), some (.int i1), some (.int i2)], [.int (if i1 < i2 then i2 else i1)])) (jq qX7_ofNumbers 28 rfl) (jo_mx (z := mX3_clear) rfl (Nat.le_of_ble_eq_true rfl))) ?_
        exact Eq.trans (jb_rt (i := .ireturn) (n := 1) (jq qX7_ofNumbers 29 rfl) (jo_iret rfl rfl)) H
      · rw [if_neg c3] at H
        by_cases c4 : i0 = 26
        · rw [if_pos c4] at H
          refine Eq.trans (jb_nx (i := .tableswitch 111 16 29 #[107, 111, 95, 101, 111, 111, 111, 111, 111, 111, 71, 75, 79, 83]) (n := 71) (q := (72, [some (.int i0), some (.int i1), some (.int i2)], [])) (jq qX7_ofNumbers 1 rfl) (by rw [c4]; rfl)) ?_
          refine Eq.trans (jb_nx (i := .iload_n 1) (n := 1) (q := (73, [some (.int i0), some (.int i1), some (.int i2)], [.int i1])) (jq qX7_ofNumbers 2 rfl) rfl) ?_
          refine Eq.trans (jb_nx (i := .iload_n 2) (n := 1) (q := (74, [some (.int i0), some (.int i1), some (.int i2)], [.int i2, .int i1])) (jq qX7_ofNumbers 3 rfl) rfl) ?_
          refine Eq.trans (jb_nx (i := .iadd) (n := 1) (q := (75, [some (.int i0), some (.int i1), some (.int i2)], [.int (i1 + i2)])) (jq qX7_ofNumbers 4 rfl) rfl) ?_
          exact Eq.trans (jb_rt (i := .ireturn) (n := 1) (jq qX7_ofNumbers 5 rfl) (jo_iret rfl rfl)) H
        · rw [if_neg c4] at H
          by_cases c5 : i0 = 27
          · rw [if_pos c5] at H
            refine Eq.trans (jb_nx (i := .tableswitch 111 16 29 #[107, 111, 95, 101, 111, 111, 111, 111, 111, 111, 71, 75, 79, 83]) (n := 71) (q := (76, [some (.int i0), some (.int i1), some (.int i2)], [])) (jq qX7_ofNumbers 1 rfl) (by rw [c5]; rfl)) ?_
            refine Eq.trans (jb_nx (i := .iload_n 1) (n := 1) (q := (77, [some (.int i0), some (.int i1), some (.int i2)], [.int i1])) (jq qX7_ofNumbers 6 rfl) rfl) ?_
            refine Eq.trans (jb_nx (i := .iload_n 2) (n := 1) (q := (78, [some (.int i0), some (.int i1), some (.int i2)], [.int i2, .int i1])) (jq qX7_ofNumbers 7 rfl) rfl) ?_
            refine Eq.trans (jb_nx (i := .isub) (n := 1) (q := (79, [some (.int i0), some (.int i1), some (.int i2)], [.int (i1 - i2)])) (jq qX7_ofNumbers 8 rfl) rfl) ?_
            exact Eq.trans (jb_rt (i := .ireturn) (n := 1) (jq qX7_ofNumbers 9 rfl) (jo_iret rfl rfl)) H
          · rw [if_neg c5] at H
            by_cases c6 : i0 = 28
            · rw [if_pos c6] at H
              refine Eq.trans (jb_nx (i := .tableswitch 111 16 29 #[107, 111, 95, 101, 111, 111, 111, 111, 111, 111, 71, 75, 79, 83]) (n := 71) (q := (80, [some (.int i0), some (.int i1), some (.int i2)], [])) (jq qX7_ofNumbers 1 rfl) (by rw [c6]; rfl)) ?_
              refine Eq.trans (jb_nx (i := .iload_n 1) (n := 1) (q := (81, [some (.int i0), some (.int i1), some (.int i2)], [.int i1])) (jq qX7_ofNumbers 10 rfl) rfl) ?_
              refine Eq.trans (jb_nx (i := .iload_n 2) (n := 1) (q := (82, [some (.int i0), some (.int i1), some (.int i2)], [.int i2, .int i1])) (jq qX7_ofNumbers 11 rfl) rfl) ?_
              refine Eq.trans (jb_nx (i := .imul) (n := 1) (q := (83, [some (.int i0), some (.int i1), some (.int i2)], [.int (i1 * i2)])) (jq qX7_ofNumbers 12 rfl) rfl) ?_
              exact Eq.trans (jb_rt (i := .ireturn) (n := 1) (jq qX7_ofNumbers 13 rfl) (jo_iret rfl rfl)) H
            · rw [if_neg c6] at H
              by_cases c7 : i0 = 29
              · rw [if_pos c7] at H
                refine Eq.trans (jb_nx (i := .tableswitch 111 16 29 #[107, 111, 95, 101, 111, 111, 111, 111, 111, 111, 71, 75, 79, 83]) (n := 71) (q := (84, [some (.int i0), some (.int i1), some (.int i2)], [])) (jq qX7_ofNumbers 1 rfl) (by rw [c7]; rfl)) ?_
                refine Eq.trans (jb_nx (i := .iload_n 2) (n := 1) (q := (85, [some (.int i0), some (.int i1), some (.int i2)], [.int i2])) (jq qX7_ofNumbers 14 rfl) rfl) ?_
                by_cases c8 : i2 = 0
                · rw [if_pos c8] at H
                  refine Eq.trans (jb_nx (i := .ifCond .ne 7) (n := 3) (q := (88, [some (.int i0), some (.int i1), some (.int i2)], [])) (jq qX7_ofNumbers 15 rfl) (jo_ifF (jz_neF c8))) ?_
                  refine Eq.trans (jb_nx (i := .iconst 0) (n := 1) (q := (89, [some (.int i0), some (.int i1), some (.int i2)], [.int 0])) (jq qX7_ofNumbers 16 rfl) rfl) ?_
                  refine Eq.trans (jb_nx (i := .goto 6) (n := 3) (q := (95, [some (.int i0), some (.int i1), some (.int i2)], [.int 0])) (jq qX7_ofNumbers 17 rfl) rfl) ?_
                  exact Eq.trans (jb_rt (i := .ireturn) (n := 1) (jq qX7_ofNumbers 21 rfl) (jo_iret rfl rfl)) H
                · rw [if_neg c8] at H
                  refine Eq.trans (jb_nx (i := .ifCond .ne 7) (n := 3) (q := (92, [some (.int i0), some (.int i1), some (.int i2)], [])) (jq qX7_ofNumbers 15 rfl) (jo_ifT (jz_neT c8) rfl)) ?_
                  refine Eq.trans (jb_nx (i := .iload_n 1) (n := 1) (q := (93, [some (.int i0), some (.int i1), some (.int i2)], [.int i1])) (jq qX7_ofNumbers 18 rfl) rfl) ?_
                  refine Eq.trans (jb_nx (i := .iload_n 2) (n := 1) (q := (94, [some (.int i0), some (.int i1), some (.int i2)], [.int i2, .int i1])) (jq qX7_ofNumbers 19 rfl) rfl) ?_
                  by_cases c9 : i2 = 0
                  · rw [if_pos c9] at H; cases H
                  · rw [if_neg c9] at H
                    refine Eq.trans (jb_nx (i := .idiv) (n := 1) (q := (95, [some (.int i0), some (.int i1), some (.int i2)], [.int (i1 / i2)])) (jq qX7_ofNumbers 20 rfl) (jo_idiv c9)) ?_
                    exact Eq.trans (jb_rt (i := .ireturn) (n := 1) (jq qX7_ofNumbers 21 rfl) (jo_iret rfl rfl)) H
              · rw [if_neg c7] at H
                refine Eq.trans (jb_nx (i := .tableswitch 111 16 29 #[107, 111, 95, 101, 111, 111, 111, 111, 111, 111, 71, 75, 79, 83]) (n := 71) (q := (112, [some (.int i0), some (.int i1), some (.int i2)], [])) (jq qX7_ofNumbers 1 rfl) (jo_tabD (ks := [16, 18, 19, 26, 27, 28, 29]) (by decide +kernel) (by intro k hk; simp only [List.mem_cons, List.not_mem_nil, or_false] at hk; rcases hk with rfl | rfl | rfl | rfl | rfl | rfl | rfl; { exact jz_ti rfl c1 }; { exact jz_ti rfl c2 }; { exact jz_ti rfl c3 }; { exact jz_ti rfl c4 }; { exact jz_ti rfl c5 }; { exact jz_ti rfl c6 }; { exact jz_ti rfl c7 }) rfl)) ?_
                refine Eq.trans (jb_nx (i := .iload_n 1) (n := 1) (q := (113, [some (.int i0), some (.int i1), some (.int i2)], [.int i1])) (jq qX7_ofNumbers 34 rfl) rfl) ?_
                refine Eq.trans (jb_nx (i := .iload_n 2) (n := 1) (q := (114, [some (.int i0), some (.int i1), some (.int i2)], [.int i2, .int i1])) (jq qX7_ofNumbers 35 rfl) rfl) ?_
                refine Eq.trans (jb_nx (i := .ior) (n := 1) (q := (115, [some (.int i0), some (.int i1), some (.int i2)], [.int (i1 ||| i2)])) (jq qX7_ofNumbers 36 rfl) rfl) ?_
                exact Eq.trans (jb_rt (i := .ireturn) (n := 1) (jq qX7_ofNumbers 37 rfl) (jo_iret rfl rfl)) H
/-! MaskPlays$Tests ofOrder (III)I -/
def tX7_ofOrder : List (Nat × Instr × Nat) := [(0, .iload_n 0, 1), (1, .tableswitch 87 30 33 #[31, 45, 59, 73], 31), (32, .iload_n 1, 1), (33, .iload_n 2, 1), (34, .if_icmp .ge 7, 3), (37, .iconst 1, 1), (38, .goto 4, 3), (41, .iconst 0, 1), (42, .istore_n 3, 1), (43, .goto 56, 3), (46, .iload_n 1, 1), (47, .iload_n 2, 1), (48, .if_icmp .le 7, 3), (51, .iconst 1, 1), (52, .goto 4, 3), (55, .iconst 0, 1), (56, .istore_n 3, 1), (57, .goto 42, 3), (60, .iload_n 1, 1), (61, .iload_n 2, 1), (62, .if_icmp .ne 7, 3), (65, .iconst 1, 1), (66, .goto 4, 3), (69, .iconst 0, 1), (70, .istore_n 3, 1), (71, .goto 28, 3), (74, .iload_n 1, 1), (75, .iload_n 2, 1), (76, .if_icmp .gt 7, 3), (79, .iconst 1, 1), (80, .goto 4, 3), (83, .iconst 0, 1), (84, .istore_n 3, 1), (85, .goto 14, 3), (88, .iload_n 1, 1), (89, .iload_n 2, 1), (90, .if_icmp .lt 7, 3), (93, .iconst 1, 1), (94, .goto 4, 3), (97, .iconst 0, 1), (98, .istore_n 3, 1), (99, .iload_n 3, 1), (100, .ifCond .eq 7, 3), (103, .iconst 1, 1), (104, .goto 4, 3), (107, .iconst 0, 1), (108, .ireturn, 1)]
set_option maxRecDepth 100000 in
theorem qX7_ofOrder : ∀ q ∈ tX7_ofOrder, decode cX7_ofOrder q.1 = .ok (q.2.1, q.2.2) := by decide +kernel
noncomputable def kX7_ofOrder_99 (d : Nat) (o0 : Option Value) (o1 : Option Value) (o2 : Option Value) (i3 : Int32) (h : jm_H) : Option jm_R := jm_B d mX7_ofOrder (99, [o0, o1, o2, some (.int i3)], []) h
theorem gX7_ofOrder_99 {d : Nat} {o0 : Option Value} {o1 : Option Value} {o2 : Option Value} {i3 : Int32} {h : jm_H} {r : jm_R} (H : ((if i3 = 0 then some (.inl (some (.int 0)), h) else some (.inl (some (.int 1)), h))) = some r) : kX7_ofOrder_99 d o0 o1 o2 i3 h = some r := by
  show jm_B d mX7_ofOrder (99, [o0, o1, o2, some (.int i3)], []) h = some r
  refine Eq.trans (jb_nx (i := .iload_n 3) (n := 1) (q := (100, [o0, o1, o2, some (.int i3)], [.int i3])) (jq qX7_ofOrder 41 rfl) rfl) ?_
  by_cases c10 : i3 = 0
  · rw [if_pos c10] at H
    refine Eq.trans (jb_nx (i := .ifCond .eq 7) (n := 3) (q := (107, [o0, o1, o2, some (.int i3)], [])) (jq qX7_ofOrder 42 rfl) (jo_ifT (jz_eqT c10) rfl)) ?_
    refine Eq.trans (jb_nx (i := .iconst 0) (n := 1) (q := (108, [o0, o1, o2, some (.int i3)], [.int 0])) (jq qX7_ofOrder 45 rfl) rfl) ?_
    exact Eq.trans (jb_rt (i := .ireturn) (n := 1) (jq qX7_ofOrder 46 rfl) (jo_iret rfl rfl)) H
  · rw [if_neg c10] at H
    refine Eq.trans (jb_nx (i := .ifCond .eq 7) (n := 3) (q := (103, [o0, o1, o2, some (.int i3)], [])) (jq qX7_ofOrder 42 rfl) (jo_ifF (jz_eqF c10))) ?_
    refine Eq.trans (jb_nx (i := .iconst 1) (n := 1) (q := (104, [o0, o1, o2, some (.int i3)], [.int 1])) (jq qX7_ofOrder 43 rfl) rfl) ?_
    refine Eq.trans (jb_nx (i := .goto 4) (n := 3) (q := (108, [o0, o1, o2, some (.int i3)], [.int 1])) (jq qX7_ofOrder 44 rfl) rfl) ?_
    exact Eq.trans (jb_rt (i := .ireturn) (n := 1) (jq qX7_ofOrder 46 rfl) (jo_iret rfl rfl)) H
theorem gX7_ofOrder {d : Nat} {i0 : Int32} {i1 : Int32} {i2 : Int32} {h : jm_H} {r : jm_R} (H : ((if i0 = 30 then (if i1 < i2 then kX7_ofOrder_99 d (some (.int i0)) (some (.int i1)) (some (.int i2)) 1 h else kX7_ofOrder_99 d (some (.int i0)) (some (.int i1)) (some (.int i2)) 0 h) else (if i0 = 31 then (if i2 < i1 then kX7_ofOrder_99 d (some (.int i0)) (some (.int i1)) (some (.int i2)) 1 h else kX7_ofOrder_99 d (some (.int i0)) (some (.int i1)) (some (.int i2)) 0 h) else (if i0 = 32 then (if i1 = i2 then kX7_ofOrder_99 d (some (.int i0)) (some (.int i1)) (some (.int i2)) 1 h else kX7_ofOrder_99 d (some (.int i0)) (some (.int i1)) (some (.int i2)) 0 h) else (if i0 = 33 then (if i2 < i1 then kX7_ofOrder_99 d (some (.int i0)) (some (.int i1)) (some (.int i2)) 0 h else kX7_ofOrder_99 d (some (.int i0)) (some (.int i1)) (some (.int i2)) 1 h) else (if i1 < i2 then kX7_ofOrder_99 d (some (.int i0)) (some (.int i1)) (some (.int i2)) 0 h else kX7_ofOrder_99 d (some (.int i0)) (some (.int i1)) (some (.int i2)) 1 h)))))) = some r) : jm_D (d + 1) mX7_ofOrder [.int i0, .int i1, .int i2] h = some r := by
  rw [jm_D_body (Nat.le_of_ble_eq_true rfl)]
  show jm_B d mX7_ofOrder (0, [some (.int i0), some (.int i1), some (.int i2), none], []) h = some r
  refine Eq.trans (jb_nx (i := .iload_n 0) (n := 1) (q := (1, [some (.int i0), some (.int i1), some (.int i2), none], [.int i0])) (jq qX7_ofOrder 0 rfl) rfl) ?_
  by_cases c1 : i0 = 30
  · rw [if_pos c1] at H
    refine Eq.trans (jb_nx (i := .tableswitch 87 30 33 #[31, 45, 59, 73]) (n := 31) (q := (32, [some (.int i0), some (.int i1), some (.int i2), none], [])) (jq qX7_ofOrder 1 rfl) (by rw [c1]; rfl)) ?_
    refine Eq.trans (jb_nx (i := .iload_n 1) (n := 1) (q := (33, [some (.int i0), some (.int i1), some (.int i2), none], [.int i1])) (jq qX7_ofOrder 2 rfl) rfl) ?_
    refine Eq.trans (jb_nx (i := .iload_n 2) (n := 1) (q := (34, [some (.int i0), some (.int i1), some (.int i2), none], [.int i2, .int i1])) (jq qX7_ofOrder 3 rfl) rfl) ?_
    by_cases c2 : i1 < i2
    · rw [if_pos c2] at H
      refine Eq.trans (jb_nx (i := .if_icmp .ge 7) (n := 3) (q := (37, [some (.int i0), some (.int i1), some (.int i2), none], [])) (jq qX7_ofOrder 4 rfl) (jo_icF (jz_geF c2))) ?_
      refine Eq.trans (jb_nx (i := .iconst 1) (n := 1) (q := (38, [some (.int i0), some (.int i1), some (.int i2), none], [.int 1])) (jq qX7_ofOrder 5 rfl) rfl) ?_
      refine Eq.trans (jb_nx (i := .goto 4) (n := 3) (q := (42, [some (.int i0), some (.int i1), some (.int i2), none], [.int 1])) (jq qX7_ofOrder 6 rfl) rfl) ?_
      refine Eq.trans (jb_nx (i := .istore_n 3) (n := 1) (q := (43, [some (.int i0), some (.int i1), some (.int i2), some (.int 1)], [])) (jq qX7_ofOrder 8 rfl) rfl) ?_
      refine Eq.trans (jb_nx (i := .goto 56) (n := 3) (q := (99, [some (.int i0), some (.int i1), some (.int i2), some (.int 1)], [])) (jq qX7_ofOrder 9 rfl) rfl) ?_
      exact H
    · rw [if_neg c2] at H
      refine Eq.trans (jb_nx (i := .if_icmp .ge 7) (n := 3) (q := (41, [some (.int i0), some (.int i1), some (.int i2), none], [])) (jq qX7_ofOrder 4 rfl) (jo_icT (jz_geT c2) rfl)) ?_
      refine Eq.trans (jb_nx (i := .iconst 0) (n := 1) (q := (42, [some (.int i0), some (.int i1), some (.int i2), none], [.int 0])) (jq qX7_ofOrder 7 rfl) rfl) ?_
      refine Eq.trans (jb_nx (i := .istore_n 3) (n := 1) (q := (43, [some (.int i0), some (.int i1), some (.int i2), some (.int 0)], [])) (jq qX7_ofOrder 8 rfl) rfl) ?_
      refine Eq.trans (jb_nx (i := .goto 56) (n := 3) (q := (99, [some (.int i0), some (.int i1), some (.int i2), some (.int 0)], [])) (jq qX7_ofOrder 9 rfl) rfl) ?_
      exact H
  · rw [if_neg c1] at H
    by_cases c3 : i0 = 31
    · rw [if_pos c3] at H
      refine Eq.trans (jb_nx (i := .tableswitch 87 30 33 #[31, 45, 59, 73]) (n := 31) (q := (46, [some (.int i0), some (.int i1), some (.int i2), none], [])) (jq qX7_ofOrder 1 rfl) (by rw [c3]; rfl)) ?_
      refine Eq.trans (jb_nx (i := .iload_n 1) (n := 1) (q := (47, [some (.int i0), some (.int i1), some (.int i2), none], [.int i1])) (jq qX7_ofOrder 10 rfl) rfl) ?_
      refine Eq.trans (jb_nx (i := .iload_n 2) (n := 1) (q := (48, [some (.int i0), some (.int i1), some (.int i2), none], [.int i2, .int i1])) (jq qX7_ofOrder 11 rfl) rfl) ?_
      by_cases c4 : i2 < i1
      · rw [if_pos c4] at H
        refine Eq.trans (jb_nx (i := .if_icmp .le 7) (n := 3) (q := (51, [some (.int i0), some (.int i1), some (.int i2), none], [])) (jq qX7_ofOrder 12 rfl) (jo_icF (jz_leF c4))) ?_
        refine Eq.trans (jb_nx (i := .iconst 1) (n := 1) (q := (52, [some (.int i0), some (.int i1), some (.int i2), none], [.int 1])) (jq qX7_ofOrder 13 rfl) rfl) ?_
        refine Eq.trans (jb_nx (i := .goto 4) (n := 3) (q := (56, [some (.int i0), some (.int i1), some (.int i2), none], [.int 1])) (jq qX7_ofOrder 14 rfl) rfl) ?_
        refine Eq.trans (jb_nx (i := .istore_n 3) (n := 1) (q := (57, [some (.int i0), some (.int i1), some (.int i2), some (.int 1)], [])) (jq qX7_ofOrder 16 rfl) rfl) ?_
        refine Eq.trans (jb_nx (i := .goto 42) (n := 3) (q := (99, [some (.int i0), some (.int i1), some (.int i2), some (.int 1)], [])) (jq qX7_ofOrder 17 rfl) rfl) ?_
        exact H
      · rw [if_neg c4] at H
        refine Eq.trans (jb_nx (i := .if_icmp .le 7) (n := 3) (q := (55, [some (.int i0), some (.int i1), some (.int i2), none], [])) (jq qX7_ofOrder 12 rfl) (jo_icT (jz_leT c4) rfl)) ?_
        refine Eq.trans (jb_nx (i := .iconst 0) (n := 1) (q := (56, [some (.int i0), some (.int i1), some (.int i2), none], [.int 0])) (jq qX7_ofOrder 15 rfl) rfl) ?_
        refine Eq.trans (jb_nx (i := .istore_n 3) (n := 1) (q := (57, [some (.int i0), some (.int i1), some (.int i2), some (.int 0)], [])) (jq qX7_ofOrder 16 rfl) rfl) ?_
        refine Eq.trans (jb_nx (i := .goto 42) (n := 3) (q := (99, [some (.int i0), some (.int i1), some (.int i2), some (.int 0)], [])) (jq qX7_ofOrder 17 rfl) rfl) ?_
        exact H
    · rw [if_neg c3] at H
      by_cases c5 : i0 = 32
      · rw [if_pos c5] at H
        refine Eq.trans (jb_nx (i := .tableswitch 87 30 33 #[31, 45, 59, 73]) (n := 31) (q := (60, [some (.int i0), some (.int i1), some (.int i2), none], [])) (jq qX7_ofOrder 1 rfl) (by rw [c5]; rfl)) ?_
        refine Eq.trans (jb_nx (i := .iload_n 1) (n := 1) (q := (61, [some (.int i0), some (.int i1), some (.int i2), none], [.int i1])) (jq qX7_ofOrder 18 rfl) rfl) ?_
        refine Eq.trans (jb_nx (i := .iload_n 2) (n := 1) (q := (62, [some (.int i0), some (.int i1), some (.int i2), none], [.int i2, .int i1])) (jq qX7_ofOrder 19 rfl) rfl) ?_
        by_cases c6 : i1 = i2
        · rw [if_pos c6] at H
          refine Eq.trans (jb_nx (i := .if_icmp .ne 7) (n := 3) (q := (65, [some (.int i0), some (.int i1), some (.int i2), none], [])) (jq qX7_ofOrder 20 rfl) (jo_icF (jz_neF c6))) ?_
          refine Eq.trans (jb_nx (i := .iconst 1) (n := 1) (q := (66, [some (.int i0), some (.int i1), some (.int i2), none], [.int 1])) (jq qX7_ofOrder 21 rfl) rfl) ?_
          refine Eq.trans (jb_nx (i := .goto 4) (n := 3) (q := (70, [some (.int i0), some (.int i1), some (.int i2), none], [.int 1])) (jq qX7_ofOrder 22 rfl) rfl) ?_
          refine Eq.trans (jb_nx (i := .istore_n 3) (n := 1) (q := (71, [some (.int i0), some (.int i1), some (.int i2), some (.int 1)], [])) (jq qX7_ofOrder 24 rfl) rfl) ?_
          refine Eq.trans (jb_nx (i := .goto 28) (n := 3) (q := (99, [some (.int i0), some (.int i1), some (.int i2), some (.int 1)], [])) (jq qX7_ofOrder 25 rfl) rfl) ?_
          exact H
        · rw [if_neg c6] at H
          refine Eq.trans (jb_nx (i := .if_icmp .ne 7) (n := 3) (q := (69, [some (.int i0), some (.int i1), some (.int i2), none], [])) (jq qX7_ofOrder 20 rfl) (jo_icT (jz_neT c6) rfl)) ?_
          refine Eq.trans (jb_nx (i := .iconst 0) (n := 1) (q := (70, [some (.int i0), some (.int i1), some (.int i2), none], [.int 0])) (jq qX7_ofOrder 23 rfl) rfl) ?_
          refine Eq.trans (jb_nx (i := .istore_n 3) (n := 1) (q := (71, [some (.int i0), some (.int i1), some (.int i2), some (.int 0)], [])) (jq qX7_ofOrder 24 rfl) rfl) ?_
          refine Eq.trans (jb_nx (i := .goto 28) (n := 3) (q := (99, [some (.int i0), some (.int i1), some (.int i2), some (.int 0)], [])) (jq qX7_ofOrder 25 rfl) rfl) ?_
          exact H
      · rw [if_neg c5] at H
        by_cases c7 : i0 = 33
        · rw [if_pos c7] at H
          refine Eq.trans (jb_nx (i := .tableswitch 87 30 33 #[31, 45, 59, 73]) (n := 31) (q := (74, [some (.int i0), some (.int i1), some (.int i2), none], [])) (jq qX7_ofOrder 1 rfl) (by rw [c7]; rfl)) ?_
          refine Eq.trans (jb_nx (i := .iload_n 1) (n := 1) (q := (75, [some (.int i0), some (.int i1), some (.int i2), none], [.int i1])) (jq qX7_ofOrder 26 rfl) rfl) ?_
          refine Eq.trans (jb_nx (i := .iload_n 2) (n := 1) (q := (76, [some (.int i0), some (.int i1), some (.int i2), none], [.int i2, .int i1])) (jq qX7_ofOrder 27 rfl) rfl) ?_
          by_cases c8 : i2 < i1
          · rw [if_pos c8] at H
            refine Eq.trans (jb_nx (i := .if_icmp .gt 7) (n := 3) (q := (83, [some (.int i0), some (.int i1), some (.int i2), none], [])) (jq qX7_ofOrder 28 rfl) (jo_icT (jz_gtT c8) rfl)) ?_
            refine Eq.trans (jb_nx (i := .iconst 0) (n := 1) (q := (84, [some (.int i0), some (.int i1), some (.int i2), none], [.int 0])) (jq qX7_ofOrder 31 rfl) rfl) ?_
            refine Eq.trans (jb_nx (i := .istore_n 3) (n := 1) (q := (85, [some (.int i0), some (.int i1), some (.int i2), some (.int 0)], [])) (jq qX7_ofOrder 32 rfl) rfl) ?_
            refine Eq.trans (jb_nx (i := .goto 14) (n := 3) (q := (99, [some (.int i0), some (.int i1), some (.int i2), some (.int 0)], [])) (jq qX7_ofOrder 33 rfl) rfl) ?_
            exact H
          · rw [if_neg c8] at H
            refine Eq.trans (jb_nx (i := .if_icmp .gt 7) (n := 3) (q := (79, [some (.int i0), some (.int i1), some (.int i2), none], [])) (jq qX7_ofOrder 28 rfl) (jo_icF (jz_gtF c8))) ?_
            refine Eq.trans (jb_nx (i := .iconst 1) (n := 1) (q := (80, [some (.int i0), some (.int i1), some (.int i2), none], [.int 1])) (jq qX7_ofOrder 29 rfl) rfl) ?_
            refine Eq.trans (jb_nx (i := .goto 4) (n := 3) (q := (84, [some (.int i0), some (.int i1), some (.int i2), none], [.int 1])) (jq qX7_ofOrder 30 rfl) rfl) ?_
            refine Eq.trans (jb_nx (i := .istore_n 3) (n := 1) (q := (85, [some (.int i0), some (.int i1), some (.int i2), some (.int 1)], [])) (jq qX7_ofOrder 32 rfl) rfl) ?_
            refine Eq.trans (jb_nx (i := .goto 14) (n := 3) (q := (99, [some (.int i0), some (.int i1), some (.int i2), some (.int 1)], [])) (jq qX7_ofOrder 33 rfl) rfl) ?_
            exact H
        · rw [if_neg c7] at H
          refine Eq.trans (jb_nx (i := .tableswitch 87 30 33 #[31, 45, 59, 73]) (n := 31) (q := (88, [some (.int i0), some (.int i1), some (.int i2), none], [])) (jq qX7_ofOrder 1 rfl) (jo_tabD (ks := [30, 31, 32, 33]) (by decide +kernel) (by intro k hk; simp only [List.mem_cons, List.not_mem_nil, or_false] at hk; rcases hk with rfl | rfl | rfl | rfl; { exact jz_ti rfl c1 }; { exact jz_ti rfl c3 }; { exact jz_ti rfl c5 }; { exact jz_ti rfl c7 }) rfl)) ?_
          refine Eq.trans (jb_nx (i := .iload_n 1) (n := 1) (q := (89, [some (.int i0), some (.int i1), some (.int i2), none], [.int i1])) (jq qX7_ofOrder 34 rfl) rfl) ?_
          refine Eq.trans (jb_nx (i := .iload_n 2) (n := 1) (q := (90, [some (.int i0), some (.int i1), some (.int i2), none], [.int i2, .int i1])) (jq qX7_ofOrder 35 rfl) rfl) ?_
          by_cases c9 : i1 < i2
          · rw [if_pos c9] at H
            refine Eq.trans (jb_nx (i := .if_icmp .lt 7) (n := 3) (q := (97, [some (.int i0), some (.int i1), some (.int i2), none], [])) (jq qX7_ofOrder 36 rfl) (jo_icT (jz_ltT c9) rfl)) ?_
            refine Eq.trans (jb_nx (i := .iconst 0) (n := 1) (q := (98, [some (.int i0), some (.int i1), some (.int i2), none], [.int 0])) (jq qX7_ofOrder 39 rfl) rfl) ?_
            refine Eq.trans (jb_nx (i := .istore_n 3) (n := 1) (q := (99, [some (.int i0), some (.int i1), some (.int i2), some (.int 0)], [])) (jq qX7_ofOrder 40 rfl) rfl) ?_
            exact H
          · rw [if_neg c9] at H
            refine Eq.trans (jb_nx (i := .if_icmp .lt 7) (n := 3) (q := (93, [some (.int i0), some (.int i1), some (.int i2), none], [])) (jq qX7_ofOrder 36 rfl) (jo_icF (jz_ltF c9))) ?_
            refine Eq.trans (jb_nx (i := .iconst 1) (n := 1) (q := (94, [some (.int i0), some (.int i1), some (.int i2), none], [.int 1])) (jq qX7_ofOrder 37 rfl) rfl) ?_
            refine Eq.trans (jb_nx (i := .goto 4) (n := 3) (q := (98, [some (.int i0), some (.int i1), some (.int i2), none], [.int 1])) (jq qX7_ofOrder 38 rfl) rfl) ?_
            refine Eq.trans (jb_nx (i := .istore_n 3) (n := 1) (q := (99, [some (.int i0), some (.int i1), some (.int i2), some (.int 1)], [])) (jq qX7_ofOrder 40 rfl) rfl) ?_
            exact H
