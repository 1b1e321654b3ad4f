/-! ===== LEVEL 2: L ===== -/
theorem jo_exha {m : jm_M} {pc : Nat} {l : List (Option Value)} {rest : List Value} {h' : jm_H} {x t k : Nat} (h0 : ¬ m.2.2.2.2.1 = []) (h1 : jm_hd m.2.2.2.2.2.1 m.2.2.2.2.1 pc x = some t) (hd : decode m.2.1 t = .ok (.astore k, 2)) (hk : k < l.length) : jm_ret m pc l rest (some (.inr x, h')) = some (.inl ((t + 2, jm_un l k, []), h')) := by
  show jm_ex m pc l x h' = _
  unfold jm_ex
  rw [if_neg h0, h1]
  simp only [hd]
  rw [if_pos hk]
  rfl
theorem jo_tabK {c : jm_M → List Value → jm_H → Option jm_R} {m : jm_M} {pc : Nat} {l : List (Option Value)} {rest : List Value} {h : jm_H} {d0 lo hi off : Int} {offs : Array Int} {x : Int32} {S : jm_S} {k j : Nat} (hx : x.toInt = lo + j) (hj : lo + j ≤ hi) (ho : offs[j]? = some off) (hp : jm_jp pc off l rest h = some S) : jm_op c m (.tableswitch d0 lo hi offs) k pc l (.int x :: rest) h = some S := by
  simp only [jm_op]
  rw [if_neg (by omega), show (x.toInt - lo).toNat = j by omega, ho]
  exact hp
theorem jo_tabO {c : jm_M → List Value → jm_H → Option jm_R} {m : jm_M} {pc : Nat} {l : List (Option Value)} {rest : List Value} {h : jm_H} {d0 lo hi : Int} {offs : Array Int} {x : Int32} {S : jm_S} {k : Nat} (hx : x.toInt < lo ∨ hi < x.toInt) (hp : jm_jp pc d0 l rest h = some S) : jm_op c m (.tableswitch d0 lo hi offs) k pc l (.int x :: rest) h = some S := by
  simp only [jm_op]
  rw [if_pos hx]
  exact hp
/-! MaskPlaysLaw feed (LMaskPlays;IIIII[J)I -/
def tL_feed : List (Nat × Instr × Nat) := [(0, .aload 6, 2), (2, .iconst 0, 1), (3, .aload_n 0, 1), (4, .iload_n 1, 1), (5, .iload_n 2, 1), (6, .iload_n 3, 1), (7, .iload 4, 2), (9, .iload 5, 2), (11, .invokevirtual 7, 3), (14, .i2l, 1), (15, .lastore, 1), (16, .goto 7, 3), (19, .astore 7, 2), (21, .iconst 1, 1), (22, .ireturn, 1), (23, .iconst 0, 1), (24, .ireturn, 1)]
set_option maxRecDepth 100000 in
theorem qL_feed : ∀ q ∈ tL_feed, decode cL_feed q.1 = .ok (q.2.1, q.2.2) := by decide +kernel
theorem gL_feed {d : Nat} {p0 : Nat} {i1 : Int32} {i2 : Int32} {i3 : Int32} {i4 : Int32} {i5 : Int32} {p6 : Nat} {h : jm_H} {r : jm_R} (H : (jm_O h p0 11 (jc_I (jm_D d mX11_feed [.ref p0, .int i1, .int i2, .int i3, .int i4, .int i5] h) (fun x3 h1 => (jm_asl h1 p6 0 x3.toInt64).bind fun h4 => some (.inl (some (.int 0)), h4)) (fun w7 h8 => (if w7 = 0 then some (.inl (some (.int 1)), h8) else none)))) = some r) : jm_D (d + 1) mL_feed [.ref p0, .int i1, .int i2, .int i3, .int i4, .int i5, .ref p6] h = some r := by
  rw [jm_D_body (Nat.le_of_ble_eq_true rfl)]
  show jm_B d mL_feed (0, [some (.ref p0), some (.int i1), some (.int i2), some (.int i3), some (.int i4), some (.int i5), some (.ref p6), none], []) h = some r
  refine Eq.trans (jb_nx (i := .aload 6) (n := 2) (q := (2, [some (.ref p0), some (.int i1), some (.int i2), some (.int i3), some (.int i4), some (.int i5), some (.ref p6), none], [.ref p6])) (jq qL_feed 0 rfl) rfl) ?_
  refine Eq.trans (jb_nx (i := .iconst 0) (n := 1) (q := (3, [some (.ref p0), some (.int i1), some (.int i2), some (.int i3), some (.int i4), some (.int i5), some (.ref p6), none], [.int 0, .ref p6])) (jq qL_feed 1 rfl) rfl) ?_
  refine Eq.trans (jb_nx (i := .aload_n 0) (n := 1) (q := (4, [some (.ref p0), some (.int i1), some (.int i2), some (.int i3), some (.int i4), some (.int i5), some (.ref p6), none], [.ref p0, .int 0, .ref p6])) (jq qL_feed 2 rfl) rfl) ?_
  refine Eq.trans (jb_nx (i := .iload_n 1) (n := 1) (q := (5, [some (.ref p0), some (.int i1), some (.int i2), some (.int i3), some (.int i4), some (.int i5), some (.ref p6), none], [.int i1, .ref p0, .int 0, .ref p6])) (jq qL_feed 3 rfl) rfl) ?_
  refine Eq.trans (jb_nx (i := .iload_n 2) (n := 1) (q := (6, [some (.ref p0), some (.int i1), some (.int i2), some (.int i3), some (.int i4), some (.int i5), some (.ref p6), none], [.int i2, .int i1, .ref p0, .int 0, .ref p6])) (jq qL_feed 4 rfl) rfl) ?_
  refine Eq.trans (jb_nx (i := .iload_n 3) (n := 1) (q := (7, [some (.ref p0), some (.int i1), some (.int i2), some (.int i3), some (.int i4), some (.int i5), some (.ref p6), none], [.int i3, .int i2, .int i1, .ref p0, .int 0, .ref p6])) (jq qL_feed 5 rfl) rfl) ?_
  refine Eq.trans (jb_nx (i := .iload 4) (n := 2) (q := (9, [some (.ref p0), some (.int i1), some (.int i2), some (.int i3), some (.int i4), some (.int i5), some (.ref p6), none], [.int i4, .int i3, .int i2, .int i1, .ref p0, .int 0, .ref p6])) (jq qL_feed 6 rfl) rfl) ?_
  refine Eq.trans (jb_nx (i := .iload 5) (n := 2) (q := (11, [some (.ref p0), some (.int i1), some (.int i2), some (.int i3), some (.int i4), some (.int i5), some (.ref p6), none], [.int i5, .int i4, .int i3, .int i2, .int i1, .ref p0, .int 0, .ref p6])) (jq qL_feed 7 rfl) rfl) ?_
  obtain ⟨b6, H⟩ := jm_O_inv H
  rcases jcI H with ⟨x3, h1, r2, H⟩ | ⟨w7, h8, r2, H⟩
  · refine Eq.trans (jb_nx (i := .invokevirtual 7) (n := 3) (q := (14, [some (.ref p0), some (.int i1), some (.int i2), some (.int i3), some (.int i4), some (.int i5), some (.ref p6), none], [.int x3, .int 0, .ref p6])) (jq qL_feed 8 rfl) (jo_cv (y := mX11_feed) rfl (Nat.le_of_ble_eq_true rfl) rfl (Nat.le_of_ble_eq_true rfl) b6 rfl r2 jo_ret)) ?_
    refine Eq.trans (jb_nx (i := .i2l) (n := 1) (q := (15, [some (.ref p0), some (.int i1), some (.int i2), some (.int i3), some (.int i4), some (.int i5), some (.ref p6), none], [.long x3.toInt64, .int 0, .ref p6])) (jq qL_feed 9 rfl) rfl) ?_
    obtain ⟨h4, e5, H⟩ := jbd H
    refine Eq.trans (jb_nx (i := .lastore) (n := 1) (q := (16, [some (.ref p0), some (.int i1), some (.int i2), some (.int i3), some (.int i4), some (.int i5), some (.ref p6), none], [])) (jq qL_feed 10 rfl) (jo_las e5)) ?_
    refine Eq.trans (jb_nx (i := .goto 7) (n := 3) (q := (23, [some (.ref p0), some (.int i1), some (.int i2), some (.int i3), some (.int i4), some (.int i5), some (.ref p6), none], [])) (jq qL_feed 11 rfl) rfl) ?_
    refine Eq.trans (jb_nx (i := .iconst 0) (n := 1) (q := (24, [some (.ref p0), some (.int i1), some (.int i2), some (.int i3), some (.int i4), some (.int i5), some (.ref p6), none], [.int 0])) (jq qL_feed 15 rfl) rfl) ?_
    exact Eq.trans (jb_rt (i := .ireturn) (n := 1) (jq qL_feed 16 rfl) (jo_iret rfl rfl)) H
  · by_cases c9 : w7 = 0
    · rw [if_pos c9] at H
      subst c9
      refine Eq.trans (jb_nx (i := .invokevirtual 7) (n := 3) (q := (21, [some (.ref p0), some (.int i1), some (.int i2), some (.int i3), some (.int i4), some (.int i5), some (.ref p6), none], [])) (jq qL_feed 8 rfl) (jo_cv (y := mX11_feed) rfl (Nat.le_of_ble_eq_true rfl) rfl (Nat.le_of_ble_eq_true rfl) b6 rfl r2 (jo_exha (t := 19) (k := 7) (List.cons_ne_nil _ _) rfl (jq qL_feed 12 rfl) (Nat.le_of_ble_eq_true rfl)))) ?_
      refine Eq.trans (jb_nx (i := .iconst 1) (n := 1) (q := (22, [some (.ref p0), some (.int i1), some (.int i2), some (.int i3), some (.int i4), some (.int i5), some (.ref p6), none], [.int 1])) (jq qL_feed 13 rfl) rfl) ?_
      exact Eq.trans (jb_rt (i := .ireturn) (n := 1) (jq qL_feed 14 rfl) (jo_iret rfl rfl)) H
    · rw [if_neg c9] at H
      cases H
/-! MaskPlaysLaw trim (LMaskPlays;I[J)I -/
def tL_trim : List (Nat × Instr × Nat) := [(0, .aload_n 2, 1), (1, .iconst 0, 1), (2, .aload_n 0, 1), (3, .iload_n 1, 1), (4, .invokevirtual 15, 3), (7, .i2l, 1), (8, .lastore, 1), (9, .goto 6, 3), (12, .astore_n 3, 1), (13, .iconst 1, 1), (14, .ireturn, 1), (15, .iconst 0, 1), (16, .ireturn, 1)]
set_option maxRecDepth 100000 in
theorem qL_trim : ∀ q ∈ tL_trim, decode cL_trim q.1 = .ok (q.2.1, q.2.2) := by decide +kernel
theorem gL_trim {d : Nat} {p0 : Nat} {i1 : Int32} {p2 : Nat} {h : jm_H} {r : jm_R} (H : (jm_O h p0 11 (jc_I (jm_D d mX11_trim [.ref p0, .int i1] h) (fun x3 h1 => (jm_asl h1 p2 0 x3.toInt64).bind fun h4 => some (.inl (some (.int 0)), h4)) (fun w7 h8 => (if w7 = 1 then some (.inl (some (.int 1)), h8) else none)))) = some r) : jm_D (d + 1) mL_trim [.ref p0, .int i1, .ref p2] h = some r := by
  rw [jm_D_body (Nat.le_of_ble_eq_true rfl)]
  show jm_B d mL_trim (0, [some (.ref p0), some (.int i1), some (.ref p2), none], []) h = some r
  refine Eq.trans (jb_nx (i := .aload_n 2) (n := 1) (q := (1, [some (.ref p0), some (.int i1), some (.ref p2), none], [.ref p2])) (jq qL_trim 0 rfl) rfl) ?_
  refine Eq.trans (jb_nx (i := .iconst 0) (n := 1) (q := (2, [some (.ref p0), some (.int i1), some (.ref p2), none], [.int 0, .ref p2])) (jq qL_trim 1 rfl) rfl) ?_
  refine Eq.trans (jb_nx (i := .aload_n 0) (n := 1) (q := (3, [some (.ref p0), some (.int i1), some (.ref p2), none], [.ref p0, .int 0, .ref p2])) (jq qL_trim 2 rfl) rfl) ?_
  refine Eq.trans (jb_nx (i := .iload_n 1) (n := 1) (q := (4, [some (.ref p0), some (.int i1), some (.ref p2), none], [.int i1, .ref p0, .int 0, .ref p2])) (jq qL_trim 3 rfl) rfl) ?_
  obtain ⟨b6, H⟩ := jm_O_inv H
  rcases jcI H with ⟨x3, h1, r2, H⟩ | ⟨w7, h8, r2, H⟩
  · refine Eq.trans (jb_nx (i := .invokevirtual 15) (n := 3) (q := (7, [some (.ref p0), some (.int i1), some (.ref p2), none], [.int x3, .int 0, .ref p2])) (jq qL_trim 4 rfl) (jo_cv (y := mX11_trim) rfl (Nat.le_of_ble_eq_true rfl) rfl (Nat.le_of_ble_eq_true rfl) b6 rfl r2 jo_ret)) ?_
    refine Eq.trans (jb_nx (i := .i2l) (n := 1) (q := (8, [some (.ref p0), some (.int i1), some (.ref p2), none], [.long x3.toInt64, .int 0, .ref p2])) (jq qL_trim 5 rfl) rfl) ?_
    obtain ⟨h4, e5, H⟩ := jbd H
    refine Eq.trans (jb_nx (i := .lastore) (n := 1) (q := (9, [some (.ref p0), some (.int i1), some (.ref p2), none], [])) (jq qL_trim 6 rfl) (jo_las e5)) ?_
    refine Eq.trans (jb_nx (i := .goto 6) (n := 3) (q := (15, [some (.ref p0), some (.int i1), some (.ref p2), none], [])) (jq qL_trim 7 rfl) rfl) ?_
    refine Eq.trans (jb_nx (i := .iconst 0) (n := 1) (q := (16, [some (.ref p0), some (.int i1), some (.ref p2), none], [.int 0])) (jq qL_trim 11 rfl) rfl) ?_
    exact Eq.trans (jb_rt (i := .ireturn) (n := 1) (jq qL_trim 12 rfl) (jo_iret rfl rfl)) H
  · by_cases c9 : w7 = 1
    · rw [if_pos c9] at H
      subst c9
      refine Eq.trans (jb_nx (i := .invokevirtual 15) (n := 3) (q := (13, [some (.ref p0), some (.int i1), some (.ref p2), none], [])) (jq qL_trim 4 rfl) (jo_cv (y := mX11_trim) rfl (Nat.le_of_ble_eq_true rfl) rfl (Nat.le_of_ble_eq_true rfl) b6 rfl r2 (jo_exh (t := 12) (k := 3) (List.cons_ne_nil _ _) rfl (jq qL_trim 8 rfl) (Nat.le_of_ble_eq_true rfl)))) ?_
      refine Eq.trans (jb_nx (i := .iconst 1) (n := 1) (q := (14, [some (.ref p0), some (.int i1), some (.ref p2), none], [.int 1])) (jq qL_trim 9 rfl) rfl) ?_
      exact Eq.trans (jb_rt (i := .ireturn) (n := 1) (jq qL_trim 10 rfl) (jo_iret rfl rfl)) H
    · rw [if_neg c9] at H
      cases H
/-! MaskPlaysLaw sizeOf (LMaskPlays;I[J)I -/
def tL_sizeOf : List (Nat × Instr × Nat) := [(0, .aload_n 2, 1), (1, .iconst 0, 1), (2, .aload_n 0, 1), (3, .iload_n 1, 1), (4, .invokevirtual 21, 3), (7, .i2l, 1), (8, .lastore, 1), (9, .goto 6, 3), (12, .astore_n 3, 1), (13, .iconst 1, 1), (14, .ireturn, 1), (15, .iconst 0, 1), (16, .ireturn, 1)]
set_option maxRecDepth 100000 in
theorem qL_sizeOf : ∀ q ∈ tL_sizeOf, decode cL_sizeOf q.1 = .ok (q.2.1, q.2.2) := by decide +kernel
theorem gL_sizeOf {d : Nat} {p0 : Nat} {i1 : Int32} {p2 : Nat} {h : jm_H} {r : jm_R} (H : (jm_O h p0 11 (jc_I (jm_D d mX11_sizeOf [.ref p0, .int i1] h) (fun x3 h1 => (jm_asl h1 p2 0 x3.toInt64).bind fun h4 => some (.inl (some (.int 0)), h4)) (fun w7 h8 => (if w7 = 2 then some (.inl (some (.int 1)), h8) else none)))) = some r) : jm_D (d + 1) mL_sizeOf [.ref p0, .int i1, .ref p2] h = some r := by
  rw [jm_D_body (Nat.le_of_ble_eq_true rfl)]
  show jm_B d mL_sizeOf (0, [some (.ref p0), some (.int i1), some (.ref p2), none], []) h = some r
  refine Eq.trans (jb_nx (i := .aload_n 2) (n := 1) (q := (1, [some (.ref p0), some (.int i1), some (.ref p2), none], [.ref p2])) (jq qL_sizeOf 0 rfl) rfl) ?_
  refine Eq.trans (jb_nx (i := .iconst 0) (n := 1) (q := (2, [some (.ref p0), some (.int i1), some (.ref p2), none], [.int 0, .ref p2])) (jq qL_sizeOf 1 rfl) rfl) ?_
  refine Eq.trans (jb_nx (i := .aload_n 0) (n := 1) (q := (3, [some (.ref p0), some (.int i1), some (.ref p2), none], [.ref p0, .int 0, .ref p2])) (jq qL_sizeOf 2 rfl) rfl) ?_
  refine Eq.trans (jb_nx (i := .iload_n 1) (n := 1) (q := (4, [some (.ref p0), some (.int i1), some (.ref p2), none], [.int i1, .ref p0, .int 0, .ref p2])) (jq qL_sizeOf 3 rfl) rfl) ?_
  obtain ⟨b6, H⟩ := jm_O_inv H
  rcases jcI H with ⟨x3, h1, r2, H⟩ | ⟨w7, h8, r2, H⟩
  · refine Eq.trans (jb_nx (i := .invokevirtual 21) (n := 3) (q := (7, [some (.ref p0), some (.int i1), some (.ref p2), none], [.int x3, .int 0, .ref p2])) (jq qL_sizeOf 4 rfl) (jo_cv (y := mX11_sizeOf) rfl (Nat.le_of_ble_eq_true rfl) rfl (Nat.le_of_ble_eq_true rfl) b6 rfl r2 jo_ret)) ?_
    refine Eq.trans (jb_nx (i := .i2l) (n := 1) (q := (8, [some (.ref p0), some (.int i1), some (.ref p2), none], [.long x3.toInt64, .int 0, .ref p2])) (jq qL_sizeOf 5 rfl) rfl) ?_
    obtain ⟨h4, e5, H⟩ := jbd H
    refine Eq.trans (jb_nx (i := .lastore) (n := 1) (q := (9, [some (.ref p0), some (.int i1), some (.ref p2), none], [])) (jq qL_sizeOf 6 rfl) (jo_las e5)) ?_
    refine Eq.trans (jb_nx (i := .goto 6) (n := 3) (q := (15, [some (.ref p0), some (.int i1), some (.ref p2), none], [])) (jq qL_sizeOf 7 rfl) rfl) ?_
    refine Eq.trans (jb_nx (i := .iconst 0) (n := 1) (q := (16, [some (.ref p0), some (.int i1), some (.ref p2), none], [.int 0])) (jq qL_sizeOf 11 rfl) rfl) ?_
    exact Eq.trans (jb_rt (i := .ireturn) (n := 1) (jq qL_sizeOf 12 rfl) (jo_iret rfl rfl)) H
  · by_cases c9 : w7 = 2
    · rw [if_pos c9] at H
      subst c9
      refine Eq.trans (jb_nx (i := .invokevirtual 21) (n := 3) (q := (13, [some (.ref p0), some (.int i1), some (.ref p2), none], [])) (jq qL_sizeOf 4 rfl) (jo_cv (y := mX11_sizeOf) rfl (Nat.le_of_ble_eq_true rfl) rfl (Nat.le_of_ble_eq_true rfl) b6 rfl r2 (jo_exh (t := 12) (k := 3) (List.cons_ne_nil _ _) rfl (jq qL_sizeOf 8 rfl) (Nat.le_of_ble_eq_true rfl)))) ?_
      refine Eq.trans (jb_nx (i := .iconst 1) (n := 1) (q := (14, [some (.ref p0), some (.int i1), some (.ref p2), none], [.int 1])) (jq qL_sizeOf 9 rfl) rfl) ?_
      exact Eq.trans (jb_rt (i := .ireturn) (n := 1) (jq qL_sizeOf 10 rfl) (jo_iret rfl rfl)) H
    · rw [if_neg c9] at H
      cases H
/-! MaskPlaysLaw masksIn (LMaskPlays;I[J)I -/
def tL_masksIn : List (Nat × Instr × Nat) := [(0, .aload_n 2, 1), (1, .iconst 0, 1), (2, .aload_n 0, 1), (3, .iload_n 1, 1), (4, .invokevirtual 26, 3), (7, .i2l, 1), (8, .lastore, 1), (9, .goto 6, 3), (12, .astore_n 3, 1), (13, .iconst 1, 1), (14, .ireturn, 1), (15, .iconst 0, 1), (16, .ireturn, 1)]
set_option maxRecDepth 100000 in
theorem qL_masksIn : ∀ q ∈ tL_masksIn, decode cL_masksIn q.1 = .ok (q.2.1, q.2.2) := by decide +kernel
theorem gL_masksIn {d : Nat} {p0 : Nat} {i1 : Int32} {p2 : Nat} {h : jm_H} {r : jm_R} (H : (jm_O h p0 11 (jc_I (jm_D d mX11_masksIn [.ref p0, .int i1] h) (fun x3 h1 => (jm_asl h1 p2 0 x3.toInt64).bind fun h4 => some (.inl (some (.int 0)), h4)) (fun w7 h8 => (if w7 = 2 then some (.inl (some (.int 1)), h8) else none)))) = some r) : jm_D (d + 1) mL_masksIn [.ref p0, .int i1, .ref p2] h = some r := by
  rw [jm_D_body (Nat.le_of_ble_eq_true rfl)]
  show jm_B d mL_masksIn (0, [some (.ref p0), some (.int i1), some (.ref p2), none], []) h = some r
  refine Eq.trans (jb_nx (i := .aload_n 2) (n := 1) (q := (1, [some (.ref p0), some (.int i1), some (.ref p2), none], [.ref p2])) (jq qL_masksIn 0 rfl) rfl) ?_
  refine Eq.trans (jb_nx (i := .iconst 0) (n := 1) (q := (2, [some (.ref p0), some (.int i1), some (.ref p2), none], [.int 0, .ref p2])) (jq qL_masksIn 1 rfl) rfl) ?_
  refine Eq.trans (jb_nx (i := .aload_n 0) (n := 1) (q := (3, [some (.ref p0), some (.int i1), some (.ref p2), none], [.ref p0, .int 0, .ref p2])) (jq qL_masksIn 2 rfl) rfl) ?_
  refine Eq.trans (jb_nx (i := .iload_n 1) (n := 1) (q := (4, [some (.ref p0), some (.int i1), some (.ref p2), none], [.int i1, .ref p0, .int 0, .ref p2])) (jq qL_masksIn 3 rfl) rfl) ?_
  obtain ⟨b6, H⟩ := jm_O_inv H
  rcases jcI H with ⟨x3, h1, r2, H⟩ | ⟨w7, h8, r2, H⟩
  · refine Eq.trans (jb_nx (i := .invokevirtual 26) (n := 3) (q := (7, [some (.ref p0), some (.int i1), some (.ref p2), none], [.int x3, .int 0, .ref p2])) (jq qL_masksIn 4 rfl) (jo_cv (y := mX11_masksIn) rfl (Nat.le_of_ble_eq_true rfl) rfl (Nat.le_of_ble_eq_true rfl) b6 rfl r2 jo_ret)) ?_
    refine Eq.trans (jb_nx (i := .i2l) (n := 1) (q := (8, [some (.ref p0), some (.int i1), some (.ref p2), none], [.long x3.toInt64, .int 0, .ref p2])) (jq qL_masksIn 5 rfl) rfl) ?_
    obtain ⟨h4, e5, H⟩ := jbd H
    refine Eq.trans (jb_nx (i := .lastore) (n := 1) (q := (9, [some (.ref p0), some (.int i1), some (.ref p2), none], [])) (jq qL_masksIn 6 rfl) (jo_las e5)) ?_
    refine Eq.trans (jb_nx (i := .goto 6) (n := 3) (q := (15, [some (.ref p0), some (.int i1), some (.ref p2), none], [])) (jq qL_masksIn 7 rfl) rfl) ?_
    refine Eq.trans (jb_nx (i := .iconst 0) (n := 1) (q := (16, [some (.ref p0), some (.int i1), some (.ref p2), none], [.int 0])) (jq qL_masksIn 11 rfl) rfl) ?_
    exact Eq.trans (jb_rt (i := .ireturn) (n := 1) (jq qL_masksIn 12 rfl) (jo_iret rfl rfl)) H
  · by_cases c9 : w7 = 2
    · rw [if_pos c9] at H
      subst c9
      refine Eq.trans (jb_nx (i := .invokevirtual 26) (n := 3) (q := (13, [some (.ref p0), some (.int i1), some (.ref p2), none], [])) (jq qL_masksIn 4 rfl) (jo_cv (y := mX11_masksIn) rfl (Nat.le_of_ble_eq_true rfl) rfl (Nat.le_of_ble_eq_true rfl) b6 rfl r2 (jo_exh (t := 12) (k := 3) (List.cons_ne_nil _ _) rfl (jq qL_masksIn 8 rfl) (Nat.le_of_ble_eq_true rfl)))) ?_
      refine Eq.trans (jb_nx (i := .iconst 1) (n := 1) (q := (14, [some (.ref p0), some (.int i1), some (.ref p2), none], [.int 1])) (jq qL_masksIn 9 rfl) rfl) ?_
      exact Eq.trans (jb_rt (i := .ireturn) (n := 1) (jq qL_masksIn 10 rfl) (jo_iret rfl rfl)) H
    · rw [if_neg c9] at H
      cases H
/-! MaskPlaysLaw scenesIn (LMaskPlays;I[J)I -/
def tL_scenesIn : List (Nat × Instr × Nat) := [(0, .aload_n 2, 1), (1, .iconst 0, 1), (2, .aload_n 0, 1), (3, .iload_n 1, 1), (4, .invokevirtual 29, 3), (7, .i2l, 1), (8, .lastore, 1), (9, .goto 6, 3), (12, .astore_n 3, 1), (13, .iconst 1, 1), (14, .ireturn, 1), (15, .iconst 0, 1), (16, .ireturn, 1)]
set_option maxRecDepth 100000 in
theorem qL_scenesIn : ∀ q ∈ tL_scenesIn, decode cL_scenesIn q.1 = .ok (q.2.1, q.2.2) := by decide +kernel
theorem gL_scenesIn {d : Nat} {p0 : Nat} {i1 : Int32} {p2 : Nat} {h : jm_H} {r : jm_R} (H : (jm_O h p0 11 (jc_I (jm_D d mX11_scenesIn [.ref p0, .int i1] h) (fun x3 h1 => (jm_asl h1 p2 0 x3.toInt64).bind fun h4 => some (.inl (some (.int 0)), h4)) (fun w7 h8 => (if w7 = 2 then some (.inl (some (.int 1)), h8) else none)))) = some r) : jm_D (d + 1) mL_scenesIn [.ref p0, .int i1, .ref p2] h = some r := by
  rw [jm_D_body (Nat.le_of_ble_eq_true rfl)]
  show jm_B d mL_scenesIn (0, [some (.ref p0), some (.int i1), some (.ref p2), none], []) h = some r
  refine Eq.trans (jb_nx (i := .aload_n 2) (n := 1) (q := (1, [some (.ref p0), some (.int i1), some (.ref p2), none], [.ref p2])) (jq qL_scenesIn 0 rfl) rfl) ?_
  refine Eq.trans (jb_nx (i := .iconst 0) (n := 1) (q := (2, [some (.ref p0), some (.int i1), some (.ref p2), none], [.int 0, .ref p2])) (jq qL_scenesIn 1 rfl) rfl) ?_
  refine Eq.trans (jb_nx (i := .aload_n 0) (n := 1) (q := (3, [some (.ref p0), some (.int i1), some (.ref p2), none], [.ref p0, .int 0, .ref p2])) (jq qL_scenesIn 2 rfl) rfl) ?_
  refine Eq.trans (jb_nx (i := .iload_n 1) (n := 1) (q := (4, [some (.ref p0), some (.int i1), some (.ref p2), none], [.int i1, .ref p0, .int 0, .ref p2])) (jq qL_scenesIn 3 rfl) rfl) ?_
  obtain ⟨b6, H⟩ := jm_O_inv H
  rcases jcI H with ⟨x3, h1, r2, H⟩ | ⟨w7, h8, r2, H⟩
  · refine Eq.trans (jb_nx (i := .invokevirtual 29) (n := 3) (q := (7, [some (.ref p0), some (.int i1), some (.ref p2), none], [.int x3, .int 0, .ref p2])) (jq qL_scenesIn 4 rfl) (jo_cv (y := mX11_scenesIn) rfl (Nat.le_of_ble_eq_true rfl) rfl (Nat.le_of_ble_eq_true rfl) b6 rfl r2 jo_ret)) ?_
    refine Eq.trans (jb_nx (i := .i2l) (n := 1) (q := (8, [some (.ref p0), some (.int i1), some (.ref p2), none], [.long x3.toInt64, .int 0, .ref p2])) (jq qL_scenesIn 5 rfl) rfl) ?_
    obtain ⟨h4, e5, H⟩ := jbd H
    refine Eq.trans (jb_nx (i := .lastore) (n := 1) (q := (9, [some (.ref p0), some (.int i1), some (.ref p2), none], [])) (jq qL_scenesIn 6 rfl) (jo_las e5)) ?_
    refine Eq.trans (jb_nx (i := .goto 6) (n := 3) (q := (15, [some (.ref p0), some (.int i1), some (.ref p2), none], [])) (jq qL_scenesIn 7 rfl) rfl) ?_
    refine Eq.trans (jb_nx (i := .iconst 0) (n := 1) (q := (16, [some (.ref p0), some (.int i1), some (.ref p2), none], [.int 0])) (jq qL_scenesIn 11 rfl) rfl) ?_
    exact Eq.trans (jb_rt (i := .ireturn) (n := 1) (jq qL_scenesIn 12 rfl) (jo_iret rfl rfl)) H
  · by_cases c9 : w7 = 2
    · rw [if_pos c9] at H
      subst c9
      refine Eq.trans (jb_nx (i := .invokevirtual 29) (n := 3) (q := (13, [some (.ref p0), some (.int i1), some (.ref p2), none], [])) (jq qL_scenesIn 4 rfl) (jo_cv (y := mX11_scenesIn) rfl (Nat.le_of_ble_eq_true rfl) rfl (Nat.le_of_ble_eq_true rfl) b6 rfl r2 (jo_exh (t := 12) (k := 3) (List.cons_ne_nil _ _) rfl (jq qL_scenesIn 8 rfl) (Nat.le_of_ble_eq_true rfl)))) ?_
      refine Eq.trans (jb_nx (i := .iconst 1) (n := 1) (q := (14, [some (.ref p0), some (.int i1), some (.ref p2), none], [.int 1])) (jq qL_scenesIn 9 rfl) rfl) ?_
      exact Eq.trans (jb_rt (i := .ireturn) (n := 1) (jq qL_scenesIn 10 rfl) (jo_iret rfl rfl)) H
    · rw [if_neg c9] at H
      cases H
/-! MaskPlaysLaw mostMasksAround (LMaskPlays;I[J)I -/
def tL_mostMasksAround : List (Nat × Instr × Nat) := [(0, .aload_n 2, 1), (1, .iconst 0, 1), (2, .aload_n 0, 1), (3, .iload_n 1, 1), (4, .invokevirtual 32, 3), (7, .i2l, 1), (8, .lastore, 1), (9, .goto 6, 3), (12, .astore_n 3, 1), (13, .iconst 1, 1), (14, .ireturn, 1), (15, .iconst 0, 1), (16, .ireturn, 1)]
set_option maxRecDepth 100000 in
theorem qL_mostMasksAround : ∀ q ∈ tL_mostMasksAround, decode cL_mostMasksAround q.1 = .ok (q.2.1, q.2.2) := by decide +kernel
theorem gL_mostMasksAround {d : Nat} {p0 : Nat} {i1 : Int32} {p2 : Nat} {h : jm_H} {r : jm_R} (H : (jm_O h p0 11 (jc_I (jm_D d mX11_mostMasksAround [.ref p0, .int i1] h) (fun x3 h1 => (jm_asl h1 p2 0 x3.toInt64).bind fun h4 => some (.inl (some (.int 0)), h4)) (fun w7 h8 => (if w7 = 2 then some (.inl (some (.int 1)), h8) else none)))) = some r) : jm_D (d + 1) mL_mostMasksAround [.ref p0, .int i1, .ref p2] h = some r := by
  rw [jm_D_body (Nat.le_of_ble_eq_true rfl)]
  show jm_B d mL_mostMasksAround (0, [some (.ref p0), some (.int i1), some (.ref p2), none], []) h = some r
  refine Eq.trans (jb_nx (i := .aload_n 2) (n := 1) (q := (1, [some (.ref p0), some (.int i1), some (.ref p2), none], [.ref p2])) (jq qL_mostMasksAround 0 rfl) rfl) ?_
  refine Eq.trans (jb_nx (i := .iconst 0) (n := 1) (q := (2, [some (.ref p0), some (.int i1), some (.ref p2), none], [.int 0, .ref p2])) (jq qL_mostMasksAround 1 rfl) rfl) ?_
  refine Eq.trans (jb_nx (i := .aload_n 0) (n := 1) (q := (3, [some (.ref p0), some (.int i1), some (.ref p2), none], [.ref p0, .int 0, .ref p2])) (jq qL_mostMasksAround 2 rfl) rfl) ?_
  refine Eq.trans (jb_nx (i := .iload_n 1) (n := 1) (q := (4, [some (.ref p0), some (.int i1), some (.ref p2), none], [.int i1, .ref p0, .int 0, .ref p2])) (jq qL_mostMasksAround 3 rfl) rfl) ?_
  obtain ⟨b6, H⟩ := jm_O_inv H
  rcases jcI H with ⟨x3, h1, r2, H⟩ | ⟨w7, h8, r2, H⟩
  · refine Eq.trans (jb_nx (i := .invokevirtual 32) (n := 3) (q := (7, [some (.ref p0), some (.int i1), some (.ref p2), none], [.int x3, .int 0, .ref p2])) (jq qL_mostMasksAround 4 rfl) (jo_cv (y := mX11_mostMasksAround) rfl (Nat.le_of_ble_eq_true rfl) rfl (Nat.le_of_ble_eq_true rfl) b6 rfl r2 jo_ret)) ?_
    refine Eq.trans (jb_nx (i := .i2l) (n := 1) (q := (8, [some (.ref p0), some (.int i1), some (.ref p2), none], [.long x3.toInt64, .int 0, .ref p2])) (jq qL_mostMasksAround 5 rfl) rfl) ?_
    obtain ⟨h4, e5, H⟩ := jbd H
    refine Eq.trans (jb_nx (i := .lastore) (n := 1) (q := (9, [some (.ref p0), some (.int i1), some (.ref p2), none], [])) (jq qL_mostMasksAround 6 rfl) (jo_las e5)) ?_
    refine Eq.trans (jb_nx (i := .goto 6) (n := 3) (q := (15, [some (.ref p0), some (.int i1), some (.ref p2), none], [])) (jq qL_mostMasksAround 7 rfl) rfl) ?_
    refine Eq.trans (jb_nx (i := .iconst 0) (n := 1) (q := (16, [some (.ref p0), some (.int i1), some (.ref p2), none], [.int 0])) (jq qL_mostMasksAround 11 rfl) rfl) ?_
    exact Eq.trans (jb_rt (i := .ireturn) (n := 1) (jq qL_mostMasksAround 12 rfl) (jo_iret rfl rfl)) H
  · by_cases c9 : w7 = 2
    · rw [if_pos c9] at H
      subst c9
      refine Eq.trans (jb_nx (i := .invokevirtual 32) (n := 3) (q := (13, [some (.ref p0), some (.int i1), some (.ref p2), none], [])) (jq qL_mostMasksAround 4 rfl) (jo_cv (y := mX11_mostMasksAround) rfl (Nat.le_of_ble_eq_true rfl) rfl (Nat.le_of_ble_eq_true rfl) b6 rfl r2 (jo_exh (t := 12) (k := 3) (List.cons_ne_nil _ _) rfl (jq qL_mostMasksAround 8 rfl) (Nat.le_of_ble_eq_true rfl)))) ?_
      refine Eq.trans (jb_nx (i := .iconst 1) (n := 1) (q := (14, [some (.ref p0), some (.int i1), some (.ref p2), none], [.int 1])) (jq qL_mostMasksAround 9 rfl) rfl) ?_
      exact Eq.trans (jb_rt (i := .ireturn) (n := 1) (jq qL_mostMasksAround 10 rfl) (jo_iret rfl rfl)) H
    · rw [if_neg c9] at H
      cases H
/-! MaskPlaysLaw standsIn (LMaskPlays;II[J)I -/
def tL_standsIn : List (Nat × Instr × Nat) := [(0, .aload_n 3, 1), (1, .iconst 0, 1), (2, .aload_n 0, 1), (3, .iload_n 1, 1), (4, .iload_n 2, 1), (5, .invokevirtual 35, 3), (8, .i2l, 1), (9, .lastore, 1), (10, .goto 7, 3), (13, .astore 4, 2), (15, .iconst 1, 1), (16, .ireturn, 1), (17, .iconst 0, 1), (18, .ireturn, 1)]
set_option maxRecDepth 100000 in
theorem qL_standsIn : ∀ q ∈ tL_standsIn, decode cL_standsIn q.1 = .ok (q.2.1, q.2.2) := by decide +kernel
theorem gL_standsIn {d : Nat} {p0 : Nat} {i1 : Int32} {i2 : Int32} {p3 : Nat} {h : jm_H} {r : jm_R} (H : (jm_O h p0 11 (jc_I (jm_D d mX11_standsIn [.ref p0, .int i1, .int i2] h) (fun x3 h1 => (jm_asl h1 p3 0 x3.toInt64).bind fun h4 => some (.inl (some (.int 0)), h4)) (fun w7 h8 => (if w7 = 2 then some (.inl (some (.int 1)), h8) else none)))) = some r) : jm_D (d + 1) mL_standsIn [.ref p0, .int i1, .int i2, .ref p3] h = some r := by
  rw [jm_D_body (Nat.le_of_ble_eq_true rfl)]
  show jm_B d mL_standsIn (0, [some (.ref p0), some (.int i1), some (.int i2), some (.ref p3), none], []) h = some r
  refine Eq.trans (jb_nx (i := .aload_n 3) (n := 1) (q := (1, [some (.ref p0), some (.int i1), some (.int i2), some (.ref p3), none], [.ref p3])) (jq qL_standsIn 0 rfl) rfl) ?_
  refine Eq.trans (jb_nx (i := .iconst 0) (n := 1) (q := (2, [some (.ref p0), some (.int i1), some (.int i2), some (.ref p3), none], [.int 0, .ref p3])) (jq qL_standsIn 1 rfl) rfl) ?_
  refine Eq.trans (jb_nx (i := .aload_n 0) (n := 1) (q := (3, [some (.ref p0), some (.int i1), some (.int i2), some (.ref p3), none], [.ref p0, .int 0, .ref p3])) (jq qL_standsIn 2 rfl) rfl) ?_
  refine Eq.trans (jb_nx (i := .iload_n 1) (n := 1) (q := (4, [some (.ref p0), some (.int i1), some (.int i2), some (.ref p3), none], [.int i1, .ref p0, .int 0, .ref p3])) (jq qL_standsIn 3 rfl) rfl) ?_
  refine Eq.trans (jb_nx (i := .iload_n 2) (n := 1) (q := (5, [some (.ref p0), some (.int i1), some (.int i2), some (.ref p3), none], [.int i2, .int i1, .ref p0, .int 0, .ref p3])) (jq qL_standsIn 4 rfl) rfl) ?_
  obtain ⟨b6, H⟩ := jm_O_inv H
  rcases jcI H with ⟨x3, h1, r2, H⟩ | ⟨w7, h8, r2, H⟩
  · refine Eq.trans (jb_nx (i := .invokevirtual 35) (n := 3) (q := (8, [some (.ref p0), some (.int i1), some (.int i2), some (.ref p3), none], [.int x3, .int 0, .ref p3])) (jq qL_standsIn 5 rfl) (jo_cv (y := mX11_standsIn) rfl (Nat.le_of_ble_eq_true rfl) rfl (Nat.le_of_ble_eq_true rfl) b6 rfl r2 jo_ret)) ?_
    refine Eq.trans (jb_nx (i := .i2l) (n := 1) (q := (9, [some (.ref p0), some (.int i1), some (.int i2), some (.ref p3), none], [.long x3.toInt64, .int 0, .ref p3])) (jq qL_standsIn 6 rfl) rfl) ?_
    obtain ⟨h4, e5, H⟩ := jbd H
    refine Eq.trans (jb_nx (i := .lastore) (n := 1) (q := (10, [some (.ref p0), some (.int i1), some (.int i2), some (.ref p3), none], [])) (jq qL_standsIn 7 rfl) (jo_las e5)) ?_
    refine Eq.trans (jb_nx (i := .goto 7) (n := 3) (q := (17, [some (.ref p0), some (.int i1), some (.int i2), some (.ref p3), none], [])) (jq qL_standsIn 8 rfl) rfl) ?_
    refine Eq.trans (jb_nx (i := .iconst 0) (n := 1) (q := (18, [some (.ref p0), some (.int i1), some (.int i2), some (.ref p3), none], [.int 0])) (jq qL_standsIn 12 rfl) rfl) ?_
    exact Eq.trans (jb_rt (i := .ireturn) (n := 1) (jq qL_standsIn 13 rfl) (jo_iret rfl rfl)) H
  · by_cases c9 : w7 = 2
    · rw [if_pos c9] at H
      subst c9
      refine Eq.trans (jb_nx (i := .invokevirtual 35) (n := 3) (q := (15, [some (.ref p0), some (.int i1), some (.int i2), some (.ref p3), none], [])) (jq qL_standsIn 5 rfl) (jo_cv (y := mX11_standsIn) rfl (Nat.le_of_ble_eq_true rfl) rfl (Nat.le_of_ble_eq_true rfl) b6 rfl r2 (jo_exha (t := 13) (k := 4) (List.cons_ne_nil _ _) rfl (jq qL_standsIn 9 rfl) (Nat.le_of_ble_eq_true rfl)))) ?_
      refine Eq.trans (jb_nx (i := .iconst 1) (n := 1) (q := (16, [some (.ref p0), some (.int i1), some (.int i2), some (.ref p3), none], [.int 1])) (jq qL_standsIn 10 rfl) rfl) ?_
      exact Eq.trans (jb_rt (i := .ireturn) (n := 1) (jq qL_standsIn 11 rfl) (jo_iret rfl rfl)) H
    · rw [if_neg c9] at H
      cases H
/-! MaskPlaysLaw stepsDone (LMaskPlays;I[J)I -/
def tL_stepsDone : List (Nat × Instr × Nat) := [(0, .aload_n 2, 1), (1, .iconst 0, 1), (2, .aload_n 0, 1), (3, .iload_n 1, 1), (4, .invokevirtual 39, 3), (7, .i2l, 1), (8, .lastore, 1), (9, .goto 6, 3), (12, .astore_n 3, 1), (13, .iconst 1, 1), (14, .ireturn, 1), (15, .iconst 0, 1), (16, .ireturn, 1)]
set_option maxRecDepth 100000 in
theorem qL_stepsDone : ∀ q ∈ tL_stepsDone, decode cL_stepsDone q.1 = .ok (q.2.1, q.2.2) := by decide +kernel
theorem gL_stepsDone {d : Nat} {p0 : Nat} {i1 : Int32} {p2 : Nat} {h : jm_H} {r : jm_R} (H : (jm_O h p0 11 (jc_I (jm_D d mX11_stepsDone [.ref p0, .int i1] h) (fun x3 h1 => (jm_asl h1 p2 0 x3.toInt64).bind fun h4 => some (.inl (some (.int 0)), h4)) (fun w7 h8 => (if w7 = 2 then some (.inl (some (.int 1)), h8) else none)))) = some r) : jm_D (d + 1) mL_stepsDone [.ref p0, .int i1, .ref p2] h = some r := by
  rw [jm_D_body (Nat.le_of_ble_eq_true rfl)]
  show jm_B d mL_stepsDone (0, [some (.ref p0), some (.int i1), some (.ref p2), none], []) h = some r
  refine Eq.trans (jb_nx (i := .aload_n 2) (n := 1) (q := (1, [some (.ref p0), some (.int i1), some (.ref p2), none], [.ref p2])) (jq qL_stepsDone 0 rfl) rfl) ?_
  refine Eq.trans (jb_nx (i := .iconst 0) (n := 1) (q := (2, [some (.ref p0), some (.int i1), some (.ref p2), none], [.int 0, .ref p2])) (jq qL_stepsDone 1 rfl) rfl) ?_
  refine Eq.trans (jb_nx (i := .aload_n 0) (n := 1) (q := (3, [some (.ref p0), some (.int i1), some (.ref p2), none], [.ref p0, .int 0, .ref p2])) (jq qL_stepsDone 2 rfl) rfl) ?_
  refine Eq.trans (jb_nx (i := .iload_n 1) (n := 1) (q := (4, [some (.ref p0), some (.int i1), some (.ref p2), none], [.int i1, .ref p0, .int 0, .ref p2])) (jq qL_stepsDone 3 rfl) rfl) ?_
  obtain ⟨b6, H⟩ := jm_O_inv H
  rcases jcI H with ⟨x3, h1, r2, H⟩ | ⟨w7, h8, r2, H⟩
  · refine Eq.trans (jb_nx (i := .invokevirtual 39) (n := 3) (q := (7, [some (.ref p0), some (.int i1), some (.ref p2), none], [.int x3, .int 0, .ref p2])) (jq qL_stepsDone 4 rfl) (jo_cv (y := mX11_stepsDone) rfl (Nat.le_of_ble_eq_true rfl) rfl (Nat.le_of_ble_eq_true rfl) b6 rfl r2 jo_ret)) ?_
    refine Eq.trans (jb_nx (i := .i2l) (n := 1) (q := (8, [some (.ref p0), some (.int i1), some (.ref p2), none], [.long x3.toInt64, .int 0, .ref p2])) (jq qL_stepsDone 5 rfl) rfl) ?_
    obtain ⟨h4, e5, H⟩ := jbd H
    refine Eq.trans (jb_nx (i := .lastore) (n := 1) (q := (9, [some (.ref p0), some (.int i1), some (.ref p2), none], [])) (jq qL_stepsDone 6 rfl) (jo_las e5)) ?_
    refine Eq.trans (jb_nx (i := .goto 6) (n := 3) (q := (15, [some (.ref p0), some (.int i1), some (.ref p2), none], [])) (jq qL_stepsDone 7 rfl) rfl) ?_
    refine Eq.trans (jb_nx (i := .iconst 0) (n := 1) (q := (16, [some (.ref p0), some (.int i1), some (.ref p2), none], [.int 0])) (jq qL_stepsDone 11 rfl) rfl) ?_
    exact Eq.trans (jb_rt (i := .ireturn) (n := 1) (jq qL_stepsDone 12 rfl) (jo_iret rfl rfl)) H
  · by_cases c9 : w7 = 2
    · rw [if_pos c9] at H
      subst c9
      refine Eq.trans (jb_nx (i := .invokevirtual 39) (n := 3) (q := (13, [some (.ref p0), some (.int i1), some (.ref p2), none], [])) (jq qL_stepsDone 4 rfl) (jo_cv (y := mX11_stepsDone) rfl (Nat.le_of_ble_eq_true rfl) rfl (Nat.le_of_ble_eq_true rfl) b6 rfl r2 (jo_exh (t := 12) (k := 3) (List.cons_ne_nil _ _) rfl (jq qL_stepsDone 8 rfl) (Nat.le_of_ble_eq_true rfl)))) ?_
      refine Eq.trans (jb_nx (i := .iconst 1) (n := 1) (q := (14, [some (.ref p0), some (.int i1), some (.ref p2), none], [.int 1])) (jq qL_stepsDone 9 rfl) rfl) ?_
      exact Eq.trans (jb_rt (i := .ireturn) (n := 1) (jq qL_stepsDone 10 rfl) (jo_iret rfl rfl)) H
    · rw [if_neg c9] at H
      cases H
/-! MaskPlaysLaw isFinished (LMaskPlays;I[J)I -/
def tL_isFinished : List (Nat × Instr × Nat) := [(0, .aload_n 2, 1), (1, .iconst 0, 1), (2, .aload_n 0, 1), (3, .iload_n 1, 1), (4, .invokevirtual 42, 3), (7, .ifCond .eq 7, 3), (10, .lconst 1, 1), (11, .goto 4, 3), (14, .lconst 0, 1), (15, .lastore, 1), (16, .goto 6, 3), (19, .astore_n 3, 1), (20, .iconst 1, 1), (21, .ireturn, 1), (22, .iconst 0, 1), (23, .ireturn, 1)]
set_option maxRecDepth 100000 in
theorem qL_isFinished : ∀ q ∈ tL_isFinished, decode cL_isFinished q.1 = .ok (q.2.1, q.2.2) := by decide +kernel
theorem gL_isFinished {d : Nat} {p0 : Nat} {i1 : Int32} {p2 : Nat} {h : jm_H} {r : jm_R} (H : (jm_O h p0 11 (jc_I (jm_D d mX11_isFinished [.ref p0, .int i1] h) (fun x3 h1 => (if x3 = 0 then (jm_asl h1 p2 0 0).bind fun h5 => some (.inl (some (.int 0)), h5) else (jm_asl h1 p2 0 1).bind fun h7 => some (.inl (some (.int 0)), h7))) (fun w10 h11 => (if w10 = 2 then some (.inl (some (.int 1)), h11) else none)))) = some r) : jm_D (d + 1) mL_isFinished [.ref p0, .int i1, .ref p2] h = some r := by
  rw [jm_D_body (Nat.le_of_ble_eq_true rfl)]
  show jm_B d mL_isFinished (0, [some (.ref p0), some (.int i1), some (.ref p2), none], []) h = some r
  refine Eq.trans (jb_nx (i := .aload_n 2) (n := 1) (q := (1, [some (.ref p0), some (.int i1), some (.ref p2), none], [.ref p2])) (jq qL_isFinished 0 rfl) rfl) ?_
  refine Eq.trans (jb_nx (i := .iconst 0) (n := 1) (q := (2, [some (.ref p0), some (.int i1), some (.ref p2), none], [.int 0, .ref p2])) (jq qL_isFinished 1 rfl) rfl) ?_
  refine Eq.trans (jb_nx (i := .aload_n 0) (n := 1) (q := (3, [some (.ref p0), some (.int i1), some (.ref p2), none], [.ref p0, .int 0, .ref p2])) (jq qL_isFinished 2 rfl) rfl) ?_
  refine Eq.trans (jb_nx (i := .iload_n 1) (n := 1) (q := (4, [some (.ref p0), some (.int i1), some (.ref p2), none], [.int i1, .ref p0, .int 0, .ref p2])) (jq qL_isFinished 3 rfl) rfl) ?_
  obtain ⟨b9, H⟩ := jm_O_inv H
  rcases jcI H with ⟨x3, h1, r2, H⟩ | ⟨w10, h11, r2, H⟩
  · refine Eq.trans (jb_nx (i := .invokevirtual 42) (n := 3) (q := (7, [some (.ref p0), some (.int i1), some (.ref p2), none], [.int x3, .int 0, .ref p2])) (jq qL_isFinished 4 rfl) (jo_cv (y := mX11_isFinished) rfl (Nat.le_of_ble_eq_true rfl) rfl (Nat.le_of_ble_eq_true rfl) b9 rfl r2 jo_ret)) ?_
    by_cases c4 : x3 = 0
    · rw [if_pos c4] at H
      refine Eq.trans (jb_nx (i := .ifCond .eq 7) (n := 3) (q := (14, [some (.ref p0), some (.int i1), some (.ref p2), none], [.int 0, .ref p2])) (jq qL_isFinished 5 rfl) (jo_ifT (jz_eqT c4) rfl)) ?_
      refine Eq.trans (jb_nx (i := .lconst 0) (n := 1) (q := (15, [some (.ref p0), some (.int i1), some (.ref p2), none], [.long 0, .int 0, .ref p2])) (jq qL_isFinished 8 rfl) rfl) ?_
      obtain ⟨h5, e6, H⟩ := jbd H
      refine Eq.trans (jb_nx (i := .lastore) (n := 1) (q := (16, [some (.ref p0), some (.int i1), some (.ref p2), none], [])) (jq qL_isFinished 9 rfl) (jo_las e6)) ?_
      refine Eq.trans (jb_nx (i := .goto 6) (n := 3) (q := (22, [some (.ref p0), some (.int i1), some (.ref p2), none], [])) (jq qL_isFinished 10 rfl) rfl) ?_
      refine Eq.trans (jb_nx (i := .iconst 0) (n := 1) (q := (23, [some (.ref p0), some (.int i1), some (.ref p2), none], [.int 0])) (jq qL_isFinished 14 rfl) rfl) ?_
      exact Eq.trans (jb_rt (i := .ireturn) (n := 1) (jq qL_isFinished 15 rfl) (jo_iret rfl rfl)) H
    · rw [if_neg c4] at H
      refine Eq.trans (jb_nx (i := .ifCond .eq 7) (n := 3) (q := (10, [some (.ref p0), some (.int i1), some (.ref p2), none], [.int 0, .ref p2])) (jq qL_isFinished 5 rfl) (jo_ifF (jz_eqF c4))) ?_
      refine Eq.trans (jb_nx (i := .lconst 1) (n := 1) (q := (11, [some (.ref p0), some (.int i1), some (.ref p2), none], [.long 1, .int 0, .ref p2])) (jq qL_isFinished 6 rfl) rfl) ?_
      refine Eq.trans (jb_nx (i := .goto 4) (n := 3) (q := (15, [some (.ref p0), some (.int i1), some (.ref p2), none], [.long 1, .int 0, .ref p2])) (jq qL_isFinished 7 rfl) rfl) ?_
      obtain ⟨h7, e8, H⟩ := jbd H
      refine Eq.trans (jb_nx (i := .lastore) (n := 1) (q := (16, [some (.ref p0), some (.int i1), some (.ref p2), none], [])) (jq qL_isFinished 9 rfl) (jo_las e8)) ?_
      refine Eq.trans (jb_nx (i := .goto 6) (n := 3) (q := (22, [some (.ref p0), some (.int i1), some (.ref p2), none], [])) (jq qL_isFinished 10 rfl) rfl) ?_
      refine Eq.trans (jb_nx (i := .iconst 0) (n := 1) (q := (23, [some (.ref p0), some (.int i1), some (.ref p2), none], [.int 0])) (jq qL_isFinished 14 rfl) rfl) ?_
      exact Eq.trans (jb_rt (i := .ireturn) (n := 1) (jq qL_isFinished 15 rfl) (jo_iret rfl rfl)) H
  · by_cases c12 : w10 = 2
    · rw [if_pos c12] at H
      subst c12
      refine Eq.trans (jb_nx (i := .invokevirtual 42) (n := 3) (q := (20, [some (.ref p0), some (.int i1), some (.ref p2), none], [])) (jq qL_isFinished 4 rfl) (jo_cv (y := mX11_isFinished) rfl (Nat.le_of_ble_eq_true rfl) rfl (Nat.le_of_ble_eq_true rfl) b9 rfl r2 (jo_exh (t := 19) (k := 3) (List.cons_ne_nil _ _) rfl (jq qL_isFinished 11 rfl) (Nat.le_of_ble_eq_true rfl)))) ?_
      refine Eq.trans (jb_nx (i := .iconst 1) (n := 1) (q := (21, [some (.ref p0), some (.int i1), some (.ref p2), none], [.int 1])) (jq qL_isFinished 12 rfl) rfl) ?_
      exact Eq.trans (jb_rt (i := .ireturn) (n := 1) (jq qL_isFinished 13 rfl) (jo_iret rfl rfl)) H
    · rw [if_neg c12] at H
      cases H
/-! MaskPlaysLaw canStep (LMaskPlays;I[J)I -/
def tL_canStep : List (Nat × Instr × Nat) := [(0, .aload_n 2, 1), (1, .iconst 0, 1), (2, .aload_n 0, 1), (3, .iload_n 1, 1), (4, .invokevirtual 46, 3), (7, .ifCond .eq 7, 3), (10, .lconst 1, 1), (11, .goto 4, 3), (14, .lconst 0, 1), (15, .lastore, 1), (16, .goto 6, 3), (19, .astore_n 3, 1), (20, .iconst 1, 1), (21, .ireturn, 1), (22, .iconst 0, 1), (23, .ireturn, 1)]
set_option maxRecDepth 100000 in
theorem qL_canStep : ∀ q ∈ tL_canStep, decode cL_canStep q.1 = .ok (q.2.1, q.2.2) := by decide +kernel
theorem gL_canStep {d : Nat} {p0 : Nat} {i1 : Int32} {p2 : Nat} {h : jm_H} {r : jm_R} (H : (jm_O h p0 11 (jc_I (jm_D d mX11_canStep [.ref p0, .int i1] h) (fun x3 h1 => (if x3 = 0 then (jm_asl h1 p2 0 0).bind fun h5 => some (.inl (some (.int 0)), h5) else (jm_asl h1 p2 0 1).bind fun h7 => some (.inl (some (.int 0)), h7))) (fun w10 h11 => (if w10 = 2 then some (.inl (some (.int 1)), h11) else none)))) = some r) : jm_D (d + 1) mL_canStep [.ref p0, .int i1, .ref p2] h = some r := by
  rw [jm_D_body (Nat.le_of_ble_eq_true rfl)]
  show jm_B d mL_canStep (0, [some (.ref p0), some (.int i1), some (.ref p2), none], []) h = some r
  refine Eq.trans (jb_nx (i := .aload_n 2) (n := 1) (q := (1, [some (.ref p0), some (.int i1), some (.ref p2), none], [.ref p2])) (jq qL_canStep 0 rfl) rfl) ?_
  refine Eq.trans (jb_nx (i := .iconst 0) (n := 1) (q := (2, [some (.ref p0), some (.int i1), some (.ref p2), none], [.int 0, .ref p2])) (jq qL_canStep 1 rfl) rfl) ?_
  refine Eq.trans (jb_nx (i := .aload_n 0) (n := 1) (q := (3, [some (.ref p0), some (.int i1), some (.ref p2), none], [.ref p0, .int 0, .ref p2])) (jq qL_canStep 2 rfl) rfl) ?_
  refine Eq.trans (jb_nx (i := .iload_n 1) (n := 1) (q := (4, [some (.ref p0), some (.int i1), some (.ref p2), none], [.int i1, .ref p0, .int 0, .ref p2])) (jq qL_canStep 3 rfl) rfl) ?_
  obtain ⟨b9, H⟩ := jm_O_inv H
  rcases jcI H with ⟨x3, h1, r2, H⟩ | ⟨w10, h11, r2, H⟩
  · refine Eq.trans (jb_nx (i := .invokevirtual 46) (n := 3) (q := (7, [some (.ref p0), some (.int i1), some (.ref p2), none], [.int x3, .int 0, .ref p2])) (jq qL_canStep 4 rfl) (jo_cv (y := mX11_canStep) rfl (Nat.le_of_ble_eq_true rfl) rfl (Nat.le_of_ble_eq_true rfl) b9 rfl r2 jo_ret)) ?_
    by_cases c4 : x3 = 0
    · rw [if_pos c4] at H
      refine Eq.trans (jb_nx (i := .ifCond .eq 7) (n := 3) (q := (14, [some (.ref p0), some (.int i1), some (.ref p2), none], [.int 0, .ref p2])) (jq qL_canStep 5 rfl) (jo_ifT (jz_eqT c4) rfl)) ?_
      refine Eq.trans (jb_nx (i := .lconst 0) (n := 1) (q := (15, [some (.ref p0), some (.int i1), some (.ref p2), none], [.long 0, .int 0, .ref p2])) (jq qL_canStep 8 rfl) rfl) ?_
      obtain ⟨h5, e6, H⟩ := jbd H
      refine Eq.trans (jb_nx (i := .lastore) (n := 1) (q := (16, [some (.ref p0), some (.int i1), some (.ref p2), none], [])) (jq qL_canStep 9 rfl) (jo_las e6)) ?_
      refine Eq.trans (jb_nx (i := .goto 6) (n := 3) (q := (22, [some (.ref p0), some (.int i1), some (.ref p2), none], [])) (jq qL_canStep 10 rfl) rfl) ?_
      refine Eq.trans (jb_nx (i := .iconst 0) (n := 1) (q := (23, [some (.ref p0), some (.int i1), some (.ref p2), none], [.int 0])) (jq qL_canStep 14 rfl) rfl) ?_
      exact Eq.trans (jb_rt (i := .ireturn) (n := 1) (jq qL_canStep 15 rfl) (jo_iret rfl rfl)) H
    · rw [if_neg c4] at H
      refine Eq.trans (jb_nx (i := .ifCond .eq 7) (n := 3) (q := (10, [some (.ref p0), some (.int i1), some (.ref p2), none], [.int 0, .ref p2])) (jq qL_canStep 5 rfl) (jo_ifF (jz_eqF c4))) ?_
      refine Eq.trans (jb_nx (i := .lconst 1) (n := 1) (q := (11, [some (.ref p0), some (.int i1), some (.ref p2), none], [.long 1, .int 0, .ref p2])) (jq qL_canStep 6 rfl) rfl) ?_
      refine Eq.trans (jb_nx (i := .goto 4) (n := 3) (q := (15, [some (.ref p0), some (.int i1), some (.ref p2), none], [.long 1, .int 0, .ref p2])) (jq qL_canStep 7 rfl) rfl) ?_
      obtain ⟨h7, e8, H⟩ := jbd H
      refine Eq.trans (jb_nx (i := .lastore) (n := 1) (q := (16, [some (.ref p0), some (.int i1), some (.ref p2), none], [])) (jq qL_canStep 9 rfl) (jo_las e8)) ?_
      refine Eq.trans (jb_nx (i := .goto 6) (n := 3) (q := (22, [some (.ref p0), some (.int i1), some (.ref p2), none], [])) (jq qL_canStep 10 rfl) rfl) ?_
      refine Eq.trans (jb_nx (i := .iconst 0) (n := 1) (q := (23, [some (.ref p0), some (.int i1), some (.ref p2), none], [.int 0])) (jq qL_canStep 14 rfl) rfl) ?_
      exact Eq.trans (jb_rt (i := .ireturn) (n := 1) (jq qL_canStep 15 rfl) (jo_iret rfl rfl)) H
  · by_cases c12 : w10 = 2
    · rw [if_pos c12] at H
      subst c12
      refine Eq.trans (jb_nx (i := .invokevirtual 46) (n := 3) (q := (20, [some (.ref p0), some (.int i1), some (.ref p2), none], [])) (jq qL_canStep 4 rfl) (jo_cv (y := mX11_canStep) rfl (Nat.le_of_ble_eq_true rfl) rfl (Nat.le_of_ble_eq_true rfl) b9 rfl r2 (jo_exh (t := 19) (k := 3) (List.cons_ne_nil _ _) rfl (jq qL_canStep 11 rfl) (Nat.le_of_ble_eq_true rfl)))) ?_
      refine Eq.trans (jb_nx (i := .iconst 1) (n := 1) (q := (21, [some (.ref p0), some (.int i1), some (.ref p2), none], [.int 1])) (jq qL_canStep 12 rfl) rfl) ?_
      exact Eq.trans (jb_rt (i := .ireturn) (n := 1) (jq qL_canStep 13 rfl) (jo_iret rfl rfl)) H
    · rw [if_neg c12] at H
      cases H
/-! MaskPlaysLaw textLength (LMaskPlays;I[J)I -/
def tL_textLength : List (Nat × Instr × Nat) := [(0, .aload_n 2, 1), (1, .iconst 0, 1), (2, .aload_n 0, 1), (3, .iload_n 1, 1), (4, .invokevirtual 49, 3), (7, .i2l, 1), (8, .lastore, 1), (9, .goto 6, 3), (12, .astore_n 3, 1), (13, .iconst 1, 1), (14, .ireturn, 1), (15, .iconst 0, 1), (16, .ireturn, 1)]
set_option maxRecDepth 100000 in
theorem qL_textLength : ∀ q ∈ tL_textLength, decode cL_textLength q.1 = .ok (q.2.1, q.2.2) := by decide +kernel
theorem gL_textLength {d : Nat} {p0 : Nat} {i1 : Int32} {p2 : Nat} {h : jm_H} {r : jm_R} (H : (jm_O h p0 11 (jc_I (jm_D d mX11_textLength [.ref p0, .int i1] h) (fun x3 h1 => (jm_asl h1 p2 0 x3.toInt64).bind fun h4 => some (.inl (some (.int 0)), h4)) (fun w7 h8 => (if w7 = 2 then some (.inl (some (.int 1)), h8) else none)))) = some r) : jm_D (d + 1) mL_textLength [.ref p0, .int i1, .ref p2] h = some r := by
  rw [jm_D_body (Nat.le_of_ble_eq_true rfl)]
  show jm_B d mL_textLength (0, [some (.ref p0), some (.int i1), some (.ref p2), none], []) h = some r
  refine Eq.trans (jb_nx (i := .aload_n 2) (n := 1) (q := (1, [some (.ref p0), some (.int i1), some (.ref p2), none], [.ref p2])) (jq qL_textLength 0 rfl) rfl) ?_
  refine Eq.trans (jb_nx (i := .iconst 0) (n := 1) (q := (2, [some (.ref p0), some (.int i1), some (.ref p2), none], [.int 0, .ref p2])) (jq qL_textLength 1 rfl) rfl) ?_
  refine Eq.trans (jb_nx (i := .aload_n 0) (n := 1) (q := (3, [some (.ref p0), some (.int i1), some (.ref p2), none], [.ref p0, .int 0, .ref p2])) (jq qL_textLength 2 rfl) rfl) ?_
  refine Eq.trans (jb_nx (i := .iload_n 1) (n := 1) (q := (4, [some (.ref p0), some (.int i1), some (.ref p2), none], [.int i1, .ref p0, .int 0, .ref p2])) (jq qL_textLength 3 rfl) rfl) ?_
  obtain ⟨b6, H⟩ := jm_O_inv H
  rcases jcI H with ⟨x3, h1, r2, H⟩ | ⟨w7, h8, r2, H⟩
  · refine Eq.trans (jb_nx (i := .invokevirtual 49) (n := 3) (q := (7, [some (.ref p0), some (.int i1), some (.ref p2), none], [.int x3, .int 0, .ref p2])) (jq qL_textLength 4 rfl) (jo_cv (y := mX11_textLength) rfl (Nat.le_of_ble_eq_true rfl) rfl (Nat.le_of_ble_eq_true rfl) b6 rfl r2 jo_ret)) ?_
    refine Eq.trans (jb_nx (i := .i2l) (n := 1) (q := (8, [some (.ref p0), some (.int i1), some (.ref p2), none], [.long x3.toInt64, .int 0, .ref p2])) (jq qL_textLength 5 rfl) rfl) ?_
    obtain ⟨h4, e5, H⟩ := jbd H
    refine Eq.trans (jb_nx (i := .lastore) (n := 1) (q := (9, [some (.ref p0), some (.int i1), some (.ref p2), none], [])) (jq qL_textLength 6 rfl) (jo_las e5)) ?_
    refine Eq.trans (jb_nx (i := .goto 6) (n := 3) (q := (15, [some (.ref p0), some (.int i1), some (.ref p2), none], [])) (jq qL_textLength 7 rfl) rfl) ?_
    refine Eq.trans (jb_nx (i := .iconst 0) (n := 1) (q := (16, [some (.ref p0), some (.int i1), some (.ref p2), none], [.int 0])) (jq qL_textLength 11 rfl) rfl) ?_
    exact Eq.trans (jb_rt (i := .ireturn) (n := 1) (jq qL_textLength 12 rfl) (jo_iret rfl rfl)) H
  · by_cases c9 : w7 = 2
    · rw [if_pos c9] at H
      subst c9
      refine Eq.trans (jb_nx (i := .invokevirtual 49) (n := 3) (q := (13, [some (.ref p0), some (.int i1), some (.ref p2), none], [])) (jq qL_textLength 4 rfl) (jo_cv (y := mX11_textLength) rfl (Nat.le_of_ble_eq_true rfl) rfl (Nat.le_of_ble_eq_true rfl) b6 rfl r2 (jo_exh (t := 12) (k := 3) (List.cons_ne_nil _ _) rfl (jq qL_textLength 8 rfl) (Nat.le_of_ble_eq_true rfl)))) ?_
      refine Eq.trans (jb_nx (i := .iconst 1) (n := 1) (q := (14, [some (.ref p0), some (.int i1), some (.ref p2), none], [.int 1])) (jq qL_textLength 9 rfl) rfl) ?_
      exact Eq.trans (jb_rt (i := .ireturn) (n := 1) (jq qL_textLength 10 rfl) (jo_iret rfl rfl)) H
    · rw [if_neg c9] at H
      cases H
/-! MaskPlaysLaw letterAt (LMaskPlays;II[J)I -/
def tL_letterAt : List (Nat × Instr × Nat) := [(0, .aload_n 3, 1), (1, .iconst 0, 1), (2, .aload_n 0, 1), (3, .iload_n 1, 1), (4, .iload_n 2, 1), (5, .invokevirtual 52, 3), (8, .i2l, 1), (9, .lastore, 1), (10, .goto 7, 3), (13, .astore 4, 2), (15, .iconst 1, 1), (16, .ireturn, 1), (17, .iconst 0, 1), (18, .ireturn, 1)]
set_option maxRecDepth 100000 in
theorem qL_letterAt : ∀ q ∈ tL_letterAt, decode cL_letterAt q.1 = .ok (q.2.1, q.2.2) := by decide +kernel
theorem gL_letterAt {d : Nat} {p0 : Nat} {i1 : Int32} {i2 : Int32} {p3 : Nat} {h : jm_H} {r : jm_R} (H : (jm_O h p0 11 (jc_I (jm_D d mX11_letterAt [.ref p0, .int i1, .int i2] h) (fun x3 h1 => (jm_asl h1 p3 0 x3.toInt64).bind fun h4 => some (.inl (some (.int 0)), h4)) (fun w7 h8 => (if w7 = 2 then some (.inl (some (.int 1)), h8) else none)))) = some r) : jm_D (d + 1) mL_letterAt [.ref p0, .int i1, .int i2, .ref p3] h = some r := by
  rw [jm_D_body (Nat.le_of_ble_eq_true rfl)]
  show jm_B d mL_letterAt (0, [some (.ref p0), some (.int i1), some (.int i2), some (.ref p3), none], []) h = some r
  refine Eq.trans (jb_nx (i := .aload_n 3) (n := 1) (q := (1, [some (.ref p0), some (.int i1), some (.int i2), some (.ref p3), none], [.ref p3])) (jq qL_letterAt 0 rfl) rfl) ?_
  refine Eq.trans (jb_nx (i := .iconst 0) (n := 1) (q := (2, [some (.ref p0), some (.int i1), some (.int i2), some (.ref p3), none], [.int 0, .ref p3])) (jq qL_letterAt 1 rfl) rfl) ?_
  refine Eq.trans (jb_nx (i := .aload_n 0) (n := 1) (q := (3, [some (.ref p0), some (.int i1), some (.int i2), some (.ref p3), none], [.ref p0, .int 0, .ref p3])) (jq qL_letterAt 2 rfl) rfl) ?_
  refine Eq.trans (jb_nx (i := .iload_n 1) (n := 1) (q := (4, [some (.ref p0), some (.int i1), some (.int i2), some (.ref p3), none], [.int i1, .ref p0, .int 0, .ref p3])) (jq qL_letterAt 3 rfl) rfl) ?_
  refine Eq.trans (jb_nx (i := .iload_n 2) (n := 1) (q := (5, [some (.ref p0), some (.int i1), some (.int i2), some (.ref p3), none], [.int i2, .int i1, .ref p0, .int 0, .ref p3])) (jq qL_letterAt 4 rfl) rfl) ?_
  obtain ⟨b6, H⟩ := jm_O_inv H
  rcases jcI H with ⟨x3, h1, r2, H⟩ | ⟨w7, h8, r2, H⟩
  · refine Eq.trans (jb_nx (i := .invokevirtual 52) (n := 3) (q := (8, [some (.ref p0), some (.int i1), some (.int i2), some (.ref p3), none], [.int x3, .int 0, .ref p3])) (jq qL_letterAt 5 rfl) (jo_cv (y := mX11_letterAt) rfl (Nat.le_of_ble_eq_true rfl) rfl (Nat.le_of_ble_eq_true rfl) b6 rfl r2 jo_ret)) ?_
    refine Eq.trans (jb_nx (i := .i2l) (n := 1) (q := (9, [some (.ref p0), some (.int i1), some (.int i2), some (.ref p3), none], [.long x3.toInt64, .int 0, .ref p3])) (jq qL_letterAt 6 rfl) rfl) ?_
    obtain ⟨h4, e5, H⟩ := jbd H
    refine Eq.trans (jb_nx (i := .lastore) (n := 1) (q := (10, [some (.ref p0), some (.int i1), some (.int i2), some (.ref p3), none], [])) (jq qL_letterAt 7 rfl) (jo_las e5)) ?_
    refine Eq.trans (jb_nx (i := .goto 7) (n := 3) (q := (17, [some (.ref p0), some (.int i1), some (.int i2), some (.ref p3), none], [])) (jq qL_letterAt 8 rfl) rfl) ?_
    refine Eq.trans (jb_nx (i := .iconst 0) (n := 1) (q := (18, [some (.ref p0), some (.int i1), some (.int i2), some (.ref p3), none], [.int 0])) (jq qL_letterAt 12 rfl) rfl) ?_
    exact Eq.trans (jb_rt (i := .ireturn) (n := 1) (jq qL_letterAt 13 rfl) (jo_iret rfl rfl)) H
  · by_cases c9 : w7 = 2
    · rw [if_pos c9] at H
      subst c9
      refine Eq.trans (jb_nx (i := .invokevirtual 52) (n := 3) (q := (15, [some (.ref p0), some (.int i1), some (.int i2), some (.ref p3), none], [])) (jq qL_letterAt 5 rfl) (jo_cv (y := mX11_letterAt) rfl (Nat.le_of_ble_eq_true rfl) rfl (Nat.le_of_ble_eq_true rfl) b6 rfl r2 (jo_exha (t := 13) (k := 4) (List.cons_ne_nil _ _) rfl (jq qL_letterAt 9 rfl) (Nat.le_of_ble_eq_true rfl)))) ?_
      refine Eq.trans (jb_nx (i := .iconst 1) (n := 1) (q := (16, [some (.ref p0), some (.int i1), some (.int i2), some (.ref p3), none], [.int 1])) (jq qL_letterAt 10 rfl) rfl) ?_
      exact Eq.trans (jb_rt (i := .ireturn) (n := 1) (jq qL_letterAt 11 rfl) (jo_iret rfl rfl)) H
    · rw [if_neg c9] at H
      cases H
/-! MaskPlaysLaw nextSceneAt (LMaskPlays;I[J)I -/
def tL_nextSceneAt : List (Nat × Instr × Nat) := [(0, .aload_n 2, 1), (1, .iconst 0, 1), (2, .aload_n 0, 1), (3, .iload_n 1, 1), (4, .invokevirtual 55, 3), (7, .i2l, 1), (8, .lastore, 1), (9, .goto 9, 3), (12, .astore_n 3, 1), (13, .iconst 1, 1), (14, .ireturn, 1), (15, .astore_n 3, 1), (16, .iconst 2, 1), (17, .ireturn, 1), (18, .iconst 0, 1), (19, .ireturn, 1)]
set_option maxRecDepth 100000 in
theorem qL_nextSceneAt : ∀ q ∈ tL_nextSceneAt, decode cL_nextSceneAt q.1 = .ok (q.2.1, q.2.2) := by decide +kernel
theorem gL_nextSceneAt {d : Nat} {p0 : Nat} {i1 : Int32} {p2 : Nat} {h : jm_H} {r : jm_R} (H : (jm_O h p0 11 (jc_I (jm_D d mX11_nextSceneAt [.ref p0, .int i1] h) (fun x3 h1 => (jm_asl h1 p2 0 x3.toInt64).bind fun h4 => some (.inl (some (.int 0)), h4)) (fun w7 h8 => (if w7 = 2 then some (.inl (some (.int 1)), h8) else (if w7 = 0 then some (.inl (some (.int 2)), h8) else none))))) = some r) : jm_D (d + 1) mL_nextSceneAt [.ref p0, .int i1, .ref p2] h = some r := by
  rw [jm_D_body (Nat.le_of_ble_eq_true rfl)]
  show jm_B d mL_nextSceneAt (0, [some (.ref p0), some (.int i1), some (.ref p2), none], []) h = some r
  refine Eq.trans (jb_nx (i := .aload_n 2) (n := 1) (q := (1, [some (.ref p0), some (.int i1), some (.ref p2), none], [.ref p2])) (jq qL_nextSceneAt 0 rfl) rfl) ?_
  refine Eq.trans (jb_nx (i := .iconst 0) (n := 1) (q := (2, [some (.ref p0), some (.int i1), some (.ref p2), none], [.int 0, .ref p2])) (jq qL_nextSceneAt 1 rfl) rfl) ?_
  refine Eq.trans (jb_nx (i := .aload_n 0) (n := 1) (q := (3, [some (.ref p0), some (.int i1), some (.ref p2), none], [.ref p0, .int 0, .ref p2])) (jq qL_nextSceneAt 2 rfl) rfl) ?_
  refine Eq.trans (jb_nx (i := .iload_n 1) (n := 1) (q := (4, [some (.ref p0), some (.int i1), some (.ref p2), none], [.int i1, .ref p0, .int 0, .ref p2])) (jq qL_nextSceneAt 3 rfl) rfl) ?_
  obtain ⟨b6, H⟩ := jm_O_inv H
  rcases jcI H with ⟨x3, h1, r2, H⟩ | ⟨w7, h8, r2, H⟩
  · refine Eq.trans (jb_nx (i := .invokevirtual 55) (n := 3) (q := (7, [some (.ref p0), some (.int i1), some (.ref p2), none], [.int x3, .int 0, .ref p2])) (jq qL_nextSceneAt 4 rfl) (jo_cv (y := mX11_nextSceneAt) rfl (Nat.le_of_ble_eq_true rfl) rfl (Nat.le_of_ble_eq_true rfl) b6 rfl r2 jo_ret)) ?_
    refine Eq.trans (jb_nx (i := .i2l) (n := 1) (q := (8, [some (.ref p0), some (.int i1), some (.ref p2), none], [.long x3.toInt64, .int 0, .ref p2])) (jq qL_nextSceneAt 5 rfl) rfl) ?_
    obtain ⟨h4, e5, H⟩ := jbd H
    refine Eq.trans (jb_nx (i := .lastore) (n := 1) (q := (9, [some (.ref p0), some (.int i1), some (.ref p2), none], [])) (jq qL_nextSceneAt 6 rfl) (jo_las e5)) ?_
    refine Eq.trans (jb_nx (i := .goto 9) (n := 3) (q := (18, [some (.ref p0), some (.int i1), some (.ref p2), none], [])) (jq qL_nextSceneAt 7 rfl) rfl) ?_
    refine Eq.trans (jb_nx (i := .iconst 0) (n := 1) (q := (19, [some (.ref p0), some (.int i1), some (.ref p2), none], [.int 0])) (jq qL_nextSceneAt 14 rfl) rfl) ?_
    exact Eq.trans (jb_rt (i := .ireturn) (n := 1) (jq qL_nextSceneAt 15 rfl) (jo_iret rfl rfl)) H
  · by_cases c9 : w7 = 2
    · rw [if_pos c9] at H
      subst c9
      refine Eq.trans (jb_nx (i := .invokevirtual 55) (n := 3) (q := (13, [some (.ref p0), some (.int i1), some (.ref p2), none], [])) (jq qL_nextSceneAt 4 rfl) (jo_cv (y := mX11_nextSceneAt) rfl (Nat.le_of_ble_eq_true rfl) rfl (Nat.le_of_ble_eq_true rfl) b6 rfl r2 (jo_exh (t := 12) (k := 3) (List.cons_ne_nil _ _) rfl (jq qL_nextSceneAt 8 rfl) (Nat.le_of_ble_eq_true rfl)))) ?_
      refine Eq.trans (jb_nx (i := .iconst 1) (n := 1) (q := (14, [some (.ref p0), some (.int i1), some (.ref p2), none], [.int 1])) (jq qL_nextSceneAt 9 rfl) rfl) ?_
      exact Eq.trans (jb_rt (i := .ireturn) (n := 1) (jq qL_nextSceneAt 10 rfl) (jo_iret rfl rfl)) H
    · rw [if_neg c9] at H
      by_cases c10 : w7 = 0
      · rw [if_pos c10] at H
        subst c10
        refine Eq.trans (jb_nx (i := .invokevirtual 55) (n := 3) (q := (16, [some (.ref p0), some (.int i1), some (.ref p2), none], [])) (jq qL_nextSceneAt 4 rfl) (jo_cv (y := mX11_nextSceneAt) rfl (Nat.le_of_ble_eq_true rfl) rfl (Nat.le_of_ble_eq_true rfl) b6 rfl r2 (jo_exh (t := 15) (k := 3) (List.cons_ne_nil _ _) rfl (jq qL_nextSceneAt 11 rfl) (Nat.le_of_ble_eq_true rfl)))) ?_
        refine Eq.trans (jb_nx (i := .iconst 2) (n := 1) (q := (17, [some (.ref p0), some (.int i1), some (.ref p2), none], [.int 2])) (jq qL_nextSceneAt 12 rfl) rfl) ?_
        exact Eq.trans (jb_rt (i := .ireturn) (n := 1) (jq qL_nextSceneAt 13 rfl) (jo_iret rfl rfl)) H
      · rw [if_neg c10] at H
        cases H
/-! MaskPlaysLaw renamedByStep (LMaskPlays;I[J)I -/
def tL_renamedByStep : List (Nat × Instr × Nat) := [(0, .aload_n 2, 1), (1, .iconst 0, 1), (2, .aload_n 0, 1), (3, .iload_n 1, 1), (4, .invokevirtual 58, 3), (7, .i2l, 1), (8, .lastore, 1), (9, .goto 9, 3), (12, .astore_n 3, 1), (13, .iconst 1, 1), (14, .ireturn, 1), (15, .astore_n 3, 1), (16, .iconst 2, 1), (17, .ireturn, 1), (18, .iconst 0, 1), (19, .ireturn, 1)]
set_option maxRecDepth 100000 in
theorem qL_renamedByStep : ∀ q ∈ tL_renamedByStep, decode cL_renamedByStep q.1 = .ok (q.2.1, q.2.2) := by decide +kernel
theorem gL_renamedByStep {d : Nat} {p0 : Nat} {i1 : Int32} {p2 : Nat} {h : jm_H} {r : jm_R} (H : (jm_O h p0 11 (jc_I (jm_D d mX11_renamedByStep [.ref p0, .int i1] h) (fun x3 h1 => (jm_asl h1 p2 0 x3.toInt64).bind fun h4 => some (.inl (some (.int 0)), h4)) (fun w7 h8 => (if w7 = 2 then some (.inl (some (.int 1)), h8) else (if w7 = 0 then some (.inl (some (.int 2)), h8) else none))))) = some r) : jm_D (d + 1) mL_renamedByStep [.ref p0, .int i1, .ref p2] h = some r := by
  rw [jm_D_body (Nat.le_of_ble_eq_true rfl)]
  show jm_B d mL_renamedByStep (0, [some (.ref p0), some (.int i1), some (.ref p2), none], []) h = some r
  refine Eq.trans (jb_nx (i := .aload_n 2) (n := 1) (q := (1, [some (.ref p0), some (.int i1), some (.ref p2), none], [.ref p2])) (jq qL_renamedByStep 0 rfl) rfl) ?_
  refine Eq.trans (jb_nx (i := .iconst 0) (n := 1) (q := (2, [some (.ref p0), some (.int i1), some (.ref p2), none], [.int 0, .ref p2])) (jq qL_renamedByStep 1 rfl) rfl) ?_
  refine Eq.trans (jb_nx (i := .aload_n 0) (n := 1) (q := (3, [some (.ref p0), some (.int i1), some (.ref p2), none], [.ref p0, .int 0, .ref p2])) (jq qL_renamedByStep 2 rfl) rfl) ?_
  refine Eq.trans (jb_nx (i := .iload_n 1) (n := 1) (q := (4, [some (.ref p0), some (.int i1), some (.ref p2), none], [.int i1, .ref p0, .int 0, .ref p2])) (jq qL_renamedByStep 3 rfl) rfl) ?_
  obtain ⟨b6, H⟩ := jm_O_inv H
  rcases jcI H with ⟨x3, h1, r2, H⟩ | ⟨w7, h8, r2, H⟩
  · refine Eq.trans (jb_nx (i := .invokevirtual 58) (n := 3) (q := (7, [some (.ref p0), some (.int i1), some (.ref p2), none], [.int x3, .int 0, .ref p2])) (jq qL_renamedByStep 4 rfl) (jo_cv (y := mX11_renamedByStep) rfl (Nat.le_of_ble_eq_true rfl) rfl (Nat.le_of_ble_eq_true rfl) b6 rfl r2 jo_ret)) ?_
    refine Eq.trans (jb_nx (i := .i2l) (n := 1) (q := (8, [some (.ref p0), some (.int i1), some (.ref p2), none], [.long x3.toInt64, .int 0, .ref p2])) (jq qL_renamedByStep 5 rfl) rfl) ?_
    obtain ⟨h4, e5, H⟩ := jbd H
    refine Eq.trans (jb_nx (i := .lastore) (n := 1) (q := (9, [some (.ref p0), some (.int i1), some (.ref p2), none], [])) (jq qL_renamedByStep 6 rfl) (jo_las e5)) ?_
    refine Eq.trans (jb_nx (i := .goto 9) (n := 3) (q := (18, [some (.ref p0), some (.int i1), some (.ref p2), none], [])) (jq qL_renamedByStep 7 rfl) rfl) ?_
    refine Eq.trans (jb_nx (i := .iconst 0) (n := 1) (q := (19, [some (.ref p0), some (.int i1), some (.ref p2), none], [.int 0])) (jq qL_renamedByStep 14 rfl) rfl) ?_
    exact Eq.trans (jb_rt (i := .ireturn) (n := 1) (jq qL_renamedByStep 15 rfl) (jo_iret rfl rfl)) H
  · by_cases c9 : w7 = 2
    · rw [if_pos c9] at H
      subst c9
      refine Eq.trans (jb_nx (i := .invokevirtual 58) (n := 3) (q := (13, [some (.ref p0), some (.int i1), some (.ref p2), none], [])) (jq qL_renamedByStep 4 rfl) (jo_cv (y := mX11_renamedByStep) rfl (Nat.le_of_ble_eq_true rfl) rfl (Nat.le_of_ble_eq_true rfl) b6 rfl r2 (jo_exh (t := 12) (k := 3) (List.cons_ne_nil _ _) rfl (jq qL_renamedByStep 8 rfl) (Nat.le_of_ble_eq_true rfl)))) ?_
      refine Eq.trans (jb_nx (i := .iconst 1) (n := 1) (q := (14, [some (.ref p0), some (.int i1), some (.ref p2), none], [.int 1])) (jq qL_renamedByStep 9 rfl) rfl) ?_
      exact Eq.trans (jb_rt (i := .ireturn) (n := 1) (jq qL_renamedByStep 10 rfl) (jo_iret rfl rfl)) H
    · rw [if_neg c9] at H
      by_cases c10 : w7 = 0
      · rw [if_pos c10] at H
        subst c10
        refine Eq.trans (jb_nx (i := .invokevirtual 58) (n := 3) (q := (16, [some (.ref p0), some (.int i1), some (.ref p2), none], [])) (jq qL_renamedByStep 4 rfl) (jo_cv (y := mX11_renamedByStep) rfl (Nat.le_of_ble_eq_true rfl) rfl (Nat.le_of_ble_eq_true rfl) b6 rfl r2 (jo_exh (t := 15) (k := 3) (List.cons_ne_nil _ _) rfl (jq qL_renamedByStep 11 rfl) (Nat.le_of_ble_eq_true rfl)))) ?_
        refine Eq.trans (jb_nx (i := .iconst 2) (n := 1) (q := (17, [some (.ref p0), some (.int i1), some (.ref p2), none], [.int 2])) (jq qL_renamedByStep 12 rfl) rfl) ?_
        exact Eq.trans (jb_rt (i := .ireturn) (n := 1) (jq qL_renamedByStep 13 rfl) (jo_iret rfl rfl)) H
      · rw [if_neg c10] at H
        cases H
/-! MaskPlaysLaw isSame (LMaskPlays;II[J)I -/
def tL_isSame : List (Nat × Instr × Nat) := [(0, .aload_n 3, 1), (1, .iconst 0, 1), (2, .aload_n 0, 1), (3, .iload_n 1, 1), (4, .iload_n 2, 1), (5, .invokevirtual 61, 3), (8, .ifCond .eq 7, 3), (11, .lconst 1, 1), (12, .goto 4, 3), (15, .lconst 0, 1), (16, .lastore, 1), (17, .goto 7, 3), (20, .astore 4, 2), (22, .iconst 1, 1), (23, .ireturn, 1), (24, .iconst 0, 1), (25, .ireturn, 1)]
set_option maxRecDepth 100000 in
theorem qL_isSame : ∀ q ∈ tL_isSame, decode cL_isSame q.1 = .ok (q.2.1, q.2.2) := by decide +kernel
theorem gL_isSame {d : Nat} {p0 : Nat} {i1 : Int32} {i2 : Int32} {p3 : Nat} {h : jm_H} {r : jm_R} (H : (jm_O h p0 11 (jc_I (jm_D d mX11_isSame [.ref p0, .int i1, .int i2] h) (fun x3 h1 => (if x3 = 0 then (jm_asl h1 p3 0 0).bind fun h5 => some (.inl (some (.int 0)), h5) else (jm_asl h1 p3 0 1).bind fun h7 => some (.inl (some (.int 0)), h7))) (fun w10 h11 => (if w10 = 2 then some (.inl (some (.int 1)), h11) else none)))) = some r) : jm_D (d + 1) mL_isSame [.ref p0, .int i1, .int i2, .ref p3] h = some r := by
  rw [jm_D_body (Nat.le_of_ble_eq_true rfl)]
  show jm_B d mL_isSame (0, [some (.ref p0), some (.int i1), some (.int i2), some (.ref p3), none], []) h = some r
  refine Eq.trans (jb_nx (i := .aload_n 3) (n := 1) (q := (1, [some (.ref p0), some (.int i1), some (.int i2), some (.ref p3), none], [.ref p3])) (jq qL_isSame 0 rfl) rfl) ?_
  refine Eq.trans (jb_nx (i := .iconst 0) (n := 1) (q := (2, [some (.ref p0), some (.int i1), some (.int i2), some (.ref p3), none], [.int 0, .ref p3])) (jq qL_isSame 1 rfl) rfl) ?_
  refine Eq.trans (jb_nx (i := .aload_n 0) (n := 1) (q := (3, [some (.ref p0), some (.int i1), some (.int i2), some (.ref p3), none], [.ref p0, .int 0, .ref p3])) (jq qL_isSame 2 rfl) rfl) ?_
  refine Eq.trans (jb_nx (i := .iload_n 1) (n := 1) (q := (4, [some (.ref p0), some (.int i1), some (.int i2), some (.ref p3), none], [.int i1, .ref p0, .int 0, .ref p3])) (jq qL_isSame 3 rfl) rfl) ?_
  refine Eq.trans (jb_nx (i := .iload_n 2) (n := 1) (q := (5, [some (.ref p0), some (.int i1), some (.int i2), some (.ref p3), none], [.int i2, .int i1, .ref p0, .int 0, .ref p3])) (jq qL_isSame 4 rfl) rfl) ?_
  obtain ⟨b9, H⟩ := jm_O_inv H
  rcases jcI H with ⟨x3, h1, r2, H⟩ | ⟨w10, h11, r2, H⟩
  · refine Eq.trans (jb_nx (i := .invokevirtual 61) (n := 3) (q := (8, [some (.ref p0), some (.int i1), some (.int i2), some (.ref p3), none], [.int x3, .int 0, .ref p3])) (jq qL_isSame 5 rfl) (jo_cv (y := mX11_isSame) rfl (Nat.le_of_ble_eq_true rfl) rfl (Nat.le_of_ble_eq_true rfl) b9 rfl r2 jo_ret)) ?_
    by_cases c4 : x3 = 0
    · rw [if_pos c4] at H
      refine Eq.trans (jb_nx (i := .ifCond .eq 7) (n := 3) (q := (15, [some (.ref p0), some (.int i1), some (.int i2), some (.ref p3), none], [.int 0, .ref p3])) (jq qL_isSame 6 rfl) (jo_ifT (jz_eqT c4) rfl)) ?_
      refine Eq.trans (jb_nx (i := .lconst 0) (n := 1) (q := (16, [some (.ref p0), some (.int i1), some (.int i2), some (.ref p3), none], [.long 0, .int 0, .ref p3])) (jq qL_isSame 9 rfl) rfl) ?_
      obtain ⟨h5, e6, H⟩ := jbd H
      refine Eq.trans (jb_nx (i := .lastore) (n := 1) (q := (17, [some (.ref p0), some (.int i1), some (.int i2), some (.ref p3), none], [])) (jq qL_isSame 10 rfl) (jo_las e6)) ?_
      refine Eq.trans (jb_nx (i := .goto 7) (n := 3) (q := (24, [some (.ref p0), some (.int i1), some (.int i2), some (.ref p3), none], [])) (jq qL_isSame 11 rfl) rfl) ?_
      refine Eq.trans (jb_nx (i := .iconst 0) (n := 1) (q := (25, [some (.ref p0), some (.int i1), some (.int i2), some (.ref p3), none], [.int 0])) (jq qL_isSame 15 rfl) rfl) ?_
      exact Eq.trans (jb_rt (i := .ireturn) (n := 1) (jq qL_isSame 16 rfl) (jo_iret rfl rfl)) H
    · rw [if_neg c4] at H
      refine Eq.trans (jb_nx (i := .ifCond .eq 7) (n := 3) (q := (11, [some (.ref p0), some (.int i1), some (.int i2), some (.ref p3), none], [.int 0, .ref p3])) (jq qL_isSame 6 rfl) (jo_ifF (jz_eqF c4))) ?_
      refine Eq.trans (jb_nx (i := .lconst 1) (n := 1) (q := (12, [some (.ref p0), some (.int i1), some (.int i2), some (.ref p3), none], [.long 1, .int 0, .ref p3])) (jq qL_isSame 7 rfl) rfl) ?_
      refine Eq.trans (jb_nx (i := .goto 4) (n := 3) (q := (16, [some (.ref p0), some (.int i1), some (.int i2), some (.ref p3), none], [.long 1, .int 0, .ref p3])) (jq qL_isSame 8 rfl) rfl) ?_
      obtain ⟨h7, e8, H⟩ := jbd H
      refine Eq.trans (jb_nx (i := .lastore) (n := 1) (q := (17, [some (.ref p0), some (.int i1), some (.int i2), some (.ref p3), none], [])) (jq qL_isSame 10 rfl) (jo_las e8)) ?_
      refine Eq.trans (jb_nx (i := .goto 7) (n := 3) (q := (24, [some (.ref p0), some (.int i1), some (.int i2), some (.ref p3), none], [])) (jq qL_isSame 11 rfl) rfl) ?_
      refine Eq.trans (jb_nx (i := .iconst 0) (n := 1) (q := (25, [some (.ref p0), some (.int i1), some (.int i2), some (.ref p3), none], [.int 0])) (jq qL_isSame 15 rfl) rfl) ?_
      exact Eq.trans (jb_rt (i := .ireturn) (n := 1) (jq qL_isSame 16 rfl) (jo_iret rfl rfl)) H
  · by_cases c12 : w10 = 2
    · rw [if_pos c12] at H
      subst c12
      refine Eq.trans (jb_nx (i := .invokevirtual 61) (n := 3) (q := (22, [some (.ref p0), some (.int i1), some (.int i2), some (.ref p3), none], [])) (jq qL_isSame 5 rfl) (jo_cv (y := mX11_isSame) rfl (Nat.le_of_ble_eq_true rfl) rfl (Nat.le_of_ble_eq_true rfl) b9 rfl r2 (jo_exha (t := 20) (k := 4) (List.cons_ne_nil _ _) rfl (jq qL_isSame 12 rfl) (Nat.le_of_ble_eq_true rfl)))) ?_
      refine Eq.trans (jb_nx (i := .iconst 1) (n := 1) (q := (23, [some (.ref p0), some (.int i1), some (.int i2), some (.ref p3), none], [.int 1])) (jq qL_isSame 13 rfl) rfl) ?_
      exact Eq.trans (jb_rt (i := .ireturn) (n := 1) (jq qL_isSame 14 rfl) (jo_iret rfl rfl)) H
    · rw [if_neg c12] at H
      cases H
/-! MaskPlaysLaw isAsTold (LMaskPlays;I[J)I -/
def tL_isAsTold : List (Nat × Instr × Nat) := [(0, .aload_n 2, 1), (1, .iconst 0, 1), (2, .aload_n 0, 1), (3, .iload_n 1, 1), (4, .invokevirtual 65, 3), (7, .ifCond .eq 7, 3), (10, .lconst 1, 1), (11, .goto 4, 3), (14, .lconst 0, 1), (15, .lastore, 1), (16, .goto 6, 3), (19, .astore_n 3, 1), (20, .iconst 1, 1), (21, .ireturn, 1), (22, .iconst 0, 1), (23, .ireturn, 1)]
set_option maxRecDepth 100000 in
theorem qL_isAsTold : ∀ q ∈ tL_isAsTold, decode cL_isAsTold q.1 = .ok (q.2.1, q.2.2) := by decide +kernel
theorem gL_isAsTold {d : Nat} {p0 : Nat} {i1 : Int32} {p2 : Nat} {h : jm_H} {r : jm_R} (H : (jm_O h p0 11 (jc_I (jm_D d mX11_isAsTold [.ref p0, .int i1] h) (fun x3 h1 => (if x3 = 0 then (jm_asl h1 p2 0 0).bind fun h5 => some (.inl (some (.int 0)), h5) else (jm_asl h1 p2 0 1).bind fun h7 => some (.inl (some (.int 0)), h7))) (fun w10 h11 => (if w10 = 2 then some (.inl (some (.int 1)), h11) else none)))) = some r) : jm_D (d + 1) mL_isAsTold [.ref p0, .int i1, .ref p2] h = some r := by
  rw [jm_D_body (Nat.le_of_ble_eq_true rfl)]
  show jm_B d mL_isAsTold (0, [some (.ref p0), some (.int i1), some (.ref p2), none], []) h = some r
  refine Eq.trans (jb_nx (i := .aload_n 2) (n := 1) (q := (1, [some (.ref p0), some (.int i1), some (.ref p2), none], [.ref p2])) (jq qL_isAsTold 0 rfl) rfl) ?_
  refine Eq.trans (jb_nx (i := .iconst 0) (n := 1) (q := (2, [some (.ref p0), some (.int i1), some (.ref p2), none], [.int 0, .ref p2])) (jq qL_isAsTold 1 rfl) rfl) ?_
  refine Eq.trans (jb_nx (i := .aload_n 0) (n := 1) (q := (3, [some (.ref p0), some (.int i1), some (.ref p2), none], [.ref p0, .int 0, .ref p2])) (jq qL_isAsTold 2 rfl) rfl) ?_
  refine Eq.trans (jb_nx (i := .iload_n 1) (n := 1) (q := (4, [some (.ref p0), some (.int i1), some (.ref p2), none], [.int i1, .ref p0, .int 0, .ref p2])) (jq qL_isAsTold 3 rfl) rfl) ?_
  obtain ⟨b9, H⟩ := jm_O_inv H
  rcases jcI H with ⟨x3, h1, r2, H⟩ | ⟨w10, h11, r2, H⟩
  · refine Eq.trans (jb_nx (i := .invokevirtual 65) (n := 3) (q := (7, [some (.ref p0), some (.int i1), some (.ref p2), none], [.int x3, .int 0, .ref p2])) (jq qL_isAsTold 4 rfl) (jo_cv (y := mX11_isAsTold) rfl (Nat.le_of_ble_eq_true rfl) rfl (Nat.le_of_ble_eq_true rfl) b9 rfl r2 jo_ret)) ?_
    by_cases c4 : x3 = 0
    · rw [if_pos c4] at H
      refine Eq.trans (jb_nx (i := .ifCond .eq 7) (n := 3) (q := (14, [some (.ref p0), some (.int i1), some (.ref p2), none], [.int 0, .ref p2])) (jq qL_isAsTold 5 rfl) (jo_ifT (jz_eqT c4) rfl)) ?_
      refine Eq.trans (jb_nx (i := .lconst 0) (n := 1) (q := (15, [some (.ref p0), some (.int i1), some (.ref p2), none], [.long 0, .int 0, .ref p2])) (jq qL_isAsTold 8 rfl) rfl) ?_
      obtain ⟨h5, e6, H⟩ := jbd H
      refine Eq.trans (jb_nx (i := .lastore) (n := 1) (q := (16, [some (.ref p0), some (.int i1), some (.ref p2), none], [])) (jq qL_isAsTold 9 rfl) (jo_las e6)) ?_
      refine Eq.trans (jb_nx (i := .goto 6) (n := 3) (q := (22, [some (.ref p0), some (.int i1), some (.ref p2), none], [])) (jq qL_isAsTold 10 rfl) rfl) ?_
      refine Eq.trans (jb_nx (i := .iconst 0) (n := 1) (q := (23, [some (.ref p0), some (.int i1), some (.ref p2), none], [.int 0])) (jq qL_isAsTold 14 rfl) rfl) ?_
      exact Eq.trans (jb_rt (i := .ireturn) (n := 1) (jq qL_isAsTold 15 rfl) (jo_iret rfl rfl)) H
    · rw [if_neg c4] at H
      refine Eq.trans (jb_nx (i := .ifCond .eq 7) (n := 3) (q := (10, [some (.ref p0), some (.int i1), some (.ref p2), none], [.int 0, .ref p2])) (jq qL_isAsTold 5 rfl) (jo_ifF (jz_eqF c4))) ?_
      refine Eq.trans (jb_nx (i := .lconst 1) (n := 1) (q := (11, [some (.ref p0), some (.int i1), some (.ref p2), none], [.long 1, .int 0, .ref p2])) (jq qL_isAsTold 6 rfl) rfl) ?_
      refine Eq.trans (jb_nx (i := .goto 4) (n := 3) (q := (15, [some (.ref p0), some (.int i1), some (.ref p2), none], [.long 1, .int 0, .ref p2])) (jq qL_isAsTold 7 rfl) rfl) ?_
      obtain ⟨h7, e8, H⟩ := jbd H
      refine Eq.trans (jb_nx (i := .lastore) (n := 1) (q := (16, [some (.ref p0), some (.int i1), some (.ref p2), none], [])) (jq qL_isAsTold 9 rfl) (jo_las e8)) ?_
      refine Eq.trans (jb_nx (i := .goto 6) (n := 3) (q := (22, [some (.ref p0), some (.int i1), some (.ref p2), none], [])) (jq qL_isAsTold 10 rfl) rfl) ?_
      refine Eq.trans (jb_nx (i := .iconst 0) (n := 1) (q := (23, [some (.ref p0), some (.int i1), some (.ref p2), none], [.int 0])) (jq qL_isAsTold 14 rfl) rfl) ?_
      exact Eq.trans (jb_rt (i := .ireturn) (n := 1) (jq qL_isAsTold 15 rfl) (jo_iret rfl rfl)) H
  · by_cases c12 : w10 = 2
    · rw [if_pos c12] at H
      subst c12
      refine Eq.trans (jb_nx (i := .invokevirtual 65) (n := 3) (q := (20, [some (.ref p0), some (.int i1), some (.ref p2), none], [])) (jq qL_isAsTold 4 rfl) (jo_cv (y := mX11_isAsTold) rfl (Nat.le_of_ble_eq_true rfl) rfl (Nat.le_of_ble_eq_true rfl) b9 rfl r2 (jo_exh (t := 19) (k := 3) (List.cons_ne_nil _ _) rfl (jq qL_isAsTold 11 rfl) (Nat.le_of_ble_eq_true rfl)))) ?_
      refine Eq.trans (jb_nx (i := .iconst 1) (n := 1) (q := (21, [some (.ref p0), some (.int i1), some (.ref p2), none], [.int 1])) (jq qL_isAsTold 12 rfl) rfl) ?_
      exact Eq.trans (jb_rt (i := .ireturn) (n := 1) (jq qL_isAsTold 13 rfl) (jo_iret rfl rfl)) H
    · rw [if_neg c12] at H
      cases H
/-! MaskPlaysLaw doStep (LMaskPlays;I[J)I -/
def tL_doStep : List (Nat × Instr × Nat) := [(0, .aload_n 2, 1), (1, .iconst 0, 1), (2, .aload_n 0, 1), (3, .iload_n 1, 1), (4, .invokevirtual 68, 3), (7, .i2l, 1), (8, .lastore, 1), (9, .goto 9, 3), (12, .astore_n 3, 1), (13, .iconst 1, 1), (14, .ireturn, 1), (15, .astore_n 3, 1), (16, .iconst 2, 1), (17, .ireturn, 1), (18, .iconst 0, 1), (19, .ireturn, 1)]
set_option maxRecDepth 100000 in
theorem qL_doStep : ∀ q ∈ tL_doStep, decode cL_doStep q.1 = .ok (q.2.1, q.2.2) := by decide +kernel
theorem gL_doStep {d : Nat} {p0 : Nat} {i1 : Int32} {p2 : Nat} {h : jm_H} {r : jm_R} (H : (jm_O h p0 11 (jc_I (jm_D d mX11_doStep [.ref p0, .int i1] h) (fun x3 h1 => (jm_asl h1 p2 0 x3.toInt64).bind fun h4 => some (.inl (some (.int 0)), h4)) (fun w7 h8 => (if w7 = 2 then some (.inl (some (.int 1)), h8) else (if w7 = 0 then some (.inl (some (.int 2)), h8) else none))))) = some r) : jm_D (d + 1) mL_doStep [.ref p0, .int i1, .ref p2] h = some r := by
  rw [jm_D_body (Nat.le_of_ble_eq_true rfl)]
  show jm_B d mL_doStep (0, [some (.ref p0), some (.int i1), some (.ref p2), none], []) h = some r
  refine Eq.trans (jb_nx (i := .aload_n 2) (n := 1) (q := (1, [some (.ref p0), some (.int i1), some (.ref p2), none], [.ref p2])) (jq qL_doStep 0 rfl) rfl) ?_
  refine Eq.trans (jb_nx (i := .iconst 0) (n := 1) (q := (2, [some (.ref p0), some (.int i1), some (.ref p2), none], [.int 0, .ref p2])) (jq qL_doStep 1 rfl) rfl) ?_
  refine Eq.trans (jb_nx (i := .aload_n 0) (n := 1) (q := (3, [some (.ref p0), some (.int i1), some (.ref p2), none], [.ref p0, .int 0, .ref p2])) (jq qL_doStep 2 rfl) rfl) ?_
  refine Eq.trans (jb_nx (i := .iload_n 1) (n := 1) (q := (4, [some (.ref p0), some (.int i1), some (.ref p2), none], [.int i1, .ref p0, .int 0, .ref p2])) (jq qL_doStep 3 rfl) rfl) ?_
  obtain ⟨b6, H⟩ := jm_O_inv H
  rcases jcI H with ⟨x3, h1, r2, H⟩ | ⟨w7, h8, r2, H⟩
  · refine Eq.trans (jb_nx (i := .invokevirtual 68) (n := 3) (q := (7, [some (.ref p0), some (.int i1), some (.ref p2), none], [.int x3, .int 0, .ref p2])) (jq qL_doStep 4 rfl) (jo_cv (y := mX11_doStep) rfl (Nat.le_of_ble_eq_true rfl) rfl (Nat.le_of_ble_eq_true rfl) b6 rfl r2 jo_ret)) ?_
    refine Eq.trans (jb_nx (i := .i2l) (n := 1) (q := (8, [some (.ref p0), some (.int i1), some (.ref p2), none], [.long x3.toInt64, .int 0, .ref p2])) (jq qL_doStep 5 rfl) rfl) ?_
    obtain ⟨h4, e5, H⟩ := jbd H
    refine Eq.trans (jb_nx (i := .lastore) (n := 1) (q := (9, [some (.ref p0), some (.int i1), some (.ref p2), none], [])) (jq qL_doStep 6 rfl) (jo_las e5)) ?_
    refine Eq.trans (jb_nx (i := .goto 9) (n := 3) (q := (18, [some (.ref p0), some (.int i1), some (.ref p2), none], [])) (jq qL_doStep 7 rfl) rfl) ?_
    refine Eq.trans (jb_nx (i := .iconst 0) (n := 1) (q := (19, [some (.ref p0), some (.int i1), some (.ref p2), none], [.int 0])) (jq qL_doStep 14 rfl) rfl) ?_
    exact Eq.trans (jb_rt (i := .ireturn) (n := 1) (jq qL_doStep 15 rfl) (jo_iret rfl rfl)) H
  · by_cases c9 : w7 = 2
    · rw [if_pos c9] at H
      subst c9
      refine Eq.trans (jb_nx (i := .invokevirtual 68) (n := 3) (q := (13, [some (.ref p0), some (.int i1), some (.ref p2), none], [])) (jq qL_doStep 4 rfl) (jo_cv (y := mX11_doStep) rfl (Nat.le_of_ble_eq_true rfl) rfl (Nat.le_of_ble_eq_true rfl) b6 rfl r2 (jo_exh (t := 12) (k := 3) (List.cons_ne_nil _ _) rfl (jq qL_doStep 8 rfl) (Nat.le_of_ble_eq_true rfl)))) ?_
      refine Eq.trans (jb_nx (i := .iconst 1) (n := 1) (q := (14, [some (.ref p0), some (.int i1), some (.ref p2), none], [.int 1])) (jq qL_doStep 9 rfl) rfl) ?_
      exact Eq.trans (jb_rt (i := .ireturn) (n := 1) (jq qL_doStep 10 rfl) (jo_iret rfl rfl)) H
    · rw [if_neg c9] at H
      by_cases c10 : w7 = 0
      · rw [if_pos c10] at H
        subst c10
        refine Eq.trans (jb_nx (i := .invokevirtual 68) (n := 3) (q := (16, [some (.ref p0), some (.int i1), some (.ref p2), none], [])) (jq qL_doStep 4 rfl) (jo_cv (y := mX11_doStep) rfl (Nat.le_of_ble_eq_true rfl) rfl (Nat.le_of_ble_eq_true rfl) b6 rfl r2 (jo_exh (t := 15) (k := 3) (List.cons_ne_nil _ _) rfl (jq qL_doStep 11 rfl) (Nat.le_of_ble_eq_true rfl)))) ?_
        refine Eq.trans (jb_nx (i := .iconst 2) (n := 1) (q := (17, [some (.ref p0), some (.int i1), some (.ref p2), none], [.int 2])) (jq qL_doStep 12 rfl) rfl) ?_
        exact Eq.trans (jb_rt (i := .ireturn) (n := 1) (jq qL_doStep 13 rfl) (jo_iret rfl rfl)) H
      · rw [if_neg c10] at H
        cases H
/-! MaskPlaysLaw give (LMaskPlays;II[J)I -/
def tL_give : List (Nat × Instr × Nat) := [(0, .aload_n 3, 1), (1, .iconst 0, 1), (2, .aload_n 0, 1), (3, .iload_n 1, 1), (4, .iload_n 2, 1), (5, .invokevirtual 71, 3), (8, .i2l, 1), (9, .lastore, 1), (10, .goto 11, 3), (13, .astore 4, 2), (15, .iconst 1, 1), (16, .ireturn, 1), (17, .astore 4, 2), (19, .iconst 2, 1), (20, .ireturn, 1), (21, .iconst 0, 1), (22, .ireturn, 1)]
set_option maxRecDepth 100000 in
theorem qL_give : ∀ q ∈ tL_give, decode cL_give q.1 = .ok (q.2.1, q.2.2) := by decide +kernel
theorem gL_give {d : Nat} {p0 : Nat} {i1 : Int32} {i2 : Int32} {p3 : Nat} {h : jm_H} {r : jm_R} (H : (jm_O h p0 11 (jc_I (jm_D d mX11_give [.ref p0, .int i1, .int i2] h) (fun x3 h1 => (jm_asl h1 p3 0 x3.toInt64).bind fun h4 => some (.inl (some (.int 0)), h4)) (fun w7 h8 => (if w7 = 2 then some (.inl (some (.int 1)), h8) else (if w7 = 0 then some (.inl (some (.int 2)), h8) else none))))) = some r) : jm_D (d + 1) mL_give [.ref p0, .int i1, .int i2, .ref p3] h = some r := by
  rw [jm_D_body (Nat.le_of_ble_eq_true rfl)]
  show jm_B d mL_give (0, [some (.ref p0), some (.int i1), some (.int i2), some (.ref p3), none], []) h = some r
  refine Eq.trans (jb_nx (i := .aload_n 3) (n := 1) (q := (1, [some (.ref p0), some (.int i1), some (.int i2), some (.ref p3), none], [.ref p3])) (jq qL_give 0 rfl) rfl) ?_
  refine Eq.trans (jb_nx (i := .iconst 0) (n := 1) (q := (2, [some (.ref p0), some (.int i1), some (.int i2), some (.ref p3), none], [.int 0, .ref p3])) (jq qL_give 1 rfl) rfl) ?_
  refine Eq.trans (jb_nx (i := .aload_n 0) (n := 1) (q := (3, [some (.ref p0), some (.int i1), some (.int i2), some (.ref p3), none], [.ref p0, .int 0, .ref p3])) (jq qL_give 2 rfl) rfl) ?_
  refine Eq.trans (jb_nx (i := .iload_n 1) (n := 1) (q := (4, [some (.ref p0), some (.int i1), some (.int i2), some (.ref p3), none], [.int i1, .ref p0, .int 0, .ref p3])) (jq qL_give 3 rfl) rfl) ?_
  refine Eq.trans (jb_nx (i := .iload_n 2) (n := 1) (q := (5, [some (.ref p0), some (.int i1), some (.int i2), some (.ref p3), none], [.int i2, .int i1, .ref p0, .int 0, .ref p3])) (jq qL_give 4 rfl) rfl) ?_
  obtain ⟨b6, H⟩ := jm_O_inv H
  rcases jcI H with ⟨x3, h1, r2, H⟩ | ⟨w7, h8, r2, H⟩
  · refine Eq.trans (jb_nx (i := .invokevirtual 71) (n := 3) (q := (8, [some (.ref p0), some (.int i1), some (.int i2), some (.ref p3), none], [.int x3, .int 0, .ref p3])) (jq qL_give 5 rfl) (jo_cv (y := mX11_give) rfl (Nat.le_of_ble_eq_true rfl) rfl (Nat.le_of_ble_eq_true rfl) b6 rfl r2 jo_ret)) ?_
    refine Eq.trans (jb_nx (i := .i2l) (n := 1) (q := (9, [some (.ref p0), some (.int i1), some (.int i2), some (.ref p3), none], [.long x3.toInt64, .int 0, .ref p3])) (jq qL_give 6 rfl) rfl) ?_
    obtain ⟨h4, e5, H⟩ := jbd H
    refine Eq.trans (jb_nx (i := .lastore) (n := 1) (q := (10, [some (.ref p0), some (.int i1), some (.int i2), some (.ref p3), none], [])) (jq qL_give 7 rfl) (jo_las e5)) ?_
    refine Eq.trans (jb_nx (i := .goto 11) (n := 3) (q := (21, [some (.ref p0), some (.int i1), some (.int i2), some (.ref p3), none], [])) (jq qL_give 8 rfl) rfl) ?_
    refine Eq.trans (jb_nx (i := .iconst 0) (n := 1) (q := (22, [some (.ref p0), some (.int i1), some (.int i2), some (.ref p3), none], [.int 0])) (jq qL_give 15 rfl) rfl) ?_
    exact Eq.trans (jb_rt (i := .ireturn) (n := 1) (jq qL_give 16 rfl) (jo_iret rfl rfl)) H
  · by_cases c9 : w7 = 2
    · rw [if_pos c9] at H
      subst c9
      refine Eq.trans (jb_nx (i := .invokevirtual 71) (n := 3) (q := (15, [some (.ref p0), some (.int i1), some (.int i2), some (.ref p3), none], [])) (jq qL_give 5 rfl) (jo_cv (y := mX11_give) rfl (Nat.le_of_ble_eq_true rfl) rfl (Nat.le_of_ble_eq_true rfl) b6 rfl r2 (jo_exha (t := 13) (k := 4) (List.cons_ne_nil _ _) rfl (jq qL_give 9 rfl) (Nat.le_of_ble_eq_true rfl)))) ?_
      refine Eq.trans (jb_nx (i := .iconst 1) (n := 1) (q := (16, [some (.ref p0), some (.int i1), some (.int i2), some (.ref p3), none], [.int 1])) (jq qL_give 10 rfl) rfl) ?_
      exact Eq.trans (jb_rt (i := .ireturn) (n := 1) (jq qL_give 11 rfl) (jo_iret rfl rfl)) H
    · rw [if_neg c9] at H
      by_cases c10 : w7 = 0
      · rw [if_pos c10] at H
        subst c10
        refine Eq.trans (jb_nx (i := .invokevirtual 71) (n := 3) (q := (19, [some (.ref p0), some (.int i1), some (.int i2), some (.ref p3), none], [])) (jq qL_give 5 rfl) (jo_cv (y := mX11_give) rfl (Nat.le_of_ble_eq_true rfl) rfl (Nat.le_of_ble_eq_true rfl) b6 rfl r2 (jo_exha (t := 17) (k := 4) (List.cons_ne_nil _ _) rfl (jq qL_give 12 rfl) (Nat.le_of_ble_eq_true rfl)))) ?_
        refine Eq.trans (jb_nx (i := .iconst 2) (n := 1) (q := (20, [some (.ref p0), some (.int i1), some (.int i2), some (.ref p3), none], [.int 2])) (jq qL_give 13 rfl) rfl) ?_
        exact Eq.trans (jb_rt (i := .ireturn) (n := 1) (jq qL_give 14 rfl) (jo_iret rfl rfl)) H
      · rw [if_neg c10] at H
        cases H
/-! MaskPlaysLaw renew (LMaskPlays;I[J)I -/
def tL_renew : List (Nat × Instr × Nat) := [(0, .aload_n 2, 1), (1, .iconst 0, 1), (2, .aload_n 0, 1), (3, .iload_n 1, 1), (4, .invokevirtual 74, 3), (7, .i2l, 1), (8, .lastore, 1), (9, .goto 6, 3), (12, .astore_n 3, 1), (13, .iconst 1, 1), (14, .ireturn, 1), (15, .iconst 0, 1), (16, .ireturn, 1)]
set_option maxRecDepth 100000 in
theorem qL_renew : ∀ q ∈ tL_renew, decode cL_renew q.1 = .ok (q.2.1, q.2.2) := by decide +kernel
theorem gL_renew {d : Nat} {p0 : Nat} {i1 : Int32} {p2 : Nat} {h : jm_H} {r : jm_R} (H : (jm_O h p0 11 (jc_I (jm_D d mX11_renew [.ref p0, .int i1] h) (fun x3 h1 => (jm_asl h1 p2 0 x3.toInt64).bind fun h4 => some (.inl (some (.int 0)), h4)) (fun w7 h8 => (if w7 = 2 then some (.inl (some (.int 1)), h8) else none)))) = some r) : jm_D (d + 1) mL_renew [.ref p0, .int i1, .ref p2] h = some r := by
  rw [jm_D_body (Nat.le_of_ble_eq_true rfl)]
  show jm_B d mL_renew (0, [some (.ref p0), some (.int i1), some (.ref p2), none], []) h = some r
  refine Eq.trans (jb_nx (i := .aload_n 2) (n := 1) (q := (1, [some (.ref p0), some (.int i1), some (.ref p2), none], [.ref p2])) (jq qL_renew 0 rfl) rfl) ?_
  refine Eq.trans (jb_nx (i := .iconst 0) (n := 1) (q := (2, [some (.ref p0), some (.int i1), some (.ref p2), none], [.int 0, .ref p2])) (jq qL_renew 1 rfl) rfl) ?_
  refine Eq.trans (jb_nx (i := .aload_n 0) (n := 1) (q := (3, [some (.ref p0), some (.int i1), some (.ref p2), none], [.ref p0, .int 0, .ref p2])) (jq qL_renew 2 rfl) rfl) ?_
  refine Eq.trans (jb_nx (i := .iload_n 1) (n := 1) (q := (4, [some (.ref p0), some (.int i1), some (.ref p2), none], [.int i1, .ref p0, .int 0, .ref p2])) (jq qL_renew 3 rfl) rfl) ?_
  obtain ⟨b6, H⟩ := jm_O_inv H
  rcases jcI H with ⟨x3, h1, r2, H⟩ | ⟨w7, h8, r2, H⟩
  · refine Eq.trans (jb_nx (i := .invokevirtual 74) (n := 3) (q := (7, [some (.ref p0), some (.int i1), some (.ref p2), none], [.int x3, .int 0, .ref p2])) (jq qL_renew 4 rfl) (jo_cv (y := mX11_renew) rfl (Nat.le_of_ble_eq_true rfl) rfl (Nat.le_of_ble_eq_true rfl) b6 rfl r2 jo_ret)) ?_
    refine Eq.trans (jb_nx (i := .i2l) (n := 1) (q := (8, [some (.ref p0), some (.int i1), some (.ref p2), none], [.long x3.toInt64, .int 0, .ref p2])) (jq qL_renew 5 rfl) rfl) ?_
    obtain ⟨h4, e5, H⟩ := jbd H
    refine Eq.trans (jb_nx (i := .lastore) (n := 1) (q := (9, [some (.ref p0), some (.int i1), some (.ref p2), none], [])) (jq qL_renew 6 rfl) (jo_las e5)) ?_
    refine Eq.trans (jb_nx (i := .goto 6) (n := 3) (q := (15, [some (.ref p0), some (.int i1), some (.ref p2), none], [])) (jq qL_renew 7 rfl) rfl) ?_
    refine Eq.trans (jb_nx (i := .iconst 0) (n := 1) (q := (16, [some (.ref p0), some (.int i1), some (.ref p2), none], [.int 0])) (jq qL_renew 11 rfl) rfl) ?_
    exact Eq.trans (jb_rt (i := .ireturn) (n := 1) (jq qL_renew 12 rfl) (jo_iret rfl rfl)) H
  · by_cases c9 : w7 = 2
    · rw [if_pos c9] at H
      subst c9
      refine Eq.trans (jb_nx (i := .invokevirtual 74) (n := 3) (q := (13, [some (.ref p0), some (.int i1), some (.ref p2), none], [])) (jq qL_renew 4 rfl) (jo_cv (y := mX11_renew) rfl (Nat.le_of_ble_eq_true rfl) rfl (Nat.le_of_ble_eq_true rfl) b6 rfl r2 (jo_exh (t := 12) (k := 3) (List.cons_ne_nil _ _) rfl (jq qL_renew 8 rfl) (Nat.le_of_ble_eq_true rfl)))) ?_
      refine Eq.trans (jb_nx (i := .iconst 1) (n := 1) (q := (14, [some (.ref p0), some (.int i1), some (.ref p2), none], [.int 1])) (jq qL_renew 9 rfl) rfl) ?_
      exact Eq.trans (jb_rt (i := .ireturn) (n := 1) (jq qL_renew 10 rfl) (jo_iret rfl rfl)) H
    · rw [if_neg c9] at H
      cases H
/-! MaskPlaysLaw passEvenings (LMaskPlays;I[J)I -/
def tL_passEvenings : List (Nat × Instr × Nat) := [(0, .aload_n 2, 1), (1, .iconst 0, 1), (2, .aload_n 0, 1), (3, .iload_n 1, 1), (4, .invokevirtual 77, 3), (7, .i2l, 1), (8, .lastore, 1), (9, .goto 6, 3), (12, .astore_n 3, 1), (13, .iconst 1, 1), (14, .ireturn, 1), (15, .iconst 0, 1), (16, .ireturn, 1)]
set_option maxRecDepth 100000 in
theorem qL_passEvenings : ∀ q ∈ tL_passEvenings, decode cL_passEvenings q.1 = .ok (q.2.1, q.2.2) := by decide +kernel
theorem gL_passEvenings {d : Nat} {p0 : Nat} {i1 : Int32} {p2 : Nat} {h : jm_H} {r : jm_R} (H : (jm_O h p0 11 (jc_I (jm_D d mX11_passEvenings [.ref p0, .int i1] h) (fun x3 h1 => (jm_asl h1 p2 0 x3.toInt64).bind fun h4 => some (.inl (some (.int 0)), h4)) (fun w7 h8 => (if w7 = 1 then some (.inl (some (.int 1)), h8) else none)))) = some r) : jm_D (d + 1) mL_passEvenings [.ref p0, .int i1, .ref p2] h = some r := by
  rw [jm_D_body (Nat.le_of_ble_eq_true rfl)]
  show jm_B d mL_passEvenings (0, [some (.ref p0), some (.int i1), some (.ref p2), none], []) h = some r
  refine Eq.trans (jb_nx (i := .aload_n 2) (n := 1) (q := (1, [some (.ref p0), some (.int i1), some (.ref p2), none], [.ref p2])) (jq qL_passEvenings 0 rfl) rfl) ?_
  refine Eq.trans (jb_nx (i := .iconst 0) (n := 1) (q := (2, [some (.ref p0), some (.int i1), some (.ref p2), none], [.int 0, .ref p2])) (jq qL_passEvenings 1 rfl) rfl) ?_
  refine Eq.trans (jb_nx (i := .aload_n 0) (n := 1) (q := (3, [some (.ref p0), some (.int i1), some (.ref p2), none], [.ref p0, .int 0, .ref p2])) (jq qL_passEvenings 2 rfl) rfl) ?_
  refine Eq.trans (jb_nx (i := .iload_n 1) (n := 1) (q := (4, [some (.ref p0), some (.int i1), some (.ref p2), none], [.int i1, .ref p0, .int 0, .ref p2])) (jq qL_passEvenings 3 rfl) rfl) ?_
  obtain ⟨b6, H⟩ := jm_O_inv H
  rcases jcI H with ⟨x3, h1, r2, H⟩ | ⟨w7, h8, r2, H⟩
  · refine Eq.trans (jb_nx (i := .invokevirtual 77) (n := 3) (q := (7, [some (.ref p0), some (.int i1), some (.ref p2), none], [.int x3, .int 0, .ref p2])) (jq qL_passEvenings 4 rfl) (jo_cv (y := mX11_passEvenings) rfl (Nat.le_of_ble_eq_true rfl) rfl (Nat.le_of_ble_eq_true rfl) b6 rfl r2 jo_ret)) ?_
    refine Eq.trans (jb_nx (i := .i2l) (n := 1) (q := (8, [some (.ref p0), some (.int i1), some (.ref p2), none], [.long x3.toInt64, .int 0, .ref p2])) (jq qL_passEvenings 5 rfl) rfl) ?_
    obtain ⟨h4, e5, H⟩ := jbd H
    refine Eq.trans (jb_nx (i := .lastore) (n := 1) (q := (9, [some (.ref p0), some (.int i1), some (.ref p2), none], [])) (jq qL_passEvenings 6 rfl) (jo_las e5)) ?_
    refine Eq.trans (jb_nx (i := .goto 6) (n := 3) (q := (15, [some (.ref p0), some (.int i1), some (.ref p2), none], [])) (jq qL_passEvenings 7 rfl) rfl) ?_
    refine Eq.trans (jb_nx (i := .iconst 0) (n := 1) (q := (16, [some (.ref p0), some (.int i1), some (.ref p2), none], [.int 0])) (jq qL_passEvenings 11 rfl) rfl) ?_
    exact Eq.trans (jb_rt (i := .ireturn) (n := 1) (jq qL_passEvenings 12 rfl) (jo_iret rfl rfl)) H
  · by_cases c9 : w7 = 1
    · rw [if_pos c9] at H
      subst c9
      refine Eq.trans (jb_nx (i := .invokevirtual 77) (n := 3) (q := (13, [some (.ref p0), some (.int i1), some (.ref p2), none], [])) (jq qL_passEvenings 4 rfl) (jo_cv (y := mX11_passEvenings) rfl (Nat.le_of_ble_eq_true rfl) rfl (Nat.le_of_ble_eq_true rfl) b6 rfl r2 (jo_exh (t := 12) (k := 3) (List.cons_ne_nil _ _) rfl (jq qL_passEvenings 8 rfl) (Nat.le_of_ble_eq_true rfl)))) ?_
      refine Eq.trans (jb_nx (i := .iconst 1) (n := 1) (q := (14, [some (.ref p0), some (.int i1), some (.ref p2), none], [.int 1])) (jq qL_passEvenings 9 rfl) rfl) ?_
      exact Eq.trans (jb_rt (i := .ireturn) (n := 1) (jq qL_passEvenings 10 rfl) (jo_iret rfl rfl)) H
    · rw [if_neg c9] at H
      cases H
/-! MaskPlaysLaw stepsToFinish (LMaskPlays;I[J)I -/
def tL_stepsToFinish : List (Nat × Instr × Nat) := [(0, .aload_n 2, 1), (1, .iconst 0, 1), (2, .aload_n 0, 1), (3, .iload_n 1, 1), (4, .invokevirtual 80, 3), (7, .i2l, 1), (8, .lastore, 1), (9, .goto 9, 3), (12, .astore_n 3, 1), (13, .iconst 1, 1), (14, .ireturn, 1), (15, .astore_n 3, 1), (16, .iconst 2, 1), (17, .ireturn, 1), (18, .iconst 0, 1), (19, .ireturn, 1)]
set_option maxRecDepth 100000 in
theorem qL_stepsToFinish : ∀ q ∈ tL_stepsToFinish, decode cL_stepsToFinish q.1 = .ok (q.2.1, q.2.2) := by decide +kernel
theorem gL_stepsToFinish {d : Nat} {p0 : Nat} {i1 : Int32} {p2 : Nat} {h : jm_H} {r : jm_R} (H : (jm_O h p0 11 (jc_I (jm_D d mX11_stepsToFinish [.ref p0, .int i1] h) (fun x3 h1 => (jm_asl h1 p2 0 x3.toInt64).bind fun h4 => some (.inl (some (.int 0)), h4)) (fun w7 h8 => (if w7 = 2 then some (.inl (some (.int 1)), h8) else (if w7 = 0 then some (.inl (some (.int 2)), h8) else none))))) = some r) : jm_D (d + 1) mL_stepsToFinish [.ref p0, .int i1, .ref p2] h = some r := by
  rw [jm_D_body (Nat.le_of_ble_eq_true rfl)]
  show jm_B d mL_stepsToFinish (0, [some (.ref p0), some (.int i1), some (.ref p2), none], []) h = some r
  refine Eq.trans (jb_nx (i := .aload_n 2) (n := 1) (q := (1, [some (.ref p0), some (.int i1), some (.ref p2), none], [.ref p2])) (jq qL_stepsToFinish 0 rfl) rfl) ?_
  refine Eq.trans (jb_nx (i := .iconst 0) (n := 1) (q := (2, [some (.ref p0), some (.int i1), some (.ref p2), none], [.int 0, .ref p2])) (jq qL_stepsToFinish 1 rfl) rfl) ?_
  refine Eq.trans (jb_nx (i := .aload_n 0) (n := 1) (q := (3, [some (.ref p0), some (.int i1), some (.ref p2), none], [.ref p0, .int 0, .ref p2])) (jq qL_stepsToFinish 2 rfl) rfl) ?_
  refine Eq.trans (jb_nx (i := .iload_n 1) (n := 1) (q := (4, [some (.ref p0), some (.int i1), some (.ref p2), none], [.int i1, .ref p0, .int 0, .ref p2])) (jq qL_stepsToFinish 3 rfl) rfl) ?_
  obtain ⟨b6, H⟩ := jm_O_inv H
  rcases jcI H with ⟨x3, h1, r2, H⟩ | ⟨w7, h8, r2, H⟩
  · refine Eq.trans (jb_nx (i := .invokevirtual 80) (n := 3) (q := (7, [some (.ref p0), some (.int i1), some (.ref p2), none], [.int x3, .int 0, .ref p2])) (jq qL_stepsToFinish 4 rfl) (jo_cv (y := mX11_stepsToFinish) rfl (Nat.le_of_ble_eq_true rfl) rfl (Nat.le_of_ble_eq_true rfl) b6 rfl r2 jo_ret)) ?_
    refine Eq.trans (jb_nx (i := .i2l) (n := 1) (q := (8, [some (.ref p0), some (.int i1), some (.ref p2), none], [.long x3.toInt64, .int 0, .ref p2])) (jq qL_stepsToFinish 5 rfl) rfl) ?_
    obtain ⟨h4, e5, H⟩ := jbd H
    refine Eq.trans (jb_nx (i := .lastore) (n := 1) (q := (9, [some (.ref p0), some (.int i1), some (.ref p2), none], [])) (jq qL_stepsToFinish 6 rfl) (jo_las e5)) ?_
    refine Eq.trans (jb_nx (i := .goto 9) (n := 3) (q := (18, [some (.ref p0), some (.int i1), some (.ref p2), none], [])) (jq qL_stepsToFinish 7 rfl) rfl) ?_
    refine Eq.trans (jb_nx (i := .iconst 0) (n := 1) (q := (19, [some (.ref p0), some (.int i1), some (.ref p2), none], [.int 0])) (jq qL_stepsToFinish 14 rfl) rfl) ?_
    exact Eq.trans (jb_rt (i := .ireturn) (n := 1) (jq qL_stepsToFinish 15 rfl) (jo_iret rfl rfl)) H
  · by_cases c9 : w7 = 2
    · rw [if_pos c9] at H
      subst c9
      refine Eq.trans (jb_nx (i := .invokevirtual 80) (n := 3) (q := (13, [some (.ref p0), some (.int i1), some (.ref p2), none], [])) (jq qL_stepsToFinish 4 rfl) (jo_cv (y := mX11_stepsToFinish) rfl (Nat.le_of_ble_eq_true rfl) rfl (Nat.le_of_ble_eq_true rfl) b6 rfl r2 (jo_exh (t := 12) (k := 3) (List.cons_ne_nil _ _) rfl (jq qL_stepsToFinish 8 rfl) (Nat.le_of_ble_eq_true rfl)))) ?_
      refine Eq.trans (jb_nx (i := .iconst 1) (n := 1) (q := (14, [some (.ref p0), some (.int i1), some (.ref p2), none], [.int 1])) (jq qL_stepsToFinish 9 rfl) rfl) ?_
      exact Eq.trans (jb_rt (i := .ireturn) (n := 1) (jq qL_stepsToFinish 10 rfl) (jo_iret rfl rfl)) H
    · rw [if_neg c9] at H
      by_cases c10 : w7 = 0
      · rw [if_pos c10] at H
        subst c10
        refine Eq.trans (jb_nx (i := .invokevirtual 80) (n := 3) (q := (16, [some (.ref p0), some (.int i1), some (.ref p2), none], [])) (jq qL_stepsToFinish 4 rfl) (jo_cv (y := mX11_stepsToFinish) rfl (Nat.le_of_ble_eq_true rfl) rfl (Nat.le_of_ble_eq_true rfl) b6 rfl r2 (jo_exh (t := 15) (k := 3) (List.cons_ne_nil _ _) rfl (jq qL_stepsToFinish 11 rfl) (Nat.le_of_ble_eq_true rfl)))) ?_
        refine Eq.trans (jb_nx (i := .iconst 2) (n := 1) (q := (17, [some (.ref p0), some (.int i1), some (.ref p2), none], [.int 2])) (jq qL_stepsToFinish 12 rfl) rfl) ?_
        exact Eq.trans (jb_rt (i := .ireturn) (n := 1) (jq qL_stepsToFinish 13 rfl) (jo_iret rfl rfl)) H
      · rw [if_neg c10] at H
        cases H
/-! MaskPlaysLaw sizeAfterSteps (LMaskPlays;II[J)I -/
def tL_sizeAfterSteps : List (Nat × Instr × Nat) := [(0, .aload_n 3, 1), (1, .iconst 0, 1), (2, .aload_n 0, 1), (3, .iload_n 1, 1), (4, .iload_n 2, 1), (5, .invokevirtual 83, 3), (8, .i2l, 1), (9, .lastore, 1), (10, .goto 11, 3), (13, .astore 4, 2), (15, .iconst 1, 1), (16, .ireturn, 1), (17, .astore 4, 2), (19, .iconst 2, 1), (20, .ireturn, 1), (21, .iconst 0, 1), (22, .ireturn, 1)]
set_option maxRecDepth 100000 in
theorem qL_sizeAfterSteps : ∀ q ∈ tL_sizeAfterSteps, decode cL_sizeAfterSteps q.1 = .ok (q.2.1, q.2.2) := by decide +kernel
theorem gL_sizeAfterSteps {d : Nat} {p0 : Nat} {i1 : Int32} {i2 : Int32} {p3 : Nat} {h : jm_H} {r : jm_R} (H : (jm_O h p0 11 (jc_I (jm_D d mX11_sizeAfterSteps [.ref p0, .int i1, .int i2] h) (fun x3 h1 => (jm_asl h1 p3 0 x3.toInt64).bind fun h4 => some (.inl (some (.int 0)), h4)) (fun w7 h8 => (if w7 = 2 then some (.inl (some (.int 1)), h8) else (if w7 = 1 then some (.inl (some (.int 2)), h8) else none))))) = some r) : jm_D (d + 1) mL_sizeAfterSteps [.ref p0, .int i1, .int i2, .ref p3] h = some r := by
  rw [jm_D_body (Nat.le_of_ble_eq_true rfl)]
  show jm_B d mL_sizeAfterSteps (0, [some (.ref p0), some (.int i1), some (.int i2), some (.ref p3), none], []) h = some r
  refine Eq.trans (jb_nx (i := .aload_n 3) (n := 1) (q := (1, [some (.ref p0), some (.int i1), some (.int i2), some (.ref p3), none], [.ref p3])) (jq qL_sizeAfterSteps 0 rfl) rfl) ?_
  refine Eq.trans (jb_nx (i := .iconst 0) (n := 1) (q := (2, [some (.ref p0), some (.int i1), some (.int i2), some (.ref p3), none], [.int 0, .ref p3])) (jq qL_sizeAfterSteps 1 rfl) rfl) ?_
  refine Eq.trans (jb_nx (i := .aload_n 0) (n := 1) (q := (3, [some (.ref p0), some (.int i1), some (.int i2), some (.ref p3), none], [.ref p0, .int 0, .ref p3])) (jq qL_sizeAfterSteps 2 rfl) rfl) ?_
  refine Eq.trans (jb_nx (i := .iload_n 1) (n := 1) (q := (4, [some (.ref p0), some (.int i1), some (.int i2), some (.ref p3), none], [.int i1, .ref p0, .int 0, .ref p3])) (jq qL_sizeAfterSteps 3 rfl) rfl) ?_
  refine Eq.trans (jb_nx (i := .iload_n 2) (n := 1) (q := (5, [some (.ref p0), some (.int i1), some (.int i2), some (.ref p3), none], [.int i2, .int i1, .ref p0, .int 0, .ref p3])) (jq qL_sizeAfterSteps 4 rfl) rfl) ?_
  obtain ⟨b6, H⟩ := jm_O_inv H
  rcases jcI H with ⟨x3, h1, r2, H⟩ | ⟨w7, h8, r2, H⟩
  · refine Eq.trans (jb_nx (i := .invokevirtual 83) (n := 3) (q := (8, [some (.ref p0), some (.int i1), some (.int i2), some (.ref p3), none], [.int x3, .int 0, .ref p3])) (jq qL_sizeAfterSteps 5 rfl) (jo_cv (y := mX11_sizeAfterSteps) rfl (Nat.le_of_ble_eq_true rfl) rfl (Nat.le_of_ble_eq_true rfl) b6 rfl r2 jo_ret)) ?_
    refine Eq.trans (jb_nx (i := .i2l) (n := 1) (q := (9, [some (.ref p0), some (.int i1), some (.int i2), some (.ref p3), none], [.long x3.toInt64, .int 0, .ref p3])) (jq qL_sizeAfterSteps 6 rfl) rfl) ?_
    obtain ⟨h4, e5, H⟩ := jbd H
    refine Eq.trans (jb_nx (i := .lastore) (n := 1) (q := (10, [some (.ref p0), some (.int i1), some (.int i2), some (.ref p3), none], [])) (jq qL_sizeAfterSteps 7 rfl) (jo_las e5)) ?_
    refine Eq.trans (jb_nx (i := .goto 11) (n := 3) (q := (21, [some (.ref p0), some (.int i1), some (.int i2), some (.ref p3), none], [])) (jq qL_sizeAfterSteps 8 rfl) rfl) ?_
    refine Eq.trans (jb_nx (i := .iconst 0) (n := 1) (q := (22, [some (.ref p0), some (.int i1), some (.int i2), some (.ref p3), none], [.int 0])) (jq qL_sizeAfterSteps 15 rfl) rfl) ?_
    exact Eq.trans (jb_rt (i := .ireturn) (n := 1) (jq qL_sizeAfterSteps 16 rfl) (jo_iret rfl rfl)) H
  · by_cases c9 : w7 = 2
    · rw [if_pos c9] at H
      subst c9
      refine Eq.trans (jb_nx (i := .invokevirtual 83) (n := 3) (q := (15, [some (.ref p0), some (.int i1), some (.int i2), some (.ref p3), none], [])) (jq qL_sizeAfterSteps 5 rfl) (jo_cv (y := mX11_sizeAfterSteps) rfl (Nat.le_of_ble_eq_true rfl) rfl (Nat.le_of_ble_eq_true rfl) b6 rfl r2 (jo_exha (t := 13) (k := 4) (List.cons_ne_nil _ _) rfl (jq qL_sizeAfterSteps 9 rfl) (Nat.le_of_ble_eq_true rfl)))) ?_
      refine Eq.trans (jb_nx (i := .iconst 1) (n := 1) (q := (16, [some (.ref p0), some (.int i1), some (.int i2), some (.ref p3), none], [.int 1])) (jq qL_sizeAfterSteps 10 rfl) rfl) ?_
      exact Eq.trans (jb_rt (i := .ireturn) (n := 1) (jq qL_sizeAfterSteps 11 rfl) (jo_iret rfl rfl)) H
    · rw [if_neg c9] at H
      by_cases c10 : w7 = 1
      · rw [if_pos c10] at H
        subst c10
        refine Eq.trans (jb_nx (i := .invokevirtual 83) (n := 3) (q := (19, [some (.ref p0), some (.int i1), some (.int i2), some (.ref p3), none], [])) (jq qL_sizeAfterSteps 5 rfl) (jo_cv (y := mX11_sizeAfterSteps) rfl (Nat.le_of_ble_eq_true rfl) rfl (Nat.le_of_ble_eq_true rfl) b6 rfl r2 (jo_exha (t := 17) (k := 4) (List.cons_ne_nil _ _) rfl (jq qL_sizeAfterSteps 12 rfl) (Nat.le_of_ble_eq_true rfl)))) ?_
        refine Eq.trans (jb_nx (i := .iconst 2) (n := 1) (q := (20, [some (.ref p0), some (.int i1), some (.int i2), some (.ref p3), none], [.int 2])) (jq qL_sizeAfterSteps 13 rfl) rfl) ?_
        exact Eq.trans (jb_rt (i := .ireturn) (n := 1) (jq qL_sizeAfterSteps 14 rfl) (jo_iret rfl rfl)) H
      · rw [if_neg c10] at H
        cases H
/-! MaskPlaysLaw endSame (LMaskPlays;II[J)I -/
def tL_endSame : List (Nat × Instr × Nat) := [(0, .aload_n 3, 1), (1, .iconst 0, 1), (2, .aload_n 0, 1), (3, .iload_n 1, 1), (4, .iload_n 2, 1), (5, .invokevirtual 86, 3), (8, .ifCond .eq 7, 3), (11, .lconst 1, 1), (12, .goto 4, 3), (15, .lconst 0, 1), (16, .lastore, 1), (17, .goto 7, 3), (20, .astore 4, 2), (22, .iconst 1, 1), (23, .ireturn, 1), (24, .iconst 0, 1), (25, .ireturn, 1)]
set_option maxRecDepth 100000 in
theorem qL_endSame : ∀ q ∈ tL_endSame, decode cL_endSame q.1 = .ok (q.2.1, q.2.2) := by decide +kernel
theorem gL_endSame {d : Nat} {p0 : Nat} {i1 : Int32} {i2 : Int32} {p3 : Nat} {h : jm_H} {r : jm_R} (H : (jm_O h p0 11 (jc_I (jm_D d mX11_endSame [.ref p0, .int i1, .int i2] h) (fun x3 h1 => (if x3 = 0 then (jm_asl h1 p3 0 0).bind fun h5 => some (.inl (some (.int 0)), h5) else (jm_asl h1 p3 0 1).bind fun h7 => some (.inl (some (.int 0)), h7))) (fun w10 h11 => (if w10 = 2 then some (.inl (some (.int 1)), h11) else none)))) = some r) : jm_D (d + 1) mL_endSame [.ref p0, .int i1, .int i2, .ref p3] h = some r := by
  rw [jm_D_body (Nat.le_of_ble_eq_true rfl)]
  show jm_B d mL_endSame (0, [some (.ref p0), some (.int i1), some (.int i2), some (.ref p3), none], []) h = some r
  refine Eq.trans (jb_nx (i := .aload_n 3) (n := 1) (q := (1, [some (.ref p0), some (.int i1), some (.int i2), some (.ref p3), none], [.ref p3])) (jq qL_endSame 0 rfl) rfl) ?_
  refine Eq.trans (jb_nx (i := .iconst 0) (n := 1) (q := (2, [some (.ref p0), some (.int i1), some (.int i2), some (.ref p3), none], [.int 0, .ref p3])) (jq qL_endSame 1 rfl) rfl) ?_
  refine Eq.trans (jb_nx (i := .aload_n 0) (n := 1) (q := (3, [some (.ref p0), some (.int i1), some (.int i2), some (.ref p3), none], [.ref p0, .int 0, .ref p3])) (jq qL_endSame 2 rfl) rfl) ?_
  refine Eq.trans (jb_nx (i := .iload_n 1) (n := 1) (q := (4, [some (.ref p0), some (.int i1), some (.int i2), some (.ref p3), none], [.int i1, .ref p0, .int 0, .ref p3])) (jq qL_endSame 3 rfl) rfl) ?_
  refine Eq.trans (jb_nx (i := .iload_n 2) (n := 1) (q := (5, [some (.ref p0), some (.int i1), some (.int i2), some (.ref p3), none], [.int i2, .int i1, .ref p0, .int 0, .ref p3])) (jq qL_endSame 4 rfl) rfl) ?_
  obtain ⟨b9, H⟩ := jm_O_inv H
  rcases jcI H with ⟨x3, h1, r2, H⟩ | ⟨w10, h11, r2, H⟩
  · refine Eq.trans (jb_nx (i := .invokevirtual 86) (n := 3) (q := (8, [some (.ref p0), some (.int i1), some (.int i2), some (.ref p3), none], [.int x3, .int 0, .ref p3])) (jq qL_endSame 5 rfl) (jo_cv (y := mX11_endSame) rfl (Nat.le_of_ble_eq_true rfl) rfl (Nat.le_of_ble_eq_true rfl) b9 rfl r2 jo_ret)) ?_
    by_cases c4 : x3 = 0
    · rw [if_pos c4] at H
      refine Eq.trans (jb_nx (i := .ifCond .eq 7) (n := 3) (q := (15, [some (.ref p0), some (.int i1), some (.int i2), some (.ref p3), none], [.int 0, .ref p3])) (jq qL_endSame 6 rfl) (jo_ifT (jz_eqT c4) rfl)) ?_
      refine Eq.trans (jb_nx (i := .lconst 0) (n := 1) (q := (16, [some (.ref p0), some (.int i1), some (.int i2), some (.ref p3), none], [.long 0, .int 0, .ref p3])) (jq qL_endSame 9 rfl) rfl) ?_
      obtain ⟨h5, e6, H⟩ := jbd H
      refine Eq.trans (jb_nx (i := .lastore) (n := 1) (q := (17, [some (.ref p0), some (.int i1), some (.int i2), some (.ref p3), none], [])) (jq qL_endSame 10 rfl) (jo_las e6)) ?_
      refine Eq.trans (jb_nx (i := .goto 7) (n := 3) (q := (24, [some (.ref p0), some (.int i1), some (.int i2), some (.ref p3), none], [])) (jq qL_endSame 11 rfl) rfl) ?_
      refine Eq.trans (jb_nx (i := .iconst 0) (n := 1) (q := (25, [some (.ref p0), some (.int i1), some (.int i2), some (.ref p3), none], [.int 0])) (jq qL_endSame 15 rfl) rfl) ?_
      exact Eq.trans (jb_rt (i := .ireturn) (n := 1) (jq qL_endSame 16 rfl) (jo_iret rfl rfl)) H
    · rw [if_neg c4] at H
      refine Eq.trans (jb_nx (i := .ifCond .eq 7) (n := 3) (q := (11, [some (.ref p0), some (.int i1), some (.int i2), some (.ref p3), none], [.int 0, .ref p3])) (jq qL_endSame 6 rfl) (jo_ifF (jz_eqF c4))) ?_
      refine Eq.trans (jb_nx (i := .lconst 1) (n := 1) (q := (12, [some (.ref p0), some (.int i1), some (.int i2), some (.ref p3), none], [.long 1, .int 0, .ref p3])) (jq qL_endSame 7 rfl) rfl) ?_
      refine Eq.trans (jb_nx (i := .goto 4) (n := 3) (q := (16, [some (.ref p0), some (.int i1), some (.int i2), some (.ref p3), none], [.long 1, .int 0, .ref p3])) (jq qL_endSame 8 rfl) rfl) ?_
      obtain ⟨h7, e8, H⟩ := jbd H
      refine Eq.trans (jb_nx (i := .lastore) (n := 1) (q := (17, [some (.ref p0), some (.int i1), some (.int i2), some (.ref p3), none], [])) (jq qL_endSame 10 rfl) (jo_las e8)) ?_
      refine Eq.trans (jb_nx (i := .goto 7) (n := 3) (q := (24, [some (.ref p0), some (.int i1), some (.int i2), some (.ref p3), none], [])) (jq qL_endSame 11 rfl) rfl) ?_
      refine Eq.trans (jb_nx (i := .iconst 0) (n := 1) (q := (25, [some (.ref p0), some (.int i1), some (.int i2), some (.ref p3), none], [.int 0])) (jq qL_endSame 15 rfl) rfl) ?_
      exact Eq.trans (jb_rt (i := .ireturn) (n := 1) (jq qL_endSame 16 rfl) (jo_iret rfl rfl)) H
  · by_cases c12 : w10 = 2
    · rw [if_pos c12] at H
      subst c12
      refine Eq.trans (jb_nx (i := .invokevirtual 86) (n := 3) (q := (22, [some (.ref p0), some (.int i1), some (.int i2), some (.ref p3), none], [])) (jq qL_endSame 5 rfl) (jo_cv (y := mX11_endSame) rfl (Nat.le_of_ble_eq_true rfl) rfl (Nat.le_of_ble_eq_true rfl) b9 rfl r2 (jo_exha (t := 20) (k := 4) (List.cons_ne_nil _ _) rfl (jq qL_endSame 12 rfl) (Nat.le_of_ble_eq_true rfl)))) ?_
      refine Eq.trans (jb_nx (i := .iconst 1) (n := 1) (q := (23, [some (.ref p0), some (.int i1), some (.int i2), some (.ref p3), none], [.int 1])) (jq qL_endSame 13 rfl) rfl) ?_
      exact Eq.trans (jb_rt (i := .ireturn) (n := 1) (jq qL_endSame 14 rfl) (jo_iret rfl rfl)) H
    · rw [if_neg c12] at H
      cases H
/-! MaskPlaysLaw sizeAfterEvenings (LMaskPlays;II[J)I -/
def tL_sizeAfterEvenings : List (Nat × Instr × Nat) := [(0, .aload_n 3, 1), (1, .iconst 0, 1), (2, .aload_n 0, 1), (3, .iload_n 1, 1), (4, .iload_n 2, 1), (5, .invokevirtual 89, 3), (8, .i2l, 1), (9, .lastore, 1), (10, .goto 11, 3), (13, .astore 4, 2), (15, .iconst 1, 1), (16, .ireturn, 1), (17, .astore 4, 2), (19, .iconst 2, 1), (20, .ireturn, 1), (21, .iconst 0, 1), (22, .ireturn, 1)]
set_option maxRecDepth 100000 in
theorem qL_sizeAfterEvenings : ∀ q ∈ tL_sizeAfterEvenings, decode cL_sizeAfterEvenings q.1 = .ok (q.2.1, q.2.2) := by decide +kernel
theorem gL_sizeAfterEvenings {d : Nat} {p0 : Nat} {i1 : Int32} {i2 : Int32} {p3 : Nat} {h : jm_H} {r : jm_R} (H : (jm_O h p0 11 (jc_I (jm_D d mX11_sizeAfterEvenings [.ref p0, .int i1, .int i2] h) (fun x3 h1 => (jm_asl h1 p3 0 x3.toInt64).bind fun h4 => some (.inl (some (.int 0)), h4)) (fun w7 h8 => (if w7 = 2 then some (.inl (some (.int 1)), h8) else (if w7 = 1 then some (.inl (some (.int 2)), h8) else none))))) = some r) : jm_D (d + 1) mL_sizeAfterEvenings [.ref p0, .int i1, .int i2, .ref p3] h = some r := by
  rw [jm_D_body (Nat.le_of_ble_eq_true rfl)]
  show jm_B d mL_sizeAfterEvenings (0, [some (.ref p0), some (.int i1), some (.int i2), some (.ref p3), none], []) h = some r
  refine Eq.trans (jb_nx (i := .aload_n 3) (n := 1) (q := (1, [some (.ref p0), some (.int i1), some (.int i2), some (.ref p3), none], [.ref p3])) (jq qL_sizeAfterEvenings 0 rfl) rfl) ?_
  refine Eq.trans (jb_nx (i := .iconst 0) (n := 1) (q := (2, [some (.ref p0), some (.int i1), some (.int i2), some (.ref p3), none], [.int 0, .ref p3])) (jq qL_sizeAfterEvenings 1 rfl) rfl) ?_
  refine Eq.trans (jb_nx (i := .aload_n 0) (n := 1) (q := (3, [some (.ref p0), some (.int i1), some (.int i2), some (.ref p3), none], [.ref p0, .int 0, .ref p3])) (jq qL_sizeAfterEvenings 2 rfl) rfl) ?_
  refine Eq.trans (jb_nx (i := .iload_n 1) (n := 1) (q := (4, [some (.ref p0), some (.int i1), some (.int i2), some (.ref p3), none], [.int i1, .ref p0, .int 0, .ref p3])) (jq qL_sizeAfterEvenings 3 rfl) rfl) ?_
  refine Eq.trans (jb_nx (i := .iload_n 2) (n := 1) (q := (5, [some (.ref p0), some (.int i1), some (.int i2), some (.ref p3), none], [.int i2, .int i1, .ref p0, .int 0, .ref p3])) (jq qL_sizeAfterEvenings 4 rfl) rfl) ?_
  obtain ⟨b6, H⟩ := jm_O_inv H
  rcases jcI H with ⟨x3, h1, r2, H⟩ | ⟨w7, h8, r2, H⟩
  · refine Eq.trans (jb_nx (i := .invokevirtual 89) (n := 3) (q := (8, [some (.ref p0), some (.int i1), some (.int i2), some (.ref p3), none], [.int x3, .int 0, .ref p3])) (jq qL_sizeAfterEvenings 5 rfl) (jo_cv (y := mX11_sizeAfterEvenings) rfl (Nat.le_of_ble_eq_true rfl) rfl (Nat.le_of_ble_eq_true rfl) b6 rfl r2 jo_ret)) ?_
    refine Eq.trans (jb_nx (i := .i2l) (n := 1) (q := (9, [some (.ref p0), some (.int i1), some (.int i2), some (.ref p3), none], [.long x3.toInt64, .int 0, .ref p3])) (jq qL_sizeAfterEvenings 6 rfl) rfl) ?_
    obtain ⟨h4, e5, H⟩ := jbd H
    refine Eq.trans (jb_nx (i := .lastore) (n := 1) (q := (10, [some (.ref p0), some (.int i1), some (.int i2), some (.ref p3), none], [])) (jq qL_sizeAfterEvenings 7 rfl) (jo_las e5)) ?_
    refine Eq.trans (jb_nx (i := .goto 11) (n := 3) (q := (21, [some (.ref p0), some (.int i1), some (.int i2), some (.ref p3), none], [])) (jq qL_sizeAfterEvenings 8 rfl) rfl) ?_
    refine Eq.trans (jb_nx (i := .iconst 0) (n := 1) (q := (22, [some (.ref p0), some (.int i1), some (.int i2), some (.ref p3), none], [.int 0])) (jq qL_sizeAfterEvenings 15 rfl) rfl) ?_
    exact Eq.trans (jb_rt (i := .ireturn) (n := 1) (jq qL_sizeAfterEvenings 16 rfl) (jo_iret rfl rfl)) H
  · by_cases c9 : w7 = 2
    · rw [if_pos c9] at H
      subst c9
      refine Eq.trans (jb_nx (i := .invokevirtual 89) (n := 3) (q := (15, [some (.ref p0), some (.int i1), some (.int i2), some (.ref p3), none], [])) (jq qL_sizeAfterEvenings 5 rfl) (jo_cv (y := mX11_sizeAfterEvenings) rfl (Nat.le_of_ble_eq_true rfl) rfl (Nat.le_of_ble_eq_true rfl) b6 rfl r2 (jo_exha (t := 13) (k := 4) (List.cons_ne_nil _ _) rfl (jq qL_sizeAfterEvenings 9 rfl) (Nat.le_of_ble_eq_true rfl)))) ?_
      refine Eq.trans (jb_nx (i := .iconst 1) (n := 1) (q := (16, [some (.ref p0), some (.int i1), some (.int i2), some (.ref p3), none], [.int 1])) (jq qL_sizeAfterEvenings 10 rfl) rfl) ?_
      exact Eq.trans (jb_rt (i := .ireturn) (n := 1) (jq qL_sizeAfterEvenings 11 rfl) (jo_iret rfl rfl)) H
    · rw [if_neg c9] at H
      by_cases c10 : w7 = 1
      · rw [if_pos c10] at H
        subst c10
        refine Eq.trans (jb_nx (i := .invokevirtual 89) (n := 3) (q := (19, [some (.ref p0), some (.int i1), some (.int i2), some (.ref p3), none], [])) (jq qL_sizeAfterEvenings 5 rfl) (jo_cv (y := mX11_sizeAfterEvenings) rfl (Nat.le_of_ble_eq_true rfl) rfl (Nat.le_of_ble_eq_true rfl) b6 rfl r2 (jo_exha (t := 17) (k := 4) (List.cons_ne_nil _ _) rfl (jq qL_sizeAfterEvenings 12 rfl) (Nat.le_of_ble_eq_true rfl)))) ?_
        refine Eq.trans (jb_nx (i := .iconst 2) (n := 1) (q := (20, [some (.ref p0), some (.int i1), some (.int i2), some (.ref p3), none], [.int 2])) (jq qL_sizeAfterEvenings 13 rfl) rfl) ?_
        exact Eq.trans (jb_rt (i := .ireturn) (n := 1) (jq qL_sizeAfterEvenings 14 rfl) (jo_iret rfl rfl)) H
      · rw [if_neg c10] at H
        cases H
/-! MaskPlaysLaw eveningsUntilFinished (LMaskPlays;I[J)I -/
def tL_eveningsUntilFinished : List (Nat × Instr × Nat) := [(0, .aload_n 2, 1), (1, .iconst 0, 1), (2, .aload_n 0, 1), (3, .iload_n 1, 1), (4, .invokevirtual 92, 3), (7, .i2l, 1), (8, .lastore, 1), (9, .goto 6, 3), (12, .astore_n 3, 1), (13, .iconst 1, 1), (14, .ireturn, 1), (15, .iconst 0, 1), (16, .ireturn, 1)]
set_option maxRecDepth 100000 in
theorem qL_eveningsUntilFinished : ∀ q ∈ tL_eveningsUntilFinished, decode cL_eveningsUntilFinished q.1 = .ok (q.2.1, q.2.2) := by decide +kernel
theorem gL_eveningsUntilFinished {d : Nat} {p0 : Nat} {i1 : Int32} {p2 : Nat} {h : jm_H} {r : jm_R} (H : (jm_O h p0 11 (jc_I (jm_D d mX11_eveningsUntilFinished [.ref p0, .int i1] h) (fun x3 h1 => (jm_asl h1 p2 0 x3.toInt64).bind fun h4 => some (.inl (some (.int 0)), h4)) (fun w7 h8 => (if w7 = 2 then some (.inl (some (.int 1)), h8) else none)))) = some r) : jm_D (d + 1) mL_eveningsUntilFinished [.ref p0, .int i1, .ref p2] h = some r := by
  rw [jm_D_body (Nat.le_of_ble_eq_true rfl)]
  show jm_B d mL_eveningsUntilFinished (0, [some (.ref p0), some (.int i1), some (.ref p2), none], []) h = some r
  refine Eq.trans (jb_nx (i := .aload_n 2) (n := 1) (q := (1, [some (.ref p0), some (.int i1), some (.ref p2), none], [.ref p2])) (jq qL_eveningsUntilFinished 0 rfl) rfl) ?_
  refine Eq.trans (jb_nx (i := .iconst 0) (n := 1) (q := (2, [some (.ref p0), some (.int i1), some (.ref p2), none], [.int 0, .ref p2])) (jq qL_eveningsUntilFinished 1 rfl) rfl) ?_
  refine Eq.trans (jb_nx (i := .aload_n 0) (n := 1) (q := (3, [some (.ref p0), some (.int i1), some (.ref p2), none], [.ref p0, .int 0, .ref p2])) (jq qL_eveningsUntilFinished 2 rfl) rfl) ?_
  refine Eq.trans (jb_nx (i := .iload_n 1) (n := 1) (q := (4, [some (.ref p0), some (.int i1), some (.ref p2), none], [.int i1, .ref p0, .int 0, .ref p2])) (jq qL_eveningsUntilFinished 3 rfl) rfl) ?_
  obtain ⟨b6, H⟩ := jm_O_inv H
  rcases jcI H with ⟨x3, h1, r2, H⟩ | ⟨w7, h8, r2, H⟩
  · refine Eq.trans (jb_nx (i := .invokevirtual 92) (n := 3) (q := (7, [some (.ref p0), some (.int i1), some (.ref p2), none], [.int x3, .int 0, .ref p2])) (jq qL_eveningsUntilFinished 4 rfl) (jo_cv (y := mX11_eveningsUntilFinished) rfl (Nat.le_of_ble_eq_true rfl) rfl (Nat.le_of_ble_eq_true rfl) b6 rfl r2 jo_ret)) ?_
    refine Eq.trans (jb_nx (i := .i2l) (n := 1) (q := (8, [some (.ref p0), some (.int i1), some (.ref p2), none], [.long x3.toInt64, .int 0, .ref p2])) (jq qL_eveningsUntilFinished 5 rfl) rfl) ?_
    obtain ⟨h4, e5, H⟩ := jbd H
    refine Eq.trans (jb_nx (i := .lastore) (n := 1) (q := (9, [some (.ref p0), some (.int i1), some (.ref p2), none], [])) (jq qL_eveningsUntilFinished 6 rfl) (jo_las e5)) ?_
    refine Eq.trans (jb_nx (i := .goto 6) (n := 3) (q := (15, [some (.ref p0), some (.int i1), some (.ref p2), none], [])) (jq qL_eveningsUntilFinished 7 rfl) rfl) ?_
    refine Eq.trans (jb_nx (i := .iconst 0) (n := 1) (q := (16, [some (.ref p0), some (.int i1), some (.ref p2), none], [.int 0])) (jq qL_eveningsUntilFinished 11 rfl) rfl) ?_
    exact Eq.trans (jb_rt (i := .ireturn) (n := 1) (jq qL_eveningsUntilFinished 12 rfl) (jo_iret rfl rfl)) H
  · by_cases c9 : w7 = 2
    · rw [if_pos c9] at H
      subst c9
      refine Eq.trans (jb_nx (i := .invokevirtual 92) (n := 3) (q := (13, [some (.ref p0), some (.int i1), some (.ref p2), none], [])) (jq qL_eveningsUntilFinished 4 rfl) (jo_cv (y := mX11_eveningsUntilFinished) rfl (Nat.le_of_ble_eq_true rfl) rfl (Nat.le_of_ble_eq_true rfl) b6 rfl r2 (jo_exh (t := 12) (k := 3) (List.cons_ne_nil _ _) rfl (jq qL_eveningsUntilFinished 8 rfl) (Nat.le_of_ble_eq_true rfl)))) ?_
      refine Eq.trans (jb_nx (i := .iconst 1) (n := 1) (q := (14, [some (.ref p0), some (.int i1), some (.ref p2), none], [.int 1])) (jq qL_eveningsUntilFinished 9 rfl) rfl) ?_
      exact Eq.trans (jb_rt (i := .ireturn) (n := 1) (jq qL_eveningsUntilFinished 10 rfl) (jo_iret rfl rfl)) H
    · rw [if_neg c9] at H
      cases H
/-! MaskPlaysLaw bestGift (LMaskPlays;I[J)I -/
def tL_bestGift : List (Nat × Instr × Nat) := [(0, .aload_n 2, 1), (1, .iconst 0, 1), (2, .aload_n 0, 1), (3, .iload_n 1, 1), (4, .invokevirtual 95, 3), (7, .i2l, 1), (8, .lastore, 1), (9, .goto 6, 3), (12, .astore_n 3, 1), (13, .iconst 1, 1), (14, .ireturn, 1), (15, .iconst 0, 1), (16, .ireturn, 1)]
set_option maxRecDepth 100000 in
theorem qL_bestGift : ∀ q ∈ tL_bestGift, decode cL_bestGift q.1 = .ok (q.2.1, q.2.2) := by decide +kernel
theorem gL_bestGift {d : Nat} {p0 : Nat} {i1 : Int32} {p2 : Nat} {h : jm_H} {r : jm_R} (H : (jm_O h p0 11 (jc_I (jm_D d mX11_bestGift [.ref p0, .int i1] h) (fun x3 h1 => (jm_asl h1 p2 0 x3.toInt64).bind fun h4 => some (.inl (some (.int 0)), h4)) (fun w7 h8 => (if w7 = 2 then some (.inl (some (.int 1)), h8) else none)))) = some r) : jm_D (d + 1) mL_bestGift [.ref p0, .int i1, .ref p2] h = some r := by
  rw [jm_D_body (Nat.le_of_ble_eq_true rfl)]
  show jm_B d mL_bestGift (0, [some (.ref p0), some (.int i1), some (.ref p2), none], []) h = some r
  refine Eq.trans (jb_nx (i := .aload_n 2) (n := 1) (q := (1, [some (.ref p0), some (.int i1), some (.ref p2), none], [.ref p2])) (jq qL_bestGift 0 rfl) rfl) ?_
  refine Eq.trans (jb_nx (i := .iconst 0) (n := 1) (q := (2, [some (.ref p0), some (.int i1), some (.ref p2), none], [.int 0, .ref p2])) (jq qL_bestGift 1 rfl) rfl) ?_
  refine Eq.trans (jb_nx (i := .aload_n 0) (n := 1) (q := (3, [some (.ref p0), some (.int i1), some (.ref p2), none], [.ref p0, .int 0, .ref p2])) (jq qL_bestGift 2 rfl) rfl) ?_
  refine Eq.trans (jb_nx (i := .iload_n 1) (n := 1) (q := (4, [some (.ref p0), some (.int i1), some (.ref p2), none], [.int i1, .ref p0, .int 0, .ref p2])) (jq qL_bestGift 3 rfl) rfl) ?_
  obtain ⟨b6, H⟩ := jm_O_inv H
  rcases jcI H with ⟨x3, h1, r2, H⟩ | ⟨w7, h8, r2, H⟩
  · refine Eq.trans (jb_nx (i := .invokevirtual 95) (n := 3) (q := (7, [some (.ref p0), some (.int i1), some (.ref p2), none], [.int x3, .int 0, .ref p2])) (jq qL_bestGift 4 rfl) (jo_cv (y := mX11_bestGift) rfl (Nat.le_of_ble_eq_true rfl) rfl (Nat.le_of_ble_eq_true rfl) b6 rfl r2 jo_ret)) ?_
    refine Eq.trans (jb_nx (i := .i2l) (n := 1) (q := (8, [some (.ref p0), some (.int i1), some (.ref p2), none], [.long x3.toInt64, .int 0, .ref p2])) (jq qL_bestGift 5 rfl) rfl) ?_
    obtain ⟨h4, e5, H⟩ := jbd H
    refine Eq.trans (jb_nx (i := .lastore) (n := 1) (q := (9, [some (.ref p0), some (.int i1), some (.ref p2), none], [])) (jq qL_bestGift 6 rfl) (jo_las e5)) ?_
    refine Eq.trans (jb_nx (i := .goto 6) (n := 3) (q := (15, [some (.ref p0), some (.int i1), some (.ref p2), none], [])) (jq qL_bestGift 7 rfl) rfl) ?_
    refine Eq.trans (jb_nx (i := .iconst 0) (n := 1) (q := (16, [some (.ref p0), some (.int i1), some (.ref p2), none], [.int 0])) (jq qL_bestGift 11 rfl) rfl) ?_
    exact Eq.trans (jb_rt (i := .ireturn) (n := 1) (jq qL_bestGift 12 rfl) (jo_iret rfl rfl)) H
  · by_cases c9 : w7 = 2
    · rw [if_pos c9] at H
      subst c9
      refine Eq.trans (jb_nx (i := .invokevirtual 95) (n := 3) (q := (13, [some (.ref p0), some (.int i1), some (.ref p2), none], [])) (jq qL_bestGift 4 rfl) (jo_cv (y := mX11_bestGift) rfl (Nat.le_of_ble_eq_true rfl) rfl (Nat.le_of_ble_eq_true rfl) b6 rfl r2 (jo_exh (t := 12) (k := 3) (List.cons_ne_nil _ _) rfl (jq qL_bestGift 8 rfl) (Nat.le_of_ble_eq_true rfl)))) ?_
      refine Eq.trans (jb_nx (i := .iconst 1) (n := 1) (q := (14, [some (.ref p0), some (.int i1), some (.ref p2), none], [.int 1])) (jq qL_bestGift 9 rfl) rfl) ?_
      exact Eq.trans (jb_rt (i := .ireturn) (n := 1) (jq qL_bestGift 10 rfl) (jo_iret rfl rfl)) H
    · rw [if_neg c9] at H
      cases H
/-! MaskPlaysLaw law ([I)Z -/
def tL_law_c0 : List (Nat × Instr × Nat) := [(0, .new 8, 3), (3, .dup, 1), (4, .invokespecial 98, 3), (7, .astore_n 1, 1), (8, .new 99, 3), (11, .dup, 1), (12, .invokespecial 101, 3), (15, .astore_n 2, 1), (16, .iconst 1, 1), (17, .newarray .long, 2), (19, .astore_n 3, 1), (20, .iconst 0, 1), (21, .istore 4, 2), (23, .iload 4, 2), (25, .aload_n 0, 1), (26, .arraylength, 1), (27, .bipush 6, 2), (29, .isub, 1), (30, .if_icmp .gt 1958, 3), (33, .aload_n 0, 1), (34, .iload 4, 2), (36, .iaload, 1), (37, .bipush 63, 2), (39, .iand, 1), (40, .tableswitch 1942 0 35 #[160, 264, 320, 333, 346, 359, 372, 385, 398, 411, 424, 480, 536, 592, 648, 716, 772, 835, 898, 954, 1022, 1078, 1134, 1209, 1272, 1328, 1396, 1452, 1508, 1564, 1632, 1707, 1775, 1831, 1887, 1928], 160), (200, .aload_n 1, 1), (201, .aload_n 0, 1), (202, .iload 4, 2), (204, .iconst 1, 1), (205, .iadd, 1), (206, .iaload, 1), (207, .aload_n 0, 1), (208, .iload 4, 2), (210, .iconst 2, 1), (211, .iadd, 1), (212, .iaload, 1), (213, .aload_n 0, 1), (214, .iload 4, 2), (216, .iconst 3, 1), (217, .iadd, 1)]
set_option maxRecDepth 100000 in
theorem qL_law_c0 : ∀ q ∈ tL_law_c0, decode cL_law q.1 = .ok (q.2.1, q.2.2) := by decide +kernel
def tL_law_c1 : List (Nat × Instr × Nat) := [(218, .iaload, 1), (219, .aload_n 0, 1), (220, .iload 4, 2), (222, .iconst 4, 1), (223, .iadd, 1), (224, .iaload, 1), (225, .aload_n 0, 1), (226, .iload 4, 2), (228, .iconst 5, 1), (229, .iadd, 1), (230, .iaload, 1), (231, .aload_n 3, 1), (232, .invokestatic 102, 3), (235, .istore 5, 2), (237, .aload_n 2, 1), (238, .aload_n 0, 1), (239, .iload 4, 2), (241, .iconst 1, 1), (242, .iadd, 1), (243, .iaload, 1), (244, .aload_n 0, 1), (245, .iload 4, 2), (247, .iconst 2, 1), (248, .iadd, 1), (249, .iaload, 1), (250, .aload_n 0, 1), (251, .iload 4, 2), (253, .iconst 3, 1), (254, .iadd, 1), (255, .iaload, 1), (256, .aload_n 0, 1), (257, .iload 4, 2), (259, .iconst 4, 1), (260, .iadd, 1), (261, .iaload, 1), (262, .aload_n 0, 1), (263, .iload 4, 2), (265, .iconst 5, 1), (266, .iadd, 1), (267, .iaload, 1)]
set_option maxRecDepth 100000 in
theorem qL_law_c1 : ∀ q ∈ tL_law_c1, decode cL_law q.1 = .ok (q.2.1, q.2.2) := by decide +kernel
def tL_law_c2 : List (Nat × Instr × Nat) := [(268, .invokevirtual 107, 3), (271, .istore 6, 2), (273, .aload_n 2, 1), (274, .invokevirtual 108, 3), (277, .iload 5, 2), (279, .if_icmp .eq 5, 3), (282, .iconst 0, 1), (283, .ireturn, 1), (284, .iload 5, 2), (286, .ifCond .ne 15, 3), (289, .aload_n 3, 1), (290, .iconst 0, 1), (291, .laload, 1), (292, .iload 6, 2), (294, .i2l, 1), (295, .lcmp, 1), (296, .ifCond .eq 5, 3), (299, .iconst 0, 1), (300, .ireturn, 1), (301, .goto 1681, 3), (304, .aload_n 1, 1), (305, .aload_n 0, 1), (306, .iload 4, 2), (308, .iconst 1, 1), (309, .iadd, 1), (310, .iaload, 1), (311, .aload_n 3, 1), (312, .invokestatic 112, 3), (315, .istore 5, 2), (317, .aload_n 2, 1), (318, .aload_n 0, 1), (319, .iload 4, 2), (321, .iconst 1, 1), (322, .iadd, 1), (323, .iaload, 1), (324, .invokevirtual 115, 3), (327, .istore 6, 2), (329, .aload_n 2, 1), (330, .invokevirtual 108, 3), (333, .iload 5, 2)]
set_option maxRecDepth 100000 in
theorem qL_law_c2 : ∀ q ∈ tL_law_c2, decode cL_law q.1 = .ok (q.2.1, q.2.2) := by decide +kernel
def tL_law_c3 : List (Nat × Instr × Nat) := [(335, .if_icmp .eq 5, 3), (338, .iconst 0, 1), (339, .ireturn, 1), (340, .iload 5, 2), (342, .ifCond .ne 15, 3), (345, .aload_n 3, 1), (346, .iconst 0, 1), (347, .laload, 1), (348, .iload 6, 2), (350, .i2l, 1), (351, .lcmp, 1), (352, .ifCond .eq 5, 3), (355, .iconst 0, 1), (356, .ireturn, 1), (357, .goto 1625, 3), (360, .aload_n 1, 1), (361, .invokevirtual 116, 3), (364, .aload_n 2, 1), (365, .invokevirtual 119, 3), (368, .if_icmp .eq 1614, 3), (371, .iconst 0, 1), (372, .ireturn, 1), (373, .aload_n 1, 1), (374, .invokevirtual 120, 3), (377, .aload_n 2, 1), (378, .invokevirtual 123, 3), (381, .if_icmp .eq 1601, 3), (384, .iconst 0, 1), (385, .ireturn, 1), (386, .aload_n 1, 1), (387, .invokevirtual 124, 3), (390, .aload_n 2, 1), (391, .invokevirtual 127, 3), (394, .if_icmp .eq 1588, 3), (397, .iconst 0, 1), (398, .ireturn, 1), (399, .aload_n 1, 1), (400, .invokevirtual 128, 3), (403, .aload_n 2, 1), (404, .invokevirtual 131, 3)]
set_option maxRecDepth 100000 in
theorem qL_law_c3 : ∀ q ∈ tL_law_c3, decode cL_law q.1 = .ok (q.2.1, q.2.2) := by decide +kernel
def tL_law_c4 : List (Nat × Instr × Nat) := [(407, .if_icmp .eq 1575, 3), (410, .iconst 0, 1), (411, .ireturn, 1), (412, .aload_n 1, 1), (413, .invokevirtual 132, 3), (416, .aload_n 2, 1), (417, .invokevirtual 135, 3), (420, .if_icmp .eq 1562, 3), (423, .iconst 0, 1), (424, .ireturn, 1), (425, .aload_n 1, 1), (426, .invokevirtual 136, 3), (429, .aload_n 2, 1), (430, .invokevirtual 139, 3), (433, .if_icmp .eq 1549, 3), (436, .iconst 0, 1), (437, .ireturn, 1), (438, .aload_n 1, 1), (439, .invokevirtual 140, 3), (442, .aload_n 2, 1), (443, .invokevirtual 143, 3), (446, .if_icmp .eq 1536, 3), (449, .iconst 0, 1), (450, .ireturn, 1), (451, .aload_n 1, 1), (452, .invokevirtual 144, 3), (455, .aload_n 2, 1), (456, .invokevirtual 147, 3), (459, .if_icmp .eq 1523, 3), (462, .iconst 0, 1), (463, .ireturn, 1), (464, .aload_n 1, 1), (465, .aload_n 0, 1), (466, .iload 4, 2), (468, .iconst 1, 1), (469, .iadd, 1), (470, .iaload, 1), (471, .aload_n 3, 1), (472, .invokestatic 148, 3), (475, .istore 5, 2)]
set_option maxRecDepth 100000 in
theorem qL_law_c4 : ∀ q ∈ tL_law_c4, decode cL_law q.1 = .ok (q.2.1, q.2.2) := by decide +kernel
def tL_law_c5 : List (Nat × Instr × Nat) := [(477, .aload_n 2, 1), (478, .aload_n 0, 1), (479, .iload 4, 2), (481, .iconst 1, 1), (482, .iadd, 1), (483, .iaload, 1), (484, .invokevirtual 150, 3), (487, .istore 6, 2), (489, .aload_n 2, 1), (490, .invokevirtual 108, 3), (493, .iload 5, 2), (495, .if_icmp .eq 5, 3), (498, .iconst 0, 1), (499, .ireturn, 1), (500, .iload 5, 2), (502, .ifCond .ne 15, 3), (505, .aload_n 3, 1), (506, .iconst 0, 1), (507, .laload, 1), (508, .iload 6, 2), (510, .i2l, 1), (511, .lcmp, 1), (512, .ifCond .eq 5, 3), (515, .iconst 0, 1), (516, .ireturn, 1), (517, .goto 1465, 3), (520, .aload_n 1, 1), (521, .aload_n 0, 1), (522, .iload 4, 2), (524, .iconst 1, 1), (525, .iadd, 1), (526, .iaload, 1), (527, .aload_n 3, 1), (528, .invokestatic 151, 3), (531, .istore 5, 2), (533, .aload_n 2, 1), (534, .aload_n 0, 1), (535, .iload 4, 2), (537, .iconst 1, 1), (538, .iadd, 1)]
set_option maxRecDepth 100000 in
theorem qL_law_c5 : ∀ q ∈ tL_law_c5, decode cL_law q.1 = .ok (q.2.1, q.2.2) := by decide +kernel
def tL_law_c6 : List (Nat × Instr × Nat) := [(539, .iaload, 1), (540, .invokevirtual 153, 3), (543, .istore 6, 2), (545, .aload_n 2, 1), (546, .invokevirtual 108, 3), (549, .iload 5, 2), (551, .if_icmp .eq 5, 3), (554, .iconst 0, 1), (555, .ireturn, 1), (556, .iload 5, 2), (558, .ifCond .ne 15, 3), (561, .aload_n 3, 1), (562, .iconst 0, 1), (563, .laload, 1), (564, .iload 6, 2), (566, .i2l, 1), (567, .lcmp, 1), (568, .ifCond .eq 5, 3), (571, .iconst 0, 1), (572, .ireturn, 1), (573, .goto 1409, 3), (576, .aload_n 1, 1), (577, .aload_n 0, 1), (578, .iload 4, 2), (580, .iconst 1, 1), (581, .iadd, 1), (582, .iaload, 1), (583, .aload_n 3, 1), (584, .invokestatic 154, 3), (587, .istore 5, 2), (589, .aload_n 2, 1), (590, .aload_n 0, 1), (591, .iload 4, 2), (593, .iconst 1, 1), (594, .iadd, 1), (595, .iaload, 1), (596, .invokevirtual 156, 3), (599, .istore 6, 2), (601, .aload_n 2, 1), (602, .invokevirtual 108, 3)]
set_option maxRecDepth 100000 in
theorem qL_law_c6 : ∀ q ∈ tL_law_c6, decode cL_law q.1 = .ok (q.2.1, q.2.2) := by decide +kernel
def tL_law_c7 : List (Nat × Instr × Nat) := [(605, .iload 5, 2), (607, .if_icmp .eq 5, 3), (610, .iconst 0, 1), (611, .ireturn, 1), (612, .iload 5, 2), (614, .ifCond .ne 15, 3), (617, .aload_n 3, 1), (618, .iconst 0, 1), (619, .laload, 1), (620, .iload 6, 2), (622, .i2l, 1), (623, .lcmp, 1), (624, .ifCond .eq 5, 3), (627, .iconst 0, 1), (628, .ireturn, 1), (629, .goto 1353, 3), (632, .aload_n 1, 1), (633, .aload_n 0, 1), (634, .iload 4, 2), (636, .iconst 1, 1), (637, .iadd, 1), (638, .iaload, 1), (639, .aload_n 3, 1), (640, .invokestatic 157, 3), (643, .istore 5, 2), (645, .aload_n 2, 1), (646, .aload_n 0, 1), (647, .iload 4, 2), (649, .iconst 1, 1), (650, .iadd, 1), (651, .iaload, 1), (652, .invokevirtual 159, 3), (655, .istore 6, 2), (657, .aload_n 2, 1), (658, .invokevirtual 108, 3), (661, .iload 5, 2), (663, .if_icmp .eq 5, 3), (666, .iconst 0, 1), (667, .ireturn, 1), (668, .iload 5, 2)]
set_option maxRecDepth 100000 in
theorem qL_law_c7 : ∀ q ∈ tL_law_c7, decode cL_law q.1 = .ok (q.2.1, q.2.2) := by decide +kernel
def tL_law_c8 : List (Nat × Instr × Nat) := [(670, .ifCond .ne 15, 3), (673, .aload_n 3, 1), (674, .iconst 0, 1), (675, .laload, 1), (676, .iload 6, 2), (678, .i2l, 1), (679, .lcmp, 1), (680, .ifCond .eq 5, 3), (683, .iconst 0, 1), (684, .ireturn, 1), (685, .goto 1297, 3), (688, .aload_n 1, 1), (689, .aload_n 0, 1), (690, .iload 4, 2), (692, .iconst 1, 1), (693, .iadd, 1), (694, .iaload, 1), (695, .aload_n 0, 1), (696, .iload 4, 2), (698, .iconst 2, 1), (699, .iadd, 1), (700, .iaload, 1), (701, .aload_n 3, 1), (702, .invokestatic 160, 3), (705, .istore 5, 2), (707, .aload_n 2, 1), (708, .aload_n 0, 1), (709, .iload 4, 2), (711, .iconst 1, 1), (712, .iadd, 1), (713, .iaload, 1), (714, .aload_n 0, 1), (715, .iload 4, 2), (717, .iconst 2, 1), (718, .iadd, 1), (719, .iaload, 1), (720, .invokevirtual 163, 3), (723, .istore 6, 2), (725, .aload_n 2, 1), (726, .invokevirtual 108, 3)]
set_option maxRecDepth 100000 in
theorem qL_law_c8 : ∀ q ∈ tL_law_c8, decode cL_law q.1 = .ok (q.2.1, q.2.2) := by decide +kernel
def tL_law_c9 : List (Nat × Instr × Nat) := [(729, .iload 5, 2), (731, .if_icmp .eq 5, 3), (734, .iconst 0, 1), (735, .ireturn, 1), (736, .iload 5, 2), (738, .ifCond .ne 15, 3), (741, .aload_n 3, 1), (742, .iconst 0, 1), (743, .laload, 1), (744, .iload 6, 2), (746, .i2l, 1), (747, .lcmp, 1), (748, .ifCond .eq 5, 3), (751, .iconst 0, 1), (752, .ireturn, 1), (753, .goto 1229, 3), (756, .aload_n 1, 1), (757, .aload_n 0, 1), (758, .iload 4, 2), (760, .iconst 1, 1), (761, .iadd, 1), (762, .iaload, 1), (763, .aload_n 3, 1), (764, .invokestatic 164, 3), (767, .istore 5, 2), (769, .aload_n 2, 1), (770, .aload_n 0, 1), (771, .iload 4, 2), (773, .iconst 1, 1), (774, .iadd, 1), (775, .iaload, 1), (776, .invokevirtual 166, 3), (779, .istore 6, 2), (781, .aload_n 2, 1), (782, .invokevirtual 108, 3), (785, .iload 5, 2), (787, .if_icmp .eq 5, 3), (790, .iconst 0, 1), (791, .ireturn, 1), (792, .iload 5, 2)]
set_option maxRecDepth 100000 in
theorem qL_law_c9 : ∀ q ∈ tL_law_c9, decode cL_law q.1 = .ok (q.2.1, q.2.2) := by decide +kernel
def tL_law_c10 : List (Nat × Instr × Nat) := [(794, .ifCond .ne 15, 3), (797, .aload_n 3, 1), (798, .iconst 0, 1), (799, .laload, 1), (800, .iload 6, 2), (802, .i2l, 1), (803, .lcmp, 1), (804, .ifCond .eq 5, 3), (807, .iconst 0, 1), (808, .ireturn, 1), (809, .goto 1173, 3), (812, .aload_n 1, 1), (813, .aload_n 0, 1), (814, .iload 4, 2), (816, .iconst 1, 1), (817, .iadd, 1), (818, .iaload, 1), (819, .aload_n 3, 1), (820, .invokestatic 167, 3), (823, .istore 5, 2), (825, .aload_n 2, 1), (826, .aload_n 0, 1), (827, .iload 4, 2), (829, .iconst 1, 1), (830, .iadd, 1), (831, .iaload, 1), (832, .invokevirtual 169, 3), (835, .istore 6, 2), (837, .aload_n 2, 1), (838, .invokevirtual 108, 3), (841, .iload 5, 2), (843, .if_icmp .eq 5, 3), (846, .iconst 0, 1), (847, .ireturn, 1), (848, .iload 5, 2), (850, .ifCond .ne 22, 3), (853, .aload_n 3, 1), (854, .iconst 0, 1), (855, .laload, 1), (856, .iload 6, 2)]
set_option maxRecDepth 100000 in
theorem qL_law_c10 : ∀ q ∈ tL_law_c10, decode cL_law q.1 = .ok (q.2.1, q.2.2) := by decide +kernel
def tL_law_c11 : List (Nat × Instr × Nat) := [(858, .ifCond .eq 7, 3), (861, .lconst 1, 1), (862, .goto 4, 3), (865, .lconst 0, 1), (866, .lcmp, 1), (867, .ifCond .eq 5, 3), (870, .iconst 0, 1), (871, .ireturn, 1), (872, .goto 1110, 3), (875, .aload_n 1, 1), (876, .aload_n 0, 1), (877, .iload 4, 2), (879, .iconst 1, 1), (880, .iadd, 1), (881, .iaload, 1), (882, .aload_n 3, 1), (883, .invokestatic 170, 3), (886, .istore 5, 2), (888, .aload_n 2, 1), (889, .aload_n 0, 1), (890, .iload 4, 2), (892, .iconst 1, 1), (893, .iadd, 1), (894, .iaload, 1), (895, .invokevirtual 172, 3), (898, .istore 6, 2), (900, .aload_n 2, 1), (901, .invokevirtual 108, 3), (904, .iload 5, 2), (906, .if_icmp .eq 5, 3), (909, .iconst 0, 1), (910, .ireturn, 1), (911, .iload 5, 2), (913, .ifCond .ne 22, 3), (916, .aload_n 3, 1), (917, .iconst 0, 1), (918, .laload, 1), (919, .iload 6, 2), (921, .ifCond .eq 7, 3), (924, .lconst 1, 1)]
set_option maxRecDepth 100000 in
theorem qL_law_c11 : ∀ q ∈ tL_law_c11, decode cL_law q.1 = .ok (q.2.1, q.2.2) := by decide +kernel
def tL_law_c12 : List (Nat × Instr × Nat) := [(925, .goto 4, 3), (928, .lconst 0, 1), (929, .lcmp, 1), (930, .ifCond .eq 5, 3), (933, .iconst 0, 1), (934, .ireturn, 1), (935, .goto 1047, 3), (938, .aload_n 1, 1), (939, .aload_n 0, 1), (940, .iload 4, 2), (942, .iconst 1, 1), (943, .iadd, 1), (944, .iaload, 1), (945, .aload_n 3, 1), (946, .invokestatic 173, 3), (949, .istore 5, 2), (951, .aload_n 2, 1), (952, .aload_n 0, 1), (953, .iload 4, 2), (955, .iconst 1, 1), (956, .iadd, 1), (957, .iaload, 1), (958, .invokevirtual 175, 3), (961, .istore 6, 2), (963, .aload_n 2, 1), (964, .invokevirtual 108, 3), (967, .iload 5, 2), (969, .if_icmp .eq 5, 3), (972, .iconst 0, 1), (973, .ireturn, 1), (974, .iload 5, 2), (976, .ifCond .ne 15, 3), (979, .aload_n 3, 1), (980, .iconst 0, 1), (981, .laload, 1), (982, .iload 6, 2), (984, .i2l, 1), (985, .lcmp, 1), (986, .ifCond .eq 5, 3), (989, .iconst 0, 1)]
set_option maxRecDepth 100000 in
theorem qL_law_c12 : ∀ q ∈ tL_law_c12, decode cL_law q.1 = .ok (q.2.1, q.2.2) := by decide +kernel
def tL_law_c13 : List (Nat × Instr × Nat) := [(990, .ireturn, 1), (991, .goto 991, 3), (994, .aload_n 1, 1), (995, .aload_n 0, 1), (996, .iload 4, 2), (998, .iconst 1, 1), (999, .iadd, 1), (1000, .iaload, 1), (1001, .aload_n 0, 1), (1002, .iload 4, 2), (1004, .iconst 2, 1), (1005, .iadd, 1), (1006, .iaload, 1), (1007, .aload_n 3, 1), (1008, .invokestatic 176, 3), (1011, .istore 5, 2), (1013, .aload_n 2, 1), (1014, .aload_n 0, 1), (1015, .iload 4, 2), (1017, .iconst 1, 1), (1018, .iadd, 1), (1019, .iaload, 1), (1020, .aload_n 0, 1), (1021, .iload 4, 2), (1023, .iconst 2, 1), (1024, .iadd, 1), (1025, .iaload, 1), (1026, .invokevirtual 178, 3), (1029, .istore 6, 2), (1031, .aload_n 2, 1), (1032, .invokevirtual 108, 3), (1035, .iload 5, 2), (1037, .if_icmp .eq 5, 3), (1040, .iconst 0, 1), (1041, .ireturn, 1), (1042, .iload 5, 2), (1044, .ifCond .ne 15, 3), (1047, .aload_n 3, 1), (1048, .iconst 0, 1), (1049, .laload, 1)]
set_option maxRecDepth 100000 in
theorem qL_law_c13 : ∀ q ∈ tL_law_c13, decode cL_law q.1 = .ok (q.2.1, q.2.2) := by decide +kernel
def tL_law_c14 : List (Nat × Instr × Nat) := [(1050, .iload 6, 2), (1052, .i2l, 1), (1053, .lcmp, 1), (1054, .ifCond .eq 5, 3), (1057, .iconst 0, 1), (1058, .ireturn, 1), (1059, .goto 923, 3), (1062, .aload_n 1, 1), (1063, .aload_n 0, 1), (1064, .iload 4, 2), (1066, .iconst 1, 1), (1067, .iadd, 1), (1068, .iaload, 1), (1069, .aload_n 3, 1), (1070, .invokestatic 179, 3), (1073, .istore 5, 2), (1075, .aload_n 2, 1), (1076, .aload_n 0, 1), (1077, .iload 4, 2), (1079, .iconst 1, 1), (1080, .iadd, 1), (1081, .iaload, 1), (1082, .invokevirtual 181, 3), (1085, .istore 6, 2), (1087, .aload_n 2, 1), (1088, .invokevirtual 108, 3), (1091, .iload 5, 2), (1093, .if_icmp .eq 5, 3), (1096, .iconst 0, 1), (1097, .ireturn, 1), (1098, .iload 5, 2), (1100, .ifCond .ne 15, 3), (1103, .aload_n 3, 1), (1104, .iconst 0, 1), (1105, .laload, 1), (1106, .iload 6, 2), (1108, .i2l, 1), (1109, .lcmp, 1), (1110, .ifCond .eq 5, 3), (1113, .iconst 0, 1)]
set_option maxRecDepth 100000 in
theorem qL_law_c14 : ∀ q ∈ tL_law_c14, decode cL_law q.1 = .ok (q.2.1, q.2.2) := by decide +kernel
def tL_law_c15 : List (Nat × Instr × Nat) := [(1114, .ireturn, 1), (1115, .goto 867, 3), (1118, .aload_n 1, 1), (1119, .aload_n 0, 1), (1120, .iload 4, 2), (1122, .iconst 1, 1), (1123, .iadd, 1), (1124, .iaload, 1), (1125, .aload_n 3, 1), (1126, .invokestatic 182, 3), (1129, .istore 5, 2), (1131, .aload_n 2, 1), (1132, .aload_n 0, 1), (1133, .iload 4, 2), (1135, .iconst 1, 1), (1136, .iadd, 1), (1137, .iaload, 1), (1138, .invokevirtual 184, 3), (1141, .istore 6, 2), (1143, .aload_n 2, 1), (1144, .invokevirtual 108, 3), (1147, .iload 5, 2), (1149, .if_icmp .eq 5, 3), (1152, .iconst 0, 1), (1153, .ireturn, 1), (1154, .iload 5, 2), (1156, .ifCond .ne 15, 3), (1159, .aload_n 3, 1), (1160, .iconst 0, 1), (1161, .laload, 1), (1162, .iload 6, 2), (1164, .i2l, 1), (1165, .lcmp, 1), (1166, .ifCond .eq 5, 3), (1169, .iconst 0, 1), (1170, .ireturn, 1), (1171, .goto 811, 3), (1174, .aload_n 1, 1), (1175, .aload_n 0, 1), (1176, .iload 4, 2)]
set_option maxRecDepth 100000 in
theorem qL_law_c15 : ∀ q ∈ tL_law_c15, decode cL_law q.1 = .ok (q.2.1, q.2.2) := by decide +kernel
def tL_law_c16 : List (Nat × Instr × Nat) := [(1178, .iconst 1, 1), (1179, .iadd, 1), (1180, .iaload, 1), (1181, .aload_n 0, 1), (1182, .iload 4, 2), (1184, .iconst 2, 1), (1185, .iadd, 1), (1186, .iaload, 1), (1187, .aload_n 3, 1), (1188, .invokestatic 185, 3), (1191, .istore 5, 2), (1193, .aload_n 2, 1), (1194, .aload_n 0, 1), (1195, .iload 4, 2), (1197, .iconst 1, 1), (1198, .iadd, 1), (1199, .iaload, 1), (1200, .aload_n 0, 1), (1201, .iload 4, 2), (1203, .iconst 2, 1), (1204, .iadd, 1), (1205, .iaload, 1), (1206, .invokevirtual 187, 3), (1209, .istore 6, 2), (1211, .aload_n 2, 1), (1212, .invokevirtual 108, 3), (1215, .iload 5, 2), (1217, .if_icmp .eq 5, 3), (1220, .iconst 0, 1), (1221, .ireturn, 1), (1222, .iload 5, 2), (1224, .ifCond .ne 22, 3), (1227, .aload_n 3, 1), (1228, .iconst 0, 1), (1229, .laload, 1), (1230, .iload 6, 2), (1232, .ifCond .eq 7, 3), (1235, .lconst 1, 1), (1236, .goto 4, 3), (1239, .lconst 0, 1)]
set_option maxRecDepth 100000 in
theorem qL_law_c16 : ∀ q ∈ tL_law_c16, decode cL_law q.1 = .ok (q.2.1, q.2.2) := by decide +kernel
def tL_law_c17 : List (Nat × Instr × Nat) := [(1240, .lcmp, 1), (1241, .ifCond .eq 5, 3), (1244, .iconst 0, 1), (1245, .ireturn, 1), (1246, .goto 736, 3), (1249, .aload_n 1, 1), (1250, .aload_n 0, 1), (1251, .iload 4, 2), (1253, .iconst 1, 1), (1254, .iadd, 1), (1255, .iaload, 1), (1256, .aload_n 3, 1), (1257, .invokestatic 188, 3), (1260, .istore 5, 2), (1262, .aload_n 2, 1), (1263, .aload_n 0, 1), (1264, .iload 4, 2), (1266, .iconst 1, 1), (1267, .iadd, 1), (1268, .iaload, 1), (1269, .invokevirtual 190, 3), (1272, .istore 6, 2), (1274, .aload_n 2, 1), (1275, .invokevirtual 108, 3), (1278, .iload 5, 2), (1280, .if_icmp .eq 5, 3), (1283, .iconst 0, 1), (1284, .ireturn, 1), (1285, .iload 5, 2), (1287, .ifCond .ne 22, 3), (1290, .aload_n 3, 1), (1291, .iconst 0, 1), (1292, .laload, 1), (1293, .iload 6, 2), (1295, .ifCond .eq 7, 3), (1298, .lconst 1, 1), (1299, .goto 4, 3), (1302, .lconst 0, 1), (1303, .lcmp, 1), (1304, .ifCond .eq 5, 3)]
set_option maxRecDepth 100000 in
theorem qL_law_c17 : ∀ q ∈ tL_law_c17, decode cL_law q.1 = .ok (q.2.1, q.2.2) := by decide +kernel
def tL_law_c18 : List (Nat × Instr × Nat) := [(1307, .iconst 0, 1), (1308, .ireturn, 1), (1309, .goto 673, 3), (1312, .aload_n 1, 1), (1313, .aload_n 0, 1), (1314, .iload 4, 2), (1316, .iconst 1, 1), (1317, .iadd, 1), (1318, .iaload, 1), (1319, .aload_n 3, 1), (1320, .invokestatic 191, 3), (1323, .istore 5, 2), (1325, .aload_n 2, 1), (1326, .aload_n 0, 1), (1327, .iload 4, 2), (1329, .iconst 1, 1), (1330, .iadd, 1), (1331, .iaload, 1), (1332, .invokevirtual 193, 3), (1335, .istore 6, 2), (1337, .aload_n 2, 1), (1338, .invokevirtual 108, 3), (1341, .iload 5, 2), (1343, .if_icmp .eq 5, 3), (1346, .iconst 0, 1), (1347, .ireturn, 1), (1348, .iload 5, 2), (1350, .ifCond .ne 15, 3), (1353, .aload_n 3, 1), (1354, .iconst 0, 1), (1355, .laload, 1), (1356, .iload 6, 2), (1358, .i2l, 1), (1359, .lcmp, 1), (1360, .ifCond .eq 5, 3), (1363, .iconst 0, 1), (1364, .ireturn, 1), (1365, .goto 617, 3), (1368, .aload_n 1, 1), (1369, .aload_n 0, 1)]
set_option maxRecDepth 100000 in
theorem qL_law_c18 : ∀ q ∈ tL_law_c18, decode cL_law q.1 = .ok (q.2.1, q.2.2) := by decide +kernel
def tL_law_c19 : List (Nat × Instr × Nat) := [(1370, .iload 4, 2), (1372, .iconst 1, 1), (1373, .iadd, 1), (1374, .iaload, 1), (1375, .aload_n 0, 1), (1376, .iload 4, 2), (1378, .iconst 2, 1), (1379, .iadd, 1), (1380, .iaload, 1), (1381, .aload_n 3, 1), (1382, .invokestatic 194, 3), (1385, .istore 5, 2), (1387, .aload_n 2, 1), (1388, .aload_n 0, 1), (1389, .iload 4, 2), (1391, .iconst 1, 1), (1392, .iadd, 1), (1393, .iaload, 1), (1394, .aload_n 0, 1), (1395, .iload 4, 2), (1397, .iconst 2, 1), (1398, .iadd, 1), (1399, .iaload, 1), (1400, .invokevirtual 196, 3), (1403, .istore 6, 2), (1405, .aload_n 2, 1), (1406, .invokevirtual 108, 3), (1409, .iload 5, 2), (1411, .if_icmp .eq 5, 3), (1414, .iconst 0, 1), (1415, .ireturn, 1), (1416, .iload 5, 2), (1418, .ifCond .ne 15, 3), (1421, .aload_n 3, 1), (1422, .iconst 0, 1), (1423, .laload, 1), (1424, .iload 6, 2), (1426, .i2l, 1), (1427, .lcmp, 1), (1428, .ifCond .eq 5, 3)]
set_option maxRecDepth 100000 in
theorem qL_law_c19 : ∀ q ∈ tL_law_c19, decode cL_law q.1 = .ok (q.2.1, q.2.2) := by decide +kernel
def tL_law_c20 : List (Nat × Instr × Nat) := [(1431, .iconst 0, 1), (1432, .ireturn, 1), (1433, .goto 549, 3), (1436, .aload_n 1, 1), (1437, .aload_n 0, 1), (1438, .iload 4, 2), (1440, .iconst 1, 1), (1441, .iadd, 1), (1442, .iaload, 1), (1443, .aload_n 3, 1), (1444, .invokestatic 197, 3), (1447, .istore 5, 2), (1449, .aload_n 2, 1), (1450, .aload_n 0, 1), (1451, .iload 4, 2), (1453, .iconst 1, 1), (1454, .iadd, 1), (1455, .iaload, 1), (1456, .invokevirtual 199, 3), (1459, .istore 6, 2), (1461, .aload_n 2, 1), (1462, .invokevirtual 108, 3), (1465, .iload 5, 2), (1467, .if_icmp .eq 5, 3), (1470, .iconst 0, 1), (1471, .ireturn, 1), (1472, .iload 5, 2), (1474, .ifCond .ne 15, 3), (1477, .aload_n 3, 1), (1478, .iconst 0, 1), (1479, .laload, 1), (1480, .iload 6, 2), (1482, .i2l, 1), (1483, .lcmp, 1), (1484, .ifCond .eq 5, 3), (1487, .iconst 0, 1), (1488, .ireturn, 1), (1489, .goto 493, 3), (1492, .aload_n 1, 1), (1493, .aload_n 0, 1)]
set_option maxRecDepth 100000 in
theorem qL_law_c20 : ∀ q ∈ tL_law_c20, decode cL_law q.1 = .ok (q.2.1, q.2.2) := by decide +kernel
def tL_law_c21 : List (Nat × Instr × Nat) := [(1494, .iload 4, 2), (1496, .iconst 1, 1), (1497, .iadd, 1), (1498, .iaload, 1), (1499, .aload_n 3, 1), (1500, .invokestatic 200, 3), (1503, .istore 5, 2), (1505, .aload_n 2, 1), (1506, .aload_n 0, 1), (1507, .iload 4, 2), (1509, .iconst 1, 1), (1510, .iadd, 1), (1511, .iaload, 1), (1512, .invokevirtual 202, 3), (1515, .istore 6, 2), (1517, .aload_n 2, 1), (1518, .invokevirtual 108, 3), (1521, .iload 5, 2), (1523, .if_icmp .eq 5, 3), (1526, .iconst 0, 1), (1527, .ireturn, 1), (1528, .iload 5, 2), (1530, .ifCond .ne 15, 3), (1533, .aload_n 3, 1), (1534, .iconst 0, 1), (1535, .laload, 1), (1536, .iload 6, 2), (1538, .i2l, 1), (1539, .lcmp, 1), (1540, .ifCond .eq 5, 3), (1543, .iconst 0, 1), (1544, .ireturn, 1), (1545, .goto 437, 3), (1548, .aload_n 1, 1), (1549, .aload_n 0, 1), (1550, .iload 4, 2), (1552, .iconst 1, 1), (1553, .iadd, 1), (1554, .iaload, 1), (1555, .aload_n 3, 1)]
set_option maxRecDepth 100000 in
theorem qL_law_c21 : ∀ q ∈ tL_law_c21, decode cL_law q.1 = .ok (q.2.1, q.2.2) := by decide +kernel
def tL_law_c22 : List (Nat × Instr × Nat) := [(1556, .invokestatic 203, 3), (1559, .istore 5, 2), (1561, .aload_n 2, 1), (1562, .aload_n 0, 1), (1563, .iload 4, 2), (1565, .iconst 1, 1), (1566, .iadd, 1), (1567, .iaload, 1), (1568, .invokevirtual 205, 3), (1571, .istore 6, 2), (1573, .aload_n 2, 1), (1574, .invokevirtual 108, 3), (1577, .iload 5, 2), (1579, .if_icmp .eq 5, 3), (1582, .iconst 0, 1), (1583, .ireturn, 1), (1584, .iload 5, 2), (1586, .ifCond .ne 15, 3), (1589, .aload_n 3, 1), (1590, .iconst 0, 1), (1591, .laload, 1), (1592, .iload 6, 2), (1594, .i2l, 1), (1595, .lcmp, 1), (1596, .ifCond .eq 5, 3), (1599, .iconst 0, 1), (1600, .ireturn, 1), (1601, .goto 381, 3), (1604, .aload_n 1, 1), (1605, .aload_n 0, 1), (1606, .iload 4, 2), (1608, .iconst 1, 1), (1609, .iadd, 1), (1610, .iaload, 1), (1611, .aload_n 0, 1), (1612, .iload 4, 2), (1614, .iconst 2, 1), (1615, .iadd, 1), (1616, .iaload, 1), (1617, .aload_n 3, 1)]
set_option maxRecDepth 100000 in
theorem qL_law_c22 : ∀ q ∈ tL_law_c22, decode cL_law q.1 = .ok (q.2.1, q.2.2) := by decide +kernel
def tL_law_c23 : List (Nat × Instr × Nat) := [(1618, .invokestatic 206, 3), (1621, .istore 5, 2), (1623, .aload_n 2, 1), (1624, .aload_n 0, 1), (1625, .iload 4, 2), (1627, .iconst 1, 1), (1628, .iadd, 1), (1629, .iaload, 1), (1630, .aload_n 0, 1), (1631, .iload 4, 2), (1633, .iconst 2, 1), (1634, .iadd, 1), (1635, .iaload, 1), (1636, .invokevirtual 208, 3), (1639, .istore 6, 2), (1641, .aload_n 2, 1), (1642, .invokevirtual 108, 3), (1645, .iload 5, 2), (1647, .if_icmp .eq 5, 3), (1650, .iconst 0, 1), (1651, .ireturn, 1), (1652, .iload 5, 2), (1654, .ifCond .ne 15, 3), (1657, .aload_n 3, 1), (1658, .iconst 0, 1), (1659, .laload, 1), (1660, .iload 6, 2), (1662, .i2l, 1), (1663, .lcmp, 1), (1664, .ifCond .eq 5, 3), (1667, .iconst 0, 1), (1668, .ireturn, 1), (1669, .goto 313, 3), (1672, .aload_n 1, 1), (1673, .aload_n 0, 1), (1674, .iload 4, 2), (1676, .iconst 1, 1), (1677, .iadd, 1), (1678, .iaload, 1), (1679, .aload_n 0, 1)]
set_option maxRecDepth 100000 in
theorem qL_law_c23 : ∀ q ∈ tL_law_c23, decode cL_law q.1 = .ok (q.2.1, q.2.2) := by decide +kernel
def tL_law_c24 : List (Nat × Instr × Nat) := [(1680, .iload 4, 2), (1682, .iconst 2, 1), (1683, .iadd, 1), (1684, .iaload, 1), (1685, .aload_n 3, 1), (1686, .invokestatic 209, 3), (1689, .istore 5, 2), (1691, .aload_n 2, 1), (1692, .aload_n 0, 1), (1693, .iload 4, 2), (1695, .iconst 1, 1), (1696, .iadd, 1), (1697, .iaload, 1), (1698, .aload_n 0, 1), (1699, .iload 4, 2), (1701, .iconst 2, 1), (1702, .iadd, 1), (1703, .iaload, 1), (1704, .invokevirtual 211, 3), (1707, .istore 6, 2), (1709, .aload_n 2, 1), (1710, .invokevirtual 108, 3), (1713, .iload 5, 2), (1715, .if_icmp .eq 5, 3), (1718, .iconst 0, 1), (1719, .ireturn, 1), (1720, .iload 5, 2), (1722, .ifCond .ne 22, 3), (1725, .aload_n 3, 1), (1726, .iconst 0, 1), (1727, .laload, 1), (1728, .iload 6, 2), (1730, .ifCond .eq 7, 3), (1733, .lconst 1, 1), (1734, .goto 4, 3), (1737, .lconst 0, 1), (1738, .lcmp, 1), (1739, .ifCond .eq 5, 3), (1742, .iconst 0, 1), (1743, .ireturn, 1)]
set_option maxRecDepth 100000 in
theorem qL_law_c24 : ∀ q ∈ tL_law_c24, decode cL_law q.1 = .ok (q.2.1, q.2.2) := by decide +kernel
def tL_law_c25 : List (Nat × Instr × Nat) := [(1744, .goto 238, 3), (1747, .aload_n 1, 1), (1748, .aload_n 0, 1), (1749, .iload 4, 2), (1751, .iconst 1, 1), (1752, .iadd, 1), (1753, .iaload, 1), (1754, .aload_n 0, 1), (1755, .iload 4, 2), (1757, .iconst 2, 1), (1758, .iadd, 1), (1759, .iaload, 1), (1760, .aload_n 3, 1), (1761, .invokestatic 212, 3), (1764, .istore 5, 2), (1766, .aload_n 2, 1), (1767, .aload_n 0, 1), (1768, .iload 4, 2), (1770, .iconst 1, 1), (1771, .iadd, 1), (1772, .iaload, 1), (1773, .aload_n 0, 1), (1774, .iload 4, 2), (1776, .iconst 2, 1), (1777, .iadd, 1), (1778, .iaload, 1), (1779, .invokevirtual 214, 3), (1782, .istore 6, 2), (1784, .aload_n 2, 1), (1785, .invokevirtual 108, 3), (1788, .iload 5, 2), (1790, .if_icmp .eq 5, 3), (1793, .iconst 0, 1), (1794, .ireturn, 1), (1795, .iload 5, 2), (1797, .ifCond .ne 15, 3), (1800, .aload_n 3, 1), (1801, .iconst 0, 1), (1802, .laload, 1), (1803, .iload 6, 2)]
set_option maxRecDepth 100000 in
theorem qL_law_c25 : ∀ q ∈ tL_law_c25, decode cL_law q.1 = .ok (q.2.1, q.2.2) := by decide +kernel
def tL_law_c26 : List (Nat × Instr × Nat) := [(1805, .i2l, 1), (1806, .lcmp, 1), (1807, .ifCond .eq 5, 3), (1810, .iconst 0, 1), (1811, .ireturn, 1), (1812, .goto 170, 3), (1815, .aload_n 1, 1), (1816, .aload_n 0, 1), (1817, .iload 4, 2), (1819, .iconst 1, 1), (1820, .iadd, 1), (1821, .iaload, 1), (1822, .aload_n 3, 1), (1823, .invokestatic 215, 3), (1826, .istore 5, 2), (1828, .aload_n 2, 1), (1829, .aload_n 0, 1), (1830, .iload 4, 2), (1832, .iconst 1, 1), (1833, .iadd, 1), (1834, .iaload, 1), (1835, .invokevirtual 217, 3), (1838, .istore 6, 2), (1840, .aload_n 2, 1), (1841, .invokevirtual 108, 3), (1844, .iload 5, 2), (1846, .if_icmp .eq 5, 3), (1849, .iconst 0, 1), (1850, .ireturn, 1), (1851, .iload 5, 2), (1853, .ifCond .ne 15, 3), (1856, .aload_n 3, 1), (1857, .iconst 0, 1), (1858, .laload, 1), (1859, .iload 6, 2), (1861, .i2l, 1), (1862, .lcmp, 1), (1863, .ifCond .eq 5, 3), (1866, .iconst 0, 1), (1867, .ireturn, 1)]
set_option maxRecDepth 100000 in
theorem qL_law_c26 : ∀ q ∈ tL_law_c26, decode cL_law q.1 = .ok (q.2.1, q.2.2) := by decide +kernel
def tL_law_c27 : List (Nat × Instr × Nat) := [(1868, .goto 114, 3), (1871, .aload_n 1, 1), (1872, .aload_n 0, 1), (1873, .iload 4, 2), (1875, .iconst 1, 1), (1876, .iadd, 1), (1877, .iaload, 1), (1878, .aload_n 3, 1), (1879, .invokestatic 218, 3), (1882, .istore 5, 2), (1884, .aload_n 2, 1), (1885, .aload_n 0, 1), (1886, .iload 4, 2), (1888, .iconst 1, 1), (1889, .iadd, 1), (1890, .iaload, 1), (1891, .invokevirtual 220, 3), (1894, .istore 6, 2), (1896, .aload_n 2, 1), (1897, .invokevirtual 108, 3), (1900, .iload 5, 2), (1902, .if_icmp .eq 5, 3), (1905, .iconst 0, 1), (1906, .ireturn, 1), (1907, .iload 5, 2), (1909, .ifCond .ne 15, 3), (1912, .aload_n 3, 1), (1913, .iconst 0, 1), (1914, .laload, 1), (1915, .iload 6, 2), (1917, .i2l, 1), (1918, .lcmp, 1), (1919, .ifCond .eq 5, 3), (1922, .iconst 0, 1), (1923, .ireturn, 1), (1924, .goto 58, 3), (1927, .aload_n 1, 1), (1928, .invokevirtual 221, 3), (1931, .dstore 5, 2), (1933, .aload_n 2, 1)]
set_option maxRecDepth 100000 in
theorem qL_law_c27 : ∀ q ∈ tL_law_c27, decode cL_law q.1 = .ok (q.2.1, q.2.2) := by decide +kernel
def tL_law_c28 : List (Nat × Instr × Nat) := [(1934, .invokevirtual 225, 3), (1937, .dstore 7, 2), (1939, .dload 5, 2), (1941, .dload 7, 2), (1943, .dcmp .l, 1), (1944, .ifCond .eq 21, 3), (1947, .dload 5, 2), (1949, .dload 5, 2), (1951, .dcmp .l, 1), (1952, .ifCond .eq 11, 3), (1955, .dload 7, 2), (1957, .dload 7, 2), (1959, .dcmp .l, 1), (1960, .ifCond .ne 5, 3), (1963, .iconst 0, 1), (1964, .ireturn, 1), (1965, .goto 17, 3), (1968, .aload_n 1, 1), (1969, .invokevirtual 226, 3), (1972, .aload_n 2, 1), (1973, .invokevirtual 230, 3), (1976, .lcmp, 1), (1977, .ifCond .eq 5, 3), (1980, .iconst 0, 1), (1981, .ireturn, 1), (1982, .iinc 4 6, 3), (1985, .goto (-1962), 3), (1988, .iconst 1, 1), (1989, .ireturn, 1)]
set_option maxRecDepth 100000 in
theorem qL_law_c28 : ∀ q ∈ tL_law_c28, decode cL_law q.1 = .ok (q.2.1, q.2.2) := by decide +kernel
noncomputable def kL_law_23 (d : Nat) (p0 : Nat) (p1 : Nat) (p2 : Nat) (p3 : Nat) (i4 : Int32) (o5 : Option Value) (o6 : Option Value) (o7 : Option Value) (o8 : Option Value) (h : jm_H) : Option jm_R := jm_B d mL_law (23, [some (.ref p0), some (.ref p1), some (.ref p2), some (.ref p3), some (.int i4), o5, o6, o7, o8], []) h
noncomputable def kL_law_40 (d : Nat) (p0 : Nat) (p1 : Nat) (p2 : Nat) (p3 : Nat) (i4 : Int32) (o5 : Option Value) (o6 : Option Value) (o7 : Option Value) (o8 : Option Value) (si0 : Int32) (h : jm_H) : Option jm_R := jm_B d mL_law (40, [some (.ref p0), some (.ref p1), some (.ref p2), some (.ref p3), some (.int i4), o5, o6, o7, o8], [.int si0]) h
noncomputable def kL_law_1982 (d : Nat) (p0 : Nat) (p1 : Nat) (p2 : Nat) (p3 : Nat) (i4 : Int32) (o5 : Option Value) (o6 : Option Value) (o7 : Option Value) (o8 : Option Value) (h : jm_H) : Option jm_R := jm_B d mL_law (1982, [some (.ref p0), some (.ref p1), some (.ref p2), some (.ref p3), some (.int i4), o5, o6, o7, o8], []) h
noncomputable def kL_law_1968 (d : Nat) (p0 : Nat) (p1 : Nat) (p2 : Nat) (p3 : Nat) (i4 : Int32) (o5 : Option Value) (o6 : Option Value) (o7 : Option Value) (o8 : Option Value) (h : jm_H) : Option jm_R := jm_B d mL_law (1968, [some (.ref p0), some (.ref p1), some (.ref p2), some (.ref p3), some (.int i4), o5, o6, o7, o8], []) h
noncomputable def kL_law_1927 (d : Nat) (p0 : Nat) (p1 : Nat) (p2 : Nat) (p3 : Nat) (i4 : Int32) (o5 : Option Value) (o6 : Option Value) (o7 : Option Value) (o8 : Option Value) (h : jm_H) : Option jm_R := jm_B d mL_law (1927, [some (.ref p0), some (.ref p1), some (.ref p2), some (.ref p3), some (.int i4), o5, o6, o7, o8], []) h
noncomputable def kL_law_1871 (d : Nat) (p0 : Nat) (p1 : Nat) (p2 : Nat) (p3 : Nat) (i4 : Int32) (o5 : Option Value) (o6 : Option Value) (o7 : Option Value) (o8 : Option Value) (h : jm_H) : Option jm_R := jm_B d mL_law (1871, [some (.ref p0), some (.ref p1), some (.ref p2), some (.ref p3), some (.int i4), o5, o6, o7, o8], []) h
noncomputable def kL_law_1815 (d : Nat) (p0 : Nat) (p1 : Nat) (p2 : Nat) (p3 : Nat) (i4 : Int32) (o5 : Option Value) (o6 : Option Value) (o7 : Option Value) (o8 : Option Value) (h : jm_H) : Option jm_R := jm_B d mL_law (1815, [some (.ref p0), some (.ref p1), some (.ref p2), some (.ref p3), some (.int i4), o5, o6, o7, o8], []) h
noncomputable def kL_law_1747 (d : Nat) (p0 : Nat) (p1 : Nat) (p2 : Nat) (p3 : Nat) (i4 : Int32) (o5 : Option Value) (o6 : Option Value) (o7 : Option Value) (o8 : Option Value) (h : jm_H) : Option jm_R := jm_B d mL_law (1747, [some (.ref p0), some (.ref p1), some (.ref p2), some (.ref p3), some (.int i4), o5, o6, o7, o8], []) h
noncomputable def kL_law_1672 (d : Nat) (p0 : Nat) (p1 : Nat) (p2 : Nat) (p3 : Nat) (i4 : Int32) (o5 : Option Value) (o6 : Option Value) (o7 : Option Value) (o8 : Option Value) (h : jm_H) : Option jm_R := jm_B d mL_law (1672, [some (.ref p0), some (.ref p1), some (.ref p2), some (.ref p3), some (.int i4), o5, o6, o7, o8], []) h
noncomputable def kL_law_1604 (d : Nat) (p0 : Nat) (p1 : Nat) (p2 : Nat) (p3 : Nat) (i4 : Int32) (o5 : Option Value) (o6 : Option Value) (o7 : Option Value) (o8 : Option Value) (h : jm_H) : Option jm_R := jm_B d mL_law (1604, [some (.ref p0), some (.ref p1), some (.ref p2), some (.ref p3), some (.int i4), o5, o6, o7, o8], []) h
noncomputable def kL_law_1548 (d : Nat) (p0 : Nat) (p1 : Nat) (p2 : Nat) (p3 : Nat) (i4 : Int32) (o5 : Option Value) (o6 : Option Value) (o7 : Option Value) (o8 : Option Value) (h : jm_H) : Option jm_R := jm_B d mL_law (1548, [some (.ref p0), some (.ref p1), some (.ref p2), some (.ref p3), some (.int i4), o5, o6, o7, o8], []) h
noncomputable def kL_law_1492 (d : Nat) (p0 : Nat) (p1 : Nat) (p2 : Nat) (p3 : Nat) (i4 : Int32) (o5 : Option Value) (o6 : Option Value) (o7 : Option Value) (o8 : Option Value) (h : jm_H) : Option jm_R := jm_B d mL_law (1492, [some (.ref p0), some (.ref p1), some (.ref p2), some (.ref p3), some (.int i4), o5, o6, o7, o8], []) h
noncomputable def kL_law_1436 (d : Nat) (p0 : Nat) (p1 : Nat) (p2 : Nat) (p3 : Nat) (i4 : Int32) (o5 : Option Value) (o6 : Option Value) (o7 : Option Value) (o8 : Option Value) (h : jm_H) : Option jm_R := jm_B d mL_law (1436, [some (.ref p0), some (.ref p1), some (.ref p2), some (.ref p3), some (.int i4), o5, o6, o7, o8], []) h
noncomputable def kL_law_1368 (d : Nat) (p0 : Nat) (p1 : Nat) (p2 : Nat) (p3 : Nat) (i4 : Int32) (o5 : Option Value) (o6 : Option Value) (o7 : Option Value) (o8 : Option Value) (h : jm_H) : Option jm_R := jm_B d mL_law (1368, [some (.ref p0), some (.ref p1), some (.ref p2), some (.ref p3), some (.int i4), o5, o6, o7, o8], []) h
noncomputable def kL_law_1312 (d : Nat) (p0 : Nat) (p1 : Nat) (p2 : Nat) (p3 : Nat) (i4 : Int32) (o5 : Option Value) (o6 : Option Value) (o7 : Option Value) (o8 : Option Value) (h : jm_H) : Option jm_R := jm_B d mL_law (1312, [some (.ref p0), some (.ref p1), some (.ref p2), some (.ref p3), some (.int i4), o5, o6, o7, o8], []) h
noncomputable def kL_law_1249 (d : Nat) (p0 : Nat) (p1 : Nat) (p2 : Nat) (p3 : Nat) (i4 : Int32) (o5 : Option Value) (o6 : Option Value) (o7 : Option Value) (o8 : Option Value) (h : jm_H) : Option jm_R := jm_B d mL_law (1249, [some (.ref p0), some (.ref p1), some (.ref p2), some (.ref p3), some (.int i4), o5, o6, o7, o8], []) h
noncomputable def kL_law_1174 (d : Nat) (p0 : Nat) (p1 : Nat) (p2 : Nat) (p3 : Nat) (i4 : Int32) (o5 : Option Value) (o6 : Option Value) (o7 : Option Value) (o8 : Option Value) (h : jm_H) : Option jm_R := jm_B d mL_law (1174, [some (.ref p0), some (.ref p1), some (.ref p2), some (.ref p3), some (.int i4), o5, o6, o7, o8], []) h
noncomputable def kL_law_1118 (d : Nat) (p0 : Nat) (p1 : Nat) (p2 : Nat) (p3 : Nat) (i4 : Int32) (o5 : Option Value) (o6 : Option Value) (o7 : Option Value) (o8 : Option Value) (h : jm_H) : Option jm_R := jm_B d mL_law (1118, [some (.ref p0), some (.ref p1), some (.ref p2), some (.ref p3), some (.int i4), o5, o6, o7, o8], []) h
noncomputable def kL_law_1062 (d : Nat) (p0 : Nat) (p1 : Nat) (p2 : Nat) (p3 : Nat) (i4 : Int32) (o5 : Option Value) (o6 : Option Value) (o7 : Option Value) (o8 : Option Value) (h : jm_H) : Option jm_R := jm_B d mL_law (1062, [some (.ref p0), some (.ref p1), some (.ref p2), some (.ref p3), some (.int i4), o5, o6, o7, o8], []) h
noncomputable def kL_law_994 (d : Nat) (p0 : Nat) (p1 : Nat) (p2 : Nat) (p3 : Nat) (i4 : Int32) (o5 : Option Value) (o6 : Option Value) (o7 : Option Value) (o8 : Option Value) (h : jm_H) : Option jm_R := jm_B d mL_law (994, [some (.ref p0), some (.ref p1), some (.ref p2), some (.ref p3), some (.int i4), o5, o6, o7, o8], []) h
noncomputable def kL_law_938 (d : Nat) (p0 : Nat) (p1 : Nat) (p2 : Nat) (p3 : Nat) (i4 : Int32) (o5 : Option Value) (o6 : Option Value) (o7 : Option Value) (o8 : Option Value) (h : jm_H) : Option jm_R := jm_B d mL_law (938, [some (.ref p0), some (.ref p1), some (.ref p2), some (.ref p3), some (.int i4), o5, o6, o7, o8], []) h
noncomputable def kL_law_875 (d : Nat) (p0 : Nat) (p1 : Nat) (p2 : Nat) (p3 : Nat) (i4 : Int32) (o5 : Option Value) (o6 : Option Value) (o7 : Option Value) (o8 : Option Value) (h : jm_H) : Option jm_R := jm_B d mL_law (875, [some (.ref p0), some (.ref p1), some (.ref p2), some (.ref p3), some (.int i4), o5, o6, o7, o8], []) h
noncomputable def kL_law_812 (d : Nat) (p0 : Nat) (p1 : Nat) (p2 : Nat) (p3 : Nat) (i4 : Int32) (o5 : Option Value) (o6 : Option Value) (o7 : Option Value) (o8 : Option Value) (h : jm_H) : Option jm_R := jm_B d mL_law (812, [some (.ref p0), some (.ref p1), some (.ref p2), some (.ref p3), some (.int i4), o5, o6, o7, o8], []) h
noncomputable def kL_law_756 (d : Nat) (p0 : Nat) (p1 : Nat) (p2 : Nat) (p3 : Nat) (i4 : Int32) (o5 : Option Value) (o6 : Option Value) (o7 : Option Value) (o8 : Option Value) (h : jm_H) : Option jm_R := jm_B d mL_law (756, [some (.ref p0), some (.ref p1), some (.ref p2), some (.ref p3), some (.int i4), o5, o6, o7, o8], []) h
noncomputable def kL_law_688 (d : Nat) (p0 : Nat) (p1 : Nat) (p2 : Nat) (p3 : Nat) (i4 : Int32) (o5 : Option Value) (o6 : Option Value) (o7 : Option Value) (o8 : Option Value) (h : jm_H) : Option jm_R := jm_B d mL_law (688, [some (.ref p0), some (.ref p1), some (.ref p2), some (.ref p3), some (.int i4), o5, o6, o7, o8], []) h
noncomputable def kL_law_632 (d : Nat) (p0 : Nat) (p1 : Nat) (p2 : Nat) (p3 : Nat) (i4 : Int32) (o5 : Option Value) (o6 : Option Value) (o7 : Option Value) (o8 : Option Value) (h : jm_H) : Option jm_R := jm_B d mL_law (632, [some (.ref p0), some (.ref p1), some (.ref p2), some (.ref p3), some (.int i4), o5, o6, o7, o8], []) h
noncomputable def kL_law_576 (d : Nat) (p0 : Nat) (p1 : Nat) (p2 : Nat) (p3 : Nat) (i4 : Int32) (o5 : Option Value) (o6 : Option Value) (o7 : Option Value) (o8 : Option Value) (h : jm_H) : Option jm_R := jm_B d mL_law (576, [some (.ref p0), some (.ref p1), some (.ref p2), some (.ref p3), some (.int i4), o5, o6, o7, o8], []) h
noncomputable def kL_law_520 (d : Nat) (p0 : Nat) (p1 : Nat) (p2 : Nat) (p3 : Nat) (i4 : Int32) (o5 : Option Value) (o6 : Option Value) (o7 : Option Value) (o8 : Option Value) (h : jm_H) : Option jm_R := jm_B d mL_law (520, [some (.ref p0), some (.ref p1), some (.ref p2), some (.ref p3), some (.int i4), o5, o6, o7, o8], []) h
noncomputable def kL_law_464 (d : Nat) (p0 : Nat) (p1 : Nat) (p2 : Nat) (p3 : Nat) (i4 : Int32) (o5 : Option Value) (o6 : Option Value) (o7 : Option Value) (o8 : Option Value) (h : jm_H) : Option jm_R := jm_B d mL_law (464, [some (.ref p0), some (.ref p1), some (.ref p2), some (.ref p3), some (.int i4), o5, o6, o7, o8], []) h
noncomputable def kL_law_451 (d : Nat) (p0 : Nat) (p1 : Nat) (p2 : Nat) (p3 : Nat) (i4 : Int32) (o5 : Option Value) (o6 : Option Value) (o7 : Option Value) (o8 : Option Value) (h : jm_H) : Option jm_R := jm_B d mL_law (451, [some (.ref p0), some (.ref p1), some (.ref p2), some (.ref p3), some (.int i4), o5, o6, o7, o8], []) h
noncomputable def kL_law_438 (d : Nat) (p0 : Nat) (p1 : Nat) (p2 : Nat) (p3 : Nat) (i4 : Int32) (o5 : Option Value) (o6 : Option Value) (o7 : Option Value) (o8 : Option Value) (h : jm_H) : Option jm_R := jm_B d mL_law (438, [some (.ref p0), some (.ref p1), some (.ref p2), some (.ref p3), some (.int i4), o5, o6, o7, o8], []) h
noncomputable def kL_law_425 (d : Nat) (p0 : Nat) (p1 : Nat) (p2 : Nat) (p3 : Nat) (i4 : Int32) (o5 : Option Value) (o6 : Option Value) (o7 : Option Value) (o8 : Option Value) (h : jm_H) : Option jm_R := jm_B d mL_law (425, [some (.ref p0), some (.ref p1), some (.ref p2), some (.ref p3), some (.int i4), o5, o6, o7, o8], []) h
noncomputable def kL_law_412 (d : Nat) (p0 : Nat) (p1 : Nat) (p2 : Nat) (p3 : Nat) (i4 : Int32) (o5 : Option Value) (o6 : Option Value) (o7 : Option Value) (o8 : Option Value) (h : jm_H) : Option jm_R := jm_B d mL_law (412, [some (.ref p0), some (.ref p1), some (.ref p2), some (.ref p3), some (.int i4), o5, o6, o7, o8], []) h
noncomputable def kL_law_399 (d : Nat) (p0 : Nat) (p1 : Nat) (p2 : Nat) (p3 : Nat) (i4 : Int32) (o5 : Option Value) (o6 : Option Value) (o7 : Option Value) (o8 : Option Value) (h : jm_H) : Option jm_R := jm_B d mL_law (399, [some (.ref p0), some (.ref p1), some (.ref p2), some (.ref p3), some (.int i4), o5, o6, o7, o8], []) h
noncomputable def kL_law_386 (d : Nat) (p0 : Nat) (p1 : Nat) (p2 : Nat) (p3 : Nat) (i4 : Int32) (o5 : Option Value) (o6 : Option Value) (o7 : Option Value) (o8 : Option Value) (h : jm_H) : Option jm_R := jm_B d mL_law (386, [some (.ref p0), some (.ref p1), some (.ref p2), some (.ref p3), some (.int i4), o5, o6, o7, o8], []) h
noncomputable def kL_law_373 (d : Nat) (p0 : Nat) (p1 : Nat) (p2 : Nat) (p3 : Nat) (i4 : Int32) (o5 : Option Value) (o6 : Option Value) (o7 : Option Value) (o8 : Option Value) (h : jm_H) : Option jm_R := jm_B d mL_law (373, [some (.ref p0), some (.ref p1), some (.ref p2), some (.ref p3), some (.int i4), o5, o6, o7, o8], []) h
noncomputable def kL_law_360 (d : Nat) (p0 : Nat) (p1 : Nat) (p2 : Nat) (p3 : Nat) (i4 : Int32) (o5 : Option Value) (o6 : Option Value) (o7 : Option Value) (o8 : Option Value) (h : jm_H) : Option jm_R := jm_B d mL_law (360, [some (.ref p0), some (.ref p1), some (.ref p2), some (.ref p3), some (.int i4), o5, o6, o7, o8], []) h
noncomputable def kL_law_304 (d : Nat) (p0 : Nat) (p1 : Nat) (p2 : Nat) (p3 : Nat) (i4 : Int32) (o5 : Option Value) (o6 : Option Value) (o7 : Option Value) (o8 : Option Value) (h : jm_H) : Option jm_R := jm_B d mL_law (304, [some (.ref p0), some (.ref p1), some (.ref p2), some (.ref p3), some (.int i4), o5, o6, o7, o8], []) h
noncomputable def kL_law_200 (d : Nat) (p0 : Nat) (p1 : Nat) (p2 : Nat) (p3 : Nat) (i4 : Int32) (o5 : Option Value) (o6 : Option Value) (o7 : Option Value) (o8 : Option Value) (h : jm_H) : Option jm_R := jm_B d mL_law (200, [some (.ref p0), some (.ref p1), some (.ref p2), some (.ref p3), some (.int i4), o5, o6, o7, o8], []) h
theorem gL_law_23 {d : Nat} {p0 : Nat} {p1 : Nat} {p2 : Nat} {p3 : Nat} {i4 : Int32} {o5 : Option Value} {o6 : Option Value} {o7 : Option Value} {o8 : Option Value} {h : jm_H} {r : jm_R} (H : ((jm_len h p0).bind fun n19 => (if ((Int32.ofNat n19) - 6) < i4 then some (.inl (some (.int 1)), h) else (jm_ali h p0 0 i4).bind fun x22 => kL_law_40 d p0 p1 p2 p3 i4 o5 o6 o7 o8 (x22 &&& 63) h)) = some r) : kL_law_23 d p0 p1 p2 p3 i4 o5 o6 o7 o8 h = some r := by
  show jm_B d mL_law (23, [some (.ref p0), some (.ref p1), some (.ref p2), some (.ref p3), some (.int i4), o5, o6, o7, o8], []) h = some r
  refine Eq.trans (jb_nx (i := .iload 4) (n := 2) (q := (25, [some (.ref p0), some (.ref p1), some (.ref p2), some (.ref p3), some (.int i4), o5, o6, o7, o8], [.int i4])) (jq qL_law_c0 13 rfl) rfl) ?_
  refine Eq.trans (jb_nx (i := .aload_n 0) (n := 1) (q := (26, [some (.ref p0), some (.ref p1), some (.ref p2), some (.ref p3), some (.int i4), o5, o6, o7, o8], [.ref p0, .int i4])) (jq qL_law_c0 14 rfl) rfl) ?_
  obtain ⟨n19, e20, H⟩ := jbd H
  refine Eq.trans (jb_nx (i := .arraylength) (n := 1) (q := (27, [some (.ref p0), some (.ref p1), some (.ref p2), some (.ref p3), some (.int i4), o5, o6, o7, o8], [.int (Int32.ofNat n19), .int i4])) (jq qL_law_c0 15 rfl) (jo_len e20)) ?_
  refine Eq.trans (jb_nx (i := .bipush 6) (n := 2) (q := (29, [some (.ref p0), some (.ref p1), some (.ref p2), some (.ref p3), some (.int i4), o5, o6, o7, o8], [.int 6, .int (Int32.ofNat n19), .int i4])) (jq qL_law_c0 16 rfl) rfl) ?_
  refine Eq.trans (jb_nx (i := .isub) (n := 1) (q := (30, [some (.ref p0), some (.ref p1), some (.ref p2), some (.ref p3), some (.int i4), o5, o6, o7, o8], [.int ((Int32.ofNat n19) - 6), .int i4])) (jq qL_law_c0 17 rfl) rfl) ?_
  by_cases c21 : ((Int32.ofNat n19) - 6) < i4
  · rw [if_pos c21] at H
    refine Eq.trans (jb_nx (i := .if_icmp .gt 1958) (n := 3) (q := (1988, [some (.ref p0), some (.ref p1), some (.ref p2), some (.ref p3), some (.int i4), o5, o6, o7, o8], [])) (jq qL_law_c0 18 rfl) (jo_icT (jz_gtT c21) rfl)) ?_
    refine Eq.trans (jb_nx (i := .iconst 1) (n := 1) (q := (1989, [some (.ref p0), some (.ref p1), some (.ref p2), some (.ref p3), some (.int i4), o5, o6, o7, o8], [.int 1])) (jq qL_law_c28 27 rfl) rfl) ?_
    exact Eq.trans (jb_rt (i := .ireturn) (n := 1) (jq qL_law_c28 28 rfl) (jo_iret rfl (by decide))) H
  · rw [if_neg c21] at H
    refine Eq.trans (jb_nx (i := .if_icmp .gt 1958) (n := 3) (q := (33, [some (.ref p0), some (.ref p1), some (.ref p2), some (.ref p3), some (.int i4), o5, o6, o7, o8], [])) (jq qL_law_c0 18 rfl) (jo_icF (jz_gtF c21))) ?_
    refine Eq.trans (jb_nx (i := .aload_n 0) (n := 1) (q := (34, [some (.ref p0), some (.ref p1), some (.ref p2), some (.ref p3), some (.int i4), o5, o6, o7, o8], [.ref p0])) (jq qL_law_c0 19 rfl) rfl) ?_
    refine Eq.trans (jb_nx (i := .iload 4) (n := 2) (q := (36, [some (.ref p0), some (.ref p1), some (.ref p2), some (.ref p3), some (.int i4), o5, o6, o7, o8], [.int i4, .ref p0])) (jq qL_law_c0 20 rfl) rfl) ?_
    obtain ⟨x22, e23, H⟩ := jbd H
    refine Eq.trans (jb_nx (i := .iaload) (n := 1) (q := (37, [some (.ref p0), some (.ref p1), some (.ref p2), some (.ref p3), some (.int i4), o5, o6, o7, o8], [.int x22])) (jq qL_law_c0 21 rfl) (jo_ial e23)) ?_
    refine Eq.trans (jb_nx (i := .bipush 63) (n := 2) (q := (39, [some (.ref p0), some (.ref p1), some (.ref p2), some (.ref p3), some (.int i4), o5, o6, o7, o8], [.int 63, .int x22])) (jq qL_law_c0 22 rfl) rfl) ?_
    refine Eq.trans (jb_nx (i := .iand) (n := 1) (q := (40, [some (.ref p0), some (.ref p1), some (.ref p2), some (.ref p3), some (.int i4), o5, o6, o7, o8], [.int (x22 &&& 63)])) (jq qL_law_c0 23 rfl) rfl) ?_
    exact H
theorem gL_law_40_0 {d : Nat} {p0 : Nat} {p1 : Nat} {p2 : Nat} {p3 : Nat} {i4 : Int32} {o5 : Option Value} {o6 : Option Value} {o7 : Option Value} {o8 : Option Value} {si0 : Int32} {h : jm_H} {r : jm_R} (hx : si0.toInt = 0) (H : kL_law_200 d p0 p1 p2 p3 i4 o5 o6 o7 o8 h = some r) : kL_law_40 d p0 p1 p2 p3 i4 o5 o6 o7 o8 si0 h = some r := by
  show jm_B d mL_law (40, [some (.ref p0), some (.ref p1), some (.ref p2), some (.ref p3), some (.int i4), o5, o6, o7, o8], [.int si0]) h = some r
  refine Eq.trans (jb_nx (i := .tableswitch 1942 0 35 #[160, 264, 320, 333, 346, 359, 372, 385, 398, 411, 424, 480, 536, 592, 648, 716, 772, 835, 898, 954, 1022, 1078, 1134, 1209, 1272, 1328, 1396, 1452, 1508, 1564, 1632, 1707, 1775, 1831, 1887, 1928]) (n := 160) (q := (200, [some (.ref p0), some (.ref p1), some (.ref p2), some (.ref p3), some (.int i4), o5, o6, o7, o8], [])) (jq qL_law_c0 24 rfl) (jo_tabK (j := 0) (off := 160) (by omega) (by decide) rfl rfl)) ?_
  exact H
theorem gL_law_40_1 {d : Nat} {p0 : Nat} {p1 : Nat} {p2 : Nat} {p3 : Nat} {i4 : Int32} {o5 : Option Value} {o6 : Option Value} {o7 : Option Value} {o8 : Option Value} {si0 : Int32} {h : jm_H} {r : jm_R} (hx : si0.toInt = 1) (H : kL_law_304 d p0 p1 p2 p3 i4 o5 o6 o7 o8 h = some r) : kL_law_40 d p0 p1 p2 p3 i4 o5 o6 o7 o8 si0 h = some r := by
  show jm_B d mL_law (40, [some (.ref p0), some (.ref p1), some (.ref p2), some (.ref p3), some (.int i4), o5, o6, o7, o8], [.int si0]) h = some r
  refine Eq.trans (jb_nx (i := .tableswitch 1942 0 35 #[160, 264, 320, 333, 346, 359, 372, 385, 398, 411, 424, 480, 536, 592, 648, 716, 772, 835, 898, 954, 1022, 1078, 1134, 1209, 1272, 1328, 1396, 1452, 1508, 1564, 1632, 1707, 1775, 1831, 1887, 1928]) (n := 160) (q := (304, [some (.ref p0), some (.ref p1), some (.ref p2), some (.ref p3), some (.int i4), o5, o6, o7, o8], [])) (jq qL_law_c0 24 rfl) (jo_tabK (j := 1) (off := 264) (by omega) (by decide) rfl rfl)) ?_
  exact H
theorem gL_law_40_2 {d : Nat} {p0 : Nat} {p1 : Nat} {p2 : Nat} {p3 : Nat} {i4 : Int32} {o5 : Option Value} {o6 : Option Value} {o7 : Option Value} {o8 : Option Value} {si0 : Int32} {h : jm_H} {r : jm_R} (hx : si0.toInt = 2) (H : kL_law_360 d p0 p1 p2 p3 i4 o5 o6 o7 o8 h = some r) : kL_law_40 d p0 p1 p2 p3 i4 o5 o6 o7 o8 si0 h = some r := by
  show jm_B d mL_law (40, [some (.ref p0), some (.ref p1), some (.ref p2), some (.ref p3), some (.int i4), o5, o6, o7, o8], [.int si0]) h = some r
  refine Eq.trans (jb_nx (i := .tableswitch 1942 0 35 #[160, 264, 320, 333, 346, 359, 372, 385, 398, 411, 424, 480, 536, 592, 648, 716, 772, 835, 898, 954, 1022, 1078, 1134, 1209, 1272, 1328, 1396, 1452, 1508, 1564, 1632, 1707, 1775, 1831, 1887, 1928]) (n := 160) (q := (360, [some (.ref p0), some (.ref p1), some (.ref p2), some (.ref p3), some (.int i4), o5, o6, o7, o8], [])) (jq qL_law_c0 24 rfl) (jo_tabK (j := 2) (off := 320) (by omega) (by decide) rfl rfl)) ?_
  exact H
theorem gL_law_40_3 {d : Nat} {p0 : Nat} {p1 : Nat} {p2 : Nat} {p3 : Nat} {i4 : Int32} {o5 : Option Value} {o6 : Option Value} {o7 : Option Value} {o8 : Option Value} {si0 : Int32} {h : jm_H} {r : jm_R} (hx : si0.toInt = 3) (H : kL_law_373 d p0 p1 p2 p3 i4 o5 o6 o7 o8 h = some r) : kL_law_40 d p0 p1 p2 p3 i4 o5 o6 o7 o8 si0 h = some r := by
  show jm_B d mL_law (40, [some (.ref p0), some (.ref p1), some (.ref p2), some (.ref p3), some (.int i4), o5, o6, o7, o8], [.int si0]) h = some r
  refine Eq.trans (jb_nx (i := .tableswitch 1942 0 35 #[160, 264, 320, 333, 346, 359, 372, 385, 398, 411, 424, 480, 536, 592, 648, 716, 772, 835, 898, 954, 1022, 1078, 1134, 1209, 1272, 1328, 1396, 1452, 1508, 1564, 1632, 1707, 1775, 1831, 1887, 1928]) (n := 160) (q := (373, [some (.ref p0), some (.ref p1), some (.ref p2), some (.ref p3), some (.int i4), o5, o6, o7, o8], [])) (jq qL_law_c0 24 rfl) (jo_tabK (j := 3) (off := 333) (by omega) (by decide) rfl rfl)) ?_
  exact H
theorem gL_law_40_4 {d : Nat} {p0 : Nat} {p1 : Nat} {p2 : Nat} {p3 : Nat} {i4 : Int32} {o5 : Option Value} {o6 : Option Value} {o7 : Option Value} {o8 : Option Value} {si0 : Int32} {h : jm_H} {r : jm_R} (hx : si0.toInt = 4) (H : kL_law_386 d p0 p1 p2 p3 i4 o5 o6 o7 o8 h = some r) : kL_law_40 d p0 p1 p2 p3 i4 o5 o6 o7 o8 si0 h = some r := by
  show jm_B d mL_law (40, [some (.ref p0), some (.ref p1), some (.ref p2), some (.ref p3), some (.int i4), o5, o6, o7, o8], [.int si0]) h = some r
  refine Eq.trans (jb_nx (i := .tableswitch 1942 0 35 #[160, 264, 320, 333, 346, 359, 372, 385, 398, 411, 424, 480, 536, 592, 648, 716, 772, 835, 898, 954, 1022, 1078, 1134, 1209, 1272, 1328, 1396, 1452, 1508, 1564, 1632, 1707, 1775, 1831, 1887, 1928]) (n := 160) (q := (386, [some (.ref p0), some (.ref p1), some (.ref p2), some (.ref p3), some (.int i4), o5, o6, o7, o8], [])) (jq qL_law_c0 24 rfl) (jo_tabK (j := 4) (off := 346) (by omega) (by decide) rfl rfl)) ?_
  exact H
theorem gL_law_40_5 {d : Nat} {p0 : Nat} {p1 : Nat} {p2 : Nat} {p3 : Nat} {i4 : Int32} {o5 : Option Value} {o6 : Option Value} {o7 : Option Value} {o8 : Option Value} {si0 : Int32} {h : jm_H} {r : jm_R} (hx : si0.toInt = 5) (H : kL_law_399 d p0 p1 p2 p3 i4 o5 o6 o7 o8 h = some r) : kL_law_40 d p0 p1 p2 p3 i4 o5 o6 o7 o8 si0 h = some r := by
  show jm_B d mL_law (40, [some (.ref p0), some (.ref p1), some (.ref p2), some (.ref p3), some (.int i4), o5, o6, o7, o8], [.int si0]) h = some r
  refine Eq.trans (jb_nx (i := .tableswitch 1942 0 35 #[160, 264, 320, 333, 346, 359, 372, 385, 398, 411, 424, 480, 536, 592, 648, 716, 772, 835, 898, 954, 1022, 1078, 1134, 1209, 1272, 1328, 1396, 1452, 1508, 1564, 1632, 1707, 1775, 1831, 1887, 1928]) (n := 160) (q := (399, [some (.ref p0), some (.ref p1), some (.ref p2), some (.ref p3), some (.int i4), o5, o6, o7, o8], [])) (jq qL_law_c0 24 rfl) (jo_tabK (j := 5) (off := 359) (by omega) (by decide) rfl rfl)) ?_
  exact H
theorem gL_law_40_6 {d : Nat} {p0 : Nat} {p1 : Nat} {p2 : Nat} {p3 : Nat} {i4 : Int32} {o5 : Option Value} {o6 : Option Value} {o7 : Option Value} {o8 : Option Value} {si0 : Int32} {h : jm_H} {r : jm_R} (hx : si0.toInt = 6) (H : kL_law_412 d p0 p1 p2 p3 i4 o5 o6 o7 o8 h = some r) : kL_law_40 d p0 p1 p2 p3 i4 o5 o6 o7 o8 si0 h = some r := by
  show jm_B d mL_law (40, [some (.ref p0), some (.ref p1), some (.ref p2), some (.ref p3), some (.int i4), o5, o6, o7, o8], [.int si0]) h = some r
  refine Eq.trans (jb_nx (i := .tableswitch 1942 0 35 #[160, 264, 320, 333, 346, 359, 372, 385, 398, 411, 424, 480, 536, 592, 648, 716, 772, 835, 898, 954, 1022, 1078, 1134, 1209, 1272, 1328, 1396, 1452, 1508, 1564, 1632, 1707, 1775, 1831, 1887, 1928]) (n := 160) (q := (412, [some (.ref p0), some (.ref p1), some (.ref p2), some (.ref p3), some (.int i4), o5, o6, o7, o8], [])) (jq qL_law_c0 24 rfl) (jo_tabK (j := 6) (off := 372) (by omega) (by decide) rfl rfl)) ?_
  exact H
theorem gL_law_40_7 {d : Nat} {p0 : Nat} {p1 : Nat} {p2 : Nat} {p3 : Nat} {i4 : Int32} {o5 : Option Value} {o6 : Option Value} {o7 : Option Value} {o8 : Option Value} {si0 : Int32} {h : jm_H} {r : jm_R} (hx : si0.toInt = 7) (H : kL_law_425 d p0 p1 p2 p3 i4 o5 o6 o7 o8 h = some r) : kL_law_40 d p0 p1 p2 p3 i4 o5 o6 o7 o8 si0 h = some r := by
  show jm_B d mL_law (40, [some (.ref p0), some (.ref p1), some (.ref p2), some (.ref p3), some (.int i4), o5, o6, o7, o8], [.int si0]) h = some r
  refine Eq.trans (jb_nx (i := .tableswitch 1942 0 35 #[160, 264, 320, 333, 346, 359, 372, 385, 398, 411, 424, 480, 536, 592, 648, 716, 772, 835, 898, 954, 1022, 1078, 1134, 1209, 1272, 1328, 1396, 1452, 1508, 1564, 1632, 1707, 1775, 1831, 1887, 1928]) (n := 160) (q := (425, [some (.ref p0), some (.ref p1), some (.ref p2), some (.ref p3), some (.int i4), o5, o6, o7, o8], [])) (jq qL_law_c0 24 rfl) (jo_tabK (j := 7) (off := 385) (by omega) (by decide) rfl rfl)) ?_
  exact H
theorem gL_law_40_8 {d : Nat} {p0 : Nat} {p1 : Nat} {p2 : Nat} {p3 : Nat} {i4 : Int32} {o5 : Option Value} {o6 : Option Value} {o7 : Option Value} {o8 : Option Value} {si0 : Int32} {h : jm_H} {r : jm_R} (hx : si0.toInt = 8) (H : kL_law_438 d p0 p1 p2 p3 i4 o5 o6 o7 o8 h = some r) : kL_law_40 d p0 p1 p2 p3 i4 o5 o6 o7 o8 si0 h = some r := by
  show jm_B d mL_law (40, [some (.ref p0), some (.ref p1), some (.ref p2), some (.ref p3), some (.int i4), o5, o6, o7, o8], [.int si0]) h = some r
  refine Eq.trans (jb_nx (i := .tableswitch 1942 0 35 #[160, 264, 320, 333, 346, 359, 372, 385, 398, 411, 424, 480, 536, 592, 648, 716, 772, 835, 898, 954, 1022, 1078, 1134, 1209, 1272, 1328, 1396, 1452, 1508, 1564, 1632, 1707, 1775, 1831, 1887, 1928]) (n := 160) (q := (438, [some (.ref p0), some (.ref p1), some (.ref p2), some (.ref p3), some (.int i4), o5, o6, o7, o8], [])) (jq qL_law_c0 24 rfl) (jo_tabK (j := 8) (off := 398) (by omega) (by decide) rfl rfl)) ?_
  exact H
theorem gL_law_40_9 {d : Nat} {p0 : Nat} {p1 : Nat} {p2 : Nat} {p3 : Nat} {i4 : Int32} {o5 : Option Value} {o6 : Option Value} {o7 : Option Value} {o8 : Option Value} {si0 : Int32} {h : jm_H} {r : jm_R} (hx : si0.toInt = 9) (H : kL_law_451 d p0 p1 p2 p3 i4 o5 o6 o7 o8 h = some r) : kL_law_40 d p0 p1 p2 p3 i4 o5 o6 o7 o8 si0 h = some r := by
  show jm_B d mL_law (40, [some (.ref p0), some (.ref p1), some (.ref p2), some (.ref p3), some (.int i4), o5, o6, o7, o8], [.int si0]) h = some r
  refine Eq.trans (jb_nx (i := .tableswitch 1942 0 35 #[160, 264, 320, 333, 346, 359, 372, 385, 398, 411, 424, 480, 536, 592, 648, 716, 772, 835, 898, 954, 1022, 1078, 1134, 1209, 1272, 1328, 1396, 1452, 1508, 1564, 1632, 1707, 1775, 1831, 1887, 1928]) (n := 160) (q := (451, [some (.ref p0), some (.ref p1), some (.ref p2), some (.ref p3), some (.int i4), o5, o6, o7, o8], [])) (jq qL_law_c0 24 rfl) (jo_tabK (j := 9) (off := 411) (by omega) (by decide) rfl rfl)) ?_
  exact H
theorem gL_law_40_10 {d : Nat} {p0 : Nat} {p1 : Nat} {p2 : Nat} {p3 : Nat} {i4 : Int32} {o5 : Option Value} {o6 : Option Value} {o7 : Option Value} {o8 : Option Value} {si0 : Int32} {h : jm_H} {r : jm_R} (hx : si0.toInt = 10) (H : kL_law_464 d p0 p1 p2 p3 i4 o5 o6 o7 o8 h = some r) : kL_law_40 d p0 p1 p2 p3 i4 o5 o6 o7 o8 si0 h = some r := by
  show jm_B d mL_law (40, [some (.ref p0), some (.ref p1), some (.ref p2), some (.ref p3), some (.int i4), o5, o6, o7, o8], [.int si0]) h = some r
  refine Eq.trans (jb_nx (i := .tableswitch 1942 0 35 #[160, 264, 320, 333, 346, 359, 372, 385, 398, 411, 424, 480, 536, 592, 648, 716, 772, 835, 898, 954, 1022, 1078, 1134, 1209, 1272, 1328, 1396, 1452, 1508, 1564, 1632, 1707, 1775, 1831, 1887, 1928]) (n := 160) (q := (464, [some (.ref p0), some (.ref p1), some (.ref p2), some (.ref p3), some (.int i4), o5, o6, o7, o8], [])) (jq qL_law_c0 24 rfl) (jo_tabK (j := 10) (off := 424) (by omega) (by decide) rfl rfl)) ?_
  exact H
theorem gL_law_40_11 {d : Nat} {p0 : Nat} {p1 : Nat} {p2 : Nat} {p3 : Nat} {i4 : Int32} {o5 : Option Value} {o6 : Option Value} {o7 : Option Value} {o8 : Option Value} {si0 : Int32} {h : jm_H} {r : jm_R} (hx : si0.toInt = 11) (H : kL_law_520 d p0 p1 p2 p3 i4 o5 o6 o7 o8 h = some r) : kL_law_40 d p0 p1 p2 p3 i4 o5 o6 o7 o8 si0 h = some r := by
  show jm_B d mL_law (40, [some (.ref p0), some (.ref p1), some (.ref p2), some (.ref p3), some (.int i4), o5, o6, o7, o8], [.int si0]) h = some r
  refine Eq.trans (jb_nx (i := .tableswitch 1942 0 35 #[160, 264, 320, 333, 346, 359, 372, 385, 398, 411, 424, 480, 536, 592, 648, 716, 772, 835, 898, 954, 1022, 1078, 1134, 1209, 1272, 1328, 1396, 1452, 1508, 1564, 1632, 1707, 1775, 1831, 1887, 1928]) (n := 160) (q := (520, [some (.ref p0), some (.ref p1), some (.ref p2), some (.ref p3), some (.int i4), o5, o6, o7, o8], [])) (jq qL_law_c0 24 rfl) (jo_tabK (j := 11) (off := 480) (by omega) (by decide) rfl rfl)) ?_
  exact H
theorem gL_law_40_12 {d : Nat} {p0 : Nat} {p1 : Nat} {p2 : Nat} {p3 : Nat} {i4 : Int32} {o5 : Option Value} {o6 : Option Value} {o7 : Option Value} {o8 : Option Value} {si0 : Int32} {h : jm_H} {r : jm_R} (hx : si0.toInt = 12) (H : kL_law_576 d p0 p1 p2 p3 i4 o5 o6 o7 o8 h = some r) : kL_law_40 d p0 p1 p2 p3 i4 o5 o6 o7 o8 si0 h = some r := by
  show jm_B d mL_law (40, [some (.ref p0), some (.ref p1), some (.ref p2), some (.ref p3), some (.int i4), o5, o6, o7, o8], [.int si0]) h = some r
  refine Eq.trans (jb_nx (i := .tableswitch 1942 0 35 #[160, 264, 320, 333, 346, 359, 372, 385, 398, 411, 424, 480, 536, 592, 648, 716, 772, 835, 898, 954, 1022, 1078, 1134, 1209, 1272, 1328, 1396, 1452, 1508, 1564, 1632, 1707, 1775, 1831, 1887, 1928]) (n := 160) (q := (576, [some (.ref p0), some (.ref p1), some (.ref p2), some (.ref p3), some (.int i4), o5, o6, o7, o8], [])) (jq qL_law_c0 24 rfl) (jo_tabK (j := 12) (off := 536) (by omega) (by decide) rfl rfl)) ?_
  exact H
theorem gL_law_40_13 {d : Nat} {p0 : Nat} {p1 : Nat} {p2 : Nat} {p3 : Nat} {i4 : Int32} {o5 : Option Value} {o6 : Option Value} {o7 : Option Value} {o8 : Option Value} {si0 : Int32} {h : jm_H} {r : jm_R} (hx : si0.toInt = 13) (H : kL_law_632 d p0 p1 p2 p3 i4 o5 o6 o7 o8 h = some r) : kL_law_40 d p0 p1 p2 p3 i4 o5 o6 o7 o8 si0 h = some r := by
  show jm_B d mL_law (40, [some (.ref p0), some (.ref p1), some (.ref p2), some (.ref p3), some (.int i4), o5, o6, o7, o8], [.int si0]) h = some r
  refine Eq.trans (jb_nx (i := .tableswitch 1942 0 35 #[160, 264, 320, 333, 346, 359, 372, 385, 398, 411, 424, 480, 536, 592, 648, 716, 772, 835, 898, 954, 1022, 1078, 1134, 1209, 1272, 1328, 1396, 1452, 1508, 1564, 1632, 1707, 1775, 1831, 1887, 1928]) (n := 160) (q := (632, [some (.ref p0), some (.ref p1), some (.ref p2), some (.ref p3), some (.int i4), o5, o6, o7, o8], [])) (jq qL_law_c0 24 rfl) (jo_tabK (j := 13) (off := 592) (by omega) (by decide) rfl rfl)) ?_
  exact H
theorem gL_law_40_14 {d : Nat} {p0 : Nat} {p1 : Nat} {p2 : Nat} {p3 : Nat} {i4 : Int32} {o5 : Option Value} {o6 : Option Value} {o7 : Option Value} {o8 : Option Value} {si0 : Int32} {h : jm_H} {r : jm_R} (hx : si0.toInt = 14) (H : kL_law_688 d p0 p1 p2 p3 i4 o5 o6 o7 o8 h = some r) : kL_law_40 d p0 p1 p2 p3 i4 o5 o6 o7 o8 si0 h = some r := by
  show jm_B d mL_law (40, [some (.ref p0), some (.ref p1), some (.ref p2), some (.ref p3), some (.int i4), o5, o6, o7, o8], [.int si0]) h = some r
  refine Eq.trans (jb_nx (i := .tableswitch 1942 0 35 #[160, 264, 320, 333, 346, 359, 372, 385, 398, 411, 424, 480, 536, 592, 648, 716, 772, 835, 898, 954, 1022, 1078, 1134, 1209, 1272, 1328, 1396, 1452, 1508, 1564, 1632, 1707, 1775, 1831, 1887, 1928]) (n := 160) (q := (688, [some (.ref p0), some (.ref p1), some (.ref p2), some (.ref p3), some (.int i4), o5, o6, o7, o8], [])) (jq qL_law_c0 24 rfl) (jo_tabK (j := 14) (off := 648) (by omega) (by decide) rfl rfl)) ?_
  exact H
theorem gL_law_40_15 {d : Nat} {p0 : Nat} {p1 : Nat} {p2 : Nat} {p3 : Nat} {i4 : Int32} {o5 : Option Value} {o6 : Option Value} {o7 : Option Value} {o8 : Option Value} {si0 : Int32} {h : jm_H} {r : jm_R} (hx : si0.toInt = 15) (H : kL_law_756 d p0 p1 p2 p3 i4 o5 o6 o7 o8 h = some r) : kL_law_40 d p0 p1 p2 p3 i4 o5 o6 o7 o8 si0 h = some r := by
  show jm_B d mL_law (40, [some (.ref p0), some (.ref p1), some (.ref p2), some (.ref p3), some (.int i4), o5, o6, o7, o8], [.int si0]) h = some r
  refine Eq.trans (jb_nx (i := .tableswitch 1942 0 35 #[160, 264, 320, 333, 346, 359, 372, 385, 398, 411, 424, 480, 536, 592, 648, 716, 772, 835, 898, 954, 1022, 1078, 1134, 1209, 1272, 1328, 1396, 1452, 1508, 1564, 1632, 1707, 1775, 1831, 1887, 1928]) (n := 160) (q := (756, [some (.ref p0), some (.ref p1), some (.ref p2), some (.ref p3), some (.int i4), o5, o6, o7, o8], [])) (jq qL_law_c0 24 rfl) (jo_tabK (j := 15) (off := 716) (by omega) (by decide) rfl rfl)) ?_
  exact H
theorem gL_law_40_16 {d : Nat} {p0 : Nat} {p1 : Nat} {p2 : Nat} {p3 : Nat} {i4 : Int32} {o5 : Option Value} {o6 : Option Value} {o7 : Option Value} {o8 : Option Value} {si0 : Int32} {h : jm_H} {r : jm_R} (hx : si0.toInt = 16) (H : kL_law_812 d p0 p1 p2 p3 i4 o5 o6 o7 o8 h = some r) : kL_law_40 d p0 p1 p2 p3 i4 o5 o6 o7 o8 si0 h = some r := by
  show jm_B d mL_law (40, [some (.ref p0), some (.ref p1), some (.ref p2), some (.ref p3), some (.int i4), o5, o6, o7, o8], [.int si0]) h = some r
  refine Eq.trans (jb_nx (i := .tableswitch 1942 0 35 #[160, 264, 320, 333, 346, 359, 372, 385, 398, 411, 424, 480, 536, 592, 648, 716, 772, 835, 898, 954, 1022, 1078, 1134, 1209, 1272, 1328, 1396, 1452, 1508, 1564, 1632, 1707, 1775, 1831, 1887, 1928]) (n := 160) (q := (812, [some (.ref p0), some (.ref p1), some (.ref p2), some (.ref p3), some (.int i4), o5, o6, o7, o8], [])) (jq qL_law_c0 24 rfl) (jo_tabK (j := 16) (off := 772) (by omega) (by decide) rfl rfl)) ?_
  exact H
theorem gL_law_40_17 {d : Nat} {p0 : Nat} {p1 : Nat} {p2 : Nat} {p3 : Nat} {i4 : Int32} {o5 : Option Value} {o6 : Option Value} {o7 : Option Value} {o8 : Option Value} {si0 : Int32} {h : jm_H} {r : jm_R} (hx : si0.toInt = 17) (H : kL_law_875 d p0 p1 p2 p3 i4 o5 o6 o7 o8 h = some r) : kL_law_40 d p0 p1 p2 p3 i4 o5 o6 o7 o8 si0 h = some r := by
  show jm_B d mL_law (40, [some (.ref p0), some (.ref p1), some (.ref p2), some (.ref p3), some (.int i4), o5, o6, o7, o8], [.int si0]) h = some r
  refine Eq.trans (jb_nx (i := .tableswitch 1942 0 35 #[160, 264, 320, 333, 346, 359, 372, 385, 398, 411, 424, 480, 536, 592, 648, 716, 772, 835, 898, 954, 1022, 1078, 1134, 1209, 1272, 1328, 1396, 1452, 1508, 1564, 1632, 1707, 1775, 1831, 1887, 1928]) (n := 160) (q := (875, [some (.ref p0), some (.ref p1), some (.ref p2), some (.ref p3), some (.int i4), o5, o6, o7, o8], [])) (jq qL_law_c0 24 rfl) (jo_tabK (j := 17) (off := 835) (by omega) (by decide) rfl rfl)) ?_
  exact H
theorem gL_law_40_18 {d : Nat} {p0 : Nat} {p1 : Nat} {p2 : Nat} {p3 : Nat} {i4 : Int32} {o5 : Option Value} {o6 : Option Value} {o7 : Option Value} {o8 : Option Value} {si0 : Int32} {h : jm_H} {r : jm_R} (hx : si0.toInt = 18) (H : kL_law_938 d p0 p1 p2 p3 i4 o5 o6 o7 o8 h = some r) : kL_law_40 d p0 p1 p2 p3 i4 o5 o6 o7 o8 si0 h = some r := by
  show jm_B d mL_law (40, [some (.ref p0), some (.ref p1), some (.ref p2), some (.ref p3), some (.int i4), o5, o6, o7, o8], [.int si0]) h = some r
  refine Eq.trans (jb_nx (i := .tableswitch 1942 0 35 #[160, 264, 320, 333, 346, 359, 372, 385, 398, 411, 424, 480, 536, 592, 648, 716, 772, 835, 898, 954, 1022, 1078, 1134, 1209, 1272, 1328, 1396, 1452, 1508, 1564, 1632, 1707, 1775, 1831, 1887, 1928]) (n := 160) (q := (938, [some (.ref p0), some (.ref p1), some (.ref p2), some (.ref p3), some (.int i4), o5, o6, o7, o8], [])) (jq qL_law_c0 24 rfl) (jo_tabK (j := 18) (off := 898) (by omega) (by decide) rfl rfl)) ?_
  exact H
theorem gL_law_40_19 {d : Nat} {p0 : Nat} {p1 : Nat} {p2 : Nat} {p3 : Nat} {i4 : Int32} {o5 : Option Value} {o6 : Option Value} {o7 : Option Value} {o8 : Option Value} {si0 : Int32} {h : jm_H} {r : jm_R} (hx : si0.toInt = 19) (H : kL_law_994 d p0 p1 p2 p3 i4 o5 o6 o7 o8 h = some r) : kL_law_40 d p0 p1 p2 p3 i4 o5 o6 o7 o8 si0 h = some r := by
  show jm_B d mL_law (40, [some (.ref p0), some (.ref p1), some (.ref p2), some (.ref p3), some (.int i4), o5, o6, o7, o8], [.int si0]) h = some r
  refine Eq.trans (jb_nx (i := .tableswitch 1942 0 35 #[160, 264, 320, 333, 346, 359, 372, 385, 398, 411, 424, 480, 536, 592, 648, 716, 772, 835, 898, 954, 1022, 1078, 1134, 1209, 1272, 1328, 1396, 1452, 1508, 1564, 1632, 1707, 1775, 1831, 1887, 1928]) (n := 160) (q := (994, [some (.ref p0), some (.ref p1), some (.ref p2), some (.ref p3), some (.int i4), o5, o6, o7, o8], [])) (jq qL_law_c0 24 rfl) (jo_tabK (j := 19) (off := 954) (by omega) (by decide) rfl rfl)) ?_
  exact H
theorem gL_law_40_20 {d : Nat} {p0 : Nat} {p1 : Nat} {p2 : Nat} {p3 : Nat} {i4 : Int32} {o5 : Option Value} {o6 : Option Value} {o7 : Option Value} {o8 : Option Value} {si0 : Int32} {h : jm_H} {r : jm_R} (hx : si0.toInt = 20) (H : kL_law_1062 d p0 p1 p2 p3 i4 o5 o6 o7 o8 h = some r) : kL_law_40 d p0 p1 p2 p3 i4 o5 o6 o7 o8 si0 h = some r := by
  show jm_B d mL_law (40, [some (.ref p0), some (.ref p1), some (.ref p2), some (.ref p3), some (.int i4), o5, o6, o7, o8], [.int si0]) h = some r
  refine Eq.trans (jb_nx (i := .tableswitch 1942 0 35 #[160, 264, 320, 333, 346, 359, 372, 385, 398, 411, 424, 480, 536, 592, 648, 716, 772, 835, 898, 954, 1022, 1078, 1134, 1209, 1272, 1328, 1396, 1452, 1508, 1564, 1632, 1707, 1775, 1831, 1887, 1928]) (n := 160) (q := (1062, [some (.ref p0), some (.ref p1), some (.ref p2), some (.ref p3), some (.int i4), o5, o6, o7, o8], [])) (jq qL_law_c0 24 rfl) (jo_tabK (j := 20) (off := 1022) (by omega) (by decide) rfl rfl)) ?_
  exact H
theorem gL_law_40_21 {d : Nat} {p0 : Nat} {p1 : Nat} {p2 : Nat} {p3 : Nat} {i4 : Int32} {o5 : Option Value} {o6 : Option Value} {o7 : Option Value} {o8 : Option Value} {si0 : Int32} {h : jm_H} {r : jm_R} (hx : si0.toInt = 21) (H : kL_law_1118 d p0 p1 p2 p3 i4 o5 o6 o7 o8 h = some r) : kL_law_40 d p0 p1 p2 p3 i4 o5 o6 o7 o8 si0 h = some r := by
  show jm_B d mL_law (40, [some (.ref p0), some (.ref p1), some (.ref p2), some (.ref p3), some (.int i4), o5, o6, o7, o8], [.int si0]) h = some r
  refine Eq.trans (jb_nx (i := .tableswitch 1942 0 35 #[160, 264, 320, 333, 346, 359, 372, 385, 398, 411, 424, 480, 536, 592, 648, 716, 772, 835, 898, 954, 1022, 1078, 1134, 1209, 1272, 1328, 1396, 1452, 1508, 1564, 1632, 1707, 1775, 1831, 1887, 1928]) (n := 160) (q := (1118, [some (.ref p0), some (.ref p1), some (.ref p2), some (.ref p3), some (.int i4), o5, o6, o7, o8], [])) (jq qL_law_c0 24 rfl) (jo_tabK (j := 21) (off := 1078) (by omega) (by decide) rfl rfl)) ?_
  exact H
theorem gL_law_40_22 {d : Nat} {p0 : Nat} {p1 : Nat} {p2 : Nat} {p3 : Nat} {i4 : Int32} {o5 : Option Value} {o6 : Option Value} {o7 : Option Value} {o8 : Option Value} {si0 : Int32} {h : jm_H} {r : jm_R} (hx : si0.toInt = 22) (H : kL_law_1174 d p0 p1 p2 p3 i4 o5 o6 o7 o8 h = some r) : kL_law_40 d p0 p1 p2 p3 i4 o5 o6 o7 o8 si0 h = some r := by
  show jm_B d mL_law (40, [some (.ref p0), some (.ref p1), some (.ref p2), some (.ref p3), some (.int i4), o5, o6, o7, o8], [.int si0]) h = some r
  refine Eq.trans (jb_nx (i := .tableswitch 1942 0 35 #[160, 264, 320, 333, 346, 359, 372, 385, 398, 411, 424, 480, 536, 592, 648, 716, 772, 835, 898, 954, 1022, 1078, 1134, 1209, 1272, 1328, 1396, 1452, 1508, 1564, 1632, 1707, 1775, 1831, 1887, 1928]) (n := 160) (q := (1174, [some (.ref p0), some (.ref p1), some (.ref p2), some (.ref p3), some (.int i4), o5, o6, o7, o8], [])) (jq qL_law_c0 24 rfl) (jo_tabK (j := 22) (off := 1134) (by omega) (by decide) rfl rfl)) ?_
  exact H
theorem gL_law_40_23 {d : Nat} {p0 : Nat} {p1 : Nat} {p2 : Nat} {p3 : Nat} {i4 : Int32} {o5 : Option Value} {o6 : Option Value} {o7 : Option Value} {o8 : Option Value} {si0 : Int32} {h : jm_H} {r : jm_R} (hx : si0.toInt = 23) (H : kL_law_1249 d p0 p1 p2 p3 i4 o5 o6 o7 o8 h = some r) : kL_law_40 d p0 p1 p2 p3 i4 o5 o6 o7 o8 si0 h = some r := by
  show jm_B d mL_law (40, [some (.ref p0), some (.ref p1), some (.ref p2), some (.ref p3), some (.int i4), o5, o6, o7, o8], [.int si0]) h = some r
  refine Eq.trans (jb_nx (i := .tableswitch 1942 0 35 #[160, 264, 320, 333, 346, 359, 372, 385, 398, 411, 424, 480, 536, 592, 648, 716, 772, 835, 898, 954, 1022, 1078, 1134, 1209, 1272, 1328, 1396, 1452, 1508, 1564, 1632, 1707, 1775, 1831, 1887, 1928]) (n := 160) (q := (1249, [some (.ref p0), some (.ref p1), some (.ref p2), some (.ref p3), some (.int i4), o5, o6, o7, o8], [])) (jq qL_law_c0 24 rfl) (jo_tabK (j := 23) (off := 1209) (by omega) (by decide) rfl rfl)) ?_
  exact H
theorem gL_law_40_24 {d : Nat} {p0 : Nat} {p1 : Nat} {p2 : Nat} {p3 : Nat} {i4 : Int32} {o5 : Option Value} {o6 : Option Value} {o7 : Option Value} {o8 : Option Value} {si0 : Int32} {h : jm_H} {r : jm_R} (hx : si0.toInt = 24) (H : kL_law_1312 d p0 p1 p2 p3 i4 o5 o6 o7 o8 h = some r) : kL_law_40 d p0 p1 p2 p3 i4 o5 o6 o7 o8 si0 h = some r := by
  show jm_B d mL_law (40, [some (.ref p0), some (.ref p1), some (.ref p2), some (.ref p3), some (.int i4), o5, o6, o7, o8], [.int si0]) h = some r
  refine Eq.trans (jb_nx (i := .tableswitch 1942 0 35 #[160, 264, 320, 333, 346, 359, 372, 385, 398, 411, 424, 480, 536, 592, 648, 716, 772, 835, 898, 954, 1022, 1078, 1134, 1209, 1272, 1328, 1396, 1452, 1508, 1564, 1632, 1707, 1775, 1831, 1887, 1928]) (n := 160) (q := (1312, [some (.ref p0), some (.ref p1), some (.ref p2), some (.ref p3), some (.int i4), o5, o6, o7, o8], [])) (jq qL_law_c0 24 rfl) (jo_tabK (j := 24) (off := 1272) (by omega) (by decide) rfl rfl)) ?_
  exact H
theorem gL_law_40_25 {d : Nat} {p0 : Nat} {p1 : Nat} {p2 : Nat} {p3 : Nat} {i4 : Int32} {o5 : Option Value} {o6 : Option Value} {o7 : Option Value} {o8 : Option Value} {si0 : Int32} {h : jm_H} {r : jm_R} (hx : si0.toInt = 25) (H : kL_law_1368 d p0 p1 p2 p3 i4 o5 o6 o7 o8 h = some r) : kL_law_40 d p0 p1 p2 p3 i4 o5 o6 o7 o8 si0 h = some r := by
  show jm_B d mL_law (40, [some (.ref p0), some (.ref p1), some (.ref p2), some (.ref p3), some (.int i4), o5, o6, o7, o8], [.int si0]) h = some r
  refine Eq.trans (jb_nx (i := .tableswitch 1942 0 35 #[160, 264, 320, 333, 346, 359, 372, 385, 398, 411, 424, 480, 536, 592, 648, 716, 772, 835, 898, 954, 1022, 1078, 1134, 1209, 1272, 1328, 1396, 1452, 1508, 1564, 1632, 1707, 1775, 1831, 1887, 1928]) (n := 160) (q := (1368, [some (.ref p0), some (.ref p1), some (.ref p2), some (.ref p3), some (.int i4), o5, o6, o7, o8], [])) (jq qL_law_c0 24 rfl) (jo_tabK (j := 25) (off := 1328) (by omega) (by decide) rfl rfl)) ?_
  exact H
theorem gL_law_40_26 {d : Nat} {p0 : Nat} {p1 : Nat} {p2 : Nat} {p3 : Nat} {i4 : Int32} {o5 : Option Value} {o6 : Option Value} {o7 : Option Value} {o8 : Option Value} {si0 : Int32} {h : jm_H} {r : jm_R} (hx : si0.toInt = 26) (H : kL_law_1436 d p0 p1 p2 p3 i4 o5 o6 o7 o8 h = some r) : kL_law_40 d p0 p1 p2 p3 i4 o5 o6 o7 o8 si0 h = some r := by
  show jm_B d mL_law (40, [some (.ref p0), some (.ref p1), some (.ref p2), some (.ref p3), some (.int i4), o5, o6, o7, o8], [.int si0]) h = some r
  refine Eq.trans (jb_nx (i := .tableswitch 1942 0 35 #[160, 264, 320, 333, 346, 359, 372, 385, 398, 411, 424, 480, 536, 592, 648, 716, 772, 835, 898, 954, 1022, 1078, 1134, 1209, 1272, 1328, 1396, 1452, 1508, 1564, 1632, 1707, 1775, 1831, 1887, 1928]) (n := 160) (q := (1436, [some (.ref p0), some (.ref p1), some (.ref p2), some (.ref p3), some (.int i4), o5, o6, o7, o8], [])) (jq qL_law_c0 24 rfl) (jo_tabK (j := 26) (off := 1396) (by omega) (by decide) rfl rfl)) ?_
  exact H
theorem gL_law_40_27 {d : Nat} {p0 : Nat} {p1 : Nat} {p2 : Nat} {p3 : Nat} {i4 : Int32} {o5 : Option Value} {o6 : Option Value} {o7 : Option Value} {o8 : Option Value} {si0 : Int32} {h : jm_H} {r : jm_R} (hx : si0.toInt = 27) (H : kL_law_1492 d p0 p1 p2 p3 i4 o5 o6 o7 o8 h = some r) : kL_law_40 d p0 p1 p2 p3 i4 o5 o6 o7 o8 si0 h = some r := by
  show jm_B d mL_law (40, [some (.ref p0), some (.ref p1), some (.ref p2), some (.ref p3), some (.int i4), o5, o6, o7, o8], [.int si0]) h = some r
  refine Eq.trans (jb_nx (i := .tableswitch 1942 0 35 #[160, 264, 320, 333, 346, 359, 372, 385, 398, 411, 424, 480, 536, 592, 648, 716, 772, 835, 898, 954, 1022, 1078, 1134, 1209, 1272, 1328, 1396, 1452, 1508, 1564, 1632, 1707, 1775, 1831, 1887, 1928]) (n := 160) (q := (1492, [some (.ref p0), some (.ref p1), some (.ref p2), some (.ref p3), some (.int i4), o5, o6, o7, o8], [])) (jq qL_law_c0 24 rfl) (jo_tabK (j := 27) (off := 1452) (by omega) (by decide) rfl rfl)) ?_
  exact H
theorem gL_law_40_28 {d : Nat} {p0 : Nat} {p1 : Nat} {p2 : Nat} {p3 : Nat} {i4 : Int32} {o5 : Option Value} {o6 : Option Value} {o7 : Option Value} {o8 : Option Value} {si0 : Int32} {h : jm_H} {r : jm_R} (hx : si0.toInt = 28) (H : kL_law_1548 d p0 p1 p2 p3 i4 o5 o6 o7 o8 h = some r) : kL_law_40 d p0 p1 p2 p3 i4 o5 o6 o7 o8 si0 h = some r := by
  show jm_B d mL_law (40, [some (.ref p0), some (.ref p1), some (.ref p2), some (.ref p3), some (.int i4), o5, o6, o7, o8], [.int si0]) h = some r
  refine Eq.trans (jb_nx (i := .tableswitch 1942 0 35 #[160, 264, 320, 333, 346, 359, 372, 385, 398, 411, 424, 480, 536, 592, 648, 716, 772, 835, 898, 954, 1022, 1078, 1134, 1209, 1272, 1328, 1396, 1452, 1508, 1564, 1632, 1707, 1775, 1831, 1887, 1928]) (n := 160) (q := (1548, [some (.ref p0), some (.ref p1), some (.ref p2), some (.ref p3), some (.int i4), o5, o6, o7, o8], [])) (jq qL_law_c0 24 rfl) (jo_tabK (j := 28) (off := 1508) (by omega) (by decide) rfl rfl)) ?_
  exact H
theorem gL_law_40_29 {d : Nat} {p0 : Nat} {p1 : Nat} {p2 : Nat} {p3 : Nat} {i4 : Int32} {o5 : Option Value} {o6 : Option Value} {o7 : Option Value} {o8 : Option Value} {si0 : Int32} {h : jm_H} {r : jm_R} (hx : si0.toInt = 29) (H : kL_law_1604 d p0 p1 p2 p3 i4 o5 o6 o7 o8 h = some r) : kL_law_40 d p0 p1 p2 p3 i4 o5 o6 o7 o8 si0 h = some r := by
  show jm_B d mL_law (40, [some (.ref p0), some (.ref p1), some (.ref p2), some (.ref p3), some (.int i4), o5, o6, o7, o8], [.int si0]) h = some r
  refine Eq.trans (jb_nx (i := .tableswitch 1942 0 35 #[160, 264, 320, 333, 346, 359, 372, 385, 398, 411, 424, 480, 536, 592, 648, 716, 772, 835, 898, 954, 1022, 1078, 1134, 1209, 1272, 1328, 1396, 1452, 1508, 1564, 1632, 1707, 1775, 1831, 1887, 1928]) (n := 160) (q := (1604, [some (.ref p0), some (.ref p1), some (.ref p2), some (.ref p3), some (.int i4), o5, o6, o7, o8], [])) (jq qL_law_c0 24 rfl) (jo_tabK (j := 29) (off := 1564) (by omega) (by decide) rfl rfl)) ?_
  exact H
theorem gL_law_40_30 {d : Nat} {p0 : Nat} {p1 : Nat} {p2 : Nat} {p3 : Nat} {i4 : Int32} {o5 : Option Value} {o6 : Option Value} {o7 : Option Value} {o8 : Option Value} {si0 : Int32} {h : jm_H} {r : jm_R} (hx : si0.toInt = 30) (H : kL_law_1672 d p0 p1 p2 p3 i4 o5 o6 o7 o8 h = some r) : kL_law_40 d p0 p1 p2 p3 i4 o5 o6 o7 o8 si0 h = some r := by
  show jm_B d mL_law (40, [some (.ref p0), some (.ref p1), some (.ref p2), some (.ref p3), some (.int i4), o5, o6, o7, o8], [.int si0]) h = some r
  refine Eq.trans (jb_nx (i := .tableswitch 1942 0 35 #[160, 264, 320, 333, 346, 359, 372, 385, 398, 411, 424, 480, 536, 592, 648, 716, 772, 835, 898, 954, 1022, 1078, 1134, 1209, 1272, 1328, 1396, 1452, 1508, 1564, 1632, 1707, 1775, 1831, 1887, 1928]) (n := 160) (q := (1672, [some (.ref p0), some (.ref p1), some (.ref p2), some (.ref p3), some (.int i4), o5, o6, o7, o8], [])) (jq qL_law_c0 24 rfl) (jo_tabK (j := 30) (off := 1632) (by omega) (by decide) rfl rfl)) ?_
  exact H
theorem gL_law_40_31 {d : Nat} {p0 : Nat} {p1 : Nat} {p2 : Nat} {p3 : Nat} {i4 : Int32} {o5 : Option Value} {o6 : Option Value} {o7 : Option Value} {o8 : Option Value} {si0 : Int32} {h : jm_H} {r : jm_R} (hx : si0.toInt = 31) (H : kL_law_1747 d p0 p1 p2 p3 i4 o5 o6 o7 o8 h = some r) : kL_law_40 d p0 p1 p2 p3 i4 o5 o6 o7 o8 si0 h = some r := by
  show jm_B d mL_law (40, [some (.ref p0), some (.ref p1), some (.ref p2), some (.ref p3), some (.int i4), o5, o6, o7, o8], [.int si0]) h = some r
  refine Eq.trans (jb_nx (i := .tableswitch 1942 0 35 #[160, 264, 320, 333, 346, 359, 372, 385, 398, 411, 424, 480, 536, 592, 648, 716, 772, 835, 898, 954, 1022, 1078, 1134, 1209, 1272, 1328, 1396, 1452, 1508, 1564, 1632, 1707, 1775, 1831, 1887, 1928]) (n := 160) (q := (1747, [some (.ref p0), some (.ref p1), some (.ref p2), some (.ref p3), some (.int i4), o5, o6, o7, o8], [])) (jq qL_law_c0 24 rfl) (jo_tabK (j := 31) (off := 1707) (by omega) (by decide) rfl rfl)) ?_
  exact H
theorem gL_law_40_32 {d : Nat} {p0 : Nat} {p1 : Nat} {p2 : Nat} {p3 : Nat} {i4 : Int32} {o5 : Option Value} {o6 : Option Value} {o7 : Option Value} {o8 : Option Value} {si0 : Int32} {h : jm_H} {r : jm_R} (hx : si0.toInt = 32) (H : kL_law_1815 d p0 p1 p2 p3 i4 o5 o6 o7 o8 h = some r) : kL_law_40 d p0 p1 p2 p3 i4 o5 o6 o7 o8 si0 h = some r := by
  show jm_B d mL_law (40, [some (.ref p0), some (.ref p1), some (.ref p2), some (.ref p3), some (.int i4), o5, o6, o7, o8], [.int si0]) h = some r
  refine Eq.trans (jb_nx (i := .tableswitch 1942 0 35 #[160, 264, 320, 333, 346, 359, 372, 385, 398, 411, 424, 480, 536, 592, 648, 716, 772, 835, 898, 954, 1022, 1078, 1134, 1209, 1272, 1328, 1396, 1452, 1508, 1564, 1632, 1707, 1775, 1831, 1887, 1928]) (n := 160) (q := (1815, [some (.ref p0), some (.ref p1), some (.ref p2), some (.ref p3), some (.int i4), o5, o6, o7, o8], [])) (jq qL_law_c0 24 rfl) (jo_tabK (j := 32) (off := 1775) (by omega) (by decide) rfl rfl)) ?_
  exact H
theorem gL_law_40_33 {d : Nat} {p0 : Nat} {p1 : Nat} {p2 : Nat} {p3 : Nat} {i4 : Int32} {o5 : Option Value} {o6 : Option Value} {o7 : Option Value} {o8 : Option Value} {si0 : Int32} {h : jm_H} {r : jm_R} (hx : si0.toInt = 33) (H : kL_law_1871 d p0 p1 p2 p3 i4 o5 o6 o7 o8 h = some r) : kL_law_40 d p0 p1 p2 p3 i4 o5 o6 o7 o8 si0 h = some r := by
  show jm_B d mL_law (40, [some (.ref p0), some (.ref p1), some (.ref p2), some (.ref p3), some (.int i4), o5, o6, o7, o8], [.int si0]) h = some r
  refine Eq.trans (jb_nx (i := .tableswitch 1942 0 35 #[160, 264, 320, 333, 346, 359, 372, 385, 398, 411, 424, 480, 536, 592, 648, 716, 772, 835, 898, 954, 1022, 1078, 1134, 1209, 1272, 1328, 1396, 1452, 1508, 1564, 1632, 1707, 1775, 1831, 1887, 1928]) (n := 160) (q := (1871, [some (.ref p0), some (.ref p1), some (.ref p2), some (.ref p3), some (.int i4), o5, o6, o7, o8], [])) (jq qL_law_c0 24 rfl) (jo_tabK (j := 33) (off := 1831) (by omega) (by decide) rfl rfl)) ?_
  exact H
theorem gL_law_40_34 {d : Nat} {p0 : Nat} {p1 : Nat} {p2 : Nat} {p3 : Nat} {i4 : Int32} {o5 : Option Value} {o6 : Option Value} {o7 : Option Value} {o8 : Option Value} {si0 : Int32} {h : jm_H} {r : jm_R} (hx : si0.toInt = 34) (H : kL_law_1927 d p0 p1 p2 p3 i4 o5 o6 o7 o8 h = some r) : kL_law_40 d p0 p1 p2 p3 i4 o5 o6 o7 o8 si0 h = some r := by
  show jm_B d mL_law (40, [some (.ref p0), some (.ref p1), some (.ref p2), some (.ref p3), some (.int i4), o5, o6, o7, o8], [.int si0]) h = some r
  refine Eq.trans (jb_nx (i := .tableswitch 1942 0 35 #[160, 264, 320, 333, 346, 359, 372, 385, 398, 411, 424, 480, 536, 592, 648, 716, 772, 835, 898, 954, 1022, 1078, 1134, 1209, 1272, 1328, 1396, 1452, 1508, 1564, 1632, 1707, 1775, 1831, 1887, 1928]) (n := 160) (q := (1927, [some (.ref p0), some (.ref p1), some (.ref p2), some (.ref p3), some (.int i4), o5, o6, o7, o8], [])) (jq qL_law_c0 24 rfl) (jo_tabK (j := 34) (off := 1887) (by omega) (by decide) rfl rfl)) ?_
  exact H
theorem gL_law_40_35 {d : Nat} {p0 : Nat} {p1 : Nat} {p2 : Nat} {p3 : Nat} {i4 : Int32} {o5 : Option Value} {o6 : Option Value} {o7 : Option Value} {o8 : Option Value} {si0 : Int32} {h : jm_H} {r : jm_R} (hx : si0.toInt = 35) (H : kL_law_1968 d p0 p1 p2 p3 i4 o5 o6 o7 o8 h = some r) : kL_law_40 d p0 p1 p2 p3 i4 o5 o6 o7 o8 si0 h = some r := by
  show jm_B d mL_law (40, [some (.ref p0), some (.ref p1), some (.ref p2), some (.ref p3), some (.int i4), o5, o6, o7, o8], [.int si0]) h = some r
  refine Eq.trans (jb_nx (i := .tableswitch 1942 0 35 #[160, 264, 320, 333, 346, 359, 372, 385, 398, 411, 424, 480, 536, 592, 648, 716, 772, 835, 898, 954, 1022, 1078, 1134, 1209, 1272, 1328, 1396, 1452, 1508, 1564, 1632, 1707, 1775, 1831, 1887, 1928]) (n := 160) (q := (1968, [some (.ref p0), some (.ref p1), some (.ref p2), some (.ref p3), some (.int i4), o5, o6, o7, o8], [])) (jq qL_law_c0 24 rfl) (jo_tabK (j := 35) (off := 1928) (by omega) (by decide) rfl rfl)) ?_
  exact H
theorem gL_law_40_x {d : Nat} {p0 : Nat} {p1 : Nat} {p2 : Nat} {p3 : Nat} {i4 : Int32} {o5 : Option Value} {o6 : Option Value} {o7 : Option Value} {o8 : Option Value} {si0 : Int32} {h : jm_H} {r : jm_R} (hx : si0.toInt < 0 ∨ 35 < si0.toInt) (H : kL_law_1982 d p0 p1 p2 p3 i4 o5 o6 o7 o8 h = some r) : kL_law_40 d p0 p1 p2 p3 i4 o5 o6 o7 o8 si0 h = some r := by
  show jm_B d mL_law (40, [some (.ref p0), some (.ref p1), some (.ref p2), some (.ref p3), some (.int i4), o5, o6, o7, o8], [.int si0]) h = some r
  refine Eq.trans (jb_nx (i := .tableswitch 1942 0 35 #[160, 264, 320, 333, 346, 359, 372, 385, 398, 411, 424, 480, 536, 592, 648, 716, 772, 835, 898, 954, 1022, 1078, 1134, 1209, 1272, 1328, 1396, 1452, 1508, 1564, 1632, 1707, 1775, 1831, 1887, 1928]) (n := 160) (q := (1982, [some (.ref p0), some (.ref p1), some (.ref p2), some (.ref p3), some (.int i4), o5, o6, o7, o8], [])) (jq qL_law_c0 24 rfl) (jo_tabO hx rfl)) ?_
  exact H
theorem gL_law_1982 {d : Nat} {p0 : Nat} {p1 : Nat} {p2 : Nat} {p3 : Nat} {i4 : Int32} {o5 : Option Value} {o6 : Option Value} {o7 : Option Value} {o8 : Option Value} {h : jm_H} {r : jm_R} (H : (kL_law_23 d p0 p1 p2 p3 (i4 + 6) o5 o6 o7 o8 h) = some r) : kL_law_1982 d p0 p1 p2 p3 i4 o5 o6 o7 o8 h = some r := by
  show jm_B d mL_law (1982, [some (.ref p0), some (.ref p1), some (.ref p2), some (.ref p3), some (.int i4), o5, o6, o7, o8], []) h = some r
  refine Eq.trans (jb_nx (i := .iinc 4 6) (n := 3) (q := (1985, [some (.ref p0), some (.ref p1), some (.ref p2), some (.ref p3), some (.int (i4 + 6)), o5, o6, o7, o8], [])) (jq qL_law_c28 25 rfl) rfl) ?_
  refine Eq.trans (jb_nx (i := .goto (-1962)) (n := 3) (q := (23, [some (.ref p0), some (.ref p1), some (.ref p2), some (.ref p3), some (.int (i4 + 6)), o5, o6, o7, o8], [])) (jq qL_law_c28 26 rfl) rfl) ?_
  exact H
theorem gL_law_1968 {d : Nat} {p0 : Nat} {p1 : Nat} {p2 : Nat} {p3 : Nat} {i4 : Int32} {o5 : Option Value} {o6 : Option Value} {o7 : Option Value} {o8 : Option Value} {h : jm_H} {r : jm_R} (H : (jm_O h p1 11 (jc_L (jm_D d mX11_digest [.ref p1] h) (fun y62 h60 => jm_O h60 p2 13 (jc_L (jm_D d mX13_digest [.ref p2] h60) (fun y65 h63 => (if (lg_cmp y62 y65) = 0 then kL_law_1982 d p0 p1 p2 p3 i4 o5 o6 o7 o8 h63 else some (.inl (some (.int 0)), h63))) jx)) jx)) = some r) : kL_law_1968 d p0 p1 p2 p3 i4 o5 o6 o7 o8 h = some r := by
  show jm_B d mL_law (1968, [some (.ref p0), some (.ref p1), some (.ref p2), some (.ref p3), some (.int i4), o5, o6, o7, o8], []) h = some r
  refine Eq.trans (jb_nx (i := .aload_n 1) (n := 1) (q := (1969, [some (.ref p0), some (.ref p1), some (.ref p2), some (.ref p3), some (.int i4), o5, o6, o7, o8], [.ref p1])) (jq qL_law_c28 17 rfl) rfl) ?_
  obtain ⟨b70, H⟩ := jm_O_inv H
  rcases jcL H with ⟨y62, h60, r61, H⟩ | ⟨w71, h72, r61, H⟩
  · refine Eq.trans (jb_nx (i := .invokevirtual 226) (n := 3) (q := (1972, [some (.ref p0), some (.ref p1), some (.ref p2), some (.ref p3), some (.int i4), o5, o6, o7, o8], [.long y62])) (jq qL_law_c28 18 rfl) (jo_cv (y := mX11_digest) rfl (Nat.le_of_ble_eq_true rfl) rfl (Nat.le_of_ble_eq_true rfl) b70 rfl r61 jo_ret)) ?_
    refine Eq.trans (jb_nx (i := .aload_n 2) (n := 1) (q := (1973, [some (.ref p0), some (.ref p1), some (.ref p2), some (.ref p3), some (.int i4), o5, o6, o7, o8], [.ref p2, .long y62])) (jq qL_law_c28 19 rfl) rfl) ?_
    obtain ⟨b67, H⟩ := jm_O_inv H
    rcases jcL H with ⟨y65, h63, r64, H⟩ | ⟨w68, h69, r64, H⟩
    · refine Eq.trans (jb_nx (i := .invokevirtual 230) (n := 3) (q := (1976, [some (.ref p0), some (.ref p1), some (.ref p2), some (.ref p3), some (.int i4), o5, o6, o7, o8], [.long y65, .long y62])) (jq qL_law_c28 20 rfl) (jo_cv (y := mX13_digest) rfl (Nat.le_of_ble_eq_true rfl) rfl (Nat.le_of_ble_eq_true rfl) b67 rfl r64 jo_ret)) ?_
      refine Eq.trans (jb_nx (i := .lcmp) (n := 1) (q := (1977, [some (.ref p0), some (.ref p1), some (.ref p2), some (.ref p3), some (.int i4), o5, o6, o7, o8], [.int (lg_cmp y62 y65)])) (jq qL_law_c28 21 rfl) rfl) ?_
      by_cases c66 : (lg_cmp y62 y65) = 0
      · rw [if_pos c66] at H
        refine Eq.trans (jb_nx (i := .ifCond .eq 5) (n := 3) (q := (1982, [some (.ref p0), some (.ref p1), some (.ref p2), some (.ref p3), some (.int i4), o5, o6, o7, o8], [])) (jq qL_law_c28 22 rfl) (jo_ifT (jz_eqT c66) rfl)) ?_
        exact H
      · rw [if_neg c66] at H
        refine Eq.trans (jb_nx (i := .ifCond .eq 5) (n := 3) (q := (1980, [some (.ref p0), some (.ref p1), some (.ref p2), some (.ref p3), some (.int i4), o5, o6, o7, o8], [])) (jq qL_law_c28 22 rfl) (jo_ifF (jz_eqF c66))) ?_
        refine Eq.trans (jb_nx (i := .iconst 0) (n := 1) (q := (1981, [some (.ref p0), some (.ref p1), some (.ref p2), some (.ref p3), some (.int i4), o5, o6, o7, o8], [.int 0])) (jq qL_law_c28 23 rfl) rfl) ?_
        exact Eq.trans (jb_rt (i := .ireturn) (n := 1) (jq qL_law_c28 24 rfl) (jo_iret rfl (by decide))) H
    · exact Eq.trans (jb_rt (i := .invokevirtual 230) (n := 3) (jq qL_law_c28 20 rfl) (jo_cv (y := mX13_digest) rfl (Nat.le_of_ble_eq_true rfl) rfl (Nat.le_of_ble_eq_true rfl) b67 rfl r64 (jo_exn rfl))) H
  · exact Eq.trans (jb_rt (i := .invokevirtual 226) (n := 3) (jq qL_law_c28 18 rfl) (jo_cv (y := mX11_digest) rfl (Nat.le_of_ble_eq_true rfl) rfl (Nat.le_of_ble_eq_true rfl) b70 rfl r61 (jo_exn rfl))) H
theorem gL_law_1927 {d : Nat} {p0 : Nat} {p1 : Nat} {p2 : Nat} {p3 : Nat} {i4 : Int32} {o5 : Option Value} {o6 : Option Value} {o7 : Option Value} {o8 : Option Value} {h : jm_H} {r : jm_R} (H : (jm_O h p1 11 (jc_D (jm_D d mX11_meanSize [.ref p1] h) (fun z75 h73 => jm_O h73 p2 13 (jc_D (jm_D d mX13_meanSize [.ref p2] h73) (fun z78 h76 => (if (Op.cmpValue (FP.dcmp z75 z78) .l) = 0 then kL_law_1982 d p0 p1 p2 p3 i4 (some (.double z75)) none (some (.double z78)) none h76 else (if (Op.cmpValue (FP.dcmp z75 z75) .l) = 0 then some (.inl (some (.int 0)), h76) else (if (Op.cmpValue (FP.dcmp z78 z78) .l) = 0 then some (.inl (some (.int 0)), h76) else kL_law_1982 d p0 p1 p2 p3 i4 (some (.double z75)) none (some (.double z78)) none h76)))) jx)) jx)) = some r) : kL_law_1927 d p0 p1 p2 p3 i4 o5 o6 o7 o8 h = some r := by
  show jm_B d mL_law (1927, [some (.ref p0), some (.ref p1), some (.ref p2), some (.ref p3), some (.int i4), o5, o6, o7, o8], []) h = some r
  refine Eq.trans (jb_nx (i := .aload_n 1) (n := 1) (q := (1928, [some (.ref p0), some (.ref p1), some (.ref p2), some (.ref p3), some (.int i4), o5, o6, o7, o8], [.ref p1])) (jq qL_law_c27 36 rfl) rfl) ?_
  obtain ⟨b85, H⟩ := jm_O_inv H
  rcases jcD H with ⟨z75, h73, r74, H⟩ | ⟨w86, h87, r74, H⟩
  · refine Eq.trans (jb_nx (i := .invokevirtual 221) (n := 3) (q := (1931, [some (.ref p0), some (.ref p1), some (.ref p2), some (.ref p3), some (.int i4), o5, o6, o7, o8], [.double z75])) (jq qL_law_c27 37 rfl) (jo_cv (y := mX11_meanSize) rfl (Nat.le_of_ble_eq_true rfl) rfl (Nat.le_of_ble_eq_true rfl) b85 rfl r74 jo_ret)) ?_
    refine Eq.trans (jb_nx (i := .dstore 5) (n := 2) (q := (1933, [some (.ref p0), some (.ref p1), some (.ref p2), some (.ref p3), some (.int i4), some (.double z75), none, o7, o8], [])) (jq qL_law_c27 38 rfl) rfl) ?_
    refine Eq.trans (jb_nx (i := .aload_n 2) (n := 1) (q := (1934, [some (.ref p0), some (.ref p1), some (.ref p2), some (.ref p3), some (.int i4), some (.double z75), none, o7, o8], [.ref p2])) (jq qL_law_c27 39 rfl) rfl) ?_
    obtain ⟨b82, H⟩ := jm_O_inv H
    rcases jcD H with ⟨z78, h76, r77, H⟩ | ⟨w83, h84, r77, H⟩
    · refine Eq.trans (jb_nx (i := .invokevirtual 225) (n := 3) (q := (1937, [some (.ref p0), some (.ref p1), some (.ref p2), some (.ref p3), some (.int i4), some (.double z75), none, o7, o8], [.double z78])) (jq qL_law_c28 0 rfl) (jo_cv (y := mX13_meanSize) rfl (Nat.le_of_ble_eq_true rfl) rfl (Nat.le_of_ble_eq_true rfl) b82 rfl r77 jo_ret)) ?_
      refine Eq.trans (jb_nx (i := .dstore 7) (n := 2) (q := (1939, [some (.ref p0), some (.ref p1), some (.ref p2), some (.ref p3), some (.int i4), some (.double z75), none, some (.double z78), none], [])) (jq qL_law_c28 1 rfl) rfl) ?_
      refine Eq.trans (jb_nx (i := .dload 5) (n := 2) (q := (1941, [some (.ref p0), some (.ref p1), some (.ref p2), some (.ref p3), some (.int i4), some (.double z75), none, some (.double z78), none], [.double z75])) (jq qL_law_c28 2 rfl) rfl) ?_
      refine Eq.trans (jb_nx (i := .dload 7) (n := 2) (q := (1943, [some (.ref p0), some (.ref p1), some (.ref p2), some (.ref p3), some (.int i4), some (.double z75), none, some (.double z78), none], [.double z78, .double z75])) (jq qL_law_c28 3 rfl) rfl) ?_
      refine Eq.trans (jb_nx (i := .dcmp .l) (n := 1) (q := (1944, [some (.ref p0), some (.ref p1), some (.ref p2), some (.ref p3), some (.int i4), some (.double z75), none, some (.double z78), none], [.int (Op.cmpValue (FP.dcmp z75 z78) .l)])) (jq qL_law_c28 4 rfl) rfl) ?_
      by_cases c79 : (Op.cmpValue (FP.dcmp z75 z78) .l) = 0
      · rw [if_pos c79] at H
        refine Eq.trans (jb_nx (i := .ifCond .eq 21) (n := 3) (q := (1965, [some (.ref p0), some (.ref p1), some (.ref p2), some (.ref p3), some (.int i4), some (.double z75), none, some (.double z78), none], [])) (jq qL_law_c28 5 rfl) (jo_ifT (jz_eqT c79) rfl)) ?_
        refine Eq.trans (jb_nx (i := .goto 17) (n := 3) (q := (1982, [some (.ref p0), some (.ref p1), some (.ref p2), some (.ref p3), some (.int i4), some (.double z75), none, some (.double z78), none], [])) (jq qL_law_c28 16 rfl) rfl) ?_
        exact H
      · rw [if_neg c79] at H
        refine Eq.trans (jb_nx (i := .ifCond .eq 21) (n := 3) (q := (1947, [some (.ref p0), some (.ref p1), some (.ref p2), some (.ref p3), some (.int i4), some (.double z75), none, some (.double z78), none], [])) (jq qL_law_c28 5 rfl) (jo_ifF (jz_eqF c79))) ?_
        refine Eq.trans (jb_nx (i := .dload 5) (n := 2) (q := (1949, [some (.ref p0), some (.ref p1), some (.ref p2), some (.ref p3), some (.int i4), some (.double z75), none, some (.double z78), none], [.double z75])) (jq qL_law_c28 6 rfl) rfl) ?_
        refine Eq.trans (jb_nx (i := .dload 5) (n := 2) (q := (1951, [some (.ref p0), some (.ref p1), some (.ref p2), some (.ref p3), some (.int i4), some (.double z75), none, some (.double z78), none], [.double z75, .double z75])) (jq qL_law_c28 7 rfl) rfl) ?_
        refine Eq.trans (jb_nx (i := .dcmp .l) (n := 1) (q := (1952, [some (.ref p0), some (.ref p1), some (.ref p2), some (.ref p3), some (.int i4), some (.double z75), none, some (.double z78), none], [.int (Op.cmpValue (FP.dcmp z75 z75) .l)])) (jq qL_law_c28 8 rfl) rfl) ?_
        by_cases c80 : (Op.cmpValue (FP.dcmp z75 z75) .l) = 0
        · rw [if_pos c80] at H
          refine Eq.trans (jb_nx (i := .ifCond .eq 11) (n := 3) (q := (1963, [some (.ref p0), some (.ref p1), some (.ref p2), some (.ref p3), some (.int i4), some (.double z75), none, some (.double z78), none], [])) (jq qL_law_c28 9 rfl) (jo_ifT (jz_eqT c80) rfl)) ?_
          refine Eq.trans (jb_nx (i := .iconst 0) (n := 1) (q := (1964, [some (.ref p0), some (.ref p1), some (.ref p2), some (.ref p3), some (.int i4), some (.double z75), none, some (.double z78), none], [.int 0])) (jq qL_law_c28 14 rfl) rfl) ?_
          exact Eq.trans (jb_rt (i := .ireturn) (n := 1) (jq qL_law_c28 15 rfl) (jo_iret rfl (by decide))) H
        · rw [if_neg c80] at H
          refine Eq.trans (jb_nx (i := .ifCond .eq 11) (n := 3) (q := (1955, [some (.ref p0), some (.ref p1), some (.ref p2), some (.ref p3), some (.int i4), some (.double z75), none, some (.double z78), none], [])) (jq qL_law_c28 9 rfl) (jo_ifF (jz_eqF c80))) ?_
          refine Eq.trans (jb_nx (i := .dload 7) (n := 2) (q := (1957, [some (.ref p0), some (.ref p1), some (.ref p2), some (.ref p3), some (.int i4), some (.double z75), none, some (.double z78), none], [.double z78])) (jq qL_law_c28 10 rfl) rfl) ?_
          refine Eq.trans (jb_nx (i := .dload 7) (n := 2) (q := (1959, [some (.ref p0), some (.ref p1), some (.ref p2), some (.ref p3), some (.int i4), some (.double z75), none, some (.double z78), none], [.double z78, .double z78])) (jq qL_law_c28 11 rfl) rfl) ?_
          refine Eq.trans (jb_nx (i := .dcmp .l) (n := 1) (q := (1960, [some (.ref p0), some (.ref p1), some (.ref p2), some (.ref p3), some (.int i4), some (.double z75), none, some (.double z78), none], [.int (Op.cmpValue (FP.dcmp z78 z78) .l)])) (jq qL_law_c28 12 rfl) rfl) ?_
          by_cases c81 : (Op.cmpValue (FP.dcmp z78 z78) .l) = 0
          · rw [if_pos c81] at H
            refine Eq.trans (jb_nx (i := .ifCond .ne 5) (n := 3) (q := (1963, [some (.ref p0), some (.ref p1), some (.ref p2), some (.ref p3), some (.int i4), some (.double z75), none, some (.double z78), none], [])) (jq qL_law_c28 13 rfl) (jo_ifF (jz_neF c81))) ?_
            refine Eq.trans (jb_nx (i := .iconst 0) (n := 1) (q := (1964, [some (.ref p0), some (.ref p1), some (.ref p2), some (.ref p3), some (.int i4), some (.double z75), none, some (.double z78), none], [.int 0])) (jq qL_law_c28 14 rfl) rfl) ?_
            exact Eq.trans (jb_rt (i := .ireturn) (n := 1) (jq qL_law_c28 15 rfl) (jo_iret rfl (by decide))) H
          · rw [if_neg c81] at H
            refine Eq.trans (jb_nx (i := .ifCond .ne 5) (n := 3) (q := (1965, [some (.ref p0), some (.ref p1), some (.ref p2), some (.ref p3), some (.int i4), some (.double z75), none, some (.double z78), none], [])) (jq qL_law_c28 13 rfl) (jo_ifT (jz_neT c81) rfl)) ?_
            refine Eq.trans (jb_nx (i := .goto 17) (n := 3) (q := (1982, [some (.ref p0), some (.ref p1), some (.ref p2), some (.ref p3), some (.int i4), some (.double z75), none, some (.double z78), none], [])) (jq qL_law_c28 16 rfl) rfl) ?_
            exact H
    · exact Eq.trans (jb_rt (i := .invokevirtual 225) (n := 3) (jq qL_law_c28 0 rfl) (jo_cv (y := mX13_meanSize) rfl (Nat.le_of_ble_eq_true rfl) rfl (Nat.le_of_ble_eq_true rfl) b82 rfl r77 (jo_exn rfl))) H
  · exact Eq.trans (jb_rt (i := .invokevirtual 221) (n := 3) (jq qL_law_c27 37 rfl) (jo_cv (y := mX11_meanSize) rfl (Nat.le_of_ble_eq_true rfl) rfl (Nat.le_of_ble_eq_true rfl) b85 rfl r74 (jo_exn rfl))) H
theorem gL_law_1871 {d : Nat} {p0 : Nat} {p1 : Nat} {p2 : Nat} {p3 : Nat} {i4 : Int32} {o5 : Option Value} {o6 : Option Value} {o7 : Option Value} {o8 : Option Value} {h : jm_H} {r : jm_R} (H : ((jm_ali h p0 0 (i4 + 1)).bind fun x88 => jc_I (jm_D d mL_bestGift [.ref p1, .int x88, .ref p3] h) (fun x92 h90 => (jm_ali h90 p0 0 (i4 + 1)).bind fun x93 => jm_O h90 p2 13 (jc_I (jm_D d mX13_bestGift [.ref p2, .int x93] h90) (fun x97 h95 => jm_O h95 p2 13 (jc_I (jm_D d mX13_thrown [.ref p2] h95) (fun x100 h98 => (if x100 = x92 then (if x92 = 0 then (jm_all h98 p3 0).bind fun y103 => (if (lg_cmp y103 x97.toInt64) = 0 then kL_law_1982 d p0 p1 p2 p3 i4 (some (.int x92)) (some (.int x97)) o7 o8 h98 else some (.inl (some (.int 0)), h98)) else kL_law_1982 d p0 p1 p2 p3 i4 (some (.int x92)) (some (.int x97)) o7 o8 h98) else some (.inl (some (.int 0)), h98))) jx)) jx)) jx) = some r) : kL_law_1871 d p0 p1 p2 p3 i4 o5 o6 o7 o8 h = some r := by
  show jm_B d mL_law (1871, [some (.ref p0), some (.ref p1), some (.ref p2), some (.ref p3), some (.int i4), o5, o6, o7, o8], []) h = some r
  refine Eq.trans (jb_nx (i := .aload_n 1) (n := 1) (q := (1872, [some (.ref p0), some (.ref p1), some (.ref p2), some (.ref p3), some (.int i4), o5, o6, o7, o8], [.ref p1])) (jq qL_law_c27 1 rfl) rfl) ?_
  refine Eq.trans (jb_nx (i := .aload_n 0) (n := 1) (q := (1873, [some (.ref p0), some (.ref p1), some (.ref p2), some (.ref p3), some (.int i4), o5, o6, o7, o8], [.ref p0, .ref p1])) (jq qL_law_c27 2 rfl) rfl) ?_
  refine Eq.trans (jb_nx (i := .iload 4) (n := 2) (q := (1875, [some (.ref p0), some (.ref p1), some (.ref p2), some (.ref p3), some (.int i4), o5, o6, o7, o8], [.int i4, .ref p0, .ref p1])) (jq qL_law_c27 3 rfl) rfl) ?_
  refine Eq.trans (jb_nx (i := .iconst 1) (n := 1) (q := (1876, [some (.ref p0), some (.ref p1), some (.ref p2), some (.ref p3), some (.int i4), o5, o6, o7, o8], [.int 1, .int i4, .ref p0, .ref p1])) (jq qL_law_c27 4 rfl) rfl) ?_
  refine Eq.trans (jb_nx (i := .iadd) (n := 1) (q := (1877, [some (.ref p0), some (.ref p1), some (.ref p2), some (.ref p3), some (.int i4), o5, o6, o7, o8], [.int (i4 + 1), .ref p0, .ref p1])) (jq qL_law_c27 5 rfl) rfl) ?_
  obtain ⟨x88, e89, H⟩ := jbd H
  refine Eq.trans (jb_nx (i := .iaload) (n := 1) (q := (1878, [some (.ref p0), some (.ref p1), some (.ref p2), some (.ref p3), some (.int i4), o5, o6, o7, o8], [.int x88, .ref p1])) (jq qL_law_c27 6 rfl) (jo_ial e89)) ?_
  refine Eq.trans (jb_nx (i := .aload_n 3) (n := 1) (q := (1879, [some (.ref p0), some (.ref p1), some (.ref p2), some (.ref p3), some (.int i4), o5, o6, o7, o8], [.ref p3, .int x88, .ref p1])) (jq qL_law_c27 7 rfl) rfl) ?_
  rcases jcI H with ⟨x92, h90, r91, H⟩ | ⟨w112, h113, r91, H⟩
  · refine Eq.trans (jb_nx (i := .invokestatic 218) (n := 3) (q := (1882, [some (.ref p0), some (.ref p1), some (.ref p2), some (.ref p3), some (.int i4), o5, o6, o7, o8], [.int x92])) (jq qL_law_c27 8 rfl) (jo_cs (y := mL_bestGift) (w := 4) (by decide) rfl (Nat.le_of_ble_eq_true rfl) rfl (Nat.le_of_ble_eq_true rfl) rfl r91 jo_ret)) ?_
    refine Eq.trans (jb_nx (i := .istore 5) (n := 2) (q := (1884, [some (.ref p0), some (.ref p1), some (.ref p2), some (.ref p3), some (.int i4), some (.int x92), o6, o7, o8], [])) (jq qL_law_c27 9 rfl) rfl) ?_
    refine Eq.trans (jb_nx (i := .aload_n 2) (n := 1) (q := (1885, [some (.ref p0), some (.ref p1), some (.ref p2), some (.ref p3), some (.int i4), some (.int x92), o6, o7, o8], [.ref p2])) (jq qL_law_c27 10 rfl) rfl) ?_
    refine Eq.trans (jb_nx (i := .aload_n 0) (n := 1) (q := (1886, [some (.ref p0), some (.ref p1), some (.ref p2), some (.ref p3), some (.int i4), some (.int x92), o6, o7, o8], [.ref p0, .ref p2])) (jq qL_law_c27 11 rfl) rfl) ?_
    refine Eq.trans (jb_nx (i := .iload 4) (n := 2) (q := (1888, [some (.ref p0), some (.ref p1), some (.ref p2), some (.ref p3), some (.int i4), some (.int x92), o6, o7, o8], [.int i4, .ref p0, .ref p2])) (jq qL_law_c27 12 rfl) rfl) ?_
    refine Eq.trans (jb_nx (i := .iconst 1) (n := 1) (q := (1889, [some (.ref p0), some (.ref p1), some (.ref p2), some (.ref p3), some (.int i4), some (.int x92), o6, o7, o8], [.int 1, .int i4, .ref p0, .ref p2])) (jq qL_law_c27 13 rfl) rfl) ?_
    refine Eq.trans (jb_nx (i := .iadd) (n := 1) (q := (1890, [some (.ref p0), some (.ref p1), some (.ref p2), some (.ref p3), some (.int i4), some (.int x92), o6, o7, o8], [.int (i4 + 1), .ref p0, .ref p2])) (jq qL_law_c27 14 rfl) rfl) ?_
    obtain ⟨x93, e94, H⟩ := jbd H
    refine Eq.trans (jb_nx (i := .iaload) (n := 1) (q := (1891, [some (.ref p0), some (.ref p1), some (.ref p2), some (.ref p3), some (.int i4), some (.int x92), o6, o7, o8], [.int x93, .ref p2])) (jq qL_law_c27 15 rfl) (jo_ial e94)) ?_
    obtain ⟨b109, H⟩ := jm_O_inv H
    rcases jcI H with ⟨x97, h95, r96, H⟩ | ⟨w110, h111, r96, H⟩
    · refine Eq.trans (jb_nx (i := .invokevirtual 220) (n := 3) (q := (1894, [some (.ref p0), some (.ref p1), some (.ref p2), some (.ref p3), some (.int i4), some (.int x92), o6, o7, o8], [.int x97])) (jq qL_law_c27 16 rfl) (jo_cv (y := mX13_bestGift) rfl (Nat.le_of_ble_eq_true rfl) rfl (Nat.le_of_ble_eq_true rfl) b109 rfl r96 jo_ret)) ?_
      refine Eq.trans (jb_nx (i := .istore 6) (n := 2) (q := (1896, [some (.ref p0), some (.ref p1), some (.ref p2), some (.ref p3), some (.int i4), some (.int x92), some (.int x97), o7, o8], [])) (jq qL_law_c27 17 rfl) rfl) ?_
      refine Eq.trans (jb_nx (i := .aload_n 2) (n := 1) (q := (1897, [some (.ref p0), some (.ref p1), some (.ref p2), some (.ref p3), some (.int i4), some (.int x92), some (.int x97), o7, o8], [.ref p2])) (jq qL_law_c27 18 rfl) rfl) ?_
      obtain ⟨b106, H⟩ := jm_O_inv H
      rcases jcI H with ⟨x100, h98, r99, H⟩ | ⟨w107, h108, r99, H⟩
      · refine Eq.trans (jb_nx (i := .invokevirtual 108) (n := 3) (q := (1900, [some (.ref p0), some (.ref p1), some (.ref p2), some (.ref p3), some (.int i4), some (.int x92), some (.int x97), o7, o8], [.int x100])) (jq qL_law_c27 19 rfl) (jo_cv (y := mX13_thrown) rfl (Nat.le_of_ble_eq_true rfl) rfl (Nat.le_of_ble_eq_true rfl) b106 rfl r99 jo_ret)) ?_
        refine Eq.trans (jb_nx (i := .iload 5) (n := 2) (q := (1902, [some (.ref p0), some (.ref p1), some (.ref p2), some (.ref p3), some (.int i4), some (.int x92), some (.int x97), o7, o8], [.int x92, .int x100])) (jq qL_law_c27 20 rfl) rfl) ?_
        by_cases c101 : x100 = x92
        · rw [if_pos c101] at H
          refine Eq.trans (jb_nx (i := .if_icmp .eq 5) (n := 3) (q := (1907, [some (.ref p0), some (.ref p1), some (.ref p2), some (.ref p3), some (.int i4), some (.int x92), some (.int x97), o7, o8], [])) (jq qL_law_c27 21 rfl) (jo_icT (jz_eqT c101) rfl)) ?_
          refine Eq.trans (jb_nx (i := .iload 5) (n := 2) (q := (1909, [some (.ref p0), some (.ref p1), some (.ref p2), some (.ref p3), some (.int i4), some (.int x92), some (.int x97), o7, o8], [.int x92])) (jq qL_law_c27 24 rfl) rfl) ?_
          by_cases c102 : x92 = 0
          · rw [if_pos c102] at H
            refine Eq.trans (jb_nx (i := .ifCond .ne 15) (n := 3) (q := (1912, [some (.ref p0), some (.ref p1), some (.ref p2), some (.ref p3), some (.int i4), some (.int x92), some (.int x97), o7, o8], [])) (jq qL_law_c27 25 rfl) (jo_ifF (jz_neF c102))) ?_
            refine Eq.trans (jb_nx (i := .aload_n 3) (n := 1) (q := (1913, [some (.ref p0), some (.ref p1), some (.ref p2), some (.ref p3), some (.int i4), some (.int x92), some (.int x97), o7, o8], [.ref p3])) (jq qL_law_c27 26 rfl) rfl) ?_
            refine Eq.trans (jb_nx (i := .iconst 0) (n := 1) (q := (1914, [some (.ref p0), some (.ref p1), some (.ref p2), some (.ref p3), some (.int i4), some (.int x92), some (.int x97), o7, o8], [.int 0, .ref p3])) (jq qL_law_c27 27 rfl) rfl) ?_
            obtain ⟨y103, e104, H⟩ := jbd H
            refine Eq.trans (jb_nx (i := .laload) (n := 1) (q := (1915, [some (.ref p0), some (.ref p1), some (.ref p2), some (.ref p3), some (.int i4), some (.int x92), some (.int x97), o7, o8], [.long y103])) (jq qL_law_c27 28 rfl) (jo_lal e104)) ?_
            refine Eq.trans (jb_nx (i := .iload 6) (n := 2) (q := (1917, [some (.ref p0), some (.ref p1), some (.ref p2), some (.ref p3), some (.int i4), some (.int x92), some (.int x97), o7, o8], [.int x97, .long y103])) (jq qL_law_c27 29 rfl) rfl) ?_
            refine Eq.trans (jb_nx (i := .i2l) (n := 1) (q := (1918, [some (.ref p0), some (.ref p1), some (.ref p2), some (.ref p3), some (.int i4), some (.int x92), some (.int x97), o7, o8], [.long x97.toInt64, .long y103])) (jq qL_law_c27 30 rfl) rfl) ?_
            refine Eq.trans (jb_nx (i := .lcmp) (n := 1) (q := (1919, [some (.ref p0), some (.ref p1), some (.ref p2), some (.ref p3), some (.int i4), some (.int x92), some (.int x97), o7, o8], [.int (lg_cmp y103 x97.toInt64)])) (jq qL_law_c27 31 rfl) rfl) ?_
            by_cases c105 : (lg_cmp y103 x97.toInt64) = 0
            · rw [if_pos c105] at H
              refine Eq.trans (jb_nx (i := .ifCond .eq 5) (n := 3) (q := (1924, [some (.ref p0), some (.ref p1), some (.ref p2), some (.ref p3), some (.int i4), some (.int x92), some (.int x97), o7, o8], [])) (jq qL_law_c27 32 rfl) (jo_ifT (jz_eqT c105) rfl)) ?_
              refine Eq.trans (jb_nx (i := .goto 58) (n := 3) (q := (1982, [some (.ref p0), some (.ref p1), some (.ref p2), some (.ref p3), some (.int i4), some (.int x92), some (.int x97), o7, o8], [])) (jq qL_law_c27 35 rfl) rfl) ?_
              exact H
            · rw [if_neg c105] at H
              refine Eq.trans (jb_nx (i := .ifCond .eq 5) (n := 3) (q := (1922, [some (.ref p0), some (.ref p1), some (.ref p2), some (.ref p3), some (.int i4), some (.int x92), some (.int x97), o7, o8], [])) (jq qL_law_c27 32 rfl) (jo_ifF (jz_eqF c105))) ?_
              refine Eq.trans (jb_nx (i := .iconst 0) (n := 1) (q := (1923, [some (.ref p0), some (.ref p1), some (.ref p2), some (.ref p3), some (.int i4), some (.int x92), some (.int x97), o7, o8], [.int 0])) (jq qL_law_c27 33 rfl) rfl) ?_
              exact Eq.trans (jb_rt (i := .ireturn) (n := 1) (jq qL_law_c27 34 rfl) (jo_iret rfl (by decide))) H
          · rw [if_neg c102] at H
            refine Eq.trans (jb_nx (i := .ifCond .ne 15) (n := 3) (q := (1924, [some (.ref p0), some (.ref p1), some (.ref p2), some (.ref p3), some (.int i4), some (.int x92), some (.int x97), o7, o8], [])) (jq qL_law_c27 25 rfl) (jo_ifT (jz_neT c102) rfl)) ?_
            refine Eq.trans (jb_nx (i := .goto 58) (n := 3) (q := (1982, [some (.ref p0), some (.ref p1), some (.ref p2), some (.ref p3), some (.int i4), some (.int x92), some (.int x97), o7, o8], [])) (jq qL_law_c27 35 rfl) rfl) ?_
            exact H
        · rw [if_neg c101] at H
          refine Eq.trans (jb_nx (i := .if_icmp .eq 5) (n := 3) (q := (1905, [some (.ref p0), some (.ref p1), some (.ref p2), some (.ref p3), some (.int i4), some (.int x92), some (.int x97), o7, o8], [])) (jq qL_law_c27 21 rfl) (jo_icF (jz_eqF c101))) ?_
          refine Eq.trans (jb_nx (i := .iconst 0) (n := 1) (q := (1906, [some (.ref p0), some (.ref p1), some (.ref p2), some (.ref p3), some (.int i4), some (.int x92), some (.int x97), o7, o8], [.int 0])) (jq qL_law_c27 22 rfl) rfl) ?_
          exact Eq.trans (jb_rt (i := .ireturn) (n := 1) (jq qL_law_c27 23 rfl) (jo_iret rfl (by decide))) H
      · exact Eq.trans (jb_rt (i := .invokevirtual 108) (n := 3) (jq qL_law_c27 19 rfl) (jo_cv (y := mX13_thrown) rfl (Nat.le_of_ble_eq_true rfl) rfl (Nat.le_of_ble_eq_true rfl) b106 rfl r99 (jo_exn rfl))) H
    · exact Eq.trans (jb_rt (i := .invokevirtual 220) (n := 3) (jq qL_law_c27 16 rfl) (jo_cv (y := mX13_bestGift) rfl (Nat.le_of_ble_eq_true rfl) rfl (Nat.le_of_ble_eq_true rfl) b109 rfl r96 (jo_exn rfl))) H
  · exact Eq.trans (jb_rt (i := .invokestatic 218) (n := 3) (jq qL_law_c27 8 rfl) (jo_cs (y := mL_bestGift) (w := 4) (by decide) rfl (Nat.le_of_ble_eq_true rfl) rfl (Nat.le_of_ble_eq_true rfl) rfl r91 (jo_exn rfl))) H
theorem gL_law_1815 {d : Nat} {p0 : Nat} {p1 : Nat} {p2 : Nat} {p3 : Nat} {i4 : Int32} {o5 : Option Value} {o6 : Option Value} {o7 : Option Value} {o8 : Option Value} {h : jm_H} {r : jm_R} (H : ((jm_ali h p0 0 (i4 + 1)).bind fun x114 => jc_I (jm_D d mL_eveningsUntilFinished [.ref p1, .int x114, .ref p3] h) (fun x118 h116 => (jm_ali h116 p0 0 (i4 + 1)).bind fun x119 => jm_O h116 p2 13 (jc_I (jm_D d mX13_eveningsUntilFinished [.ref p2, .int x119] h116) (fun x123 h121 => jm_O h121 p2 13 (jc_I (jm_D d mX13_thrown [.ref p2] h121) (fun x126 h124 => (if x126 = x118 then (if x118 = 0 then (jm_all h124 p3 0).bind fun y129 => (if (lg_cmp y129 x123.toInt64) = 0 then kL_law_1982 d p0 p1 p2 p3 i4 (some (.int x118)) (some (.int x123)) o7 o8 h124 else some (.inl (some (.int 0)), h124)) else kL_law_1982 d p0 p1 p2 p3 i4 (some (.int x118)) (some (.int x123)) o7 o8 h124) else some (.inl (some (.int 0)), h124))) jx)) jx)) jx) = some r) : kL_law_1815 d p0 p1 p2 p3 i4 o5 o6 o7 o8 h = some r := by
  show jm_B d mL_law (1815, [some (.ref p0), some (.ref p1), some (.ref p2), some (.ref p3), some (.int i4), o5, o6, o7, o8], []) h = some r
  refine Eq.trans (jb_nx (i := .aload_n 1) (n := 1) (q := (1816, [some (.ref p0), some (.ref p1), some (.ref p2), some (.ref p3), some (.int i4), o5, o6, o7, o8], [.ref p1])) (jq qL_law_c26 6 rfl) rfl) ?_
  refine Eq.trans (jb_nx (i := .aload_n 0) (n := 1) (q := (1817, [some (.ref p0), some (.ref p1), some (.ref p2), some (.ref p3), some (.int i4), o5, o6, o7, o8], [.ref p0, .ref p1])) (jq qL_law_c26 7 rfl) rfl) ?_
  refine Eq.trans (jb_nx (i := .iload 4) (n := 2) (q := (1819, [some (.ref p0), some (.ref p1), some (.ref p2), some (.ref p3), some (.int i4), o5, o6, o7, o8], [.int i4, .ref p0, .ref p1])) (jq qL_law_c26 8 rfl) rfl) ?_
  refine Eq.trans (jb_nx (i := .iconst 1) (n := 1) (q := (1820, [some (.ref p0), some (.ref p1), some (.ref p2), some (.ref p3), some (.int i4), o5, o6, o7, o8], [.int 1, .int i4, .ref p0, .ref p1])) (jq qL_law_c26 9 rfl) rfl) ?_
  refine Eq.trans (jb_nx (i := .iadd) (n := 1) (q := (1821, [some (.ref p0), some (.ref p1), some (.ref p2), some (.ref p3), some (.int i4), o5, o6, o7, o8], [.int (i4 + 1), .ref p0, .ref p1])) (jq qL_law_c26 10 rfl) rfl) ?_
  obtain ⟨x114, e115, H⟩ := jbd H
  refine Eq.trans (jb_nx (i := .iaload) (n := 1) (q := (1822, [some (.ref p0), some (.ref p1), some (.ref p2), some (.ref p3), some (.int i4), o5, o6, o7, o8], [.int x114, .ref p1])) (jq qL_law_c26 11 rfl) (jo_ial e115)) ?_
  refine Eq.trans (jb_nx (i := .aload_n 3) (n := 1) (q := (1823, [some (.ref p0), some (.ref p1), some (.ref p2), some (.ref p3), some (.int i4), o5, o6, o7, o8], [.ref p3, .int x114, .ref p1])) (jq qL_law_c26 12 rfl) rfl) ?_
  rcases jcI H with ⟨x118, h116, r117, H⟩ | ⟨w138, h139, r117, H⟩
  · refine Eq.trans (jb_nx (i := .invokestatic 215) (n := 3) (q := (1826, [some (.ref p0), some (.ref p1), some (.ref p2), some (.ref p3), some (.int i4), o5, o6, o7, o8], [.int x118])) (jq qL_law_c26 13 rfl) (jo_cs (y := mL_eveningsUntilFinished) (w := 4) (by decide) rfl (Nat.le_of_ble_eq_true rfl) rfl (Nat.le_of_ble_eq_true rfl) rfl r117 jo_ret)) ?_
    refine Eq.trans (jb_nx (i := .istore 5) (n := 2) (q := (1828, [some (.ref p0), some (.ref p1), some (.ref p2), some (.ref p3), some (.int i4), some (.int x118), o6, o7, o8], [])) (jq qL_law_c26 14 rfl) rfl) ?_
    refine Eq.trans (jb_nx (i := .aload_n 2) (n := 1) (q := (1829, [some (.ref p0), some (.ref p1), some (.ref p2), some (.ref p3), some (.int i4), some (.int x118), o6, o7, o8], [.ref p2])) (jq qL_law_c26 15 rfl) rfl) ?_
    refine Eq.trans (jb_nx (i := .aload_n 0) (n := 1) (q := (1830, [some (.ref p0), some (.ref p1), some (.ref p2), some (.ref p3), some (.int i4), some (.int x118), o6, o7, o8], [.ref p0, .ref p2])) (jq qL_law_c26 16 rfl) rfl) ?_
    refine Eq.trans (jb_nx (i := .iload 4) (n := 2) (q := (1832, [some (.ref p0), some (.ref p1), some (.ref p2), some (.ref p3), some (.int i4), some (.int x118), o6, o7, o8], [.int i4, .ref p0, .ref p2])) (jq qL_law_c26 17 rfl) rfl) ?_
    refine Eq.trans (jb_nx (i := .iconst 1) (n := 1) (q := (1833, [some (.ref p0), some (.ref p1), some (.ref p2), some (.ref p3), some (.int i4), some (.int x118), o6, o7, o8], [.int 1, .int i4, .ref p0, .ref p2])) (jq qL_law_c26 18 rfl) rfl) ?_
    refine Eq.trans (jb_nx (i := .iadd) (n := 1) (q := (1834, [some (.ref p0), some (.ref p1), some (.ref p2), some (.ref p3), some (.int i4), some (.int x118), o6, o7, o8], [.int (i4 + 1), .ref p0, .ref p2])) (jq qL_law_c26 19 rfl) rfl) ?_
    obtain ⟨x119, e120, H⟩ := jbd H
    refine Eq.trans (jb_nx (i := .iaload) (n := 1) (q := (1835, [some (.ref p0), some (.ref p1), some (.ref p2), some (.ref p3), some (.int i4), some (.int x118), o6, o7, o8], [.int x119, .ref p2])) (jq qL_law_c26 20 rfl) (jo_ial e120)) ?_
    obtain ⟨b135, H⟩ := jm_O_inv H
    rcases jcI H with ⟨x123, h121, r122, H⟩ | ⟨w136, h137, r122, H⟩
    · refine Eq.trans (jb_nx (i := .invokevirtual 217) (n := 3) (q := (1838, [some (.ref p0), some (.ref p1), some (.ref p2), some (.ref p3), some (.int i4), some (.int x118), o6, o7, o8], [.int x123])) (jq qL_law_c26 21 rfl) (jo_cv (y := mX13_eveningsUntilFinished) rfl (Nat.le_of_ble_eq_true rfl) rfl (Nat.le_of_ble_eq_true rfl) b135 rfl r122 jo_ret)) ?_
      refine Eq.trans (jb_nx (i := .istore 6) (n := 2) (q := (1840, [some (.ref p0), some (.ref p1), some (.ref p2), some (.ref p3), some (.int i4), some (.int x118), some (.int x123), o7, o8], [])) (jq qL_law_c26 22 rfl) rfl) ?_
      refine Eq.trans (jb_nx (i := .aload_n 2) (n := 1) (q := (1841, [some (.ref p0), some (.ref p1), some (.ref p2), some (.ref p3), some (.int i4), some (.int x118), some (.int x123), o7, o8], [.ref p2])) (jq qL_law_c26 23 rfl) rfl) ?_
      obtain ⟨b132, H⟩ := jm_O_inv H
      rcases jcI H with ⟨x126, h124, r125, H⟩ | ⟨w133, h134, r125, H⟩
      · refine Eq.trans (jb_nx (i := .invokevirtual 108) (n := 3) (q := (1844, [some (.ref p0), some (.ref p1), some (.ref p2), some (.ref p3), some (.int i4), some (.int x118), some (.int x123), o7, o8], [.int x126])) (jq qL_law_c26 24 rfl) (jo_cv (y := mX13_thrown) rfl (Nat.le_of_ble_eq_true rfl) rfl (Nat.le_of_ble_eq_true rfl) b132 rfl r125 jo_ret)) ?_
        refine Eq.trans (jb_nx (i := .iload 5) (n := 2) (q := (1846, [some (.ref p0), some (.ref p1), some (.ref p2), some (.ref p3), some (.int i4), some (.int x118), some (.int x123), o7, o8], [.int x118, .int x126])) (jq qL_law_c26 25 rfl) rfl) ?_
        by_cases c127 : x126 = x118
        · rw [if_pos c127] at H
          refine Eq.trans (jb_nx (i := .if_icmp .eq 5) (n := 3) (q := (1851, [some (.ref p0), some (.ref p1), some (.ref p2), some (.ref p3), some (.int i4), some (.int x118), some (.int x123), o7, o8], [])) (jq qL_law_c26 26 rfl) (jo_icT (jz_eqT c127) rfl)) ?_
          refine Eq.trans (jb_nx (i := .iload 5) (n := 2) (q := (1853, [some (.ref p0), some (.ref p1), some (.ref p2), some (.ref p3), some (.int i4), some (.int x118), some (.int x123), o7, o8], [.int x118])) (jq qL_law_c26 29 rfl) rfl) ?_
          by_cases c128 : x118 = 0
          · rw [if_pos c128] at H
            refine Eq.trans (jb_nx (i := .ifCond .ne 15) (n := 3) (q := (1856, [some (.ref p0), some (.ref p1), some (.ref p2), some (.ref p3), some (.int i4), some (.int x118), some (.int x123), o7, o8], [])) (jq qL_law_c26 30 rfl) (jo_ifF (jz_neF c128))) ?_
            refine Eq.trans (jb_nx (i := .aload_n 3) (n := 1) (q := (1857, [some (.ref p0), some (.ref p1), some (.ref p2), some (.ref p3), some (.int i4), some (.int x118), some (.int x123), o7, o8], [.ref p3])) (jq qL_law_c26 31 rfl) rfl) ?_
            refine Eq.trans (jb_nx (i := .iconst 0) (n := 1) (q := (1858, [some (.ref p0), some (.ref p1), some (.ref p2), some (.ref p3), some (.int i4), some (.int x118), some (.int x123), o7, o8], [.int 0, .ref p3])) (jq qL_law_c26 32 rfl) rfl) ?_
            obtain ⟨y129, e130, H⟩ := jbd H
            refine Eq.trans (jb_nx (i := .laload) (n := 1) (q := (1859, [some (.ref p0), some (.ref p1), some (.ref p2), some (.ref p3), some (.int i4), some (.int x118), some (.int x123), o7, o8], [.long y129])) (jq qL_law_c26 33 rfl) (jo_lal e130)) ?_
            refine Eq.trans (jb_nx (i := .iload 6) (n := 2) (q := (1861, [some (.ref p0), some (.ref p1), some (.ref p2), some (.ref p3), some (.int i4), some (.int x118), some (.int x123), o7, o8], [.int x123, .long y129])) (jq qL_law_c26 34 rfl) rfl) ?_
            refine Eq.trans (jb_nx (i := .i2l) (n := 1) (q := (1862, [some (.ref p0), some (.ref p1), some (.ref p2), some (.ref p3), some (.int i4), some (.int x118), some (.int x123), o7, o8], [.long x123.toInt64, .long y129])) (jq qL_law_c26 35 rfl) rfl) ?_
            refine Eq.trans (jb_nx (i := .lcmp) (n := 1) (q := (1863, [some (.ref p0), some (.ref p1), some (.ref p2), some (.ref p3), some (.int i4), some (.int x118), some (.int x123), o7, o8], [.int (lg_cmp y129 x123.toInt64)])) (jq qL_law_c26 36 rfl) rfl) ?_
            by_cases c131 : (lg_cmp y129 x123.toInt64) = 0
            · rw [if_pos c131] at H
              refine Eq.trans (jb_nx (i := .ifCond .eq 5) (n := 3) (q := (1868, [some (.ref p0), some (.ref p1), some (.ref p2), some (.ref p3), some (.int i4), some (.int x118), some (.int x123), o7, o8], [])) (jq qL_law_c26 37 rfl) (jo_ifT (jz_eqT c131) rfl)) ?_
              refine Eq.trans (jb_nx (i := .goto 114) (n := 3) (q := (1982, [some (.ref p0), some (.ref p1), some (.ref p2), some (.ref p3), some (.int i4), some (.int x118), some (.int x123), o7, o8], [])) (jq qL_law_c27 0 rfl) rfl) ?_
              exact H
            · rw [if_neg c131] at H
              refine Eq.trans (jb_nx (i := .ifCond .eq 5) (n := 3) (q := (1866, [some (.ref p0), some (.ref p1), some (.ref p2), some (.ref p3), some (.int i4), some (.int x118), some (.int x123), o7, o8], [])) (jq qL_law_c26 37 rfl) (jo_ifF (jz_eqF c131))) ?_
              refine Eq.trans (jb_nx (i := .iconst 0) (n := 1) (q := (1867, [some (.ref p0), some (.ref p1), some (.ref p2), some (.ref p3), some (.int i4), some (.int x118), some (.int x123), o7, o8], [.int 0])) (jq qL_law_c26 38 rfl) rfl) ?_
              exact Eq.trans (jb_rt (i := .ireturn) (n := 1) (jq qL_law_c26 39 rfl) (jo_iret rfl (by decide))) H
          · rw [if_neg c128] at H
            refine Eq.trans (jb_nx (i := .ifCond .ne 15) (n := 3) (q := (1868, [some (.ref p0), some (.ref p1), some (.ref p2), some (.ref p3), some (.int i4), some (.int x118), some (.int x123), o7, o8], [])) (jq qL_law_c26 30 rfl) (jo_ifT (jz_neT c128) rfl)) ?_
            refine Eq.trans (jb_nx (i := .goto 114) (n := 3) (q := (1982, [some (.ref p0), some (.ref p1), some (.ref p2), some (.ref p3), some (.int i4), some (.int x118), some (.int x123), o7, o8], [])) (jq qL_law_c27 0 rfl) rfl) ?_
            exact H
        · rw [if_neg c127] at H
          refine Eq.trans (jb_nx (i := .if_icmp .eq 5) (n := 3) (q := (1849, [some (.ref p0), some (.ref p1), some (.ref p2), some (.ref p3), some (.int i4), some (.int x118), some (.int x123), o7, o8], [])) (jq qL_law_c26 26 rfl) (jo_icF (jz_eqF c127))) ?_
          refine Eq.trans (jb_nx (i := .iconst 0) (n := 1) (q := (1850, [some (.ref p0), some (.ref p1), some (.ref p2), some (.ref p3), some (.int i4), some (.int x118), some (.int x123), o7, o8], [.int 0])) (jq qL_law_c26 27 rfl) rfl) ?_
          exact Eq.trans (jb_rt (i := .ireturn) (n := 1) (jq qL_law_c26 28 rfl) (jo_iret rfl (by decide))) H
      · exact Eq.trans (jb_rt (i := .invokevirtual 108) (n := 3) (jq qL_law_c26 24 rfl) (jo_cv (y := mX13_thrown) rfl (Nat.le_of_ble_eq_true rfl) rfl (Nat.le_of_ble_eq_true rfl) b132 rfl r125 (jo_exn rfl))) H
    · exact Eq.trans (jb_rt (i := .invokevirtual 217) (n := 3) (jq qL_law_c26 21 rfl) (jo_cv (y := mX13_eveningsUntilFinished) rfl (Nat.le_of_ble_eq_true rfl) rfl (Nat.le_of_ble_eq_true rfl) b135 rfl r122 (jo_exn rfl))) H
  · exact Eq.trans (jb_rt (i := .invokestatic 215) (n := 3) (jq qL_law_c26 13 rfl) (jo_cs (y := mL_eveningsUntilFinished) (w := 4) (by decide) rfl (Nat.le_of_ble_eq_true rfl) rfl (Nat.le_of_ble_eq_true rfl) rfl r117 (jo_exn rfl))) H
theorem gL_law_1747 {d : Nat} {p0 : Nat} {p1 : Nat} {p2 : Nat} {p3 : Nat} {i4 : Int32} {o5 : Option Value} {o6 : Option Value} {o7 : Option Value} {o8 : Option Value} {h : jm_H} {r : jm_R} (H : ((jm_ali h p0 0 (i4 + 1)).bind fun x140 => (jm_ali h p0 0 (i4 + 2)).bind fun x142 => jc_I (jm_D d mL_sizeAfterEvenings [.ref p1, .int x140, .int x142, .ref p3] h) (fun x146 h144 => (jm_ali h144 p0 0 (i4 + 1)).bind fun x147 => (jm_ali h144 p0 0 (i4 + 2)).bind fun x149 => jm_O h144 p2 13 (jc_I (jm_D d mX13_sizeAfterEvenings [.ref p2, .int x147, .int x149] h144) (fun x153 h151 => jm_O h151 p2 13 (jc_I (jm_D d mX13_thrown [.ref p2] h151) (fun x156 h154 => (if x156 = x146 then (if x146 = 0 then (jm_all h154 p3 0).bind fun y159 => (if (lg_cmp y159 x153.toInt64) = 0 then kL_law_1982 d p0 p1 p2 p3 i4 (some (.int x146)) (some (.int x153)) o7 o8 h154 else some (.inl (some (.int 0)), h154)) else kL_law_1982 d p0 p1 p2 p3 i4 (some (.int x146)) (some (.int x153)) o7 o8 h154) else some (.inl (some (.int 0)), h154))) jx)) jx)) jx) = some r) : kL_law_1747 d p0 p1 p2 p3 i4 o5 o6 o7 o8 h = some r := by
  show jm_B d mL_law (1747, [some (.ref p0), some (.ref p1), some (.ref p2), some (.ref p3), some (.int i4), o5, o6, o7, o8], []) h = some r
  refine Eq.trans (jb_nx (i := .aload_n 1) (n := 1) (q := (1748, [some (.ref p0), some (.ref p1), some (.ref p2), some (.ref p3), some (.int i4), o5, o6, o7, o8], [.ref p1])) (jq qL_law_c25 1 rfl) rfl) ?_
  refine Eq.trans (jb_nx (i := .aload_n 0) (n := 1) (q := (1749, [some (.ref p0), some (.ref p1), some (.ref p2), some (.ref p3), some (.int i4), o5, o6, o7, o8], [.ref p0, .ref p1])) (jq qL_law_c25 2 rfl) rfl) ?_
  refine Eq.trans (jb_nx (i := .iload 4) (n := 2) (q := (1751, [some (.ref p0), some (.ref p1), some (.ref p2), some (.ref p3), some (.int i4), o5, o6, o7, o8], [.int i4, .ref p0, .ref p1])) (jq qL_law_c25 3 rfl) rfl) ?_
  refine Eq.trans (jb_nx (i := .iconst 1) (n := 1) (q := (1752, [some (.ref p0), some (.ref p1), some (.ref p2), some (.ref p3), some (.int i4), o5, o6, o7, o8], [.int 1, .int i4, .ref p0, .ref p1])) (jq qL_law_c25 4 rfl) rfl) ?_
  refine Eq.trans (jb_nx (i := .iadd) (n := 1) (q := (1753, [some (.ref p0), some (.ref p1), some (.ref p2), some (.ref p3), some (.int i4), o5, o6, o7, o8], [.int (i4 + 1), .ref p0, .ref p1])) (jq qL_law_c25 5 rfl) rfl) ?_
  obtain ⟨x140, e141, H⟩ := jbd H
  refine Eq.trans (jb_nx (i := .iaload) (n := 1) (q := (1754, [some (.ref p0), some (.ref p1), some (.ref p2), some (.ref p3), some (.int i4), o5, o6, o7, o8], [.int x140, .ref p1])) (jq qL_law_c25 6 rfl) (jo_ial e141)) ?_
  refine Eq.trans (jb_nx (i := .aload_n 0) (n := 1) (q := (1755, [some (.ref p0), some (.ref p1), some (.ref p2), some (.ref p3), some (.int i4), o5, o6, o7, o8], [.ref p0, .int x140, .ref p1])) (jq qL_law_c25 7 rfl) rfl) ?_
  refine Eq.trans (jb_nx (i := .iload 4) (n := 2) (q := (1757, [some (.ref p0), some (.ref p1), some (.ref p2), some (.ref p3), some (.int i4), o5, o6, o7, o8], [.int i4, .ref p0, .int x140, .ref p1])) (jq qL_law_c25 8 rfl) rfl) ?_
  refine Eq.trans (jb_nx (i := .iconst 2) (n := 1) (q := (1758, [some (.ref p0), some (.ref p1), some (.ref p2), some (.ref p3), some (.int i4), o5, o6, o7, o8], [.int 2, .int i4, .ref p0, .int x140, .ref p1])) (jq qL_law_c25 9 rfl) rfl) ?_
  refine Eq.trans (jb_nx (i := .iadd) (n := 1) (q := (1759, [some (.ref p0), some (.ref p1), some (.ref p2), some (.ref p3), some (.int i4), o5, o6, o7, o8], [.int (i4 + 2), .ref p0, .int x140, .ref p1])) (jq qL_law_c25 10 rfl) rfl) ?_
  obtain ⟨x142, e143, H⟩ := jbd H
  refine Eq.trans (jb_nx (i := .iaload) (n := 1) (q := (1760, [some (.ref p0), some (.ref p1), some (.ref p2), some (.ref p3), some (.int i4), o5, o6, o7, o8], [.int x142, .int x140, .ref p1])) (jq qL_law_c25 11 rfl) (jo_ial e143)) ?_
  refine Eq.trans (jb_nx (i := .aload_n 3) (n := 1) (q := (1761, [some (.ref p0), some (.ref p1), some (.ref p2), some (.ref p3), some (.int i4), o5, o6, o7, o8], [.ref p3, .int x142, .int x140, .ref p1])) (jq qL_law_c25 12 rfl) rfl) ?_
  rcases jcI H with ⟨x146, h144, r145, H⟩ | ⟨w168, h169, r145, H⟩
  · refine Eq.trans (jb_nx (i := .invokestatic 212) (n := 3) (q := (1764, [some (.ref p0), some (.ref p1), some (.ref p2), some (.ref p3), some (.int i4), o5, o6, o7, o8], [.int x146])) (jq qL_law_c25 13 rfl) (jo_cs (y := mL_sizeAfterEvenings) (w := 4) (by decide) rfl (Nat.le_of_ble_eq_true rfl) rfl (Nat.le_of_ble_eq_true rfl) rfl r145 jo_ret)) ?_
    refine Eq.trans (jb_nx (i := .istore 5) (n := 2) (q := (1766, [some (.ref p0), some (.ref p1), some (.ref p2), some (.ref p3), some (.int i4), some (.int x146), o6, o7, o8], [])) (jq qL_law_c25 14 rfl) rfl) ?_
    refine Eq.trans (jb_nx (i := .aload_n 2) (n := 1) (q := (1767, [some (.ref p0), some (.ref p1), some (.ref p2), some (.ref p3), some (.int i4), some (.int x146), o6, o7, o8], [.ref p2])) (jq qL_law_c25 15 rfl) rfl) ?_
    refine Eq.trans (jb_nx (i := .aload_n 0) (n := 1) (q := (1768, [some (.ref p0), some (.ref p1), some (.ref p2), some (.ref p3), some (.int i4), some (.int x146), o6, o7, o8], [.ref p0, .ref p2])) (jq qL_law_c25 16 rfl) rfl) ?_
    refine Eq.trans (jb_nx (i := .iload 4) (n := 2) (q := (1770, [some (.ref p0), some (.ref p1), some (.ref p2), some (.ref p3), some (.int i4), some (.int x146), o6, o7, o8], [.int i4, .ref p0, .ref p2])) (jq qL_law_c25 17 rfl) rfl) ?_
    refine Eq.trans (jb_nx (i := .iconst 1) (n := 1) (q := (1771, [some (.ref p0), some (.ref p1), some (.ref p2), some (.ref p3), some (.int i4), some (.int x146), o6, o7, o8], [.int 1, .int i4, .ref p0, .ref p2])) (jq qL_law_c25 18 rfl) rfl) ?_
    refine Eq.trans (jb_nx (i := .iadd) (n := 1) (q := (1772, [some (.ref p0), some (.ref p1), some (.ref p2), some (.ref p3), some (.int i4), some (.int x146), o6, o7, o8], [.int (i4 + 1), .ref p0, .ref p2])) (jq qL_law_c25 19 rfl) rfl) ?_
    obtain ⟨x147, e148, H⟩ := jbd H
    refine Eq.trans (jb_nx (i := .iaload) (n := 1) (q := (1773, [some (.ref p0), some (.ref p1), some (.ref p2), some (.ref p3), some (.int i4), some (.int x146), o6, o7, o8], [.int x147, .ref p2])) (jq qL_law_c25 20 rfl) (jo_ial e148)) ?_
    refine Eq.trans (jb_nx (i := .aload_n 0) (n := 1) (q := (1774, [some (.ref p0), some (.ref p1), some (.ref p2), some (.ref p3), some (.int i4), some (.int x146), o6, o7, o8], [.ref p0, .int x147, .ref p2])) (jq qL_law_c25 21 rfl) rfl) ?_
    refine Eq.trans (jb_nx (i := .iload 4) (n := 2) (q := (1776, [some (.ref p0), some (.ref p1), some (.ref p2), some (.ref p3), some (.int i4), some (.int x146), o6, o7, o8], [.int i4, .ref p0, .int x147, .ref p2])) (jq qL_law_c25 22 rfl) rfl) ?_
    refine Eq.trans (jb_nx (i := .iconst 2) (n := 1) (q := (1777, [some (.ref p0), some (.ref p1), some (.ref p2), some (.ref p3), some (.int i4), some (.int x146), o6, o7, o8], [.int 2, .int i4, .ref p0, .int x147, .ref p2])) (jq qL_law_c25 23 rfl) rfl) ?_
    refine Eq.trans (jb_nx (i := .iadd) (n := 1) (q := (1778, [some (.ref p0), some (.ref p1), some (.ref p2), some (.ref p3), some (.int i4), some (.int x146), o6, o7, o8], [.int (i4 + 2), .ref p0, .int x147, .ref p2])) (jq qL_law_c25 24 rfl) rfl) ?_
    obtain ⟨x149, e150, H⟩ := jbd H
    refine Eq.trans (jb_nx (i := .iaload) (n := 1) (q := (1779, [some (.ref p0), some (.ref p1), some (.ref p2), some (.ref p3), some (.int i4), some (.int x146), o6, o7, o8], [.int x149, .int x147, .ref p2])) (jq qL_law_c25 25 rfl) (jo_ial e150)) ?_
    obtain ⟨b165, H⟩ := jm_O_inv H
    rcases jcI H with ⟨x153, h151, r152, H⟩ | ⟨w166, h167, r152, H⟩
    · refine Eq.trans (jb_nx (i := .invokevirtual 214) (n := 3) (q := (1782, [some (.ref p0), some (.ref p1), some (.ref p2), some (.ref p3), some (.int i4), some (.int x146), o6, o7, o8], [.int x153])) (jq qL_law_c25 26 rfl) (jo_cv (y := mX13_sizeAfterEvenings) rfl (Nat.le_of_ble_eq_true rfl) rfl (Nat.le_of_ble_eq_true rfl) b165 rfl r152 jo_ret)) ?_
      refine Eq.trans (jb_nx (i := .istore 6) (n := 2) (q := (1784, [some (.ref p0), some (.ref p1), some (.ref p2), some (.ref p3), some (.int i4), some (.int x146), some (.int x153), o7, o8], [])) (jq qL_law_c25 27 rfl) rfl) ?_
      refine Eq.trans (jb_nx (i := .aload_n 2) (n := 1) (q := (1785, [some (.ref p0), some (.ref p1), some (.ref p2), some (.ref p3), some (.int i4), some (.int x146), some (.int x153), o7, o8], [.ref p2])) (jq qL_law_c25 28 rfl) rfl) ?_
      obtain ⟨b162, H⟩ := jm_O_inv H
      rcases jcI H with ⟨x156, h154, r155, H⟩ | ⟨w163, h164, r155, H⟩
      · refine Eq.trans (jb_nx (i := .invokevirtual 108) (n := 3) (q := (1788, [some (.ref p0), some (.ref p1), some (.ref p2), some (.ref p3), some (.int i4), some (.int x146), some (.int x153), o7, o8], [.int x156])) (jq qL_law_c25 29 rfl) (jo_cv (y := mX13_thrown) rfl (Nat.le_of_ble_eq_true rfl) rfl (Nat.le_of_ble_eq_true rfl) b162 rfl r155 jo_ret)) ?_
        refine Eq.trans (jb_nx (i := .iload 5) (n := 2) (q := (1790, [some (.ref p0), some (.ref p1), some (.ref p2), some (.ref p3), some (.int i4), some (.int x146), some (.int x153), o7, o8], [.int x146, .int x156])) (jq qL_law_c25 30 rfl) rfl) ?_
        by_cases c157 : x156 = x146
        · rw [if_pos c157] at H
          refine Eq.trans (jb_nx (i := .if_icmp .eq 5) (n := 3) (q := (1795, [some (.ref p0), some (.ref p1), some (.ref p2), some (.ref p3), some (.int i4), some (.int x146), some (.int x153), o7, o8], [])) (jq qL_law_c25 31 rfl) (jo_icT (jz_eqT c157) rfl)) ?_
          refine Eq.trans (jb_nx (i := .iload 5) (n := 2) (q := (1797, [some (.ref p0), some (.ref p1), some (.ref p2), some (.ref p3), some (.int i4), some (.int x146), some (.int x153), o7, o8], [.int x146])) (jq qL_law_c25 34 rfl) rfl) ?_
          by_cases c158 : x146 = 0
          · rw [if_pos c158] at H
            refine Eq.trans (jb_nx (i := .ifCond .ne 15) (n := 3) (q := (1800, [some (.ref p0), some (.ref p1), some (.ref p2), some (.ref p3), some (.int i4), some (.int x146), some (.int x153), o7, o8], [])) (jq qL_law_c25 35 rfl) (jo_ifF (jz_neF c158))) ?_
            refine Eq.trans (jb_nx (i := .aload_n 3) (n := 1) (q := (1801, [some (.ref p0), some (.ref p1), some (.ref p2), some (.ref p3), some (.int i4), some (.int x146), some (.int x153), o7, o8], [.ref p3])) (jq qL_law_c25 36 rfl) rfl) ?_
            refine Eq.trans (jb_nx (i := .iconst 0) (n := 1) (q := (1802, [some (.ref p0), some (.ref p1), some (.ref p2), some (.ref p3), some (.int i4), some (.int x146), some (.int x153), o7, o8], [.int 0, .ref p3])) (jq qL_law_c25 37 rfl) rfl) ?_
            obtain ⟨y159, e160, H⟩ := jbd H
            refine Eq.trans (jb_nx (i := .laload) (n := 1) (q := (1803, [some (.ref p0), some (.ref p1), some (.ref p2), some (.ref p3), some (.int i4), some (.int x146), some (.int x153), o7, o8], [.long y159])) (jq qL_law_c25 38 rfl) (jo_lal e160)) ?_
            refine Eq.trans (jb_nx (i := .iload 6) (n := 2) (q := (1805, [some (.ref p0), some (.ref p1), some (.ref p2), some (.ref p3), some (.int i4), some (.int x146), some (.int x153), o7, o8], [.int x153, .long y159])) (jq qL_law_c25 39 rfl) rfl) ?_
            refine Eq.trans (jb_nx (i := .i2l) (n := 1) (q := (1806, [some (.ref p0), some (.ref p1), some (.ref p2), some (.ref p3), some (.int i4), some (.int x146), some (.int x153), o7, o8], [.long x153.toInt64, .long y159])) (jq qL_law_c26 0 rfl) rfl) ?_
            refine Eq.trans (jb_nx (i := .lcmp) (n := 1) (q := (1807, [some (.ref p0), some (.ref p1), some (.ref p2), some (.ref p3), some (.int i4), some (.int x146), some (.int x153), o7, o8], [.int (lg_cmp y159 x153.toInt64)])) (jq qL_law_c26 1 rfl) rfl) ?_
            by_cases c161 : (lg_cmp y159 x153.toInt64) = 0
            · rw [if_pos c161] at H
              refine Eq.trans (jb_nx (i := .ifCond .eq 5) (n := 3) (q := (1812, [some (.ref p0), some (.ref p1), some (.ref p2), some (.ref p3), some (.int i4), some (.int x146), some (.int x153), o7, o8], [])) (jq qL_law_c26 2 rfl) (jo_ifT (jz_eqT c161) rfl)) ?_
              refine Eq.trans (jb_nx (i := .goto 170) (n := 3) (q := (1982, [some (.ref p0), some (.ref p1), some (.ref p2), some (.ref p3), some (.int i4), some (.int x146), some (.int x153), o7, o8], [])) (jq qL_law_c26 5 rfl) rfl) ?_
              exact H
            · rw [if_neg c161] at H
              refine Eq.trans (jb_nx (i := .ifCond .eq 5) (n := 3) (q := (1810, [some (.ref p0), some (.ref p1), some (.ref p2), some (.ref p3), some (.int i4), some (.int x146), some (.int x153), o7, o8], [])) (jq qL_law_c26 2 rfl) (jo_ifF (jz_eqF c161))) ?_
              refine Eq.trans (jb_nx (i := .iconst 0) (n := 1) (q := (1811, [some (.ref p0), some (.ref p1), some (.ref p2), some (.ref p3), some (.int i4), some (.int x146), some (.int x153), o7, o8], [.int 0])) (jq qL_law_c26 3 rfl) rfl) ?_
              exact Eq.trans (jb_rt (i := .ireturn) (n := 1) (jq qL_law_c26 4 rfl) (jo_iret rfl (by decide))) H
          · rw [if_neg c158] at H
            refine Eq.trans (jb_nx (i := .ifCond .ne 15) (n := 3) (q := (1812, [some (.ref p0), some (.ref p1), some (.ref p2), some (.ref p3), some (.int i4), some (.int x146), some (.int x153), o7, o8], [])) (jq qL_law_c25 35 rfl) (jo_ifT (jz_neT c158) rfl)) ?_
            refine Eq.trans (jb_nx (i := .goto 170) (n := 3) (q := (1982, [some (.ref p0), some (.ref p1), some (.ref p2), some (.ref p3), some (.int i4), some (.int x146), some (.int x153), o7, o8], [])) (jq qL_law_c26 5 rfl) rfl) ?_
            exact H
        · rw [if_neg c157] at H
          refine Eq.trans (jb_nx (i := .if_icmp .eq 5) (n := 3) (q := (1793, [some (.ref p0), some (.ref p1), some (.ref p2), some (.ref p3), some (.int i4), some (.int x146), some (.int x153), o7, o8], [])) (jq qL_law_c25 31 rfl) (jo_icF (jz_eqF c157))) ?_
          refine Eq.trans (jb_nx (i := .iconst 0) (n := 1) (q := (1794, [some (.ref p0), some (.ref p1), some (.ref p2), some (.ref p3), some (.int i4), some (.int x146), some (.int x153), o7, o8], [.int 0])) (jq qL_law_c25 32 rfl) rfl) ?_
          exact Eq.trans (jb_rt (i := .ireturn) (n := 1) (jq qL_law_c25 33 rfl) (jo_iret rfl (by decide))) H
      · exact Eq.trans (jb_rt (i := .invokevirtual 108) (n := 3) (jq qL_law_c25 29 rfl) (jo_cv (y := mX13_thrown) rfl (Nat.le_of_ble_eq_true rfl) rfl (Nat.le_of_ble_eq_true rfl) b162 rfl r155 (jo_exn rfl))) H
    · exact Eq.trans (jb_rt (i := .invokevirtual 214) (n := 3) (jq qL_law_c25 26 rfl) (jo_cv (y := mX13_sizeAfterEvenings) rfl (Nat.le_of_ble_eq_true rfl) rfl (Nat.le_of_ble_eq_true rfl) b165 rfl r152 (jo_exn rfl))) H
  · exact Eq.trans (jb_rt (i := .invokestatic 212) (n := 3) (jq qL_law_c25 13 rfl) (jo_cs (y := mL_sizeAfterEvenings) (w := 4) (by decide) rfl (Nat.le_of_ble_eq_true rfl) rfl (Nat.le_of_ble_eq_true rfl) rfl r145 (jo_exn rfl))) H
theorem gL_law_1672 {d : Nat} {p0 : Nat} {p1 : Nat} {p2 : Nat} {p3 : Nat} {i4 : Int32} {o5 : Option Value} {o6 : Option Value} {o7 : Option Value} {o8 : Option Value} {h : jm_H} {r : jm_R} (H : ((jm_ali h p0 0 (i4 + 1)).bind fun x170 => (jm_ali h p0 0 (i4 + 2)).bind fun x172 => jc_I (jm_D d mL_endSame [.ref p1, .int x170, .int x172, .ref p3] h) (fun x176 h174 => (jm_ali h174 p0 0 (i4 + 1)).bind fun x177 => (jm_ali h174 p0 0 (i4 + 2)).bind fun x179 => jm_O h174 p2 13 (jc_I (jm_D d mX13_endSame [.ref p2, .int x177, .int x179] h174) (fun x183 h181 => jm_O h181 p2 13 (jc_I (jm_D d mX13_thrown [.ref p2] h181) (fun x186 h184 => (if x186 = x176 then (if x176 = 0 then (jm_all h184 p3 0).bind fun y189 => (if x183 = 0 then (if (lg_cmp y189 0) = 0 then kL_law_1982 d p0 p1 p2 p3 i4 (some (.int x176)) (some (.int x183)) o7 o8 h184 else some (.inl (some (.int 0)), h184)) else (if (lg_cmp y189 1) = 0 then kL_law_1982 d p0 p1 p2 p3 i4 (some (.int x176)) (some (.int x183)) o7 o8 h184 else some (.inl (some (.int 0)), h184))) else kL_law_1982 d p0 p1 p2 p3 i4 (some (.int x176)) (some (.int x183)) o7 o8 h184) else some (.inl (some (.int 0)), h184))) jx)) jx)) jx) = some r) : kL_law_1672 d p0 p1 p2 p3 i4 o5 o6 o7 o8 h = some r := by
  show jm_B d mL_law (1672, [some (.ref p0), some (.ref p1), some (.ref p2), some (.ref p3), some (.int i4), o5, o6, o7, o8], []) h = some r
  refine Eq.trans (jb_nx (i := .aload_n 1) (n := 1) (q := (1673, [some (.ref p0), some (.ref p1), some (.ref p2), some (.ref p3), some (.int i4), o5, o6, o7, o8], [.ref p1])) (jq qL_law_c23 33 rfl) rfl) ?_
  refine Eq.trans (jb_nx (i := .aload_n 0) (n := 1) (q := (1674, [some (.ref p0), some (.ref p1), some (.ref p2), some (.ref p3), some (.int i4), o5, o6, o7, o8], [.ref p0, .ref p1])) (jq qL_law_c23 34 rfl) rfl) ?_
  refine Eq.trans (jb_nx (i := .iload 4) (n := 2) (q := (1676, [some (.ref p0), some (.ref p1), some (.ref p2), some (.ref p3), some (.int i4), o5, o6, o7, o8], [.int i4, .ref p0, .ref p1])) (jq qL_law_c23 35 rfl) rfl) ?_
  refine Eq.trans (jb_nx (i := .iconst 1) (n := 1) (q := (1677, [some (.ref p0), some (.ref p1), some (.ref p2), some (.ref p3), some (.int i4), o5, o6, o7, o8], [.int 1, .int i4, .ref p0, .ref p1])) (jq qL_law_c23 36 rfl) rfl) ?_
  refine Eq.trans (jb_nx (i := .iadd) (n := 1) (q := (1678, [some (.ref p0), some (.ref p1), some (.ref p2), some (.ref p3), some (.int i4), o5, o6, o7, o8], [.int (i4 + 1), .ref p0, .ref p1])) (jq qL_law_c23 37 rfl) rfl) ?_
  obtain ⟨x170, e171, H⟩ := jbd H
  refine Eq.trans (jb_nx (i := .iaload) (n := 1) (q := (1679, [some (.ref p0), some (.ref p1), some (.ref p2), some (.ref p3), some (.int i4), o5, o6, o7, o8], [.int x170, .ref p1])) (jq qL_law_c23 38 rfl) (jo_ial e171)) ?_
  refine Eq.trans (jb_nx (i := .aload_n 0) (n := 1) (q := (1680, [some (.ref p0), some (.ref p1), some (.ref p2), some (.ref p3), some (.int i4), o5, o6, o7, o8], [.ref p0, .int x170, .ref p1])) (jq qL_law_c23 39 rfl) rfl) ?_
  refine Eq.trans (jb_nx (i := .iload 4) (n := 2) (q := (1682, [some (.ref p0), some (.ref p1), some (.ref p2), some (.ref p3), some (.int i4), o5, o6, o7, o8], [.int i4, .ref p0, .int x170, .ref p1])) (jq qL_law_c24 0 rfl) rfl) ?_
  refine Eq.trans (jb_nx (i := .iconst 2) (n := 1) (q := (1683, [some (.ref p0), some (.ref p1), some (.ref p2), some (.ref p3), some (.int i4), o5, o6, o7, o8], [.int 2, .int i4, .ref p0, .int x170, .ref p1])) (jq qL_law_c24 1 rfl) rfl) ?_
  refine Eq.trans (jb_nx (i := .iadd) (n := 1) (q := (1684, [some (.ref p0), some (.ref p1), some (.ref p2), some (.ref p3), some (.int i4), o5, o6, o7, o8], [.int (i4 + 2), .ref p0, .int x170, .ref p1])) (jq qL_law_c24 2 rfl) rfl) ?_
  obtain ⟨x172, e173, H⟩ := jbd H
  refine Eq.trans (jb_nx (i := .iaload) (n := 1) (q := (1685, [some (.ref p0), some (.ref p1), some (.ref p2), some (.ref p3), some (.int i4), o5, o6, o7, o8], [.int x172, .int x170, .ref p1])) (jq qL_law_c24 3 rfl) (jo_ial e173)) ?_
  refine Eq.trans (jb_nx (i := .aload_n 3) (n := 1) (q := (1686, [some (.ref p0), some (.ref p1), some (.ref p2), some (.ref p3), some (.int i4), o5, o6, o7, o8], [.ref p3, .int x172, .int x170, .ref p1])) (jq qL_law_c24 4 rfl) rfl) ?_
  rcases jcI H with ⟨x176, h174, r175, H⟩ | ⟨w200, h201, r175, H⟩
  · refine Eq.trans (jb_nx (i := .invokestatic 209) (n := 3) (q := (1689, [some (.ref p0), some (.ref p1), some (.ref p2), some (.ref p3), some (.int i4), o5, o6, o7, o8], [.int x176])) (jq qL_law_c24 5 rfl) (jo_cs (y := mL_endSame) (w := 4) (by decide) rfl (Nat.le_of_ble_eq_true rfl) rfl (Nat.le_of_ble_eq_true rfl) rfl r175 jo_ret)) ?_
    refine Eq.trans (jb_nx (i := .istore 5) (n := 2) (q := (1691, [some (.ref p0), some (.ref p1), some (.ref p2), some (.ref p3), some (.int i4), some (.int x176), o6, o7, o8], [])) (jq qL_law_c24 6 rfl) rfl) ?_
    refine Eq.trans (jb_nx (i := .aload_n 2) (n := 1) (q := (1692, [some (.ref p0), some (.ref p1), some (.ref p2), some (.ref p3), some (.int i4), some (.int x176), o6, o7, o8], [.ref p2])) (jq qL_law_c24 7 rfl) rfl) ?_
    refine Eq.trans (jb_nx (i := .aload_n 0) (n := 1) (q := (1693, [some (.ref p0), some (.ref p1), some (.ref p2), some (.ref p3), some (.int i4), some (.int x176), o6, o7, o8], [.ref p0, .ref p2])) (jq qL_law_c24 8 rfl) rfl) ?_
    refine Eq.trans (jb_nx (i := .iload 4) (n := 2) (q := (1695, [some (.ref p0), some (.ref p1), some (.ref p2), some (.ref p3), some (.int i4), some (.int x176), o6, o7, o8], [.int i4, .ref p0, .ref p2])) (jq qL_law_c24 9 rfl) rfl) ?_
    refine Eq.trans (jb_nx (i := .iconst 1) (n := 1) (q := (1696, [some (.ref p0), some (.ref p1), some (.ref p2), some (.ref p3), some (.int i4), some (.int x176), o6, o7, o8], [.int 1, .int i4, .ref p0, .ref p2])) (jq qL_law_c24 10 rfl) rfl) ?_
    refine Eq.trans (jb_nx (i := .iadd) (n := 1) (q := (1697, [some (.ref p0), some (.ref p1), some (.ref p2), some (.ref p3), some (.int i4), some (.int x176), o6, o7, o8], [.int (i4 + 1), .ref p0, .ref p2])) (jq qL_law_c24 11 rfl) rfl) ?_
    obtain ⟨x177, e178, H⟩ := jbd H
    refine Eq.trans (jb_nx (i := .iaload) (n := 1) (q := (1698, [some (.ref p0), some (.ref p1), some (.ref p2), some (.ref p3), some (.int i4), some (.int x176), o6, o7, o8], [.int x177, .ref p2])) (jq qL_law_c24 12 rfl) (jo_ial e178)) ?_
    refine Eq.trans (jb_nx (i := .aload_n 0) (n := 1) (q := (1699, [some (.ref p0), some (.ref p1), some (.ref p2), some (.ref p3), some (.int i4), some (.int x176), o6, o7, o8], [.ref p0, .int x177, .ref p2])) (jq qL_law_c24 13 rfl) rfl) ?_
    refine Eq.trans (jb_nx (i := .iload 4) (n := 2) (q := (1701, [some (.ref p0), some (.ref p1), some (.ref p2), some (.ref p3), some (.int i4), some (.int x176), o6, o7, o8], [.int i4, .ref p0, .int x177, .ref p2])) (jq qL_law_c24 14 rfl) rfl) ?_
    refine Eq.trans (jb_nx (i := .iconst 2) (n := 1) (q := (1702, [some (.ref p0), some (.ref p1), some (.ref p2), some (.ref p3), some (.int i4), some (.int x176), o6, o7, o8], [.int 2, .int i4, .ref p0, .int x177, .ref p2])) (jq qL_law_c24 15 rfl) rfl) ?_
    refine Eq.trans (jb_nx (i := .iadd) (n := 1) (q := (1703, [some (.ref p0), some (.ref p1), some (.ref p2), some (.ref p3), some (.int i4), some (.int x176), o6, o7, o8], [.int (i4 + 2), .ref p0, .int x177, .ref p2])) (jq qL_law_c24 16 rfl) rfl) ?_
    obtain ⟨x179, e180, H⟩ := jbd H
    refine Eq.trans (jb_nx (i := .iaload) (n := 1) (q := (1704, [some (.ref p0), some (.ref p1), some (.ref p2), some (.ref p3), some (.int i4), some (.int x176), o6, o7, o8], [.int x179, .int x177, .ref p2])) (jq qL_law_c24 17 rfl) (jo_ial e180)) ?_
    obtain ⟨b197, H⟩ := jm_O_inv H
    rcases jcI H with ⟨x183, h181, r182, H⟩ | ⟨w198, h199, r182, H⟩
    · refine Eq.trans (jb_nx (i := .invokevirtual 211) (n := 3) (q := (1707, [some (.ref p0), some (.ref p1), some (.ref p2), some (.ref p3), some (.int i4), some (.int x176), o6, o7, o8], [.int x183])) (jq qL_law_c24 18 rfl) (jo_cv (y := mX13_endSame) rfl (Nat.le_of_ble_eq_true rfl) rfl (Nat.le_of_ble_eq_true rfl) b197 rfl r182 jo_ret)) ?_
      refine Eq.trans (jb_nx (i := .istore 6) (n := 2) (q := (1709, [some (.ref p0), some (.ref p1), some (.ref p2), some (.ref p3), some (.int i4), some (.int x176), some (.int x183), o7, o8], [])) (jq qL_law_c24 19 rfl) rfl) ?_
      refine Eq.trans (jb_nx (i := .aload_n 2) (n := 1) (q := (1710, [some (.ref p0), some (.ref p1), some (.ref p2), some (.ref p3), some (.int i4), some (.int x176), some (.int x183), o7, o8], [.ref p2])) (jq qL_law_c24 20 rfl) rfl) ?_
      obtain ⟨b194, H⟩ := jm_O_inv H
      rcases jcI H with ⟨x186, h184, r185, H⟩ | ⟨w195, h196, r185, H⟩
      · refine Eq.trans (jb_nx (i := .invokevirtual 108) (n := 3) (q := (1713, [some (.ref p0), some (.ref p1), some (.ref p2), some (.ref p3), some (.int i4), some (.int x176), some (.int x183), o7, o8], [.int x186])) (jq qL_law_c24 21 rfl) (jo_cv (y := mX13_thrown) rfl (Nat.le_of_ble_eq_true rfl) rfl (Nat.le_of_ble_eq_true rfl) b194 rfl r185 jo_ret)) ?_
        refine Eq.trans (jb_nx (i := .iload 5) (n := 2) (q := (1715, [some (.ref p0), some (.ref p1), some (.ref p2), some (.ref p3), some (.int i4), some (.int x176), some (.int x183), o7, o8], [.int x176, .int x186])) (jq qL_law_c24 22 rfl) rfl) ?_
        by_cases c187 : x186 = x176
        · rw [if_pos c187] at H
          refine Eq.trans (jb_nx (i := .if_icmp .eq 5) (n := 3) (q := (1720, [some (.ref p0), some (.ref p1), some (.ref p2), some (.ref p3), some (.int i4), some (.int x176), some (.int x183), o7, o8], [])) (jq qL_law_c24 23 rfl) (jo_icT (jz_eqT c187) rfl)) ?_
          refine Eq.trans (jb_nx (i := .iload 5) (n := 2) (q := (1722, [some (.ref p0), some (.ref p1), some (.ref p2), some (.ref p3), some (.int i4), some (.int x176), some (.int x183), o7, o8], [.int x176])) (jq qL_law_c24 26 rfl) rfl) ?_
          by_cases c188 : x176 = 0
          · rw [if_pos c188] at H
            refine Eq.trans (jb_nx (i := .ifCond .ne 22) (n := 3) (q := (1725, [some (.ref p0), some (.ref p1), some (.ref p2), some (.ref p3), some (.int i4), some (.int x176), some (.int x183), o7, o8], [])) (jq qL_law_c24 27 rfl) (jo_ifF (jz_neF c188))) ?_
            refine Eq.trans (jb_nx (i := .aload_n 3) (n := 1) (q := (1726, [some (.ref p0), some (.ref p1), some (.ref p2), some (.ref p3), some (.int i4), some (.int x176), some (.int x183), o7, o8], [.ref p3])) (jq qL_law_c24 28 rfl) rfl) ?_
            refine Eq.trans (jb_nx (i := .iconst 0) (n := 1) (q := (1727, [some (.ref p0), some (.ref p1), some (.ref p2), some (.ref p3), some (.int i4), some (.int x176), some (.int x183), o7, o8], [.int 0, .ref p3])) (jq qL_law_c24 29 rfl) rfl) ?_
            obtain ⟨y189, e190, H⟩ := jbd H
            refine Eq.trans (jb_nx (i := .laload) (n := 1) (q := (1728, [some (.ref p0), some (.ref p1), some (.ref p2), some (.ref p3), some (.int i4), some (.int x176), some (.int x183), o7, o8], [.long y189])) (jq qL_law_c24 30 rfl) (jo_lal e190)) ?_
            refine Eq.trans (jb_nx (i := .iload 6) (n := 2) (q := (1730, [some (.ref p0), some (.ref p1), some (.ref p2), some (.ref p3), some (.int i4), some (.int x176), some (.int x183), o7, o8], [.int x183, .long y189])) (jq qL_law_c24 31 rfl) rfl) ?_
            by_cases c191 : x183 = 0
            · rw [if_pos c191] at H
              refine Eq.trans (jb_nx (i := .ifCond .eq 7) (n := 3) (q := (1737, [some (.ref p0), some (.ref p1), some (.ref p2), some (.ref p3), some (.int i4), some (.int x176), some (.int x183), o7, o8], [.long y189])) (jq qL_law_c24 32 rfl) (jo_ifT (jz_eqT c191) rfl)) ?_
              refine Eq.trans (jb_nx (i := .lconst 0) (n := 1) (q := (1738, [some (.ref p0), some (.ref p1), some (.ref p2), some (.ref p3), some (.int i4), some (.int x176), some (.int x183), o7, o8], [.long 0, .long y189])) (jq qL_law_c24 35 rfl) rfl) ?_
              refine Eq.trans (jb_nx (i := .lcmp) (n := 1) (q := (1739, [some (.ref p0), some (.ref p1), some (.ref p2), some (.ref p3), some (.int i4), some (.int x176), some (.int x183), o7, o8], [.int (lg_cmp y189 0)])) (jq qL_law_c24 36 rfl) rfl) ?_
              by_cases c192 : (lg_cmp y189 0) = 0
              · rw [if_pos c192] at H
                refine Eq.trans (jb_nx (i := .ifCond .eq 5) (n := 3) (q := (1744, [some (.ref p0), some (.ref p1), some (.ref p2), some (.ref p3), some (.int i4), some (.int x176), some (.int x183), o7, o8], [])) (jq qL_law_c24 37 rfl) (jo_ifT (jz_eqT c192) rfl)) ?_
                refine Eq.trans (jb_nx (i := .goto 238) (n := 3) (q := (1982, [some (.ref p0), some (.ref p1), some (.ref p2), some (.ref p3), some (.int i4), some (.int x176), some (.int x183), o7, o8], [])) (jq qL_law_c25 0 rfl) rfl) ?_
                exact H
              · rw [if_neg c192] at H
                refine Eq.trans (jb_nx (i := .ifCond .eq 5) (n := 3) (q := (1742, [some (.ref p0), some (.ref p1), some (.ref p2), some (.ref p3), some (.int i4), some (.int x176), some (.int x183), o7, o8], [])) (jq qL_law_c24 37 rfl) (jo_ifF (jz_eqF c192))) ?_
                refine Eq.trans (jb_nx (i := .iconst 0) (n := 1) (q := (1743, [some (.ref p0), some (.ref p1), some (.ref p2), some (.ref p3), some (.int i4), some (.int x176), some (.int x183), o7, o8], [.int 0])) (jq qL_law_c24 38 rfl) rfl) ?_
                exact Eq.trans (jb_rt (i := .ireturn) (n := 1) (jq qL_law_c24 39 rfl) (jo_iret rfl (by decide))) H
            · rw [if_neg c191] at H
              refine Eq.trans (jb_nx (i := .ifCond .eq 7) (n := 3) (q := (1733, [some (.ref p0), some (.ref p1), some (.ref p2), some (.ref p3), some (.int i4), some (.int x176), some (.int x183), o7, o8], [.long y189])) (jq qL_law_c24 32 rfl) (jo_ifF (jz_eqF c191))) ?_
              refine Eq.trans (jb_nx (i := .lconst 1) (n := 1) (q := (1734, [some (.ref p0), some (.ref p1), some (.ref p2), some (.ref p3), some (.int i4), some (.int x176), some (.int x183), o7, o8], [.long 1, .long y189])) (jq qL_law_c24 33 rfl) rfl) ?_
              refine Eq.trans (jb_nx (i := .goto 4) (n := 3) (q := (1738, [some (.ref p0), some (.ref p1), some (.ref p2), some (.ref p3), some (.int i4), some (.int x176), some (.int x183), o7, o8], [.long 1, .long y189])) (jq qL_law_c24 34 rfl) rfl) ?_
              refine Eq.trans (jb_nx (i := .lcmp) (n := 1) (q := (1739, [some (.ref p0), some (.ref p1), some (.ref p2), some (.ref p3), some (.int i4), some (.int x176), some (.int x183), o7, o8], [.int (lg_cmp y189 1)])) (jq qL_law_c24 36 rfl) rfl) ?_
              by_cases c193 : (lg_cmp y189 1) = 0
              · rw [if_pos c193] at H
                refine Eq.trans (jb_nx (i := .ifCond .eq 5) (n := 3) (q := (1744, [some (.ref p0), some (.ref p1), some (.ref p2), some (.ref p3), some (.int i4), some (.int x176), some (.int x183), o7, o8], [])) (jq qL_law_c24 37 rfl) (jo_ifT (jz_eqT c193) rfl)) ?_
                refine Eq.trans (jb_nx (i := .goto 238) (n := 3) (q := (1982, [some (.ref p0), some (.ref p1), some (.ref p2), some (.ref p3), some (.int i4), some (.int x176), some (.int x183), o7, o8], [])) (jq qL_law_c25 0 rfl) rfl) ?_
                exact H
              · rw [if_neg c193] at H
                refine Eq.trans (jb_nx (i := .ifCond .eq 5) (n := 3) (q := (1742, [some (.ref p0), some (.ref p1), some (.ref p2), some (.ref p3), some (.int i4), some (.int x176), some (.int x183), o7, o8], [])) (jq qL_law_c24 37 rfl) (jo_ifF (jz_eqF c193))) ?_
                refine Eq.trans (jb_nx (i := .iconst 0) (n := 1) (q := (1743, [some (.ref p0), some (.ref p1), some (.ref p2), some (.ref p3), some (.int i4), some (.int x176), some (.int x183), o7, o8], [.int 0])) (jq qL_law_c24 38 rfl) rfl) ?_
                exact Eq.trans (jb_rt (i := .ireturn) (n := 1) (jq qL_law_c24 39 rfl) (jo_iret rfl (by decide))) H
          · rw [if_neg c188] at H
            refine Eq.trans (jb_nx (i := .ifCond .ne 22) (n := 3) (q := (1744, [some (.ref p0), some (.ref p1), some (.ref p2), some (.ref p3), some (.int i4), some (.int x176), some (.int x183), o7, o8], [])) (jq qL_law_c24 27 rfl) (jo_ifT (jz_neT c188) rfl)) ?_
            refine Eq.trans (jb_nx (i := .goto 238) (n := 3) (q := (1982, [some (.ref p0), some (.ref p1), some (.ref p2), some (.ref p3), some (.int i4), some (.int x176), some (.int x183), o7, o8], [])) (jq qL_law_c25 0 rfl) rfl) ?_
            exact H
        · rw [if_neg c187] at H
          refine Eq.trans (jb_nx (i := .if_icmp .eq 5) (n := 3) (q := (1718, [some (.ref p0), some (.ref p1), some (.ref p2), some (.ref p3), some (.int i4), some (.int x176), some (.int x183), o7, o8], [])) (jq qL_law_c24 23 rfl) (jo_icF (jz_eqF c187))) ?_
          refine Eq.trans (jb_nx (i := .iconst 0) (n := 1) (q := (1719, [some (.ref p0), some (.ref p1), some (.ref p2), some (.ref p3), some (.int i4), some (.int x176), some (.int x183), o7, o8], [.int 0])) (jq qL_law_c24 24 rfl) rfl) ?_
          exact Eq.trans (jb_rt (i := .ireturn) (n := 1) (jq qL_law_c24 25 rfl) (jo_iret rfl (by decide))) H
      · exact Eq.trans (jb_rt (i := .invokevirtual 108) (n := 3) (jq qL_law_c24 21 rfl) (jo_cv (y := mX13_thrown) rfl (Nat.le_of_ble_eq_true rfl) rfl (Nat.le_of_ble_eq_true rfl) b194 rfl r185 (jo_exn rfl))) H
    · exact Eq.trans (jb_rt (i := .invokevirtual 211) (n := 3) (jq qL_law_c24 18 rfl) (jo_cv (y := mX13_endSame) rfl (Nat.le_of_ble_eq_true rfl) rfl (Nat.le_of_ble_eq_true rfl) b197 rfl r182 (jo_exn rfl))) H
  · exact Eq.trans (jb_rt (i := .invokestatic 209) (n := 3) (jq qL_law_c24 5 rfl) (jo_cs (y := mL_endSame) (w := 4) (by decide) rfl (Nat.le_of_ble_eq_true rfl) rfl (Nat.le_of_ble_eq_true rfl) rfl r175 (jo_exn rfl))) H
theorem gL_law_1604 {d : Nat} {p0 : Nat} {p1 : Nat} {p2 : Nat} {p3 : Nat} {i4 : Int32} {o5 : Option Value} {o6 : Option Value} {o7 : Option Value} {o8 : Option Value} {h : jm_H} {r : jm_R} (H : ((jm_ali h p0 0 (i4 + 1)).bind fun x202 => (jm_ali h p0 0 (i4 + 2)).bind fun x204 => jc_I (jm_D d mL_sizeAfterSteps [.ref p1, .int x202, .int x204, .ref p3] h) (fun x208 h206 => (jm_ali h206 p0 0 (i4 + 1)).bind fun x209 => (jm_ali h206 p0 0 (i4 + 2)).bind fun x211 => jm_O h206 p2 13 (jc_I (jm_D d mX13_sizeAfterSteps [.ref p2, .int x209, .int x211] h206) (fun x215 h213 => jm_O h213 p2 13 (jc_I (jm_D d mX13_thrown [.ref p2] h213) (fun x218 h216 => (if x218 = x208 then (if x208 = 0 then (jm_all h216 p3 0).bind fun y221 => (if (lg_cmp y221 x215.toInt64) = 0 then kL_law_1982 d p0 p1 p2 p3 i4 (some (.int x208)) (some (.int x215)) o7 o8 h216 else some (.inl (some (.int 0)), h216)) else kL_law_1982 d p0 p1 p2 p3 i4 (some (.int x208)) (some (.int x215)) o7 o8 h216) else some (.inl (some (.int 0)), h216))) jx)) jx)) jx) = some r) : kL_law_1604 d p0 p1 p2 p3 i4 o5 o6 o7 o8 h = some r := by
  show jm_B d mL_law (1604, [some (.ref p0), some (.ref p1), some (.ref p2), some (.ref p3), some (.int i4), o5, o6, o7, o8], []) h = some r
  refine Eq.trans (jb_nx (i := .aload_n 1) (n := 1) (q := (1605, [some (.ref p0), some (.ref p1), some (.ref p2), some (.ref p3), some (.int i4), o5, o6, o7, o8], [.ref p1])) (jq qL_law_c22 28 rfl) rfl) ?_
  refine Eq.trans (jb_nx (i := .aload_n 0) (n := 1) (q := (1606, [some (.ref p0), some (.ref p1), some (.ref p2), some (.ref p3), some (.int i4), o5, o6, o7, o8], [.ref p0, .ref p1])) (jq qL_law_c22 29 rfl) rfl) ?_
  refine Eq.trans (jb_nx (i := .iload 4) (n := 2) (q := (1608, [some (.ref p0), some (.ref p1), some (.ref p2), some (.ref p3), some (.int i4), o5, o6, o7, o8], [.int i4, .ref p0, .ref p1])) (jq qL_law_c22 30 rfl) rfl) ?_
  refine Eq.trans (jb_nx (i := .iconst 1) (n := 1) (q := (1609, [some (.ref p0), some (.ref p1), some (.ref p2), some (.ref p3), some (.int i4), o5, o6, o7, o8], [.int 1, .int i4, .ref p0, .ref p1])) (jq qL_law_c22 31 rfl) rfl) ?_
  refine Eq.trans (jb_nx (i := .iadd) (n := 1) (q := (1610, [some (.ref p0), some (.ref p1), some (.ref p2), some (.ref p3), some (.int i4), o5, o6, o7, o8], [.int (i4 + 1), .ref p0, .ref p1])) (jq qL_law_c22 32 rfl) rfl) ?_
  obtain ⟨x202, e203, H⟩ := jbd H
  refine Eq.trans (jb_nx (i := .iaload) (n := 1) (q := (1611, [some (.ref p0), some (.ref p1), some (.ref p2), some (.ref p3), some (.int i4), o5, o6, o7, o8], [.int x202, .ref p1])) (jq qL_law_c22 33 rfl) (jo_ial e203)) ?_
  refine Eq.trans (jb_nx (i := .aload_n 0) (n := 1) (q := (1612, [some (.ref p0), some (.ref p1), some (.ref p2), some (.ref p3), some (.int i4), o5, o6, o7, o8], [.ref p0, .int x202, .ref p1])) (jq qL_law_c22 34 rfl) rfl) ?_
  refine Eq.trans (jb_nx (i := .iload 4) (n := 2) (q := (1614, [some (.ref p0), some (.ref p1), some (.ref p2), some (.ref p3), some (.int i4), o5, o6, o7, o8], [.int i4, .ref p0, .int x202, .ref p1])) (jq qL_law_c22 35 rfl) rfl) ?_
  refine Eq.trans (jb_nx (i := .iconst 2) (n := 1) (q := (1615, [some (.ref p0), some (.ref p1), some (.ref p2), some (.ref p3), some (.int i4), o5, o6, o7, o8], [.int 2, .int i4, .ref p0, .int x202, .ref p1])) (jq qL_law_c22 36 rfl) rfl) ?_
  refine Eq.trans (jb_nx (i := .iadd) (n := 1) (q := (1616, [some (.ref p0), some (.ref p1), some (.ref p2), some (.ref p3), some (.int i4), o5, o6, o7, o8], [.int (i4 + 2), .ref p0, .int x202, .ref p1])) (jq qL_law_c22 37 rfl) rfl) ?_
  obtain ⟨x204, e205, H⟩ := jbd H
  refine Eq.trans (jb_nx (i := .iaload) (n := 1) (q := (1617, [some (.ref p0), some (.ref p1), some (.ref p2), some (.ref p3), some (.int i4), o5, o6, o7, o8], [.int x204, .int x202, .ref p1])) (jq qL_law_c22 38 rfl) (jo_ial e205)) ?_
  refine Eq.trans (jb_nx (i := .aload_n 3) (n := 1) (q := (1618, [some (.ref p0), some (.ref p1), some (.ref p2), some (.ref p3), some (.int i4), o5, o6, o7, o8], [.ref p3, .int x204, .int x202, .ref p1])) (jq qL_law_c22 39 rfl) rfl) ?_
  rcases jcI H with ⟨x208, h206, r207, H⟩ | ⟨w230, h231, r207, H⟩
  · refine Eq.trans (jb_nx (i := .invokestatic 206) (n := 3) (q := (1621, [some (.ref p0), some (.ref p1), some (.ref p2), some (.ref p3), some (.int i4), o5, o6, o7, o8], [.int x208])) (jq qL_law_c23 0 rfl) (jo_cs (y := mL_sizeAfterSteps) (w := 4) (by decide) rfl (Nat.le_of_ble_eq_true rfl) rfl (Nat.le_of_ble_eq_true rfl) rfl r207 jo_ret)) ?_
    refine Eq.trans (jb_nx (i := .istore 5) (n := 2) (q := (1623, [some (.ref p0), some (.ref p1), some (.ref p2), some (.ref p3), some (.int i4), some (.int x208), o6, o7, o8], [])) (jq qL_law_c23 1 rfl) rfl) ?_
    refine Eq.trans (jb_nx (i := .aload_n 2) (n := 1) (q := (1624, [some (.ref p0), some (.ref p1), some (.ref p2), some (.ref p3), some (.int i4), some (.int x208), o6, o7, o8], [.ref p2])) (jq qL_law_c23 2 rfl) rfl) ?_
    refine Eq.trans (jb_nx (i := .aload_n 0) (n := 1) (q := (1625, [some (.ref p0), some (.ref p1), some (.ref p2), some (.ref p3), some (.int i4), some (.int x208), o6, o7, o8], [.ref p0, .ref p2])) (jq qL_law_c23 3 rfl) rfl) ?_
    refine Eq.trans (jb_nx (i := .iload 4) (n := 2) (q := (1627, [some (.ref p0), some (.ref p1), some (.ref p2), some (.ref p3), some (.int i4), some (.int x208), o6, o7, o8], [.int i4, .ref p0, .ref p2])) (jq qL_law_c23 4 rfl) rfl) ?_
    refine Eq.trans (jb_nx (i := .iconst 1) (n := 1) (q := (1628, [some (.ref p0), some (.ref p1), some (.ref p2), some (.ref p3), some (.int i4), some (.int x208), o6, o7, o8], [.int 1, .int i4, .ref p0, .ref p2])) (jq qL_law_c23 5 rfl) rfl) ?_
    refine Eq.trans (jb_nx (i := .iadd) (n := 1) (q := (1629, [some (.ref p0), some (.ref p1), some (.ref p2), some (.ref p3), some (.int i4), some (.int x208), o6, o7, o8], [.int (i4 + 1), .ref p0, .ref p2])) (jq qL_law_c23 6 rfl) rfl) ?_
    obtain ⟨x209, e210, H⟩ := jbd H
    refine Eq.trans (jb_nx (i := .iaload) (n := 1) (q := (1630, [some (.ref p0), some (.ref p1), some (.ref p2), some (.ref p3), some (.int i4), some (.int x208), o6, o7, o8], [.int x209, .ref p2])) (jq qL_law_c23 7 rfl) (jo_ial e210)) ?_
    refine Eq.trans (jb_nx (i := .aload_n 0) (n := 1) (q := (1631, [some (.ref p0), some (.ref p1), some (.ref p2), some (.ref p3), some (.int i4), some (.int x208), o6, o7, o8], [.ref p0, .int x209, .ref p2])) (jq qL_law_c23 8 rfl) rfl) ?_
    refine Eq.trans (jb_nx (i := .iload 4) (n := 2) (q := (1633, [some (.ref p0), some (.ref p1), some (.ref p2), some (.ref p3), some (.int i4), some (.int x208), o6, o7, o8], [.int i4, .ref p0, .int x209, .ref p2])) (jq qL_law_c23 9 rfl) rfl) ?_
    refine Eq.trans (jb_nx (i := .iconst 2) (n := 1) (q := (1634, [some (.ref p0), some (.ref p1), some (.ref p2), some (.ref p3), some (.int i4), some (.int x208), o6, o7, o8], [.int 2, .int i4, .ref p0, .int x209, .ref p2])) (jq qL_law_c23 10 rfl) rfl) ?_
    refine Eq.trans (jb_nx (i := .iadd) (n := 1) (q := (1635, [some (.ref p0), some (.ref p1), some (.ref p2), some (.ref p3), some (.int i4), some (.int x208), o6, o7, o8], [.int (i4 + 2), .ref p0, .int x209, .ref p2])) (jq qL_law_c23 11 rfl) rfl) ?_
    obtain ⟨x211, e212, H⟩ := jbd H
    refine Eq.trans (jb_nx (i := .iaload) (n := 1) (q := (1636, [some (.ref p0), some (.ref p1), some (.ref p2), some (.ref p3), some (.int i4), some (.int x208), o6, o7, o8], [.int x211, .int x209, .ref p2])) (jq qL_law_c23 12 rfl) (jo_ial e212)) ?_
    obtain ⟨b227, H⟩ := jm_O_inv H
    rcases jcI H with ⟨x215, h213, r214, H⟩ | ⟨w228, h229, r214, H⟩
    · refine Eq.trans (jb_nx (i := .invokevirtual 208) (n := 3) (q := (1639, [some (.ref p0), some (.ref p1), some (.ref p2), some (.ref p3), some (.int i4), some (.int x208), o6, o7, o8], [.int x215])) (jq qL_law_c23 13 rfl) (jo_cv (y := mX13_sizeAfterSteps) rfl (Nat.le_of_ble_eq_true rfl) rfl (Nat.le_of_ble_eq_true rfl) b227 rfl r214 jo_ret)) ?_
      refine Eq.trans (jb_nx (i := .istore 6) (n := 2) (q := (1641, [some (.ref p0), some (.ref p1), some (.ref p2), some (.ref p3), some (.int i4), some (.int x208), some (.int x215), o7, o8], [])) (jq qL_law_c23 14 rfl) rfl) ?_
      refine Eq.trans (jb_nx (i := .aload_n 2) (n := 1) (q := (1642, [some (.ref p0), some (.ref p1), some (.ref p2), some (.ref p3), some (.int i4), some (.int x208), some (.int x215), o7, o8], [.ref p2])) (jq qL_law_c23 15 rfl) rfl) ?_
      obtain ⟨b224, H⟩ := jm_O_inv H
      rcases jcI H with ⟨x218, h216, r217, H⟩ | ⟨w225, h226, r217, H⟩
      · refine Eq.trans (jb_nx (i := .invokevirtual 108) (n := 3) (q := (1645, [some (.ref p0), some (.ref p1), some (.ref p2), some (.ref p3), some (.int i4), some (.int x208), some (.int x215), o7, o8], [.int x218])) (jq qL_law_c23 16 rfl) (jo_cv (y := mX13_thrown) rfl (Nat.le_of_ble_eq_true rfl) rfl (Nat.le_of_ble_eq_true rfl) b224 rfl r217 jo_ret)) ?_
        refine Eq.trans (jb_nx (i := .iload 5) (n := 2) (q := (1647, [some (.ref p0), some (.ref p1), some (.ref p2), some (.ref p3), some (.int i4), some (.int x208), some (.int x215), o7, o8], [.int x208, .int x218])) (jq qL_law_c23 17 rfl) rfl) ?_
        by_cases c219 : x218 = x208
        · rw [if_pos c219] at H
          refine Eq.trans (jb_nx (i := .if_icmp .eq 5) (n := 3) (q := (1652, [some (.ref p0), some (.ref p1), some (.ref p2), some (.ref p3), some (.int i4), some (.int x208), some (.int x215), o7, o8], [])) (jq qL_law_c23 18 rfl) (jo_icT (jz_eqT c219) rfl)) ?_
          refine Eq.trans (jb_nx (i := .iload 5) (n := 2) (q := (1654, [some (.ref p0), some (.ref p1), some (.ref p2), some (.ref p3), some (.int i4), some (.int x208), some (.int x215), o7, o8], [.int x208])) (jq qL_law_c23 21 rfl) rfl) ?_
          by_cases c220 : x208 = 0
          · rw [if_pos c220] at H
            refine Eq.trans (jb_nx (i := .ifCond .ne 15) (n := 3) (q := (1657, [some (.ref p0), some (.ref p1), some (.ref p2), some (.ref p3), some (.int i4), some (.int x208), some (.int x215), o7, o8], [])) (jq qL_law_c23 22 rfl) (jo_ifF (jz_neF c220))) ?_
            refine Eq.trans (jb_nx (i := .aload_n 3) (n := 1) (q := (1658, [some (.ref p0), some (.ref p1), some (.ref p2), some (.ref p3), some (.int i4), some (.int x208), some (.int x215), o7, o8], [.ref p3])) (jq qL_law_c23 23 rfl) rfl) ?_
            refine Eq.trans (jb_nx (i := .iconst 0) (n := 1) (q := (1659, [some (.ref p0), some (.ref p1), some (.ref p2), some (.ref p3), some (.int i4), some (.int x208), some (.int x215), o7, o8], [.int 0, .ref p3])) (jq qL_law_c23 24 rfl) rfl) ?_
            obtain ⟨y221, e222, H⟩ := jbd H
            refine Eq.trans (jb_nx (i := .laload) (n := 1) (q := (1660, [some (.ref p0), some (.ref p1), some (.ref p2), some (.ref p3), some (.int i4), some (.int x208), some (.int x215), o7, o8], [.long y221])) (jq qL_law_c23 25 rfl) (jo_lal e222)) ?_
            refine Eq.trans (jb_nx (i := .iload 6) (n := 2) (q := (1662, [some (.ref p0), some (.ref p1), some (.ref p2), some (.ref p3), some (.int i4), some (.int x208), some (.int x215), o7, o8], [.int x215, .long y221])) (jq qL_law_c23 26 rfl) rfl) ?_
            refine Eq.trans (jb_nx (i := .i2l) (n := 1) (q := (1663, [some (.ref p0), some (.ref p1), some (.ref p2), some (.ref p3), some (.int i4), some (.int x208), some (.int x215), o7, o8], [.long x215.toInt64, .long y221])) (jq qL_law_c23 27 rfl) rfl) ?_
            refine Eq.trans (jb_nx (i := .lcmp) (n := 1) (q := (1664, [some (.ref p0), some (.ref p1), some (.ref p2), some (.ref p3), some (.int i4), some (.int x208), some (.int x215), o7, o8], [.int (lg_cmp y221 x215.toInt64)])) (jq qL_law_c23 28 rfl) rfl) ?_
            by_cases c223 : (lg_cmp y221 x215.toInt64) = 0
            · rw [if_pos c223] at H
              refine Eq.trans (jb_nx (i := .ifCond .eq 5) (n := 3) (q := (1669, [some (.ref p0), some (.ref p1), some (.ref p2), some (.ref p3), some (.int i4), some (.int x208), some (.int x215), o7, o8], [])) (jq qL_law_c23 29 rfl) (jo_ifT (jz_eqT c223) rfl)) ?_
              refine Eq.trans (jb_nx (i := .goto 313) (n := 3) (q := (1982, [some (.ref p0), some (.ref p1), some (.ref p2), some (.ref p3), some (.int i4), some (.int x208), some (.int x215), o7, o8], [])) (jq qL_law_c23 32 rfl) rfl) ?_
              exact H
            · rw [if_neg c223] at H
              refine Eq.trans (jb_nx (i := .ifCond .eq 5) (n := 3) (q := (1667, [some (.ref p0), some (.ref p1), some (.ref p2), some (.ref p3), some (.int i4), some (.int x208), some (.int x215), o7, o8], [])) (jq qL_law_c23 29 rfl) (jo_ifF (jz_eqF c223))) ?_
              refine Eq.trans (jb_nx (i := .iconst 0) (n := 1) (q := (1668, [some (.ref p0), some (.ref p1), some (.ref p2), some (.ref p3), some (.int i4), some (.int x208), some (.int x215), o7, o8], [.int 0])) (jq qL_law_c23 30 rfl) rfl) ?_
              exact Eq.trans (jb_rt (i := .ireturn) (n := 1) (jq qL_law_c23 31 rfl) (jo_iret rfl (by decide))) H
          · rw [if_neg c220] at H
            refine Eq.trans (jb_nx (i := .ifCond .ne 15) (n := 3) (q := (1669, [some (.ref p0), some (.ref p1), some (.ref p2), some (.ref p3), some (.int i4), some (.int x208), some (.int x215), o7, o8], [])) (jq qL_law_c23 22 rfl) (jo_ifT (jz_neT c220) rfl)) ?_
            refine Eq.trans (jb_nx (i := .goto 313) (n := 3) (q := (1982, [some (.ref p0), some (.ref p1), some (.ref p2), some (.ref p3), some (.int i4), some (.int x208), some (.int x215), o7, o8], [])) (jq qL_law_c23 32 rfl) rfl) ?_
            exact H
        · rw [if_neg c219] at H
          refine Eq.trans (jb_nx (i := .if_icmp .eq 5) (n := 3) (q := (1650, [some (.ref p0), some (.ref p1), some (.ref p2), some (.ref p3), some (.int i4), some (.int x208), some (.int x215), o7, o8], [])) (jq qL_law_c23 18 rfl) (jo_icF (jz_eqF c219))) ?_
          refine Eq.trans (jb_nx (i := .iconst 0) (n := 1) (q := (1651, [some (.ref p0), some (.ref p1), some (.ref p2), some (.ref p3), some (.int i4), some (.int x208), some (.int x215), o7, o8], [.int 0])) (jq qL_law_c23 19 rfl) rfl) ?_
          exact Eq.trans (jb_rt (i := .ireturn) (n := 1) (jq qL_law_c23 20 rfl) (jo_iret rfl (by decide))) H
      · exact Eq.trans (jb_rt (i := .invokevirtual 108) (n := 3) (jq qL_law_c23 16 rfl) (jo_cv (y := mX13_thrown) rfl (Nat.le_of_ble_eq_true rfl) rfl (Nat.le_of_ble_eq_true rfl) b224 rfl r217 (jo_exn rfl))) H
    · exact Eq.trans (jb_rt (i := .invokevirtual 208) (n := 3) (jq qL_law_c23 13 rfl) (jo_cv (y := mX13_sizeAfterSteps) rfl (Nat.le_of_ble_eq_true rfl) rfl (Nat.le_of_ble_eq_true rfl) b227 rfl r214 (jo_exn rfl))) H
  · exact Eq.trans (jb_rt (i := .invokestatic 206) (n := 3) (jq qL_law_c23 0 rfl) (jo_cs (y := mL_sizeAfterSteps) (w := 4) (by decide) rfl (Nat.le_of_ble_eq_true rfl) rfl (Nat.le_of_ble_eq_true rfl) rfl r207 (jo_exn rfl))) H
theorem gL_law_1548 {d : Nat} {p0 : Nat} {p1 : Nat} {p2 : Nat} {p3 : Nat} {i4 : Int32} {o5 : Option Value} {o6 : Option Value} {o7 : Option Value} {o8 : Option Value} {h : jm_H} {r : jm_R} (H : ((jm_ali h p0 0 (i4 + 1)).bind fun x232 => jc_I (jm_D d mL_stepsToFinish [.ref p1, .int x232, .ref p3] h) (fun x236 h234 => (jm_ali h234 p0 0 (i4 + 1)).bind fun x237 => jm_O h234 p2 13 (jc_I (jm_D d mX13_stepsToFinish [.ref p2, .int x237] h234) (fun x241 h239 => jm_O h239 p2 13 (jc_I (jm_D d mX13_thrown [.ref p2] h239) (fun x244 h242 => (if x244 = x236 then (if x236 = 0 then (jm_all h242 p3 0).bind fun y247 => (if (lg_cmp y247 x241.toInt64) = 0 then kL_law_1982 d p0 p1 p2 p3 i4 (some (.int x236)) (some (.int x241)) o7 o8 h242 else some (.inl (some (.int 0)), h242)) else kL_law_1982 d p0 p1 p2 p3 i4 (some (.int x236)) (some (.int x241)) o7 o8 h242) else some (.inl (some (.int 0)), h242))) jx)) jx)) jx) = some r) : kL_law_1548 d p0 p1 p2 p3 i4 o5 o6 o7 o8 h = some r := by
  show jm_B d mL_law (1548, [some (.ref p0), some (.ref p1), some (.ref p2), some (.ref p3), some (.int i4), o5, o6, o7, o8], []) h = some r
  refine Eq.trans (jb_nx (i := .aload_n 1) (n := 1) (q := (1549, [some (.ref p0), some (.ref p1), some (.ref p2), some (.ref p3), some (.int i4), o5, o6, o7, o8], [.ref p1])) (jq qL_law_c21 33 rfl) rfl) ?_
  refine Eq.trans (jb_nx (i := .aload_n 0) (n := 1) (q := (1550, [some (.ref p0), some (.ref p1), some (.ref p2), some (.ref p3), some (.int i4), o5, o6, o7, o8], [.ref p0, .ref p1])) (jq qL_law_c21 34 rfl) rfl) ?_
  refine Eq.trans (jb_nx (i := .iload 4) (n := 2) (q := (1552, [some (.ref p0), some (.ref p1), some (.ref p2), some (.ref p3), some (.int i4), o5, o6, o7, o8], [.int i4, .ref p0, .ref p1])) (jq qL_law_c21 35 rfl) rfl) ?_
  refine Eq.trans (jb_nx (i := .iconst 1) (n := 1) (q := (1553, [some (.ref p0), some (.ref p1), some (.ref p2), some (.ref p3), some (.int i4), o5, o6, o7, o8], [.int 1, .int i4, .ref p0, .ref p1])) (jq qL_law_c21 36 rfl) rfl) ?_
  refine Eq.trans (jb_nx (i := .iadd) (n := 1) (q := (1554, [some (.ref p0), some (.ref p1), some (.ref p2), some (.ref p3), some (.int i4), o5, o6, o7, o8], [.int (i4 + 1), .ref p0, .ref p1])) (jq qL_law_c21 37 rfl) rfl) ?_
  obtain ⟨x232, e233, H⟩ := jbd H
  refine Eq.trans (jb_nx (i := .iaload) (n := 1) (q := (1555, [some (.ref p0), some (.ref p1), some (.ref p2), some (.ref p3), some (.int i4), o5, o6, o7, o8], [.int x232, .ref p1])) (jq qL_law_c21 38 rfl) (jo_ial e233)) ?_
  refine Eq.trans (jb_nx (i := .aload_n 3) (n := 1) (q := (1556, [some (.ref p0), some (.ref p1), some (.ref p2), some (.ref p3), some (.int i4), o5, o6, o7, o8], [.ref p3, .int x232, .ref p1])) (jq qL_law_c21 39 rfl) rfl) ?_
  rcases jcI H with ⟨x236, h234, r235, H⟩ | ⟨w256, h257, r235, H⟩
  · refine Eq.trans (jb_nx (i := .invokestatic 203) (n := 3) (q := (1559, [some (.ref p0), some (.ref p1), some (.ref p2), some (.ref p3), some (.int i4), o5, o6, o7, o8], [.int x236])) (jq qL_law_c22 0 rfl) (jo_cs (y := mL_stepsToFinish) (w := 4) (by decide) rfl (Nat.le_of_ble_eq_true rfl) rfl (Nat.le_of_ble_eq_true rfl) rfl r235 jo_ret)) ?_
    refine Eq.trans (jb_nx (i := .istore 5) (n := 2) (q := (1561, [some (.ref p0), some (.ref p1), some (.ref p2), some (.ref p3), some (.int i4), some (.int x236), o6, o7, o8], [])) (jq qL_law_c22 1 rfl) rfl) ?_
    refine Eq.trans (jb_nx (i := .aload_n 2) (n := 1) (q := (1562, [some (.ref p0), some (.ref p1), some (.ref p2), some (.ref p3), some (.int i4), some (.int x236), o6, o7, o8], [.ref p2])) (jq qL_law_c22 2 rfl) rfl) ?_
    refine Eq.trans (jb_nx (i := .aload_n 0) (n := 1) (q := (1563, [some (.ref p0), some (.ref p1), some (.ref p2), some (.ref p3), some (.int i4), some (.int x236), o6, o7, o8], [.ref p0, .ref p2])) (jq qL_law_c22 3 rfl) rfl) ?_
    refine Eq.trans (jb_nx (i := .iload 4) (n := 2) (q := (1565, [some (.ref p0), some (.ref p1), some (.ref p2), some (.ref p3), some (.int i4), some (.int x236), o6, o7, o8], [.int i4, .ref p0, .ref p2])) (jq qL_law_c22 4 rfl) rfl) ?_
    refine Eq.trans (jb_nx (i := .iconst 1) (n := 1) (q := (1566, [some (.ref p0), some (.ref p1), some (.ref p2), some (.ref p3), some (.int i4), some (.int x236), o6, o7, o8], [.int 1, .int i4, .ref p0, .ref p2])) (jq qL_law_c22 5 rfl) rfl) ?_
    refine Eq.trans (jb_nx (i := .iadd) (n := 1) (q := (1567, [some (.ref p0), some (.ref p1), some (.ref p2), some (.ref p3), some (.int i4), some (.int x236), o6, o7, o8], [.int (i4 + 1), .ref p0, .ref p2])) (jq qL_law_c22 6 rfl) rfl) ?_
    obtain ⟨x237, e238, H⟩ := jbd H
    refine Eq.trans (jb_nx (i := .iaload) (n := 1) (q := (1568, [some (.ref p0), some (.ref p1), some (.ref p2), some (.ref p3), some (.int i4), some (.int x236), o6, o7, o8], [.int x237, .ref p2])) (jq qL_law_c22 7 rfl) (jo_ial e238)) ?_
    obtain ⟨b253, H⟩ := jm_O_inv H
    rcases jcI H with ⟨x241, h239, r240, H⟩ | ⟨w254, h255, r240, H⟩
    · refine Eq.trans (jb_nx (i := .invokevirtual 205) (n := 3) (q := (1571, [some (.ref p0), some (.ref p1), some (.ref p2), some (.ref p3), some (.int i4), some (.int x236), o6, o7, o8], [.int x241])) (jq qL_law_c22 8 rfl) (jo_cv (y := mX13_stepsToFinish) rfl (Nat.le_of_ble_eq_true rfl) rfl (Nat.le_of_ble_eq_true rfl) b253 rfl r240 jo_ret)) ?_
      refine Eq.trans (jb_nx (i := .istore 6) (n := 2) (q := (1573, [some (.ref p0), some (.ref p1), some (.ref p2), some (.ref p3), some (.int i4), some (.int x236), some (.int x241), o7, o8], [])) (jq qL_law_c22 9 rfl) rfl) ?_
      refine Eq.trans (jb_nx (i := .aload_n 2) (n := 1) (q := (1574, [some (.ref p0), some (.ref p1), some (.ref p2), some (.ref p3), some (.int i4), some (.int x236), some (.int x241), o7, o8], [.ref p2])) (jq qL_law_c22 10 rfl) rfl) ?_
      obtain ⟨b250, H⟩ := jm_O_inv H
      rcases jcI H with ⟨x244, h242, r243, H⟩ | ⟨w251, h252, r243, H⟩
      · refine Eq.trans (jb_nx (i := .invokevirtual 108) (n := 3) (q := (1577, [some (.ref p0), some (.ref p1), some (.ref p2), some (.ref p3), some (.int i4), some (.int x236), some (.int x241), o7, o8], [.int x244])) (jq qL_law_c22 11 rfl) (jo_cv (y := mX13_thrown) rfl (Nat.le_of_ble_eq_true rfl) rfl (Nat.le_of_ble_eq_true rfl) b250 rfl r243 jo_ret)) ?_
        refine Eq.trans (jb_nx (i := .iload 5) (n := 2) (q := (1579, [some (.ref p0), some (.ref p1), some (.ref p2), some (.ref p3), some (.int i4), some (.int x236), some (.int x241), o7, o8], [.int x236, .int x244])) (jq qL_law_c22 12 rfl) rfl) ?_
        by_cases c245 : x244 = x236
        · rw [if_pos c245] at H
          refine Eq.trans (jb_nx (i := .if_icmp .eq 5) (n := 3) (q := (1584, [some (.ref p0), some (.ref p1), some (.ref p2), some (.ref p3), some (.int i4), some (.int x236), some (.int x241), o7, o8], [])) (jq qL_law_c22 13 rfl) (jo_icT (jz_eqT c245) rfl)) ?_
          refine Eq.trans (jb_nx (i := .iload 5) (n := 2) (q := (1586, [some (.ref p0), some (.ref p1), some (.ref p2), some (.ref p3), some (.int i4), some (.int x236), some (.int x241), o7, o8], [.int x236])) (jq qL_law_c22 16 rfl) rfl) ?_
          by_cases c246 : x236 = 0
          · rw [if_pos c246] at H
            refine Eq.trans (jb_nx (i := .ifCond .ne 15) (n := 3) (q := (1589, [some (.ref p0), some (.ref p1), some (.ref p2), some (.ref p3), some (.int i4), some (.int x236), some (.int x241), o7, o8], [])) (jq qL_law_c22 17 rfl) (jo_ifF (jz_neF c246))) ?_
            refine Eq.trans (jb_nx (i := .aload_n 3) (n := 1) (q := (1590, [some (.ref p0), some (.ref p1), some (.ref p2), some (.ref p3), some (.int i4), some (.int x236), some (.int x241), o7, o8], [.ref p3])) (jq qL_law_c22 18 rfl) rfl) ?_
            refine Eq.trans (jb_nx (i := .iconst 0) (n := 1) (q := (1591, [some (.ref p0), some (.ref p1), some (.ref p2), some (.ref p3), some (.int i4), some (.int x236), some (.int x241), o7, o8], [.int 0, .ref p3])) (jq qL_law_c22 19 rfl) rfl) ?_
            obtain ⟨y247, e248, H⟩ := jbd H
            refine Eq.trans (jb_nx (i := .laload) (n := 1) (q := (1592, [some (.ref p0), some (.ref p1), some (.ref p2), some (.ref p3), some (.int i4), some (.int x236), some (.int x241), o7, o8], [.long y247])) (jq qL_law_c22 20 rfl) (jo_lal e248)) ?_
            refine Eq.trans (jb_nx (i := .iload 6) (n := 2) (q := (1594, [some (.ref p0), some (.ref p1), some (.ref p2), some (.ref p3), some (.int i4), some (.int x236), some (.int x241), o7, o8], [.int x241, .long y247])) (jq qL_law_c22 21 rfl) rfl) ?_
            refine Eq.trans (jb_nx (i := .i2l) (n := 1) (q := (1595, [some (.ref p0), some (.ref p1), some (.ref p2), some (.ref p3), some (.int i4), some (.int x236), some (.int x241), o7, o8], [.long x241.toInt64, .long y247])) (jq qL_law_c22 22 rfl) rfl) ?_
            refine Eq.trans (jb_nx (i := .lcmp) (n := 1) (q := (1596, [some (.ref p0), some (.ref p1), some (.ref p2), some (.ref p3), some (.int i4), some (.int x236), some (.int x241), o7, o8], [.int (lg_cmp y247 x241.toInt64)])) (jq qL_law_c22 23 rfl) rfl) ?_
            by_cases c249 : (lg_cmp y247 x241.toInt64) = 0
            · rw [if_pos c249] at H
              refine Eq.trans (jb_nx (i := .ifCond .eq 5) (n := 3) (q := (1601, [some (.ref p0), some (.ref p1), some (.ref p2), some (.ref p3), some (.int i4), some (.int x236), some (.int x241), o7, o8], [])) (jq qL_law_c22 24 rfl) (jo_ifT (jz_eqT c249) rfl)) ?_
              refine Eq.trans (jb_nx (i := .goto 381) (n := 3) (q := (1982, [some (.ref p0), some (.ref p1), some (.ref p2), some (.ref p3), some (.int i4), some (.int x236), some (.int x241), o7, o8], [])) (jq qL_law_c22 27 rfl) rfl) ?_
              exact H
            · rw [if_neg c249] at H
              refine Eq.trans (jb_nx (i := .ifCond .eq 5) (n := 3) (q := (1599, [some (.ref p0), some (.ref p1), some (.ref p2), some (.ref p3), some (.int i4), some (.int x236), some (.int x241), o7, o8], [])) (jq qL_law_c22 24 rfl) (jo_ifF (jz_eqF c249))) ?_
              refine Eq.trans (jb_nx (i := .iconst 0) (n := 1) (q := (1600, [some (.ref p0), some (.ref p1), some (.ref p2), some (.ref p3), some (.int i4), some (.int x236), some (.int x241), o7, o8], [.int 0])) (jq qL_law_c22 25 rfl) rfl) ?_
              exact Eq.trans (jb_rt (i := .ireturn) (n := 1) (jq qL_law_c22 26 rfl) (jo_iret rfl (by decide))) H
          · rw [if_neg c246] at H
            refine Eq.trans (jb_nx (i := .ifCond .ne 15) (n := 3) (q := (1601, [some (.ref p0), some (.ref p1), some (.ref p2), some (.ref p3), some (.int i4), some (.int x236), some (.int x241), o7, o8], [])) (jq qL_law_c22 17 rfl) (jo_ifT (jz_neT c246) rfl)) ?_
            refine Eq.trans (jb_nx (i := .goto 381) (n := 3) (q := (1982, [some (.ref p0), some (.ref p1), some (.ref p2), some (.ref p3), some (.int i4), some (.int x236), some (.int x241), o7, o8], [])) (jq qL_law_c22 27 rfl) rfl) ?_
            exact H
        · rw [if_neg c245] at H
          refine Eq.trans (jb_nx (i := .if_icmp .eq 5) (n := 3) (q := (1582, [some (.ref p0), some (.ref p1), some (.ref p2), some (.ref p3), some (.int i4), some (.int x236), some (.int x241), o7, o8], [])) (jq qL_law_c22 13 rfl) (jo_icF (jz_eqF c245))) ?_
          refine Eq.trans (jb_nx (i := .iconst 0) (n := 1) (q := (1583, [some (.ref p0), some (.ref p1), some (.ref p2), some (.ref p3), some (.int i4), some (.int x236), some (.int x241), o7, o8], [.int 0])) (jq qL_law_c22 14 rfl) rfl) ?_
          exact Eq.trans (jb_rt (i := .ireturn) (n := 1) (jq qL_law_c22 15 rfl) (jo_iret rfl (by decide))) H
      · exact Eq.trans (jb_rt (i := .invokevirtual 108) (n := 3) (jq qL_law_c22 11 rfl) (jo_cv (y := mX13_thrown) rfl (Nat.le_of_ble_eq_true rfl) rfl (Nat.le_of_ble_eq_true rfl) b250 rfl r243 (jo_exn rfl))) H
    · exact Eq.trans (jb_rt (i := .invokevirtual 205) (n := 3) (jq qL_law_c22 8 rfl) (jo_cv (y := mX13_stepsToFinish) rfl (Nat.le_of_ble_eq_true rfl) rfl (Nat.le_of_ble_eq_true rfl) b253 rfl r240 (jo_exn rfl))) H
  · exact Eq.trans (jb_rt (i := .invokestatic 203) (n := 3) (jq qL_law_c22 0 rfl) (jo_cs (y := mL_stepsToFinish) (w := 4) (by decide) rfl (Nat.le_of_ble_eq_true rfl) rfl (Nat.le_of_ble_eq_true rfl) rfl r235 (jo_exn rfl))) H
theorem gL_law_1492 {d : Nat} {p0 : Nat} {p1 : Nat} {p2 : Nat} {p3 : Nat} {i4 : Int32} {o5 : Option Value} {o6 : Option Value} {o7 : Option Value} {o8 : Option Value} {h : jm_H} {r : jm_R} (H : ((jm_ali h p0 0 (i4 + 1)).bind fun x258 => jc_I (jm_D d mL_passEvenings [.ref p1, .int x258, .ref p3] h) (fun x262 h260 => (jm_ali h260 p0 0 (i4 + 1)).bind fun x263 => jm_O h260 p2 13 (jc_I (jm_D d mX13_passEvenings [.ref p2, .int x263] h260) (fun x267 h265 => jm_O h265 p2 13 (jc_I (jm_D d mX13_thrown [.ref p2] h265) (fun x270 h268 => (if x270 = x262 then (if x262 = 0 then (jm_all h268 p3 0).bind fun y273 => (if (lg_cmp y273 x267.toInt64) = 0 then kL_law_1982 d p0 p1 p2 p3 i4 (some (.int x262)) (some (.int x267)) o7 o8 h268 else some (.inl (some (.int 0)), h268)) else kL_law_1982 d p0 p1 p2 p3 i4 (some (.int x262)) (some (.int x267)) o7 o8 h268) else some (.inl (some (.int 0)), h268))) jx)) jx)) jx) = some r) : kL_law_1492 d p0 p1 p2 p3 i4 o5 o6 o7 o8 h = some r := by
  show jm_B d mL_law (1492, [some (.ref p0), some (.ref p1), some (.ref p2), some (.ref p3), some (.int i4), o5, o6, o7, o8], []) h = some r
  refine Eq.trans (jb_nx (i := .aload_n 1) (n := 1) (q := (1493, [some (.ref p0), some (.ref p1), some (.ref p2), some (.ref p3), some (.int i4), o5, o6, o7, o8], [.ref p1])) (jq qL_law_c20 38 rfl) rfl) ?_
  refine Eq.trans (jb_nx (i := .aload_n 0) (n := 1) (q := (1494, [some (.ref p0), some (.ref p1), some (.ref p2), some (.ref p3), some (.int i4), o5, o6, o7, o8], [.ref p0, .ref p1])) (jq qL_law_c20 39 rfl) rfl) ?_
  refine Eq.trans (jb_nx (i := .iload 4) (n := 2) (q := (1496, [some (.ref p0), some (.ref p1), some (.ref p2), some (.ref p3), some (.int i4), o5, o6, o7, o8], [.int i4, .ref p0, .ref p1])) (jq qL_law_c21 0 rfl) rfl) ?_
  refine Eq.trans (jb_nx (i := .iconst 1) (n := 1) (q := (1497, [some (.ref p0), some (.ref p1), some (.ref p2), some (.ref p3), some (.int i4), o5, o6, o7, o8], [.int 1, .int i4, .ref p0, .ref p1])) (jq qL_law_c21 1 rfl) rfl) ?_
  refine Eq.trans (jb_nx (i := .iadd) (n := 1) (q := (1498, [some (.ref p0), some (.ref p1), some (.ref p2), some (.ref p3), some (.int i4), o5, o6, o7, o8], [.int (i4 + 1), .ref p0, .ref p1])) (jq qL_law_c21 2 rfl) rfl) ?_
  obtain ⟨x258, e259, H⟩ := jbd H
  refine Eq.trans (jb_nx (i := .iaload) (n := 1) (q := (1499, [some (.ref p0), some (.ref p1), some (.ref p2), some (.ref p3), some (.int i4), o5, o6, o7, o8], [.int x258, .ref p1])) (jq qL_law_c21 3 rfl) (jo_ial e259)) ?_
  refine Eq.trans (jb_nx (i := .aload_n 3) (n := 1) (q := (1500, [some (.ref p0), some (.ref p1), some (.ref p2), some (.ref p3), some (.int i4), o5, o6, o7, o8], [.ref p3, .int x258, .ref p1])) (jq qL_law_c21 4 rfl) rfl) ?_
  rcases jcI H with ⟨x262, h260, r261, H⟩ | ⟨w282, h283, r261, H⟩
  · refine Eq.trans (jb_nx (i := .invokestatic 200) (n := 3) (q := (1503, [some (.ref p0), some (.ref p1), some (.ref p2), some (.ref p3), some (.int i4), o5, o6, o7, o8], [.int x262])) (jq qL_law_c21 5 rfl) (jo_cs (y := mL_passEvenings) (w := 4) (by decide) rfl (Nat.le_of_ble_eq_true rfl) rfl (Nat.le_of_ble_eq_true rfl) rfl r261 jo_ret)) ?_
    refine Eq.trans (jb_nx (i := .istore 5) (n := 2) (q := (1505, [some (.ref p0), some (.ref p1), some (.ref p2), some (.ref p3), some (.int i4), some (.int x262), o6, o7, o8], [])) (jq qL_law_c21 6 rfl) rfl) ?_
    refine Eq.trans (jb_nx (i := .aload_n 2) (n := 1) (q := (1506, [some (.ref p0), some (.ref p1), some (.ref p2), some (.ref p3), some (.int i4), some (.int x262), o6, o7, o8], [.ref p2])) (jq qL_law_c21 7 rfl) rfl) ?_
    refine Eq.trans (jb_nx (i := .aload_n 0) (n := 1) (q := (1507, [some (.ref p0), some (.ref p1), some (.ref p2), some (.ref p3), some (.int i4), some (.int x262), o6, o7, o8], [.ref p0, .ref p2])) (jq qL_law_c21 8 rfl) rfl) ?_
    refine Eq.trans (jb_nx (i := .iload 4) (n := 2) (q := (1509, [some (.ref p0), some (.ref p1), some (.ref p2), some (.ref p3), some (.int i4), some (.int x262), o6, o7, o8], [.int i4, .ref p0, .ref p2])) (jq qL_law_c21 9 rfl) rfl) ?_
    refine Eq.trans (jb_nx (i := .iconst 1) (n := 1) (q := (1510, [some (.ref p0), some (.ref p1), some (.ref p2), some (.ref p3), some (.int i4), some (.int x262), o6, o7, o8], [.int 1, .int i4, .ref p0, .ref p2])) (jq qL_law_c21 10 rfl) rfl) ?_
    refine Eq.trans (jb_nx (i := .iadd) (n := 1) (q := (1511, [some (.ref p0), some (.ref p1), some (.ref p2), some (.ref p3), some (.int i4), some (.int x262), o6, o7, o8], [.int (i4 + 1), .ref p0, .ref p2])) (jq qL_law_c21 11 rfl) rfl) ?_
    obtain ⟨x263, e264, H⟩ := jbd H
    refine Eq.trans (jb_nx (i := .iaload) (n := 1) (q := (1512, [some (.ref p0), some (.ref p1), some (.ref p2), some (.ref p3), some (.int i4), some (.int x262), o6, o7, o8], [.int x263, .ref p2])) (jq qL_law_c21 12 rfl) (jo_ial e264)) ?_
    obtain ⟨b279, H⟩ := jm_O_inv H
    rcases jcI H with ⟨x267, h265, r266, H⟩ | ⟨w280, h281, r266, H⟩
    · refine Eq.trans (jb_nx (i := .invokevirtual 202) (n := 3) (q := (1515, [some (.ref p0), some (.ref p1), some (.ref p2), some (.ref p3), some (.int i4), some (.int x262), o6, o7, o8], [.int x267])) (jq qL_law_c21 13 rfl) (jo_cv (y := mX13_passEvenings) rfl (Nat.le_of_ble_eq_true rfl) rfl (Nat.le_of_ble_eq_true rfl) b279 rfl r266 jo_ret)) ?_
      refine Eq.trans (jb_nx (i := .istore 6) (n := 2) (q := (1517, [some (.ref p0), some (.ref p1), some (.ref p2), some (.ref p3), some (.int i4), some (.int x262), some (.int x267), o7, o8], [])) (jq qL_law_c21 14 rfl) rfl) ?_
      refine Eq.trans (jb_nx (i := .aload_n 2) (n := 1) (q := (1518, [some (.ref p0), some (.ref p1), some (.ref p2), some (.ref p3), some (.int i4), some (.int x262), some (.int x267), o7, o8], [.ref p2])) (jq qL_law_c21 15 rfl) rfl) ?_
      obtain ⟨b276, H⟩ := jm_O_inv H
      rcases jcI H with ⟨x270, h268, r269, H⟩ | ⟨w277, h278, r269, H⟩
      · refine Eq.trans (jb_nx (i := .invokevirtual 108) (n := 3) (q := (1521, [some (.ref p0), some (.ref p1), some (.ref p2), some (.ref p3), some (.int i4), some (.int x262), some (.int x267), o7, o8], [.int x270])) (jq qL_law_c21 16 rfl) (jo_cv (y := mX13_thrown) rfl (Nat.le_of_ble_eq_true rfl) rfl (Nat.le_of_ble_eq_true rfl) b276 rfl r269 jo_ret)) ?_
        refine Eq.trans (jb_nx (i := .iload 5) (n := 2) (q := (1523, [some (.ref p0), some (.ref p1), some (.ref p2), some (.ref p3), some (.int i4), some (.int x262), some (.int x267), o7, o8], [.int x262, .int x270])) (jq qL_law_c21 17 rfl) rfl) ?_
        by_cases c271 : x270 = x262
        · rw [if_pos c271] at H
          refine Eq.trans (jb_nx (i := .if_icmp .eq 5) (n := 3) (q := (1528, [some (.ref p0), some (.ref p1), some (.ref p2), some (.ref p3), some (.int i4), some (.int x262), some (.int x267), o7, o8], [])) (jq qL_law_c21 18 rfl) (jo_icT (jz_eqT c271) rfl)) ?_
          refine Eq.trans (jb_nx (i := .iload 5) (n := 2) (q := (1530, [some (.ref p0), some (.ref p1), some (.ref p2), some (.ref p3), some (.int i4), some (.int x262), some (.int x267), o7, o8], [.int x262])) (jq qL_law_c21 21 rfl) rfl) ?_
          by_cases c272 : x262 = 0
          · rw [if_pos c272] at H
            refine Eq.trans (jb_nx (i := .ifCond .ne 15) (n := 3) (q := (1533, [some (.ref p0), some (.ref p1), some (.ref p2), some (.ref p3), some (.int i4), some (.int x262), some (.int x267), o7, o8], [])) (jq qL_law_c21 22 rfl) (jo_ifF (jz_neF c272))) ?_
            refine Eq.trans (jb_nx (i := .aload_n 3) (n := 1) (q := (1534, [some (.ref p0), some (.ref p1), some (.ref p2), some (.ref p3), some (.int i4), some (.int x262), some (.int x267), o7, o8], [.ref p3])) (jq qL_law_c21 23 rfl) rfl) ?_
            refine Eq.trans (jb_nx (i := .iconst 0) (n := 1) (q := (1535, [some (.ref p0), some (.ref p1), some (.ref p2), some (.ref p3), some (.int i4), some (.int x262), some (.int x267), o7, o8], [.int 0, .ref p3])) (jq qL_law_c21 24 rfl) rfl) ?_
            obtain ⟨y273, e274, H⟩ := jbd H
            refine Eq.trans (jb_nx (i := .laload) (n := 1) (q := (1536, [some (.ref p0), some (.ref p1), some (.ref p2), some (.ref p3), some (.int i4), some (.int x262), some (.int x267), o7, o8], [.long y273])) (jq qL_law_c21 25 rfl) (jo_lal e274)) ?_
            refine Eq.trans (jb_nx (i := .iload 6) (n := 2) (q := (1538, [some (.ref p0), some (.ref p1), some (.ref p2), some (.ref p3), some (.int i4), some (.int x262), some (.int x267), o7, o8], [.int x267, .long y273])) (jq qL_law_c21 26 rfl) rfl) ?_
            refine Eq.trans (jb_nx (i := .i2l) (n := 1) (q := (1539, [some (.ref p0), some (.ref p1), some (.ref p2), some (.ref p3), some (.int i4), some (.int x262), some (.int x267), o7, o8], [.long x267.toInt64, .long y273])) (jq qL_law_c21 27 rfl) rfl) ?_
            refine Eq.trans (jb_nx (i := .lcmp) (n := 1) (q := (1540, [some (.ref p0), some (.ref p1), some (.ref p2), some (.ref p3), some (.int i4), some (.int x262), some (.int x267), o7, o8], [.int (lg_cmp y273 x267.toInt64)])) (jq qL_law_c21 28 rfl) rfl) ?_
            by_cases c275 : (lg_cmp y273 x267.toInt64) = 0
            · rw [if_pos c275] at H
              refine Eq.trans (jb_nx (i := .ifCond .eq 5) (n := 3) (q := (1545, [some (.ref p0), some (.ref p1), some (.ref p2), some (.ref p3), some (.int i4), some (.int x262), some (.int x267), o7, o8], [])) (jq qL_law_c21 29 rfl) (jo_ifT (jz_eqT c275) rfl)) ?_
              refine Eq.trans (jb_nx (i := .goto 437) (n := 3) (q := (1982, [some (.ref p0), some (.ref p1), some (.ref p2), some (.ref p3), some (.int i4), some (.int x262), some (.int x267), o7, o8], [])) (jq qL_law_c21 32 rfl) rfl) ?_
              exact H
            · rw [if_neg c275] at H
              refine Eq.trans (jb_nx (i := .ifCond .eq 5) (n := 3) (q := (1543, [some (.ref p0), some (.ref p1), some (.ref p2), some (.ref p3), some (.int i4), some (.int x262), some (.int x267), o7, o8], [])) (jq qL_law_c21 29 rfl) (jo_ifF (jz_eqF c275))) ?_
              refine Eq.trans (jb_nx (i := .iconst 0) (n := 1) (q := (1544, [some (.ref p0), some (.ref p1), some (.ref p2), some (.ref p3), some (.int i4), some (.int x262), some (.int x267), o7, o8], [.int 0])) (jq qL_law_c21 30 rfl) rfl) ?_
              exact Eq.trans (jb_rt (i := .ireturn) (n := 1) (jq qL_law_c21 31 rfl) (jo_iret rfl (by decide))) H
          · rw [if_neg c272] at H
            refine Eq.trans (jb_nx (i := .ifCond .ne 15) (n := 3) (q := (1545, [some (.ref p0), some (.ref p1), some (.ref p2), some (.ref p3), some (.int i4), some (.int x262), some (.int x267), o7, o8], [])) (jq qL_law_c21 22 rfl) (jo_ifT (jz_neT c272) rfl)) ?_
            refine Eq.trans (jb_nx (i := .goto 437) (n := 3) (q := (1982, [some (.ref p0), some (.ref p1), some (.ref p2), some (.ref p3), some (.int i4), some (.int x262), some (.int x267), o7, o8], [])) (jq qL_law_c21 32 rfl) rfl) ?_
            exact H
        · rw [if_neg c271] at H
          refine Eq.trans (jb_nx (i := .if_icmp .eq 5) (n := 3) (q := (1526, [some (.ref p0), some (.ref p1), some (.ref p2), some (.ref p3), some (.int i4), some (.int x262), some (.int x267), o7, o8], [])) (jq qL_law_c21 18 rfl) (jo_icF (jz_eqF c271))) ?_
          refine Eq.trans (jb_nx (i := .iconst 0) (n := 1) (q := (1527, [some (.ref p0), some (.ref p1), some (.ref p2), some (.ref p3), some (.int i4), some (.int x262), some (.int x267), o7, o8], [.int 0])) (jq qL_law_c21 19 rfl) rfl) ?_
          exact Eq.trans (jb_rt (i := .ireturn) (n := 1) (jq qL_law_c21 20 rfl) (jo_iret rfl (by decide))) H
      · exact Eq.trans (jb_rt (i := .invokevirtual 108) (n := 3) (jq qL_law_c21 16 rfl) (jo_cv (y := mX13_thrown) rfl (Nat.le_of_ble_eq_true rfl) rfl (Nat.le_of_ble_eq_true rfl) b276 rfl r269 (jo_exn rfl))) H
    · exact Eq.trans (jb_rt (i := .invokevirtual 202) (n := 3) (jq qL_law_c21 13 rfl) (jo_cv (y := mX13_passEvenings) rfl (Nat.le_of_ble_eq_true rfl) rfl (Nat.le_of_ble_eq_true rfl) b279 rfl r266 (jo_exn rfl))) H
  · exact Eq.trans (jb_rt (i := .invokestatic 200) (n := 3) (jq qL_law_c21 5 rfl) (jo_cs (y := mL_passEvenings) (w := 4) (by decide) rfl (Nat.le_of_ble_eq_true rfl) rfl (Nat.le_of_ble_eq_true rfl) rfl r261 (jo_exn rfl))) H
theorem gL_law_1436 {d : Nat} {p0 : Nat} {p1 : Nat} {p2 : Nat} {p3 : Nat} {i4 : Int32} {o5 : Option Value} {o6 : Option Value} {o7 : Option Value} {o8 : Option Value} {h : jm_H} {r : jm_R} (H : ((jm_ali h p0 0 (i4 + 1)).bind fun x284 => jc_I (jm_D d mL_renew [.ref p1, .int x284, .ref p3] h) (fun x288 h286 => (jm_ali h286 p0 0 (i4 + 1)).bind fun x289 => jm_O h286 p2 13 (jc_I (jm_D d mX13_renew [.ref p2, .int x289] h286) (fun x293 h291 => jm_O h291 p2 13 (jc_I (jm_D d mX13_thrown [.ref p2] h291) (fun x296 h294 => (if x296 = x288 then (if x288 = 0 then (jm_all h294 p3 0).bind fun y299 => (if (lg_cmp y299 x293.toInt64) = 0 then kL_law_1982 d p0 p1 p2 p3 i4 (some (.int x288)) (some (.int x293)) o7 o8 h294 else some (.inl (some (.int 0)), h294)) else kL_law_1982 d p0 p1 p2 p3 i4 (some (.int x288)) (some (.int x293)) o7 o8 h294) else some (.inl (some (.int 0)), h294))) jx)) jx)) jx) = some r) : kL_law_1436 d p0 p1 p2 p3 i4 o5 o6 o7 o8 h = some r := by
  show jm_B d mL_law (1436, [some (.ref p0), some (.ref p1), some (.ref p2), some (.ref p3), some (.int i4), o5, o6, o7, o8], []) h = some r
  refine Eq.trans (jb_nx (i := .aload_n 1) (n := 1) (q := (1437, [some (.ref p0), some (.ref p1), some (.ref p2), some (.ref p3), some (.int i4), o5, o6, o7, o8], [.ref p1])) (jq qL_law_c20 3 rfl) rfl) ?_
  refine Eq.trans (jb_nx (i := .aload_n 0) (n := 1) (q := (1438, [some (.ref p0), some (.ref p1), some (.ref p2), some (.ref p3), some (.int i4), o5, o6, o7, o8], [.ref p0, .ref p1])) (jq qL_law_c20 4 rfl) rfl) ?_
  refine Eq.trans (jb_nx (i := .iload 4) (n := 2) (q := (1440, [some (.ref p0), some (.ref p1), some (.ref p2), some (.ref p3), some (.int i4), o5, o6, o7, o8], [.int i4, .ref p0, .ref p1])) (jq qL_law_c20 5 rfl) rfl) ?_
  refine Eq.trans (jb_nx (i := .iconst 1) (n := 1) (q := (1441, [some (.ref p0), some (.ref p1), some (.ref p2), some (.ref p3), some (.int i4), o5, o6, o7, o8], [.int 1, .int i4, .ref p0, .ref p1])) (jq qL_law_c20 6 rfl) rfl) ?_
  refine Eq.trans (jb_nx (i := .iadd) (n := 1) (q := (1442, [some (.ref p0), some (.ref p1), some (.ref p2), some (.ref p3), some (.int i4), o5, o6, o7, o8], [.int (i4 + 1), .ref p0, .ref p1])) (jq qL_law_c20 7 rfl) rfl) ?_
  obtain ⟨x284, e285, H⟩ := jbd H
  refine Eq.trans (jb_nx (i := .iaload) (n := 1) (q := (1443, [some (.ref p0), some (.ref p1), some (.ref p2), some (.ref p3), some (.int i4), o5, o6, o7, o8], [.int x284, .ref p1])) (jq qL_law_c20 8 rfl) (jo_ial e285)) ?_
  refine Eq.trans (jb_nx (i := .aload_n 3) (n := 1) (q := (1444, [some (.ref p0), some (.ref p1), some (.ref p2), some (.ref p3), some (.int i4), o5, o6, o7, o8], [.ref p3, .int x284, .ref p1])) (jq qL_law_c20 9 rfl) rfl) ?_
  rcases jcI H with ⟨x288, h286, r287, H⟩ | ⟨w308, h309, r287, H⟩
  · refine Eq.trans (jb_nx (i := .invokestatic 197) (n := 3) (q := (1447, [some (.ref p0), some (.ref p1), some (.ref p2), some (.ref p3), some (.int i4), o5, o6, o7, o8], [.int x288])) (jq qL_law_c20 10 rfl) (jo_cs (y := mL_renew) (w := 4) (by decide) rfl (Nat.le_of_ble_eq_true rfl) rfl (Nat.le_of_ble_eq_true rfl) rfl r287 jo_ret)) ?_
    refine Eq.trans (jb_nx (i := .istore 5) (n := 2) (q := (1449, [some (.ref p0), some (.ref p1), some (.ref p2), some (.ref p3), some (.int i4), some (.int x288), o6, o7, o8], [])) (jq qL_law_c20 11 rfl) rfl) ?_
    refine Eq.trans (jb_nx (i := .aload_n 2) (n := 1) (q := (1450, [some (.ref p0), some (.ref p1), some (.ref p2), some (.ref p3), some (.int i4), some (.int x288), o6, o7, o8], [.ref p2])) (jq qL_law_c20 12 rfl) rfl) ?_
    refine Eq.trans (jb_nx (i := .aload_n 0) (n := 1) (q := (1451, [some (.ref p0), some (.ref p1), some (.ref p2), some (.ref p3), some (.int i4), some (.int x288), o6, o7, o8], [.ref p0, .ref p2])) (jq qL_law_c20 13 rfl) rfl) ?_
    refine Eq.trans (jb_nx (i := .iload 4) (n := 2) (q := (1453, [some (.ref p0), some (.ref p1), some (.ref p2), some (.ref p3), some (.int i4), some (.int x288), o6, o7, o8], [.int i4, .ref p0, .ref p2])) (jq qL_law_c20 14 rfl) rfl) ?_
    refine Eq.trans (jb_nx (i := .iconst 1) (n := 1) (q := (1454, [some (.ref p0), some (.ref p1), some (.ref p2), some (.ref p3), some (.int i4), some (.int x288), o6, o7, o8], [.int 1, .int i4, .ref p0, .ref p2])) (jq qL_law_c20 15 rfl) rfl) ?_
    refine Eq.trans (jb_nx (i := .iadd) (n := 1) (q := (1455, [some (.ref p0), some (.ref p1), some (.ref p2), some (.ref p3), some (.int i4), some (.int x288), o6, o7, o8], [.int (i4 + 1), .ref p0, .ref p2])) (jq qL_law_c20 16 rfl) rfl) ?_
    obtain ⟨x289, e290, H⟩ := jbd H
    refine Eq.trans (jb_nx (i := .iaload) (n := 1) (q := (1456, [some (.ref p0), some (.ref p1), some (.ref p2), some (.ref p3), some (.int i4), some (.int x288), o6, o7, o8], [.int x289, .ref p2])) (jq qL_law_c20 17 rfl) (jo_ial e290)) ?_
    obtain ⟨b305, H⟩ := jm_O_inv H
    rcases jcI H with ⟨x293, h291, r292, H⟩ | ⟨w306, h307, r292, H⟩
    · refine Eq.trans (jb_nx (i := .invokevirtual 199) (n := 3) (q := (1459, [some (.ref p0), some (.ref p1), some (.ref p2), some (.ref p3), some (.int i4), some (.int x288), o6, o7, o8], [.int x293])) (jq qL_law_c20 18 rfl) (jo_cv (y := mX13_renew) rfl (Nat.le_of_ble_eq_true rfl) rfl (Nat.le_of_ble_eq_true rfl) b305 rfl r292 jo_ret)) ?_
      refine Eq.trans (jb_nx (i := .istore 6) (n := 2) (q := (1461, [some (.ref p0), some (.ref p1), some (.ref p2), some (.ref p3), some (.int i4), some (.int x288), some (.int x293), o7, o8], [])) (jq qL_law_c20 19 rfl) rfl) ?_
      refine Eq.trans (jb_nx (i := .aload_n 2) (n := 1) (q := (1462, [some (.ref p0), some (.ref p1), some (.ref p2), some (.ref p3), some (.int i4), some (.int x288), some (.int x293), o7, o8], [.ref p2])) (jq qL_law_c20 20 rfl) rfl) ?_
      obtain ⟨b302, H⟩ := jm_O_inv H
      rcases jcI H with ⟨x296, h294, r295, H⟩ | ⟨w303, h304, r295, H⟩
      · refine Eq.trans (jb_nx (i := .invokevirtual 108) (n := 3) (q := (1465, [some (.ref p0), some (.ref p1), some (.ref p2), some (.ref p3), some (.int i4), some (.int x288), some (.int x293), o7, o8], [.int x296])) (jq qL_law_c20 21 rfl) (jo_cv (y := mX13_thrown) rfl (Nat.le_of_ble_eq_true rfl) rfl (Nat.le_of_ble_eq_true rfl) b302 rfl r295 jo_ret)) ?_
        refine Eq.trans (jb_nx (i := .iload 5) (n := 2) (q := (1467, [some (.ref p0), some (.ref p1), some (.ref p2), some (.ref p3), some (.int i4), some (.int x288), some (.int x293), o7, o8], [.int x288, .int x296])) (jq qL_law_c20 22 rfl) rfl) ?_
        by_cases c297 : x296 = x288
        · rw [if_pos c297] at H
          refine Eq.trans (jb_nx (i := .if_icmp .eq 5) (n := 3) (q := (1472, [some (.ref p0), some (.ref p1), some (.ref p2), some (.ref p3), some (.int i4), some (.int x288), some (.int x293), o7, o8], [])) (jq qL_law_c20 23 rfl) (jo_icT (jz_eqT c297) rfl)) ?_
          refine Eq.trans (jb_nx (i := .iload 5) (n := 2) (q := (1474, [some (.ref p0), some (.ref p1), some (.ref p2), some (.ref p3), some (.int i4), some (.int x288), some (.int x293), o7, o8], [.int x288])) (jq qL_law_c20 26 rfl) rfl) ?_
          by_cases c298 : x288 = 0
          · rw [if_pos c298] at H
            refine Eq.trans (jb_nx (i := .ifCond .ne 15) (n := 3) (q := (1477, [some (.ref p0), some (.ref p1), some (.ref p2), some (.ref p3), some (.int i4), some (.int x288), some (.int x293), o7, o8], [])) (jq qL_law_c20 27 rfl) (jo_ifF (jz_neF c298))) ?_
            refine Eq.trans (jb_nx (i := .aload_n 3) (n := 1) (q := (1478, [some (.ref p0), some (.ref p1), some (.ref p2), some (.ref p3), some (.int i4), some (.int x288), some (.int x293), o7, o8], [.ref p3])) (jq qL_law_c20 28 rfl) rfl) ?_
            refine Eq.trans (jb_nx (i := .iconst 0) (n := 1) (q := (1479, [some (.ref p0), some (.ref p1), some (.ref p2), some (.ref p3), some (.int i4), some (.int x288), some (.int x293), o7, o8], [.int 0, .ref p3])) (jq qL_law_c20 29 rfl) rfl) ?_
            obtain ⟨y299, e300, H⟩ := jbd H
            refine Eq.trans (jb_nx (i := .laload) (n := 1) (q := (1480, [some (.ref p0), some (.ref p1), some (.ref p2), some (.ref p3), some (.int i4), some (.int x288), some (.int x293), o7, o8], [.long y299])) (jq qL_law_c20 30 rfl) (jo_lal e300)) ?_
            refine Eq.trans (jb_nx (i := .iload 6) (n := 2) (q := (1482, [some (.ref p0), some (.ref p1), some (.ref p2), some (.ref p3), some (.int i4), some (.int x288), some (.int x293), o7, o8], [.int x293, .long y299])) (jq qL_law_c20 31 rfl) rfl) ?_
            refine Eq.trans (jb_nx (i := .i2l) (n := 1) (q := (1483, [some (.ref p0), some (.ref p1), some (.ref p2), some (.ref p3), some (.int i4), some (.int x288), some (.int x293), o7, o8], [.long x293.toInt64, .long y299])) (jq qL_law_c20 32 rfl) rfl) ?_
            refine Eq.trans (jb_nx (i := .lcmp) (n := 1) (q := (1484, [some (.ref p0), some (.ref p1), some (.ref p2), some (.ref p3), some (.int i4), some (.int x288), some (.int x293), o7, o8], [.int (lg_cmp y299 x293.toInt64)])) (jq qL_law_c20 33 rfl) rfl) ?_
            by_cases c301 : (lg_cmp y299 x293.toInt64) = 0
            · rw [if_pos c301] at H
              refine Eq.trans (jb_nx (i := .ifCond .eq 5) (n := 3) (q := (1489, [some (.ref p0), some (.ref p1), some (.ref p2), some (.ref p3), some (.int i4), some (.int x288), some (.int x293), o7, o8], [])) (jq qL_law_c20 34 rfl) (jo_ifT (jz_eqT c301) rfl)) ?_
              refine Eq.trans (jb_nx (i := .goto 493) (n := 3) (q := (1982, [some (.ref p0), some (.ref p1), some (.ref p2), some (.ref p3), some (.int i4), some (.int x288), some (.int x293), o7, o8], [])) (jq qL_law_c20 37 rfl) rfl) ?_
              exact H
            · rw [if_neg c301] at H
              refine Eq.trans (jb_nx (i := .ifCond .eq 5) (n := 3) (q := (1487, [some (.ref p0), some (.ref p1), some (.ref p2), some (.ref p3), some (.int i4), some (.int x288), some (.int x293), o7, o8], [])) (jq qL_law_c20 34 rfl) (jo_ifF (jz_eqF c301))) ?_
              refine Eq.trans (jb_nx (i := .iconst 0) (n := 1) (q := (1488, [some (.ref p0), some (.ref p1), some (.ref p2), some (.ref p3), some (.int i4), some (.int x288), some (.int x293), o7, o8], [.int 0])) (jq qL_law_c20 35 rfl) rfl) ?_
              exact Eq.trans (jb_rt (i := .ireturn) (n := 1) (jq qL_law_c20 36 rfl) (jo_iret rfl (by decide))) H
          · rw [if_neg c298] at H
            refine Eq.trans (jb_nx (i := .ifCond .ne 15) (n := 3) (q := (1489, [some (.ref p0), some (.ref p1), some (.ref p2), some (.ref p3), some (.int i4), some (.int x288), some (.int x293), o7, o8], [])) (jq qL_law_c20 27 rfl) (jo_ifT (jz_neT c298) rfl)) ?_
            refine Eq.trans (jb_nx (i := .goto 493) (n := 3) (q := (1982, [some (.ref p0), some (.ref p1), some (.ref p2), some (.ref p3), some (.int i4), some (.int x288), some (.int x293), o7, o8], [])) (jq qL_law_c20 37 rfl) rfl) ?_
            exact H
        · rw [if_neg c297] at H
          refine Eq.trans (jb_nx (i := .if_icmp .eq 5) (n := 3) (q := (1470, [some (.ref p0), some (.ref p1), some (.ref p2), some (.ref p3), some (.int i4), some (.int x288), some (.int x293), o7, o8], [])) (jq qL_law_c20 23 rfl) (jo_icF (jz_eqF c297))) ?_
          refine Eq.trans (jb_nx (i := .iconst 0) (n := 1) (q := (1471, [some (.ref p0), some (.ref p1), some (.ref p2), some (.ref p3), some (.int i4), some (.int x288), some (.int x293), o7, o8], [.int 0])) (jq qL_law_c20 24 rfl) rfl) ?_
          exact Eq.trans (jb_rt (i := .ireturn) (n := 1) (jq qL_law_c20 25 rfl) (jo_iret rfl (by decide))) H
      · exact Eq.trans (jb_rt (i := .invokevirtual 108) (n := 3) (jq qL_law_c20 21 rfl) (jo_cv (y := mX13_thrown) rfl (Nat.le_of_ble_eq_true rfl) rfl (Nat.le_of_ble_eq_true rfl) b302 rfl r295 (jo_exn rfl))) H
    · exact Eq.trans (jb_rt (i := .invokevirtual 199) (n := 3) (jq qL_law_c20 18 rfl) (jo_cv (y := mX13_renew) rfl (Nat.le_of_ble_eq_true rfl) rfl (Nat.le_of_ble_eq_true rfl) b305 rfl r292 (jo_exn rfl))) H
  · exact Eq.trans (jb_rt (i := .invokestatic 197) (n := 3) (jq qL_law_c20 10 rfl) (jo_cs (y := mL_renew) (w := 4) (by decide) rfl (Nat.le_of_ble_eq_true rfl) rfl (Nat.le_of_ble_eq_true rfl) rfl r287 (jo_exn rfl))) H
theorem gL_law_1368 {d : Nat} {p0 : Nat} {p1 : Nat} {p2 : Nat} {p3 : Nat} {i4 : Int32} {o5 : Option Value} {o6 : Option Value} {o7 : Option Value} {o8 : Option Value} {h : jm_H} {r : jm_R} (H : ((jm_ali h p0 0 (i4 + 1)).bind fun x310 => (jm_ali h p0 0 (i4 + 2)).bind fun x312 => jc_I (jm_D d mL_give [.ref p1, .int x310, .int x312, .ref p3] h) (fun x316 h314 => (jm_ali h314 p0 0 (i4 + 1)).bind fun x317 => (jm_ali h314 p0 0 (i4 + 2)).bind fun x319 => jm_O h314 p2 13 (jc_I (jm_D d mX13_give [.ref p2, .int x317, .int x319] h314) (fun x323 h321 => jm_O h321 p2 13 (jc_I (jm_D d mX13_thrown [.ref p2] h321) (fun x326 h324 => (if x326 = x316 then (if x316 = 0 then (jm_all h324 p3 0).bind fun y329 => (if (lg_cmp y329 x323.toInt64) = 0 then kL_law_1982 d p0 p1 p2 p3 i4 (some (.int x316)) (some (.int x323)) o7 o8 h324 else some (.inl (some (.int 0)), h324)) else kL_law_1982 d p0 p1 p2 p3 i4 (some (.int x316)) (some (.int x323)) o7 o8 h324) else some (.inl (some (.int 0)), h324))) jx)) jx)) jx) = some r) : kL_law_1368 d p0 p1 p2 p3 i4 o5 o6 o7 o8 h = some r := by
  show jm_B d mL_law (1368, [some (.ref p0), some (.ref p1), some (.ref p2), some (.ref p3), some (.int i4), o5, o6, o7, o8], []) h = some r
  refine Eq.trans (jb_nx (i := .aload_n 1) (n := 1) (q := (1369, [some (.ref p0), some (.ref p1), some (.ref p2), some (.ref p3), some (.int i4), o5, o6, o7, o8], [.ref p1])) (jq qL_law_c18 38 rfl) rfl) ?_
  refine Eq.trans (jb_nx (i := .aload_n 0) (n := 1) (q := (1370, [some (.ref p0), some (.ref p1), some (.ref p2), some (.ref p3), some (.int i4), o5, o6, o7, o8], [.ref p0, .ref p1])) (jq qL_law_c18 39 rfl) rfl) ?_
  refine Eq.trans (jb_nx (i := .iload 4) (n := 2) (q := (1372, [some (.ref p0), some (.ref p1), some (.ref p2), some (.ref p3), some (.int i4), o5, o6, o7, o8], [.int i4, .ref p0, .ref p1])) (jq qL_law_c19 0 rfl) rfl) ?_
  refine Eq.trans (jb_nx (i := .iconst 1) (n := 1) (q := (1373, [some (.ref p0), some (.ref p1), some (.ref p2), some (.ref p3), some (.int i4), o5, o6, o7, o8], [.int 1, .int i4, .ref p0, .ref p1])) (jq qL_law_c19 1 rfl) rfl) ?_
  refine Eq.trans (jb_nx (i := .iadd) (n := 1) (q := (1374, [some (.ref p0), some (.ref p1), some (.ref p2), some (.ref p3), some (.int i4), o5, o6, o7, o8], [.int (i4 + 1), .ref p0, .ref p1])) (jq qL_law_c19 2 rfl) rfl) ?_
  obtain ⟨x310, e311, H⟩ := jbd H
  refine Eq.trans (jb_nx (i := .iaload) (n := 1) (q := (1375, [some (.ref p0), some (.ref p1), some (.ref p2), some (.ref p3), some (.int i4), o5, o6, o7, o8], [.int x310, .ref p1])) (jq qL_law_c19 3 rfl) (jo_ial e311)) ?_
  refine Eq.trans (jb_nx (i := .aload_n 0) (n := 1) (q := (1376, [some (.ref p0), some (.ref p1), some (.ref p2), some (.ref p3), some (.int i4), o5, o6, o7, o8], [.ref p0, .int x310, .ref p1])) (jq qL_law_c19 4 rfl) rfl) ?_
  refine Eq.trans (jb_nx (i := .iload 4) (n := 2) (q := (1378, [some (.ref p0), some (.ref p1), some (.ref p2), some (.ref p3), some (.int i4), o5, o6, o7, o8], [.int i4, .ref p0, .int x310, .ref p1])) (jq qL_law_c19 5 rfl) rfl) ?_
  refine Eq.trans (jb_nx (i := .iconst 2) (n := 1) (q := (1379, [some (.ref p0), some (.ref p1), some (.ref p2), some (.ref p3), some (.int i4), o5, o6, o7, o8], [.int 2, .int i4, .ref p0, .int x310, .ref p1])) (jq qL_law_c19 6 rfl) rfl) ?_
  refine Eq.trans (jb_nx (i := .iadd) (n := 1) (q := (1380, [some (.ref p0), some (.ref p1), some (.ref p2), some (.ref p3), some (.int i4), o5, o6, o7, o8], [.int (i4 + 2), .ref p0, .int x310, .ref p1])) (jq qL_law_c19 7 rfl) rfl) ?_
  obtain ⟨x312, e313, H⟩ := jbd H
  refine Eq.trans (jb_nx (i := .iaload) (n := 1) (q := (1381, [some (.ref p0), some (.ref p1), some (.ref p2), some (.ref p3), some (.int i4), o5, o6, o7, o8], [.int x312, .int x310, .ref p1])) (jq qL_law_c19 8 rfl) (jo_ial e313)) ?_
  refine Eq.trans (jb_nx (i := .aload_n 3) (n := 1) (q := (1382, [some (.ref p0), some (.ref p1), some (.ref p2), some (.ref p3), some (.int i4), o5, o6, o7, o8], [.ref p3, .int x312, .int x310, .ref p1])) (jq qL_law_c19 9 rfl) rfl) ?_
  rcases jcI H with ⟨x316, h314, r315, H⟩ | ⟨w338, h339, r315, H⟩
  · refine Eq.trans (jb_nx (i := .invokestatic 194) (n := 3) (q := (1385, [some (.ref p0), some (.ref p1), some (.ref p2), some (.ref p3), some (.int i4), o5, o6, o7, o8], [.int x316])) (jq qL_law_c19 10 rfl) (jo_cs (y := mL_give) (w := 4) (by decide) rfl (Nat.le_of_ble_eq_true rfl) rfl (Nat.le_of_ble_eq_true rfl) rfl r315 jo_ret)) ?_
    refine Eq.trans (jb_nx (i := .istore 5) (n := 2) (q := (1387, [some (.ref p0), some (.ref p1), some (.ref p2), some (.ref p3), some (.int i4), some (.int x316), o6, o7, o8], [])) (jq qL_law_c19 11 rfl) rfl) ?_
    refine Eq.trans (jb_nx (i := .aload_n 2) (n := 1) (q := (1388, [some (.ref p0), some (.ref p1), some (.ref p2), some (.ref p3), some (.int i4), some (.int x316), o6, o7, o8], [.ref p2])) (jq qL_law_c19 12 rfl) rfl) ?_
    refine Eq.trans (jb_nx (i := .aload_n 0) (n := 1) (q := (1389, [some (.ref p0), some (.ref p1), some (.ref p2), some (.ref p3), some (.int i4), some (.int x316), o6, o7, o8], [.ref p0, .ref p2])) (jq qL_law_c19 13 rfl) rfl) ?_
    refine Eq.trans (jb_nx (i := .iload 4) (n := 2) (q := (1391, [some (.ref p0), some (.ref p1), some (.ref p2), some (.ref p3), some (.int i4), some (.int x316), o6, o7, o8], [.int i4, .ref p0, .ref p2])) (jq qL_law_c19 14 rfl) rfl) ?_
    refine Eq.trans (jb_nx (i := .iconst 1) (n := 1) (q := (1392, [some (.ref p0), some (.ref p1), some (.ref p2), some (.ref p3), some (.int i4), some (.int x316), o6, o7, o8], [.int 1, .int i4, .ref p0, .ref p2])) (jq qL_law_c19 15 rfl) rfl) ?_
    refine Eq.trans (jb_nx (i := .iadd) (n := 1) (q := (1393, [some (.ref p0), some (.ref p1), some (.ref p2), some (.ref p3), some (.int i4), some (.int x316), o6, o7, o8], [.int (i4 + 1), .ref p0, .ref p2])) (jq qL_law_c19 16 rfl) rfl) ?_
    obtain ⟨x317, e318, H⟩ := jbd H
    refine Eq.trans (jb_nx (i := .iaload) (n := 1) (q := (1394, [some (.ref p0), some (.ref p1), some (.ref p2), some (.ref p3), some (.int i4), some (.int x316), o6, o7, o8], [.int x317, .ref p2])) (jq qL_law_c19 17 rfl) (jo_ial e318)) ?_
    refine Eq.trans (jb_nx (i := .aload_n 0) (n := 1) (q := (1395, [some (.ref p0), some (.ref p1), some (.ref p2), some (.ref p3), some (.int i4), some (.int x316), o6, o7, o8], [.ref p0, .int x317, .ref p2])) (jq qL_law_c19 18 rfl) rfl) ?_
    refine Eq.trans (jb_nx (i := .iload 4) (n := 2) (q := (1397, [some (.ref p0), some (.ref p1), some (.ref p2), some (.ref p3), some (.int i4), some (.int x316), o6, o7, o8], [.int i4, .ref p0, .int x317, .ref p2])) (jq qL_law_c19 19 rfl) rfl) ?_
    refine Eq.trans (jb_nx (i := .iconst 2) (n := 1) (q := (1398, [some (.ref p0), some (.ref p1), some (.ref p2), some (.ref p3), some (.int i4), some (.int x316), o6, o7, o8], [.int 2, .int i4, .ref p0, .int x317, .ref p2])) (jq qL_law_c19 20 rfl) rfl) ?_
    refine Eq.trans (jb_nx (i := .iadd) (n := 1) (q := (1399, [some (.ref p0), some (.ref p1), some (.ref p2), some (.ref p3), some (.int i4), some (.int x316), o6, o7, o8], [.int (i4 + 2), .ref p0, .int x317, .ref p2])) (jq qL_law_c19 21 rfl) rfl) ?_
    obtain ⟨x319, e320, H⟩ := jbd H
    refine Eq.trans (jb_nx (i := .iaload) (n := 1) (q := (1400, [some (.ref p0), some (.ref p1), some (.ref p2), some (.ref p3), some (.int i4), some (.int x316), o6, o7, o8], [.int x319, .int x317, .ref p2])) (jq qL_law_c19 22 rfl) (jo_ial e320)) ?_
    obtain ⟨b335, H⟩ := jm_O_inv H
    rcases jcI H with ⟨x323, h321, r322, H⟩ | ⟨w336, h337, r322, H⟩
    · refine Eq.trans (jb_nx (i := .invokevirtual 196) (n := 3) (q := (1403, [some (.ref p0), some (.ref p1), some (.ref p2), some (.ref p3), some (.int i4), some (.int x316), o6, o7, o8], [.int x323])) (jq qL_law_c19 23 rfl) (jo_cv (y := mX13_give) rfl (Nat.le_of_ble_eq_true rfl) rfl (Nat.le_of_ble_eq_true rfl) b335 rfl r322 jo_ret)) ?_
      refine Eq.trans (jb_nx (i := .istore 6) (n := 2) (q := (1405, [some (.ref p0), some (.ref p1), some (.ref p2), some (.ref p3), some (.int i4), some (.int x316), some (.int x323), o7, o8], [])) (jq qL_law_c19 24 rfl) rfl) ?_
      refine Eq.trans (jb_nx (i := .aload_n 2) (n := 1) (q := (1406, [some (.ref p0), some (.ref p1), some (.ref p2), some (.ref p3), some (.int i4), some (.int x316), some (.int x323), o7, o8], [.ref p2])) (jq qL_law_c19 25 rfl) rfl) ?_
      obtain ⟨b332, H⟩ := jm_O_inv H
      rcases jcI H with ⟨x326, h324, r325, H⟩ | ⟨w333, h334, r325, H⟩
      · refine Eq.trans (jb_nx (i := .invokevirtual 108) (n := 3) (q := (1409, [some (.ref p0), some (.ref p1), some (.ref p2), some (.ref p3), some (.int i4), some (.int x316), some (.int x323), o7, o8], [.int x326])) (jq qL_law_c19 26 rfl) (jo_cv (y := mX13_thrown) rfl (Nat.le_of_ble_eq_true rfl) rfl (Nat.le_of_ble_eq_true rfl) b332 rfl r325 jo_ret)) ?_
        refine Eq.trans (jb_nx (i := .iload 5) (n := 2) (q := (1411, [some (.ref p0), some (.ref p1), some (.ref p2), some (.ref p3), some (.int i4), some (.int x316), some (.int x323), o7, o8], [.int x316, .int x326])) (jq qL_law_c19 27 rfl) rfl) ?_
        by_cases c327 : x326 = x316
        · rw [if_pos c327] at H
          refine Eq.trans (jb_nx (i := .if_icmp .eq 5) (n := 3) (q := (1416, [some (.ref p0), some (.ref p1), some (.ref p2), some (.ref p3), some (.int i4), some (.int x316), some (.int x323), o7, o8], [])) (jq qL_law_c19 28 rfl) (jo_icT (jz_eqT c327) rfl)) ?_
          refine Eq.trans (jb_nx (i := .iload 5) (n := 2) (q := (1418, [some (.ref p0), some (.ref p1), some (.ref p2), some (.ref p3), some (.int i4), some (.int x316), some (.int x323), o7, o8], [.int x316])) (jq qL_law_c19 31 rfl) rfl) ?_
          by_cases c328 : x316 = 0
          · rw [if_pos c328] at H
            refine Eq.trans (jb_nx (i := .ifCond .ne 15) (n := 3) (q := (1421, [some (.ref p0), some (.ref p1), some (.ref p2), some (.ref p3), some (.int i4), some (.int x316), some (.int x323), o7, o8], [])) (jq qL_law_c19 32 rfl) (jo_ifF (jz_neF c328))) ?_
            refine Eq.trans (jb_nx (i := .aload_n 3) (n := 1) (q := (1422, [some (.ref p0), some (.ref p1), some (.ref p2), some (.ref p3), some (.int i4), some (.int x316), some (.int x323), o7, o8], [.ref p3])) (jq qL_law_c19 33 rfl) rfl) ?_
            refine Eq.trans (jb_nx (i := .iconst 0) (n := 1) (q := (1423, [some (.ref p0), some (.ref p1), some (.ref p2), some (.ref p3), some (.int i4), some (.int x316), some (.int x323), o7, o8], [.int 0, .ref p3])) (jq qL_law_c19 34 rfl) rfl) ?_
            obtain ⟨y329, e330, H⟩ := jbd H
            refine Eq.trans (jb_nx (i := .laload) (n := 1) (q := (1424, [some (.ref p0), some (.ref p1), some (.ref p2), some (.ref p3), some (.int i4), some (.int x316), some (.int x323), o7, o8], [.long y329])) (jq qL_law_c19 35 rfl) (jo_lal e330)) ?_
            refine Eq.trans (jb_nx (i := .iload 6) (n := 2) (q := (1426, [some (.ref p0), some (.ref p1), some (.ref p2), some (.ref p3), some (.int i4), some (.int x316), some (.int x323), o7, o8], [.int x323, .long y329])) (jq qL_law_c19 36 rfl) rfl) ?_
            refine Eq.trans (jb_nx (i := .i2l) (n := 1) (q := (1427, [some (.ref p0), some (.ref p1), some (.ref p2), some (.ref p3), some (.int i4), some (.int x316), some (.int x323), o7, o8], [.long x323.toInt64, .long y329])) (jq qL_law_c19 37 rfl) rfl) ?_
            refine Eq.trans (jb_nx (i := .lcmp) (n := 1) (q := (1428, [some (.ref p0), some (.ref p1), some (.ref p2), some (.ref p3), some (.int i4), some (.int x316), some (.int x323), o7, o8], [.int (lg_cmp y329 x323.toInt64)])) (jq qL_law_c19 38 rfl) rfl) ?_
            by_cases c331 : (lg_cmp y329 x323.toInt64) = 0
            · rw [if_pos c331] at H
              refine Eq.trans (jb_nx (i := .ifCond .eq 5) (n := 3) (q := (1433, [some (.ref p0), some (.ref p1), some (.ref p2), some (.ref p3), some (.int i4), some (.int x316), some (.int x323), o7, o8], [])) (jq qL_law_c19 39 rfl) (jo_ifT (jz_eqT c331) rfl)) ?_
              refine Eq.trans (jb_nx (i := .goto 549) (n := 3) (q := (1982, [some (.ref p0), some (.ref p1), some (.ref p2), some (.ref p3), some (.int i4), some (.int x316), some (.int x323), o7, o8], [])) (jq qL_law_c20 2 rfl) rfl) ?_
              exact H
            · rw [if_neg c331] at H
              refine Eq.trans (jb_nx (i := .ifCond .eq 5) (n := 3) (q := (1431, [some (.ref p0), some (.ref p1), some (.ref p2), some (.ref p3), some (.int i4), some (.int x316), some (.int x323), o7, o8], [])) (jq qL_law_c19 39 rfl) (jo_ifF (jz_eqF c331))) ?_
              refine Eq.trans (jb_nx (i := .iconst 0) (n := 1) (q := (1432, [some (.ref p0), some (.ref p1), some (.ref p2), some (.ref p3), some (.int i4), some (.int x316), some (.int x323), o7, o8], [.int 0])) (jq qL_law_c20 0 rfl) rfl) ?_
              exact Eq.trans (jb_rt (i := .ireturn) (n := 1) (jq qL_law_c20 1 rfl) (jo_iret rfl (by decide))) H
          · rw [if_neg c328] at H
            refine Eq.trans (jb_nx (i := .ifCond .ne 15) (n := 3) (q := (1433, [some (.ref p0), some (.ref p1), some (.ref p2), some (.ref p3), some (.int i4), some (.int x316), some (.int x323), o7, o8], [])) (jq qL_law_c19 32 rfl) (jo_ifT (jz_neT c328) rfl)) ?_
            refine Eq.trans (jb_nx (i := .goto 549) (n := 3) (q := (1982, [some (.ref p0), some (.ref p1), some (.ref p2), some (.ref p3), some (.int i4), some (.int x316), some (.int x323), o7, o8], [])) (jq qL_law_c20 2 rfl) rfl) ?_
            exact H
        · rw [if_neg c327] at H
          refine Eq.trans (jb_nx (i := .if_icmp .eq 5) (n := 3) (q := (1414, [some (.ref p0), some (.ref p1), some (.ref p2), some (.ref p3), some (.int i4), some (.int x316), some (.int x323), o7, o8], [])) (jq qL_law_c19 28 rfl) (jo_icF (jz_eqF c327))) ?_
          refine Eq.trans (jb_nx (i := .iconst 0) (n := 1) (q := (1415, [some (.ref p0), some (.ref p1), some (.ref p2), some (.ref p3), some (.int i4), some (.int x316), some (.int x323), o7, o8], [.int 0])) (jq qL_law_c19 29 rfl) rfl) ?_
          exact Eq.trans (jb_rt (i := .ireturn) (n := 1) (jq qL_law_c19 30 rfl) (jo_iret rfl (by decide))) H
      · exact Eq.trans (jb_rt (i := .invokevirtual 108) (n := 3) (jq qL_law_c19 26 rfl) (jo_cv (y := mX13_thrown) rfl (Nat.le_of_ble_eq_true rfl) rfl (Nat.le_of_ble_eq_true rfl) b332 rfl r325 (jo_exn rfl))) H
    · exact Eq.trans (jb_rt (i := .invokevirtual 196) (n := 3) (jq qL_law_c19 23 rfl) (jo_cv (y := mX13_give) rfl (Nat.le_of_ble_eq_true rfl) rfl (Nat.le_of_ble_eq_true rfl) b335 rfl r322 (jo_exn rfl))) H
  · exact Eq.trans (jb_rt (i := .invokestatic 194) (n := 3) (jq qL_law_c19 10 rfl) (jo_cs (y := mL_give) (w := 4) (by decide) rfl (Nat.le_of_ble_eq_true rfl) rfl (Nat.le_of_ble_eq_true rfl) rfl r315 (jo_exn rfl))) H
theorem gL_law_1312 {d : Nat} {p0 : Nat} {p1 : Nat} {p2 : Nat} {p3 : Nat} {i4 : Int32} {o5 : Option Value} {o6 : Option Value} {o7 : Option Value} {o8 : Option Value} {h : jm_H} {r : jm_R} (H : ((jm_ali h p0 0 (i4 + 1)).bind fun x340 => jc_I (jm_D d mL_doStep [.ref p1, .int x340, .ref p3] h) (fun x344 h342 => (jm_ali h342 p0 0 (i4 + 1)).bind fun x345 => jm_O h342 p2 13 (jc_I (jm_D d mX13_doStep [.ref p2, .int x345] h342) (fun x349 h347 => jm_O h347 p2 13 (jc_I (jm_D d mX13_thrown [.ref p2] h347) (fun x352 h350 => (if x352 = x344 then (if x344 = 0 then (jm_all h350 p3 0).bind fun y355 => (if (lg_cmp y355 x349.toInt64) = 0 then kL_law_1982 d p0 p1 p2 p3 i4 (some (.int x344)) (some (.int x349)) o7 o8 h350 else some (.inl (some (.int 0)), h350)) else kL_law_1982 d p0 p1 p2 p3 i4 (some (.int x344)) (some (.int x349)) o7 o8 h350) else some (.inl (some (.int 0)), h350))) jx)) jx)) jx) = some r) : kL_law_1312 d p0 p1 p2 p3 i4 o5 o6 o7 o8 h = some r := by
  show jm_B d mL_law (1312, [some (.ref p0), some (.ref p1), some (.ref p2), some (.ref p3), some (.int i4), o5, o6, o7, o8], []) h = some r
  refine Eq.trans (jb_nx (i := .aload_n 1) (n := 1) (q := (1313, [some (.ref p0), some (.ref p1), some (.ref p2), some (.ref p3), some (.int i4), o5, o6, o7, o8], [.ref p1])) (jq qL_law_c18 3 rfl) rfl) ?_
  refine Eq.trans (jb_nx (i := .aload_n 0) (n := 1) (q := (1314, [some (.ref p0), some (.ref p1), some (.ref p2), some (.ref p3), some (.int i4), o5, o6, o7, o8], [.ref p0, .ref p1])) (jq qL_law_c18 4 rfl) rfl) ?_
  refine Eq.trans (jb_nx (i := .iload 4) (n := 2) (q := (1316, [some (.ref p0), some (.ref p1), some (.ref p2), some (.ref p3), some (.int i4), o5, o6, o7, o8], [.int i4, .ref p0, .ref p1])) (jq qL_law_c18 5 rfl) rfl) ?_
  refine Eq.trans (jb_nx (i := .iconst 1) (n := 1) (q := (1317, [some (.ref p0), some (.ref p1), some (.ref p2), some (.ref p3), some (.int i4), o5, o6, o7, o8], [.int 1, .int i4, .ref p0, .ref p1])) (jq qL_law_c18 6 rfl) rfl) ?_
  refine Eq.trans (jb_nx (i := .iadd) (n := 1) (q := (1318, [some (.ref p0), some (.ref p1), some (.ref p2), some (.ref p3), some (.int i4), o5, o6, o7, o8], [.int (i4 + 1), .ref p0, .ref p1])) (jq qL_law_c18 7 rfl) rfl) ?_
  obtain ⟨x340, e341, H⟩ := jbd H
  refine Eq.trans (jb_nx (i := .iaload) (n := 1) (q := (1319, [some (.ref p0), some (.ref p1), some (.ref p2), some (.ref p3), some (.int i4), o5, o6, o7, o8], [.int x340, .ref p1])) (jq qL_law_c18 8 rfl) (jo_ial e341)) ?_
  refine Eq.trans (jb_nx (i := .aload_n 3) (n := 1) (q := (1320, [some (.ref p0), some (.ref p1), some (.ref p2), some (.ref p3), some (.int i4), o5, o6, o7, o8], [.ref p3, .int x340, .ref p1])) (jq qL_law_c18 9 rfl) rfl) ?_
  rcases jcI H with ⟨x344, h342, r343, H⟩ | ⟨w364, h365, r343, H⟩
  · refine Eq.trans (jb_nx (i := .invokestatic 191) (n := 3) (q := (1323, [some (.ref p0), some (.ref p1), some (.ref p2), some (.ref p3), some (.int i4), o5, o6, o7, o8], [.int x344])) (jq qL_law_c18 10 rfl) (jo_cs (y := mL_doStep) (w := 4) (by decide) rfl (Nat.le_of_ble_eq_true rfl) rfl (Nat.le_of_ble_eq_true rfl) rfl r343 jo_ret)) ?_
    refine Eq.trans (jb_nx (i := .istore 5) (n := 2) (q := (1325, [some (.ref p0), some (.ref p1), some (.ref p2), some (.ref p3), some (.int i4), some (.int x344), o6, o7, o8], [])) (jq qL_law_c18 11 rfl) rfl) ?_
    refine Eq.trans (jb_nx (i := .aload_n 2) (n := 1) (q := (1326, [some (.ref p0), some (.ref p1), some (.ref p2), some (.ref p3), some (.int i4), some (.int x344), o6, o7, o8], [.ref p2])) (jq qL_law_c18 12 rfl) rfl) ?_
    refine Eq.trans (jb_nx (i := .aload_n 0) (n := 1) (q := (1327, [some (.ref p0), some (.ref p1), some (.ref p2), some (.ref p3), some (.int i4), some (.int x344), o6, o7, o8], [.ref p0, .ref p2])) (jq qL_law_c18 13 rfl) rfl) ?_
    refine Eq.trans (jb_nx (i := .iload 4) (n := 2) (q := (1329, [some (.ref p0), some (.ref p1), some (.ref p2), some (.ref p3), some (.int i4), some (.int x344), o6, o7, o8], [.int i4, .ref p0, .ref p2])) (jq qL_law_c18 14 rfl) rfl) ?_
    refine Eq.trans (jb_nx (i := .iconst 1) (n := 1) (q := (1330, [some (.ref p0), some (.ref p1), some (.ref p2), some (.ref p3), some (.int i4), some (.int x344), o6, o7, o8], [.int 1, .int i4, .ref p0, .ref p2])) (jq qL_law_c18 15 rfl) rfl) ?_
    refine Eq.trans (jb_nx (i := .iadd) (n := 1) (q := (1331, [some (.ref p0), some (.ref p1), some (.ref p2), some (.ref p3), some (.int i4), some (.int x344), o6, o7, o8], [.int (i4 + 1), .ref p0, .ref p2])) (jq qL_law_c18 16 rfl) rfl) ?_
    obtain ⟨x345, e346, H⟩ := jbd H
    refine Eq.trans (jb_nx (i := .iaload) (n := 1) (q := (1332, [some (.ref p0), some (.ref p1), some (.ref p2), some (.ref p3), some (.int i4), some (.int x344), o6, o7, o8], [.int x345, .ref p2])) (jq qL_law_c18 17 rfl) (jo_ial e346)) ?_
    obtain ⟨b361, H⟩ := jm_O_inv H
    rcases jcI H with ⟨x349, h347, r348, H⟩ | ⟨w362, h363, r348, H⟩
    · refine Eq.trans (jb_nx (i := .invokevirtual 193) (n := 3) (q := (1335, [some (.ref p0), some (.ref p1), some (.ref p2), some (.ref p3), some (.int i4), some (.int x344), o6, o7, o8], [.int x349])) (jq qL_law_c18 18 rfl) (jo_cv (y := mX13_doStep) rfl (Nat.le_of_ble_eq_true rfl) rfl (Nat.le_of_ble_eq_true rfl) b361 rfl r348 jo_ret)) ?_
      refine Eq.trans (jb_nx (i := .istore 6) (n := 2) (q := (1337, [some (.ref p0), some (.ref p1), some (.ref p2), some (.ref p3), some (.int i4), some (.int x344), some (.int x349), o7, o8], [])) (jq qL_law_c18 19 rfl) rfl) ?_
      refine Eq.trans (jb_nx (i := .aload_n 2) (n := 1) (q := (1338, [some (.ref p0), some (.ref p1), some (.ref p2), some (.ref p3), some (.int i4), some (.int x344), some (.int x349), o7, o8], [.ref p2])) (jq qL_law_c18 20 rfl) rfl) ?_
      obtain ⟨b358, H⟩ := jm_O_inv H
      rcases jcI H with ⟨x352, h350, r351, H⟩ | ⟨w359, h360, r351, H⟩
      · refine Eq.trans (jb_nx (i := .invokevirtual 108) (n := 3) (q := (1341, [some (.ref p0), some (.ref p1), some (.ref p2), some (.ref p3), some (.int i4), some (.int x344), some (.int x349), o7, o8], [.int x352])) (jq qL_law_c18 21 rfl) (jo_cv (y := mX13_thrown) rfl (Nat.le_of_ble_eq_true rfl) rfl (Nat.le_of_ble_eq_true rfl) b358 rfl r351 jo_ret)) ?_
        refine Eq.trans (jb_nx (i := .iload 5) (n := 2) (q := (1343, [some (.ref p0), some (.ref p1), some (.ref p2), some (.ref p3), some (.int i4), some (.int x344), some (.int x349), o7, o8], [.int x344, .int x352])) (jq qL_law_c18 22 rfl) rfl) ?_
        by_cases c353 : x352 = x344
        · rw [if_pos c353] at H
          refine Eq.trans (jb_nx (i := .if_icmp .eq 5) (n := 3) (q := (1348, [some (.ref p0), some (.ref p1), some (.ref p2), some (.ref p3), some (.int i4), some (.int x344), some (.int x349), o7, o8], [])) (jq qL_law_c18 23 rfl) (jo_icT (jz_eqT c353) rfl)) ?_
          refine Eq.trans (jb_nx (i := .iload 5) (n := 2) (q := (1350, [some (.ref p0), some (.ref p1), some (.ref p2), some (.ref p3), some (.int i4), some (.int x344), some (.int x349), o7, o8], [.int x344])) (jq qL_law_c18 26 rfl) rfl) ?_
          by_cases c354 : x344 = 0
          · rw [if_pos c354] at H
            refine Eq.trans (jb_nx (i := .ifCond .ne 15) (n := 3) (q := (1353, [some (.ref p0), some (.ref p1), some (.ref p2), some (.ref p3), some (.int i4), some (.int x344), some (.int x349), o7, o8], [])) (jq qL_law_c18 27 rfl) (jo_ifF (jz_neF c354))) ?_
            refine Eq.trans (jb_nx (i := .aload_n 3) (n := 1) (q := (1354, [some (.ref p0), some (.ref p1), some (.ref p2), some (.ref p3), some (.int i4), some (.int x344), some (.int x349), o7, o8], [.ref p3])) (jq qL_law_c18 28 rfl) rfl) ?_
            refine Eq.trans (jb_nx (i := .iconst 0) (n := 1) (q := (1355, [some (.ref p0), some (.ref p1), some (.ref p2), some (.ref p3), some (.int i4), some (.int x344), some (.int x349), o7, o8], [.int 0, .ref p3])) (jq qL_law_c18 29 rfl) rfl) ?_
            obtain ⟨y355, e356, H⟩ := jbd H
            refine Eq.trans (jb_nx (i := .laload) (n := 1) (q := (1356, [some (.ref p0), some (.ref p1), some (.ref p2), some (.ref p3), some (.int i4), some (.int x344), some (.int x349), o7, o8], [.long y355])) (jq qL_law_c18 30 rfl) (jo_lal e356)) ?_
            refine Eq.trans (jb_nx (i := .iload 6) (n := 2) (q := (1358, [some (.ref p0), some (.ref p1), some (.ref p2), some (.ref p3), some (.int i4), some (.int x344), some (.int x349), o7, o8], [.int x349, .long y355])) (jq qL_law_c18 31 rfl) rfl) ?_
            refine Eq.trans (jb_nx (i := .i2l) (n := 1) (q := (1359, [some (.ref p0), some (.ref p1), some (.ref p2), some (.ref p3), some (.int i4), some (.int x344), some (.int x349), o7, o8], [.long x349.toInt64, .long y355])) (jq qL_law_c18 32 rfl) rfl) ?_
            refine Eq.trans (jb_nx (i := .lcmp) (n := 1) (q := (1360, [some (.ref p0), some (.ref p1), some (.ref p2), some (.ref p3), some (.int i4), some (.int x344), some (.int x349), o7, o8], [.int (lg_cmp y355 x349.toInt64)])) (jq qL_law_c18 33 rfl) rfl) ?_
            by_cases c357 : (lg_cmp y355 x349.toInt64) = 0
            · rw [if_pos c357] at H
              refine Eq.trans (jb_nx (i := .ifCond .eq 5) (n := 3) (q := (1365, [some (.ref p0), some (.ref p1), some (.ref p2), some (.ref p3), some (.int i4), some (.int x344), some (.int x349), o7, o8], [])) (jq qL_law_c18 34 rfl) (jo_ifT (jz_eqT c357) rfl)) ?_
              refine Eq.trans (jb_nx (i := .goto 617) (n := 3) (q := (1982, [some (.ref p0), some (.ref p1), some (.ref p2), some (.ref p3), some (.int i4), some (.int x344), some (.int x349), o7, o8], [])) (jq qL_law_c18 37 rfl) rfl) ?_
              exact H
            · rw [if_neg c357] at H
              refine Eq.trans (jb_nx (i := .ifCond .eq 5) (n := 3) (q := (1363, [some (.ref p0), some (.ref p1), some (.ref p2), some (.ref p3), some (.int i4), some (.int x344), some (.int x349), o7, o8], [])) (jq qL_law_c18 34 rfl) (jo_ifF (jz_eqF c357))) ?_
              refine Eq.trans (jb_nx (i := .iconst 0) (n := 1) (q := (1364, [some (.ref p0), some (.ref p1), some (.ref p2), some (.ref p3), some (.int i4), some (.int x344), some (.int x349), o7, o8], [.int 0])) (jq qL_law_c18 35 rfl) rfl) ?_
              exact Eq.trans (jb_rt (i := .ireturn) (n := 1) (jq qL_law_c18 36 rfl) (jo_iret rfl (by decide))) H
          · rw [if_neg c354] at H
            refine Eq.trans (jb_nx (i := .ifCond .ne 15) (n := 3) (q := (1365, [some (.ref p0), some (.ref p1), some (.ref p2), some (.ref p3), some (.int i4), some (.int x344), some (.int x349), o7, o8], [])) (jq qL_law_c18 27 rfl) (jo_ifT (jz_neT c354) rfl)) ?_
            refine Eq.trans (jb_nx (i := .goto 617) (n := 3) (q := (1982, [some (.ref p0), some (.ref p1), some (.ref p2), some (.ref p3), some (.int i4), some (.int x344), some (.int x349), o7, o8], [])) (jq qL_law_c18 37 rfl) rfl) ?_
            exact H
        · rw [if_neg c353] at H
          refine Eq.trans (jb_nx (i := .if_icmp .eq 5) (n := 3) (q := (1346, [some (.ref p0), some (.ref p1), some (.ref p2), some (.ref p3), some (.int i4), some (.int x344), some (.int x349), o7, o8], [])) (jq qL_law_c18 23 rfl) (jo_icF (jz_eqF c353))) ?_
          refine Eq.trans (jb_nx (i := .iconst 0) (n := 1) (q := (1347, [some (.ref p0), some (.ref p1), some (.ref p2), some (.ref p3), some (.int i4), some (.int x344), some (.int x349), o7, o8], [.int 0])) (jq qL_law_c18 24 rfl) rfl) ?_
          exact Eq.trans (jb_rt (i := .ireturn) (n := 1) (jq qL_law_c18 25 rfl) (jo_iret rfl (by decide))) H
      · exact Eq.trans (jb_rt (i := .invokevirtual 108) (n := 3) (jq qL_law_c18 21 rfl) (jo_cv (y := mX13_thrown) rfl (Nat.le_of_ble_eq_true rfl) rfl (Nat.le_of_ble_eq_true rfl) b358 rfl r351 (jo_exn rfl))) H
    · exact Eq.trans (jb_rt (i := .invokevirtual 193) (n := 3) (jq qL_law_c18 18 rfl) (jo_cv (y := mX13_doStep) rfl (Nat.le_of_ble_eq_true rfl) rfl (Nat.le_of_ble_eq_true rfl) b361 rfl r348 (jo_exn rfl))) H
  · exact Eq.trans (jb_rt (i := .invokestatic 191) (n := 3) (jq qL_law_c18 10 rfl) (jo_cs (y := mL_doStep) (w := 4) (by decide) rfl (Nat.le_of_ble_eq_true rfl) rfl (Nat.le_of_ble_eq_true rfl) rfl r343 (jo_exn rfl))) H
theorem gL_law_1249 {d : Nat} {p0 : Nat} {p1 : Nat} {p2 : Nat} {p3 : Nat} {i4 : Int32} {o5 : Option Value} {o6 : Option Value} {o7 : Option Value} {o8 : Option Value} {h : jm_H} {r : jm_R} (H : ((jm_ali h p0 0 (i4 + 1)).bind fun x366 => jc_I (jm_D d mL_isAsTold [.ref p1, .int x366, .ref p3] h) (fun x370 h368 => (jm_ali h368 p0 0 (i4 + 1)).bind fun x371 => jm_O h368 p2 13 (jc_I (jm_D d mX13_isAsTold [.ref p2, .int x371] h368) (fun x375 h373 => jm_O h373 p2 13 (jc_I (jm_D d mX13_thrown [.ref p2] h373) (fun x378 h376 => (if x378 = x370 then (if x370 = 0 then (jm_all h376 p3 0).bind fun y381 => (if x375 = 0 then (if (lg_cmp y381 0) = 0 then kL_law_1982 d p0 p1 p2 p3 i4 (some (.int x370)) (some (.int x375)) o7 o8 h376 else some (.inl (some (.int 0)), h376)) else (if (lg_cmp y381 1) = 0 then kL_law_1982 d p0 p1 p2 p3 i4 (some (.int x370)) (some (.int x375)) o7 o8 h376 else some (.inl (some (.int 0)), h376))) else kL_law_1982 d p0 p1 p2 p3 i4 (some (.int x370)) (some (.int x375)) o7 o8 h376) else some (.inl (some (.int 0)), h376))) jx)) jx)) jx) = some r) : kL_law_1249 d p0 p1 p2 p3 i4 o5 o6 o7 o8 h = some r := by
  show jm_B d mL_law (1249, [some (.ref p0), some (.ref p1), some (.ref p2), some (.ref p3), some (.int i4), o5, o6, o7, o8], []) h = some r
  refine Eq.trans (jb_nx (i := .aload_n 1) (n := 1) (q := (1250, [some (.ref p0), some (.ref p1), some (.ref p2), some (.ref p3), some (.int i4), o5, o6, o7, o8], [.ref p1])) (jq qL_law_c17 5 rfl) rfl) ?_
  refine Eq.trans (jb_nx (i := .aload_n 0) (n := 1) (q := (1251, [some (.ref p0), some (.ref p1), some (.ref p2), some (.ref p3), some (.int i4), o5, o6, o7, o8], [.ref p0, .ref p1])) (jq qL_law_c17 6 rfl) rfl) ?_
  refine Eq.trans (jb_nx (i := .iload 4) (n := 2) (q := (1253, [some (.ref p0), some (.ref p1), some (.ref p2), some (.ref p3), some (.int i4), o5, o6, o7, o8], [.int i4, .ref p0, .ref p1])) (jq qL_law_c17 7 rfl) rfl) ?_
  refine Eq.trans (jb_nx (i := .iconst 1) (n := 1) (q := (1254, [some (.ref p0), some (.ref p1), some (.ref p2), some (.ref p3), some (.int i4), o5, o6, o7, o8], [.int 1, .int i4, .ref p0, .ref p1])) (jq qL_law_c17 8 rfl) rfl) ?_
  refine Eq.trans (jb_nx (i := .iadd) (n := 1) (q := (1255, [some (.ref p0), some (.ref p1), some (.ref p2), some (.ref p3), some (.int i4), o5, o6, o7, o8], [.int (i4 + 1), .ref p0, .ref p1])) (jq qL_law_c17 9 rfl) rfl) ?_
  obtain ⟨x366, e367, H⟩ := jbd H
  refine Eq.trans (jb_nx (i := .iaload) (n := 1) (q := (1256, [some (.ref p0), some (.ref p1), some (.ref p2), some (.ref p3), some (.int i4), o5, o6, o7, o8], [.int x366, .ref p1])) (jq qL_law_c17 10 rfl) (jo_ial e367)) ?_
  refine Eq.trans (jb_nx (i := .aload_n 3) (n := 1) (q := (1257, [some (.ref p0), some (.ref p1), some (.ref p2), some (.ref p3), some (.int i4), o5, o6, o7, o8], [.ref p3, .int x366, .ref p1])) (jq qL_law_c17 11 rfl) rfl) ?_
  rcases jcI H with ⟨x370, h368, r369, H⟩ | ⟨w392, h393, r369, H⟩
  · refine Eq.trans (jb_nx (i := .invokestatic 188) (n := 3) (q := (1260, [some (.ref p0), some (.ref p1), some (.ref p2), some (.ref p3), some (.int i4), o5, o6, o7, o8], [.int x370])) (jq qL_law_c17 12 rfl) (jo_cs (y := mL_isAsTold) (w := 4) (by decide) rfl (Nat.le_of_ble_eq_true rfl) rfl (Nat.le_of_ble_eq_true rfl) rfl r369 jo_ret)) ?_
    refine Eq.trans (jb_nx (i := .istore 5) (n := 2) (q := (1262, [some (.ref p0), some (.ref p1), some (.ref p2), some (.ref p3), some (.int i4), some (.int x370), o6, o7, o8], [])) (jq qL_law_c17 13 rfl) rfl) ?_
    refine Eq.trans (jb_nx (i := .aload_n 2) (n := 1) (q := (1263, [some (.ref p0), some (.ref p1), some (.ref p2), some (.ref p3), some (.int i4), some (.int x370), o6, o7, o8], [.ref p2])) (jq qL_law_c17 14 rfl) rfl) ?_
    refine Eq.trans (jb_nx (i := .aload_n 0) (n := 1) (q := (1264, [some (.ref p0), some (.ref p1), some (.ref p2), some (.ref p3), some (.int i4), some (.int x370), o6, o7, o8], [.ref p0, .ref p2])) (jq qL_law_c17 15 rfl) rfl) ?_
    refine Eq.trans (jb_nx (i := .iload 4) (n := 2) (q := (1266, [some (.ref p0), some (.ref p1), some (.ref p2), some (.ref p3), some (.int i4), some (.int x370), o6, o7, o8], [.int i4, .ref p0, .ref p2])) (jq qL_law_c17 16 rfl) rfl) ?_
    refine Eq.trans (jb_nx (i := .iconst 1) (n := 1) (q := (1267, [some (.ref p0), some (.ref p1), some (.ref p2), some (.ref p3), some (.int i4), some (.int x370), o6, o7, o8], [.int 1, .int i4, .ref p0, .ref p2])) (jq qL_law_c17 17 rfl) rfl) ?_
    refine Eq.trans (jb_nx (i := .iadd) (n := 1) (q := (1268, [some (.ref p0), some (.ref p1), some (.ref p2), some (.ref p3), some (.int i4), some (.int x370), o6, o7, o8], [.int (i4 + 1), .ref p0, .ref p2])) (jq qL_law_c17 18 rfl) rfl) ?_
    obtain ⟨x371, e372, H⟩ := jbd H
    refine Eq.trans (jb_nx (i := .iaload) (n := 1) (q := (1269, [some (.ref p0), some (.ref p1), some (.ref p2), some (.ref p3), some (.int i4), some (.int x370), o6, o7, o8], [.int x371, .ref p2])) (jq qL_law_c17 19 rfl) (jo_ial e372)) ?_
    obtain ⟨b389, H⟩ := jm_O_inv H
    rcases jcI H with ⟨x375, h373, r374, H⟩ | ⟨w390, h391, r374, H⟩
    · refine Eq.trans (jb_nx (i := .invokevirtual 190) (n := 3) (q := (1272, [some (.ref p0), some (.ref p1), some (.ref p2), some (.ref p3), some (.int i4), some (.int x370), o6, o7, o8], [.int x375])) (jq qL_law_c17 20 rfl) (jo_cv (y := mX13_isAsTold) rfl (Nat.le_of_ble_eq_true rfl) rfl (Nat.le_of_ble_eq_true rfl) b389 rfl r374 jo_ret)) ?_
      refine Eq.trans (jb_nx (i := .istore 6) (n := 2) (q := (1274, [some (.ref p0), some (.ref p1), some (.ref p2), some (.ref p3), some (.int i4), some (.int x370), some (.int x375), o7, o8], [])) (jq qL_law_c17 21 rfl) rfl) ?_
      refine Eq.trans (jb_nx (i := .aload_n 2) (n := 1) (q := (1275, [some (.ref p0), some (.ref p1), some (.ref p2), some (.ref p3), some (.int i4), some (.int x370), some (.int x375), o7, o8], [.ref p2])) (jq qL_law_c17 22 rfl) rfl) ?_
      obtain ⟨b386, H⟩ := jm_O_inv H
      rcases jcI H with ⟨x378, h376, r377, H⟩ | ⟨w387, h388, r377, H⟩
      · refine Eq.trans (jb_nx (i := .invokevirtual 108) (n := 3) (q := (1278, [some (.ref p0), some (.ref p1), some (.ref p2), some (.ref p3), some (.int i4), some (.int x370), some (.int x375), o7, o8], [.int x378])) (jq qL_law_c17 23 rfl) (jo_cv (y := mX13_thrown) rfl (Nat.le_of_ble_eq_true rfl) rfl (Nat.le_of_ble_eq_true rfl) b386 rfl r377 jo_ret)) ?_
        refine Eq.trans (jb_nx (i := .iload 5) (n := 2) (q := (1280, [some (.ref p0), some (.ref p1), some (.ref p2), some (.ref p3), some (.int i4), some (.int x370), some (.int x375), o7, o8], [.int x370, .int x378])) (jq qL_law_c17 24 rfl) rfl) ?_
        by_cases c379 : x378 = x370
        · rw [if_pos c379] at H
          refine Eq.trans (jb_nx (i := .if_icmp .eq 5) (n := 3) (q := (1285, [some (.ref p0), some (.ref p1), some (.ref p2), some (.ref p3), some (.int i4), some (.int x370), some (.int x375), o7, o8], [])) (jq qL_law_c17 25 rfl) (jo_icT (jz_eqT c379) rfl)) ?_
          refine Eq.trans (jb_nx (i := .iload 5) (n := 2) (q := (1287, [some (.ref p0), some (.ref p1), some (.ref p2), some (.ref p3), some (.int i4), some (.int x370), some (.int x375), o7, o8], [.int x370])) (jq qL_law_c17 28 rfl) rfl) ?_
          by_cases c380 : x370 = 0
          · rw [if_pos c380] at H
            refine Eq.trans (jb_nx (i := .ifCond .ne 22) (n := 3) (q := (1290, [some (.ref p0), some (.ref p1), some (.ref p2), some (.ref p3), some (.int i4), some (.int x370), some (.int x375), o7, o8], [])) (jq qL_law_c17 29 rfl) (jo_ifF (jz_neF c380))) ?_
            refine Eq.trans (jb_nx (i := .aload_n 3) (n := 1) (q := (1291, [some (.ref p0), some (.ref p1), some (.ref p2), some (.ref p3), some (.int i4), some (.int x370), some (.int x375), o7, o8], [.ref p3])) (jq qL_law_c17 30 rfl) rfl) ?_
            refine Eq.trans (jb_nx (i := .iconst 0) (n := 1) (q := (1292, [some (.ref p0), some (.ref p1), some (.ref p2), some (.ref p3), some (.int i4), some (.int x370), some (.int x375), o7, o8], [.int 0, .ref p3])) (jq qL_law_c17 31 rfl) rfl) ?_
            obtain ⟨y381, e382, H⟩ := jbd H
            refine Eq.trans (jb_nx (i := .laload) (n := 1) (q := (1293, [some (.ref p0), some (.ref p1), some (.ref p2), some (.ref p3), some (.int i4), some (.int x370), some (.int x375), o7, o8], [.long y381])) (jq qL_law_c17 32 rfl) (jo_lal e382)) ?_
            refine Eq.trans (jb_nx (i := .iload 6) (n := 2) (q := (1295, [some (.ref p0), some (.ref p1), some (.ref p2), some (.ref p3), some (.int i4), some (.int x370), some (.int x375), o7, o8], [.int x375, .long y381])) (jq qL_law_c17 33 rfl) rfl) ?_
            by_cases c383 : x375 = 0
            · rw [if_pos c383] at H
              refine Eq.trans (jb_nx (i := .ifCond .eq 7) (n := 3) (q := (1302, [some (.ref p0), some (.ref p1), some (.ref p2), some (.ref p3), some (.int i4), some (.int x370), some (.int x375), o7, o8], [.long y381])) (jq qL_law_c17 34 rfl) (jo_ifT (jz_eqT c383) rfl)) ?_
              refine Eq.trans (jb_nx (i := .lconst 0) (n := 1) (q := (1303, [some (.ref p0), some (.ref p1), some (.ref p2), some (.ref p3), some (.int i4), some (.int x370), some (.int x375), o7, o8], [.long 0, .long y381])) (jq qL_law_c17 37 rfl) rfl) ?_
              refine Eq.trans (jb_nx (i := .lcmp) (n := 1) (q := (1304, [some (.ref p0), some (.ref p1), some (.ref p2), some (.ref p3), some (.int i4), some (.int x370), some (.int x375), o7, o8], [.int (lg_cmp y381 0)])) (jq qL_law_c17 38 rfl) rfl) ?_
              by_cases c384 : (lg_cmp y381 0) = 0
              · rw [if_pos c384] at H
                refine Eq.trans (jb_nx (i := .ifCond .eq 5) (n := 3) (q := (1309, [some (.ref p0), some (.ref p1), some (.ref p2), some (.ref p3), some (.int i4), some (.int x370), some (.int x375), o7, o8], [])) (jq qL_law_c17 39 rfl) (jo_ifT (jz_eqT c384) rfl)) ?_
                refine Eq.trans (jb_nx (i := .goto 673) (n := 3) (q := (1982, [some (.ref p0), some (.ref p1), some (.ref p2), some (.ref p3), some (.int i4), some (.int x370), some (.int x375), o7, o8], [])) (jq qL_law_c18 2 rfl) rfl) ?_
                exact H
              · rw [if_neg c384] at H
                refine Eq.trans (jb_nx (i := .ifCond .eq 5) (n := 3) (q := (1307, [some (.ref p0), some (.ref p1), some (.ref p2), some (.ref p3), some (.int i4), some (.int x370), some (.int x375), o7, o8], [])) (jq qL_law_c17 39 rfl) (jo_ifF (jz_eqF c384))) ?_
                refine Eq.trans (jb_nx (i := .iconst 0) (n := 1) (q := (1308, [some (.ref p0), some (.ref p1), some (.ref p2), some (.ref p3), some (.int i4), some (.int x370), some (.int x375), o7, o8], [.int 0])) (jq qL_law_c18 0 rfl) rfl) ?_
                exact Eq.trans (jb_rt (i := .ireturn) (n := 1) (jq qL_law_c18 1 rfl) (jo_iret rfl (by decide))) H
            · rw [if_neg c383] at H
              refine Eq.trans (jb_nx (i := .ifCond .eq 7) (n := 3) (q := (1298, [some (.ref p0), some (.ref p1), some (.ref p2), some (.ref p3), some (.int i4), some (.int x370), some (.int x375), o7, o8], [.long y381])) (jq qL_law_c17 34 rfl) (jo_ifF (jz_eqF c383))) ?_
              refine Eq.trans (jb_nx (i := .lconst 1) (n := 1) (q := (1299, [some (.ref p0), some (.ref p1), some (.ref p2), some (.ref p3), some (.int i4), some (.int x370), some (.int x375), o7, o8], [.long 1, .long y381])) (jq qL_law_c17 35 rfl) rfl) ?_
              refine Eq.trans (jb_nx (i := .goto 4) (n := 3) (q := (1303, [some (.ref p0), some (.ref p1), some (.ref p2), some (.ref p3), some (.int i4), some (.int x370), some (.int x375), o7, o8], [.long 1, .long y381])) (jq qL_law_c17 36 rfl) rfl) ?_
              refine Eq.trans (jb_nx (i := .lcmp) (n := 1) (q := (1304, [some (.ref p0), some (.ref p1), some (.ref p2), some (.ref p3), some (.int i4), some (.int x370), some (.int x375), o7, o8], [.int (lg_cmp y381 1)])) (jq qL_law_c17 38 rfl) rfl) ?_
              by_cases c385 : (lg_cmp y381 1) = 0
              · rw [if_pos c385] at H
                refine Eq.trans (jb_nx (i := .ifCond .eq 5) (n := 3) (q := (1309, [some (.ref p0), some (.ref p1), some (.ref p2), some (.ref p3), some (.int i4), some (.int x370), some (.int x375), o7, o8], [])) (jq qL_law_c17 39 rfl) (jo_ifT (jz_eqT c385) rfl)) ?_
                refine Eq.trans (jb_nx (i := .goto 673) (n := 3) (q := (1982, [some (.ref p0), some (.ref p1), some (.ref p2), some (.ref p3), some (.int i4), some (.int x370), some (.int x375), o7, o8], [])) (jq qL_law_c18 2 rfl) rfl) ?_
                exact H
              · rw [if_neg c385] at H
                refine Eq.trans (jb_nx (i := .ifCond .eq 5) (n := 3) (q := (1307, [some (.ref p0), some (.ref p1), some (.ref p2), some (.ref p3), some (.int i4), some (.int x370), some (.int x375), o7, o8], [])) (jq qL_law_c17 39 rfl) (jo_ifF (jz_eqF c385))) ?_
                refine Eq.trans (jb_nx (i := .iconst 0) (n := 1) (q := (1308, [some (.ref p0), some (.ref p1), some (.ref p2), some (.ref p3), some (.int i4), some (.int x370), some (.int x375), o7, o8], [.int 0])) (jq qL_law_c18 0 rfl) rfl) ?_
                exact Eq.trans (jb_rt (i := .ireturn) (n := 1) (jq qL_law_c18 1 rfl) (jo_iret rfl (by decide))) H
          · rw [if_neg c380] at H
            refine Eq.trans (jb_nx (i := .ifCond .ne 22) (n := 3) (q := (1309, [some (.ref p0), some (.ref p1), some (.ref p2), some (.ref p3), some (.int i4), some (.int x370), some (.int x375), o7, o8], [])) (jq qL_law_c17 29 rfl) (jo_ifT (jz_neT c380) rfl)) ?_
            refine Eq.trans (jb_nx (i := .goto 673) (n := 3) (q := (1982, [some (.ref p0), some (.ref p1), some (.ref p2), some (.ref p3), some (.int i4), some (.int x370), some (.int x375), o7, o8], [])) (jq qL_law_c18 2 rfl) rfl) ?_
            exact H
        · rw [if_neg c379] at H
          refine Eq.trans (jb_nx (i := .if_icmp .eq 5) (n := 3) (q := (1283, [some (.ref p0), some (.ref p1), some (.ref p2), some (.ref p3), some (.int i4), some (.int x370), some (.int x375), o7, o8], [])) (jq qL_law_c17 25 rfl) (jo_icF (jz_eqF c379))) ?_
          refine Eq.trans (jb_nx (i := .iconst 0) (n := 1) (q := (1284, [some (.ref p0), some (.ref p1), some (.ref p2), some (.ref p3), some (.int i4), some (.int x370), some (.int x375), o7, o8], [.int 0])) (jq qL_law_c17 26 rfl) rfl) ?_
          exact Eq.trans (jb_rt (i := .ireturn) (n := 1) (jq qL_law_c17 27 rfl) (jo_iret rfl (by decide))) H
      · exact Eq.trans (jb_rt (i := .invokevirtual 108) (n := 3) (jq qL_law_c17 23 rfl) (jo_cv (y := mX13_thrown) rfl (Nat.le_of_ble_eq_true rfl) rfl (Nat.le_of_ble_eq_true rfl) b386 rfl r377 (jo_exn rfl))) H
    · exact Eq.trans (jb_rt (i := .invokevirtual 190) (n := 3) (jq qL_law_c17 20 rfl) (jo_cv (y := mX13_isAsTold) rfl (Nat.le_of_ble_eq_true rfl) rfl (Nat.le_of_ble_eq_true rfl) b389 rfl r374 (jo_exn rfl))) H
  · exact Eq.trans (jb_rt (i := .invokestatic 188) (n := 3) (jq qL_law_c17 12 rfl) (jo_cs (y := mL_isAsTold) (w := 4) (by decide) rfl (Nat.le_of_ble_eq_true rfl) rfl (Nat.le_of_ble_eq_true rfl) rfl r369 (jo_exn rfl))) H
theorem gL_law_1174 {d : Nat} {p0 : Nat} {p1 : Nat} {p2 : Nat} {p3 : Nat} {i4 : Int32} {o5 : Option Value} {o6 : Option Value} {o7 : Option Value} {o8 : Option Value} {h : jm_H} {r : jm_R} (H : ((jm_ali h p0 0 (i4 + 1)).bind fun x394 => (jm_ali h p0 0 (i4 + 2)).bind fun x396 => jc_I (jm_D d mL_isSame [.ref p1, .int x394, .int x396, .ref p3] h) (fun x400 h398 => (jm_ali h398 p0 0 (i4 + 1)).bind fun x401 => (jm_ali h398 p0 0 (i4 + 2)).bind fun x403 => jm_O h398 p2 13 (jc_I (jm_D d mX13_isSame [.ref p2, .int x401, .int x403] h398) (fun x407 h405 => jm_O h405 p2 13 (jc_I (jm_D d mX13_thrown [.ref p2] h405) (fun x410 h408 => (if x410 = x400 then (if x400 = 0 then (jm_all h408 p3 0).bind fun y413 => (if x407 = 0 then (if (lg_cmp y413 0) = 0 then kL_law_1982 d p0 p1 p2 p3 i4 (some (.int x400)) (some (.int x407)) o7 o8 h408 else some (.inl (some (.int 0)), h408)) else (if (lg_cmp y413 1) = 0 then kL_law_1982 d p0 p1 p2 p3 i4 (some (.int x400)) (some (.int x407)) o7 o8 h408 else some (.inl (some (.int 0)), h408))) else kL_law_1982 d p0 p1 p2 p3 i4 (some (.int x400)) (some (.int x407)) o7 o8 h408) else some (.inl (some (.int 0)), h408))) jx)) jx)) jx) = some r) : kL_law_1174 d p0 p1 p2 p3 i4 o5 o6 o7 o8 h = some r := by
  show jm_B d mL_law (1174, [some (.ref p0), some (.ref p1), some (.ref p2), some (.ref p3), some (.int i4), o5, o6, o7, o8], []) h = some r
  refine Eq.trans (jb_nx (i := .aload_n 1) (n := 1) (q := (1175, [some (.ref p0), some (.ref p1), some (.ref p2), some (.ref p3), some (.int i4), o5, o6, o7, o8], [.ref p1])) (jq qL_law_c15 37 rfl) rfl) ?_
  refine Eq.trans (jb_nx (i := .aload_n 0) (n := 1) (q := (1176, [some (.ref p0), some (.ref p1), some (.ref p2), some (.ref p3), some (.int i4), o5, o6, o7, o8], [.ref p0, .ref p1])) (jq qL_law_c15 38 rfl) rfl) ?_
  refine Eq.trans (jb_nx (i := .iload 4) (n := 2) (q := (1178, [some (.ref p0), some (.ref p1), some (.ref p2), some (.ref p3), some (.int i4), o5, o6, o7, o8], [.int i4, .ref p0, .ref p1])) (jq qL_law_c15 39 rfl) rfl) ?_
  refine Eq.trans (jb_nx (i := .iconst 1) (n := 1) (q := (1179, [some (.ref p0), some (.ref p1), some (.ref p2), some (.ref p3), some (.int i4), o5, o6, o7, o8], [.int 1, .int i4, .ref p0, .ref p1])) (jq qL_law_c16 0 rfl) rfl) ?_
  refine Eq.trans (jb_nx (i := .iadd) (n := 1) (q := (1180, [some (.ref p0), some (.ref p1), some (.ref p2), some (.ref p3), some (.int i4), o5, o6, o7, o8], [.int (i4 + 1), .ref p0, .ref p1])) (jq qL_law_c16 1 rfl) rfl) ?_
  obtain ⟨x394, e395, H⟩ := jbd H
  refine Eq.trans (jb_nx (i := .iaload) (n := 1) (q := (1181, [some (.ref p0), some (.ref p1), some (.ref p2), some (.ref p3), some (.int i4), o5, o6, o7, o8], [.int x394, .ref p1])) (jq qL_law_c16 2 rfl) (jo_ial e395)) ?_
  refine Eq.trans (jb_nx (i := .aload_n 0) (n := 1) (q := (1182, [some (.ref p0), some (.ref p1), some (.ref p2), some (.ref p3), some (.int i4), o5, o6, o7, o8], [.ref p0, .int x394, .ref p1])) (jq qL_law_c16 3 rfl) rfl) ?_
  refine Eq.trans (jb_nx (i := .iload 4) (n := 2) (q := (1184, [some (.ref p0), some (.ref p1), some (.ref p2), some (.ref p3), some (.int i4), o5, o6, o7, o8], [.int i4, .ref p0, .int x394, .ref p1])) (jq qL_law_c16 4 rfl) rfl) ?_
  refine Eq.trans (jb_nx (i := .iconst 2) (n := 1) (q := (1185, [some (.ref p0), some (.ref p1), some (.ref p2), some (.ref p3), some (.int i4), o5, o6, o7, o8], [.int 2, .int i4, .ref p0, .int x394, .ref p1])) (jq qL_law_c16 5 rfl) rfl) ?_
  refine Eq.trans (jb_nx (i := .iadd) (n := 1) (q := (1186, [some (.ref p0), some (.ref p1), some (.ref p2), some (.ref p3), some (.int i4), o5, o6, o7, o8], [.int (i4 + 2), .ref p0, .int x394, .ref p1])) (jq qL_law_c16 6 rfl) rfl) ?_
  obtain ⟨x396, e397, H⟩ := jbd H
  refine Eq.trans (jb_nx (i := .iaload) (n := 1) (q := (1187, [some (.ref p0), some (.ref p1), some (.ref p2), some (.ref p3), some (.int i4), o5, o6, o7, o8], [.int x396, .int x394, .ref p1])) (jq qL_law_c16 7 rfl) (jo_ial e397)) ?_
  refine Eq.trans (jb_nx (i := .aload_n 3) (n := 1) (q := (1188, [some (.ref p0), some (.ref p1), some (.ref p2), some (.ref p3), some (.int i4), o5, o6, o7, o8], [.ref p3, .int x396, .int x394, .ref p1])) (jq qL_law_c16 8 rfl) rfl) ?_
  rcases jcI H with ⟨x400, h398, r399, H⟩ | ⟨w424, h425, r399, H⟩
  · refine Eq.trans (jb_nx (i := .invokestatic 185) (n := 3) (q := (1191, [some (.ref p0), some (.ref p1), some (.ref p2), some (.ref p3), some (.int i4), o5, o6, o7, o8], [.int x400])) (jq qL_law_c16 9 rfl) (jo_cs (y := mL_isSame) (w := 4) (by decide) rfl (Nat.le_of_ble_eq_true rfl) rfl (Nat.le_of_ble_eq_true rfl) rfl r399 jo_ret)) ?_
    refine Eq.trans (jb_nx (i := .istore 5) (n := 2) (q := (1193, [some (.ref p0), some (.ref p1), some (.ref p2), some (.ref p3), some (.int i4), some (.int x400), o6, o7, o8], [])) (jq qL_law_c16 10 rfl) rfl) ?_
    refine Eq.trans (jb_nx (i := .aload_n 2) (n := 1) (q := (1194, [some (.ref p0), some (.ref p1), some (.ref p2), some (.ref p3), some (.int i4), some (.int x400), o6, o7, o8], [.ref p2])) (jq qL_law_c16 11 rfl) rfl) ?_
    refine Eq.trans (jb_nx (i := .aload_n 0) (n := 1) (q := (1195, [some (.ref p0), some (.ref p1), some (.ref p2), some (.ref p3), some (.int i4), some (.int x400), o6, o7, o8], [.ref p0, .ref p2])) (jq qL_law_c16 12 rfl) rfl) ?_
    refine Eq.trans (jb_nx (i := .iload 4) (n := 2) (q := (1197, [some (.ref p0), some (.ref p1), some (.ref p2), some (.ref p3), some (.int i4), some (.int x400), o6, o7, o8], [.int i4, .ref p0, .ref p2])) (jq qL_law_c16 13 rfl) rfl) ?_
    refine Eq.trans (jb_nx (i := .iconst 1) (n := 1) (q := (1198, [some (.ref p0), some (.ref p1), some (.ref p2), some (.ref p3), some (.int i4), some (.int x400), o6, o7, o8], [.int 1, .int i4, .ref p0, .ref p2])) (jq qL_law_c16 14 rfl) rfl) ?_
    refine Eq.trans (jb_nx (i := .iadd) (n := 1) (q := (1199, [some (.ref p0), some (.ref p1), some (.ref p2), some (.ref p3), some (.int i4), some (.int x400), o6, o7, o8], [.int (i4 + 1), .ref p0, .ref p2])) (jq qL_law_c16 15 rfl) rfl) ?_
    obtain ⟨x401, e402, H⟩ := jbd H
    refine Eq.trans (jb_nx (i := .iaload) (n := 1) (q := (1200, [some (.ref p0), some (.ref p1), some (.ref p2), some (.ref p3), some (.int i4), some (.int x400), o6, o7, o8], [.int x401, .ref p2])) (jq qL_law_c16 16 rfl) (jo_ial e402)) ?_
    refine Eq.trans (jb_nx (i := .aload_n 0) (n := 1) (q := (1201, [some (.ref p0), some (.ref p1), some (.ref p2), some (.ref p3), some (.int i4), some (.int x400), o6, o7, o8], [.ref p0, .int x401, .ref p2])) (jq qL_law_c16 17 rfl) rfl) ?_
    refine Eq.trans (jb_nx (i := .iload 4) (n := 2) (q := (1203, [some (.ref p0), some (.ref p1), some (.ref p2), some (.ref p3), some (.int i4), some (.int x400), o6, o7, o8], [.int i4, .ref p0, .int x401, .ref p2])) (jq qL_law_c16 18 rfl) rfl) ?_
    refine Eq.trans (jb_nx (i := .iconst 2) (n := 1) (q := (1204, [some (.ref p0), some (.ref p1), some (.ref p2), some (.ref p3), some (.int i4), some (.int x400), o6, o7, o8], [.int 2, .int i4, .ref p0, .int x401, .ref p2])) (jq qL_law_c16 19 rfl) rfl) ?_
    refine Eq.trans (jb_nx (i := .iadd) (n := 1) (q := (1205, [some (.ref p0), some (.ref p1), some (.ref p2), some (.ref p3), some (.int i4), some (.int x400), o6, o7, o8], [.int (i4 + 2), .ref p0, .int x401, .ref p2])) (jq qL_law_c16 20 rfl) rfl) ?_
    obtain ⟨x403, e404, H⟩ := jbd H
    refine Eq.trans (jb_nx (i := .iaload) (n := 1) (q := (1206, [some (.ref p0), some (.ref p1), some (.ref p2), some (.ref p3), some (.int i4), some (.int x400), o6, o7, o8], [.int x403, .int x401, .ref p2])) (jq qL_law_c16 21 rfl) (jo_ial e404)) ?_
    obtain ⟨b421, H⟩ := jm_O_inv H
    rcases jcI H with ⟨x407, h405, r406, H⟩ | ⟨w422, h423, r406, H⟩
    · refine Eq.trans (jb_nx (i := .invokevirtual 187) (n := 3) (q := (1209, [some (.ref p0), some (.ref p1), some (.ref p2), some (.ref p3), some (.int i4), some (.int x400), o6, o7, o8], [.int x407])) (jq qL_law_c16 22 rfl) (jo_cv (y := mX13_isSame) rfl (Nat.le_of_ble_eq_true rfl) rfl (Nat.le_of_ble_eq_true rfl) b421 rfl r406 jo_ret)) ?_
      refine Eq.trans (jb_nx (i := .istore 6) (n := 2) (q := (1211, [some (.ref p0), some (.ref p1), some (.ref p2), some (.ref p3), some (.int i4), some (.int x400), some (.int x407), o7, o8], [])) (jq qL_law_c16 23 rfl) rfl) ?_
      refine Eq.trans (jb_nx (i := .aload_n 2) (n := 1) (q := (1212, [some (.ref p0), some (.ref p1), some (.ref p2), some (.ref p3), some (.int i4), some (.int x400), some (.int x407), o7, o8], [.ref p2])) (jq qL_law_c16 24 rfl) rfl) ?_
      obtain ⟨b418, H⟩ := jm_O_inv H
      rcases jcI H with ⟨x410, h408, r409, H⟩ | ⟨w419, h420, r409, H⟩
      · refine Eq.trans (jb_nx (i := .invokevirtual 108) (n := 3) (q := (1215, [some (.ref p0), some (.ref p1), some (.ref p2), some (.ref p3), some (.int i4), some (.int x400), some (.int x407), o7, o8], [.int x410])) (jq qL_law_c16 25 rfl) (jo_cv (y := mX13_thrown) rfl (Nat.le_of_ble_eq_true rfl) rfl (Nat.le_of_ble_eq_true rfl) b418 rfl r409 jo_ret)) ?_
        refine Eq.trans (jb_nx (i := .iload 5) (n := 2) (q := (1217, [some (.ref p0), some (.ref p1), some (.ref p2), some (.ref p3), some (.int i4), some (.int x400), some (.int x407), o7, o8], [.int x400, .int x410])) (jq qL_law_c16 26 rfl) rfl) ?_
        by_cases c411 : x410 = x400
        · rw [if_pos c411] at H
          refine Eq.trans (jb_nx (i := .if_icmp .eq 5) (n := 3) (q := (1222, [some (.ref p0), some (.ref p1), some (.ref p2), some (.ref p3), some (.int i4), some (.int x400), some (.int x407), o7, o8], [])) (jq qL_law_c16 27 rfl) (jo_icT (jz_eqT c411) rfl)) ?_
          refine Eq.trans (jb_nx (i := .iload 5) (n := 2) (q := (1224, [some (.ref p0), some (.ref p1), some (.ref p2), some (.ref p3), some (.int i4), some (.int x400), some (.int x407), o7, o8], [.int x400])) (jq qL_law_c16 30 rfl) rfl) ?_
          by_cases c412 : x400 = 0
          · rw [if_pos c412] at H
            refine Eq.trans (jb_nx (i := .ifCond .ne 22) (n := 3) (q := (1227, [some (.ref p0), some (.ref p1), some (.ref p2), some (.ref p3), some (.int i4), some (.int x400), some (.int x407), o7, o8], [])) (jq qL_law_c16 31 rfl) (jo_ifF (jz_neF c412))) ?_
            refine Eq.trans (jb_nx (i := .aload_n 3) (n := 1) (q := (1228, [some (.ref p0), some (.ref p1), some (.ref p2), some (.ref p3), some (.int i4), some (.int x400), some (.int x407), o7, o8], [.ref p3])) (jq qL_law_c16 32 rfl) rfl) ?_
            refine Eq.trans (jb_nx (i := .iconst 0) (n := 1) (q := (1229, [some (.ref p0), some (.ref p1), some (.ref p2), some (.ref p3), some (.int i4), some (.int x400), some (.int x407), o7, o8], [.int 0, .ref p3])) (jq qL_law_c16 33 rfl) rfl) ?_
            obtain ⟨y413, e414, H⟩ := jbd H
            refine Eq.trans (jb_nx (i := .laload) (n := 1) (q := (1230, [some (.ref p0), some (.ref p1), some (.ref p2), some (.ref p3), some (.int i4), some (.int x400), some (.int x407), o7, o8], [.long y413])) (jq qL_law_c16 34 rfl) (jo_lal e414)) ?_
            refine Eq.trans (jb_nx (i := .iload 6) (n := 2) (q := (1232, [some (.ref p0), some (.ref p1), some (.ref p2), some (.ref p3), some (.int i4), some (.int x400), some (.int x407), o7, o8], [.int x407, .long y413])) (jq qL_law_c16 35 rfl) rfl) ?_
            by_cases c415 : x407 = 0
            · rw [if_pos c415] at H
              refine Eq.trans (jb_nx (i := .ifCond .eq 7) (n := 3) (q := (1239, [some (.ref p0), some (.ref p1), some (.ref p2), some (.ref p3), some (.int i4), some (.int x400), some (.int x407), o7, o8], [.long y413])) (jq qL_law_c16 36 rfl) (jo_ifT (jz_eqT c415) rfl)) ?_
              refine Eq.trans (jb_nx (i := .lconst 0) (n := 1) (q := (1240, [some (.ref p0), some (.ref p1), some (.ref p2), some (.ref p3), some (.int i4), some (.int x400), some (.int x407), o7, o8], [.long 0, .long y413])) (jq qL_law_c16 39 rfl) rfl) ?_
              refine Eq.trans (jb_nx (i := .lcmp) (n := 1) (q := (1241, [some (.ref p0), some (.ref p1), some (.ref p2), some (.ref p3), some (.int i4), some (.int x400), some (.int x407), o7, o8], [.int (lg_cmp y413 0)])) (jq qL_law_c17 0 rfl) rfl) ?_
              by_cases c416 : (lg_cmp y413 0) = 0
              · rw [if_pos c416] at H
                refine Eq.trans (jb_nx (i := .ifCond .eq 5) (n := 3) (q := (1246, [some (.ref p0), some (.ref p1), some (.ref p2), some (.ref p3), some (.int i4), some (.int x400), some (.int x407), o7, o8], [])) (jq qL_law_c17 1 rfl) (jo_ifT (jz_eqT c416) rfl)) ?_
                refine Eq.trans (jb_nx (i := .goto 736) (n := 3) (q := (1982, [some (.ref p0), some (.ref p1), some (.ref p2), some (.ref p3), some (.int i4), some (.int x400), some (.int x407), o7, o8], [])) (jq qL_law_c17 4 rfl) rfl) ?_
                exact H
              · rw [if_neg c416] at H
                refine Eq.trans (jb_nx (i := .ifCond .eq 5) (n := 3) (q := (1244, [some (.ref p0), some (.ref p1), some (.ref p2), some (.ref p3), some (.int i4), some (.int x400), some (.int x407), o7, o8], [])) (jq qL_law_c17 1 rfl) (jo_ifF (jz_eqF c416))) ?_
                refine Eq.trans (jb_nx (i := .iconst 0) (n := 1) (q := (1245, [some (.ref p0), some (.ref p1), some (.ref p2), some (.ref p3), some (.int i4), some (.int x400), some (.int x407), o7, o8], [.int 0])) (jq qL_law_c17 2 rfl) rfl) ?_
                exact Eq.trans (jb_rt (i := .ireturn) (n := 1) (jq qL_law_c17 3 rfl) (jo_iret rfl (by decide))) H
            · rw [if_neg c415] at H
              refine Eq.trans (jb_nx (i := .ifCond .eq 7) (n := 3) (q := (1235, [some (.ref p0), some (.ref p1), some (.ref p2), some (.ref p3), some (.int i4), some (.int x400), some (.int x407), o7, o8], [.long y413])) (jq qL_law_c16 36 rfl) (jo_ifF (jz_eqF c415))) ?_
              refine Eq.trans (jb_nx (i := .lconst 1) (n := 1) (q := (1236, [some (.ref p0), some (.ref p1), some (.ref p2), some (.ref p3), some (.int i4), some (.int x400), some (.int x407), o7, o8], [.long 1, .long y413])) (jq qL_law_c16 37 rfl) rfl) ?_
              refine Eq.trans (jb_nx (i := .goto 4) (n := 3) (q := (1240, [some (.ref p0), some (.ref p1), some (.ref p2), some (.ref p3), some (.int i4), some (.int x400), some (.int x407), o7, o8], [.long 1, .long y413])) (jq qL_law_c16 38 rfl) rfl) ?_
              refine Eq.trans (jb_nx (i := .lcmp) (n := 1) (q := (1241, [some (.ref p0), some (.ref p1), some (.ref p2), some (.ref p3), some (.int i4), some (.int x400), some (.int x407), o7, o8], [.int (lg_cmp y413 1)])) (jq qL_law_c17 0 rfl) rfl) ?_
              by_cases c417 : (lg_cmp y413 1) = 0
              · rw [if_pos c417] at H
                refine Eq.trans (jb_nx (i := .ifCond .eq 5) (n := 3) (q := (1246, [some (.ref p0), some (.ref p1), some (.ref p2), some (.ref p3), some (.int i4), some (.int x400), some (.int x407), o7, o8], [])) (jq qL_law_c17 1 rfl) (jo_ifT (jz_eqT c417) rfl)) ?_
                refine Eq.trans (jb_nx (i := .goto 736) (n := 3) (q := (1982, [some (.ref p0), some (.ref p1), some (.ref p2), some (.ref p3), some (.int i4), some (.int x400), some (.int x407), o7, o8], [])) (jq qL_law_c17 4 rfl) rfl) ?_
                exact H
              · rw [if_neg c417] at H
                refine Eq.trans (jb_nx (i := .ifCond .eq 5) (n := 3) (q := (1244, [some (.ref p0), some (.ref p1), some (.ref p2), some (.ref p3), some (.int i4), some (.int x400), some (.int x407), o7, o8], [])) (jq qL_law_c17 1 rfl) (jo_ifF (jz_eqF c417))) ?_
                refine Eq.trans (jb_nx (i := .iconst 0) (n := 1) (q := (1245, [some (.ref p0), some (.ref p1), some (.ref p2), some (.ref p3), some (.int i4), some (.int x400), some (.int x407), o7, o8], [.int 0])) (jq qL_law_c17 2 rfl) rfl) ?_
                exact Eq.trans (jb_rt (i := .ireturn) (n := 1) (jq qL_law_c17 3 rfl) (jo_iret rfl (by decide))) H
          · rw [if_neg c412] at H
            refine Eq.trans (jb_nx (i := .ifCond .ne 22) (n := 3) (q := (1246, [some (.ref p0), some (.ref p1), some (.ref p2), some (.ref p3), some (.int i4), some (.int x400), some (.int x407), o7, o8], [])) (jq qL_law_c16 31 rfl) (jo_ifT (jz_neT c412) rfl)) ?_
            refine Eq.trans (jb_nx (i := .goto 736) (n := 3) (q := (1982, [some (.ref p0), some (.ref p1), some (.ref p2), some (.ref p3), some (.int i4), some (.int x400), some (.int x407), o7, o8], [])) (jq qL_law_c17 4 rfl) rfl) ?_
            exact H
        · rw [if_neg c411] at H
          refine Eq.trans (jb_nx (i := .if_icmp .eq 5) (n := 3) (q := (1220, [some (.ref p0), some (.ref p1), some (.ref p2), some (.ref p3), some (.int i4), some (.int x400), some (.int x407), o7, o8], [])) (jq qL_law_c16 27 rfl) (jo_icF (jz_eqF c411))) ?_
          refine Eq.trans (jb_nx (i := .iconst 0) (n := 1) (q := (1221, [some (.ref p0), some (.ref p1), some (.ref p2), some (.ref p3), some (.int i4), some (.int x400), some (.int x407), o7, o8], [.int 0])) (jq qL_law_c16 28 rfl) rfl) ?_
          exact Eq.trans (jb_rt (i := .ireturn) (n := 1) (jq qL_law_c16 29 rfl) (jo_iret rfl (by decide))) H
      · exact Eq.trans (jb_rt (i := .invokevirtual 108) (n := 3) (jq qL_law_c16 25 rfl) (jo_cv (y := mX13_thrown) rfl (Nat.le_of_ble_eq_true rfl) rfl (Nat.le_of_ble_eq_true rfl) b418 rfl r409 (jo_exn rfl))) H
    · exact Eq.trans (jb_rt (i := .invokevirtual 187) (n := 3) (jq qL_law_c16 22 rfl) (jo_cv (y := mX13_isSame) rfl (Nat.le_of_ble_eq_true rfl) rfl (Nat.le_of_ble_eq_true rfl) b421 rfl r406 (jo_exn rfl))) H
  · exact Eq.trans (jb_rt (i := .invokestatic 185) (n := 3) (jq qL_law_c16 9 rfl) (jo_cs (y := mL_isSame) (w := 4) (by decide) rfl (Nat.le_of_ble_eq_true rfl) rfl (Nat.le_of_ble_eq_true rfl) rfl r399 (jo_exn rfl))) H
theorem gL_law_1118 {d : Nat} {p0 : Nat} {p1 : Nat} {p2 : Nat} {p3 : Nat} {i4 : Int32} {o5 : Option Value} {o6 : Option Value} {o7 : Option Value} {o8 : Option Value} {h : jm_H} {r : jm_R} (H : ((jm_ali h p0 0 (i4 + 1)).bind fun x426 => jc_I (jm_D d mL_renamedByStep [.ref p1, .int x426, .ref p3] h) (fun x430 h428 => (jm_ali h428 p0 0 (i4 + 1)).bind fun x431 => jm_O h428 p2 13 (jc_I (jm_D d mX13_renamedByStep [.ref p2, .int x431] h428) (fun x435 h433 => jm_O h433 p2 13 (jc_I (jm_D d mX13_thrown [.ref p2] h433) (fun x438 h436 => (if x438 = x430 then (if x430 = 0 then (jm_all h436 p3 0).bind fun y441 => (if (lg_cmp y441 x435.toInt64) = 0 then kL_law_1982 d p0 p1 p2 p3 i4 (some (.int x430)) (some (.int x435)) o7 o8 h436 else some (.inl (some (.int 0)), h436)) else kL_law_1982 d p0 p1 p2 p3 i4 (some (.int x430)) (some (.int x435)) o7 o8 h436) else some (.inl (some (.int 0)), h436))) jx)) jx)) jx) = some r) : kL_law_1118 d p0 p1 p2 p3 i4 o5 o6 o7 o8 h = some r := by
  show jm_B d mL_law (1118, [some (.ref p0), some (.ref p1), some (.ref p2), some (.ref p3), some (.int i4), o5, o6, o7, o8], []) h = some r
  refine Eq.trans (jb_nx (i := .aload_n 1) (n := 1) (q := (1119, [some (.ref p0), some (.ref p1), some (.ref p2), some (.ref p3), some (.int i4), o5, o6, o7, o8], [.ref p1])) (jq qL_law_c15 2 rfl) rfl) ?_
  refine Eq.trans (jb_nx (i := .aload_n 0) (n := 1) (q := (1120, [some (.ref p0), some (.ref p1), some (.ref p2), some (.ref p3), some (.int i4), o5, o6, o7, o8], [.ref p0, .ref p1])) (jq qL_law_c15 3 rfl) rfl) ?_
  refine Eq.trans (jb_nx (i := .iload 4) (n := 2) (q := (1122, [some (.ref p0), some (.ref p1), some (.ref p2), some (.ref p3), some (.int i4), o5, o6, o7, o8], [.int i4, .ref p0, .ref p1])) (jq qL_law_c15 4 rfl) rfl) ?_
  refine Eq.trans (jb_nx (i := .iconst 1) (n := 1) (q := (1123, [some (.ref p0), some (.ref p1), some (.ref p2), some (.ref p3), some (.int i4), o5, o6, o7, o8], [.int 1, .int i4, .ref p0, .ref p1])) (jq qL_law_c15 5 rfl) rfl) ?_
  refine Eq.trans (jb_nx (i := .iadd) (n := 1) (q := (1124, [some (.ref p0), some (.ref p1), some (.ref p2), some (.ref p3), some (.int i4), o5, o6, o7, o8], [.int (i4 + 1), .ref p0, .ref p1])) (jq qL_law_c15 6 rfl) rfl) ?_
  obtain ⟨x426, e427, H⟩ := jbd H
  refine Eq.trans (jb_nx (i := .iaload) (n := 1) (q := (1125, [some (.ref p0), some (.ref p1), some (.ref p2), some (.ref p3), some (.int i4), o5, o6, o7, o8], [.int x426, .ref p1])) (jq qL_law_c15 7 rfl) (jo_ial e427)) ?_
  refine Eq.trans (jb_nx (i := .aload_n 3) (n := 1) (q := (1126, [some (.ref p0), some (.ref p1), some (.ref p2), some (.ref p3), some (.int i4), o5, o6, o7, o8], [.ref p3, .int x426, .ref p1])) (jq qL_law_c15 8 rfl) rfl) ?_
  rcases jcI H with ⟨x430, h428, r429, H⟩ | ⟨w450, h451, r429, H⟩
  · refine Eq.trans (jb_nx (i := .invokestatic 182) (n := 3) (q := (1129, [some (.ref p0), some (.ref p1), some (.ref p2), some (.ref p3), some (.int i4), o5, o6, o7, o8], [.int x430])) (jq qL_law_c15 9 rfl) (jo_cs (y := mL_renamedByStep) (w := 4) (by decide) rfl (Nat.le_of_ble_eq_true rfl) rfl (Nat.le_of_ble_eq_true rfl) rfl r429 jo_ret)) ?_
    refine Eq.trans (jb_nx (i := .istore 5) (n := 2) (q := (1131, [some (.ref p0), some (.ref p1), some (.ref p2), some (.ref p3), some (.int i4), some (.int x430), o6, o7, o8], [])) (jq qL_law_c15 10 rfl) rfl) ?_
    refine Eq.trans (jb_nx (i := .aload_n 2) (n := 1) (q := (1132, [some (.ref p0), some (.ref p1), some (.ref p2), some (.ref p3), some (.int i4), some (.int x430), o6, o7, o8], [.ref p2])) (jq qL_law_c15 11 rfl) rfl) ?_
    refine Eq.trans (jb_nx (i := .aload_n 0) (n := 1) (q := (1133, [some (.ref p0), some (.ref p1), some (.ref p2), some (.ref p3), some (.int i4), some (.int x430), o6, o7, o8], [.ref p0, .ref p2])) (jq qL_law_c15 12 rfl) rfl) ?_
    refine Eq.trans (jb_nx (i := .iload 4) (n := 2) (q := (1135, [some (.ref p0), some (.ref p1), some (.ref p2), some (.ref p3), some (.int i4), some (.int x430), o6, o7, o8], [.int i4, .ref p0, .ref p2])) (jq qL_law_c15 13 rfl) rfl) ?_
    refine Eq.trans (jb_nx (i := .iconst 1) (n := 1) (q := (1136, [some (.ref p0), some (.ref p1), some (.ref p2), some (.ref p3), some (.int i4), some (.int x430), o6, o7, o8], [.int 1, .int i4, .ref p0, .ref p2])) (jq qL_law_c15 14 rfl) rfl) ?_
    refine Eq.trans (jb_nx (i := .iadd) (n := 1) (q := (1137, [some (.ref p0), some (.ref p1), some (.ref p2), some (.ref p3), some (.int i4), some (.int x430), o6, o7, o8], [.int (i4 + 1), .ref p0, .ref p2])) (jq qL_law_c15 15 rfl) rfl) ?_
    obtain ⟨x431, e432, H⟩ := jbd H
    refine Eq.trans (jb_nx (i := .iaload) (n := 1) (q := (1138, [some (.ref p0), some (.ref p1), some (.ref p2), some (.ref p3), some (.int i4), some (.int x430), o6, o7, o8], [.int x431, .ref p2])) (jq qL_law_c15 16 rfl) (jo_ial e432)) ?_
    obtain ⟨b447, H⟩ := jm_O_inv H
    rcases jcI H with ⟨x435, h433, r434, H⟩ | ⟨w448, h449, r434, H⟩
    · refine Eq.trans (jb_nx (i := .invokevirtual 184) (n := 3) (q := (1141, [some (.ref p0), some (.ref p1), some (.ref p2), some (.ref p3), some (.int i4), some (.int x430), o6, o7, o8], [.int x435])) (jq qL_law_c15 17 rfl) (jo_cv (y := mX13_renamedByStep) rfl (Nat.le_of_ble_eq_true rfl) rfl (Nat.le_of_ble_eq_true rfl) b447 rfl r434 jo_ret)) ?_
      refine Eq.trans (jb_nx (i := .istore 6) (n := 2) (q := (1143, [some (.ref p0), some (.ref p1), some (.ref p2), some (.ref p3), some (.int i4), some (.int x430), some (.int x435), o7, o8], [])) (jq qL_law_c15 18 rfl) rfl) ?_
      refine Eq.trans (jb_nx (i := .aload_n 2) (n := 1) (q := (1144, [some (.ref p0), some (.ref p1), some (.ref p2), some (.ref p3), some (.int i4), some (.int x430), some (.int x435), o7, o8], [.ref p2])) (jq qL_law_c15 19 rfl) rfl) ?_
      obtain ⟨b444, H⟩ := jm_O_inv H
      rcases jcI H with ⟨x438, h436, r437, H⟩ | ⟨w445, h446, r437, H⟩
      · refine Eq.trans (jb_nx (i := .invokevirtual 108) (n := 3) (q := (1147, [some (.ref p0), some (.ref p1), some (.ref p2), some (.ref p3), some (.int i4), some (.int x430), some (.int x435), o7, o8], [.int x438])) (jq qL_law_c15 20 rfl) (jo_cv (y := mX13_thrown) rfl (Nat.le_of_ble_eq_true rfl) rfl (Nat.le_of_ble_eq_true rfl) b444 rfl r437 jo_ret)) ?_
        refine Eq.trans (jb_nx (i := .iload 5) (n := 2) (q := (1149, [some (.ref p0), some (.ref p1), some (.ref p2), some (.ref p3), some (.int i4), some (.int x430), some (.int x435), o7, o8], [.int x430, .int x438])) (jq qL_law_c15 21 rfl) rfl) ?_
        by_cases c439 : x438 = x430
        · rw [if_pos c439] at H
          refine Eq.trans (jb_nx (i := .if_icmp .eq 5) (n := 3) (q := (1154, [some (.ref p0), some (.ref p1), some (.ref p2), some (.ref p3), some (.int i4), some (.int x430), some (.int x435), o7, o8], [])) (jq qL_law_c15 22 rfl) (jo_icT (jz_eqT c439) rfl)) ?_
          refine Eq.trans (jb_nx (i := .iload 5) (n := 2) (q := (1156, [some (.ref p0), some (.ref p1), some (.ref p2), some (.ref p3), some (.int i4), some (.int x430), some (.int x435), o7, o8], [.int x430])) (jq qL_law_c15 25 rfl) rfl) ?_
          by_cases c440 : x430 = 0
          · rw [if_pos c440] at H
            refine Eq.trans (jb_nx (i := .ifCond .ne 15) (n := 3) (q := (1159, [some (.ref p0), some (.ref p1), some (.ref p2), some (.ref p3), some (.int i4), some (.int x430), some (.int x435), o7, o8], [])) (jq qL_law_c15 26 rfl) (jo_ifF (jz_neF c440))) ?_
            refine Eq.trans (jb_nx (i := .aload_n 3) (n := 1) (q := (1160, [some (.ref p0), some (.ref p1), some (.ref p2), some (.ref p3), some (.int i4), some (.int x430), some (.int x435), o7, o8], [.ref p3])) (jq qL_law_c15 27 rfl) rfl) ?_
            refine Eq.trans (jb_nx (i := .iconst 0) (n := 1) (q := (1161, [some (.ref p0), some (.ref p1), some (.ref p2), some (.ref p3), some (.int i4), some (.int x430), some (.int x435), o7, o8], [.int 0, .ref p3])) (jq qL_law_c15 28 rfl) rfl) ?_
            obtain ⟨y441, e442, H⟩ := jbd H
            refine Eq.trans (jb_nx (i := .laload) (n := 1) (q := (1162, [some (.ref p0), some (.ref p1), some (.ref p2), some (.ref p3), some (.int i4), some (.int x430), some (.int x435), o7, o8], [.long y441])) (jq qL_law_c15 29 rfl) (jo_lal e442)) ?_
            refine Eq.trans (jb_nx (i := .iload 6) (n := 2) (q := (1164, [some (.ref p0), some (.ref p1), some (.ref p2), some (.ref p3), some (.int i4), some (.int x430), some (.int x435), o7, o8], [.int x435, .long y441])) (jq qL_law_c15 30 rfl) rfl) ?_
            refine Eq.trans (jb_nx (i := .i2l) (n := 1) (q := (1165, [some (.ref p0), some (.ref p1), some (.ref p2), some (.ref p3), some (.int i4), some (.int x430), some (.int x435), o7, o8], [.long x435.toInt64, .long y441])) (jq qL_law_c15 31 rfl) rfl) ?_
            refine Eq.trans (jb_nx (i := .lcmp) (n := 1) (q := (1166, [some (.ref p0), some (.ref p1), some (.ref p2), some (.ref p3), some (.int i4), some (.int x430), some (.int x435), o7, o8], [.int (lg_cmp y441 x435.toInt64)])) (jq qL_law_c15 32 rfl) rfl) ?_
            by_cases c443 : (lg_cmp y441 x435.toInt64) = 0
            · rw [if_pos c443] at H
              refine Eq.trans (jb_nx (i := .ifCond .eq 5) (n := 3) (q := (1171, [some (.ref p0), some (.ref p1), some (.ref p2), some (.ref p3), some (.int i4), some (.int x430), some (.int x435), o7, o8], [])) (jq qL_law_c15 33 rfl) (jo_ifT (jz_eqT c443) rfl)) ?_
              refine Eq.trans (jb_nx (i := .goto 811) (n := 3) (q := (1982, [some (.ref p0), some (.ref p1), some (.ref p2), some (.ref p3), some (.int i4), some (.int x430), some (.int x435), o7, o8], [])) (jq qL_law_c15 36 rfl) rfl) ?_
              exact H
            · rw [if_neg c443] at H
              refine Eq.trans (jb_nx (i := .ifCond .eq 5) (n := 3) (q := (1169, [some (.ref p0), some (.ref p1), some (.ref p2), some (.ref p3), some (.int i4), some (.int x430), some (.int x435), o7, o8], [])) (jq qL_law_c15 33 rfl) (jo_ifF (jz_eqF c443))) ?_
              refine Eq.trans (jb_nx (i := .iconst 0) (n := 1) (q := (1170, [some (.ref p0), some (.ref p1), some (.ref p2), some (.ref p3), some (.int i4), some (.int x430), some (.int x435), o7, o8], [.int 0])) (jq qL_law_c15 34 rfl) rfl) ?_
              exact Eq.trans (jb_rt (i := .ireturn) (n := 1) (jq qL_law_c15 35 rfl) (jo_iret rfl (by decide))) H
          · rw [if_neg c440] at H
            refine Eq.trans (jb_nx (i := .ifCond .ne 15) (n := 3) (q := (1171, [some (.ref p0), some (.ref p1), some (.ref p2), some (.ref p3), some (.int i4), some (.int x430), some (.int x435), o7, o8], [])) (jq qL_law_c15 26 rfl) (jo_ifT (jz_neT c440) rfl)) ?_
            refine Eq.trans (jb_nx (i := .goto 811) (n := 3) (q := (1982, [some (.ref p0), some (.ref p1), some (.ref p2), some (.ref p3), some (.int i4), some (.int x430), some (.int x435), o7, o8], [])) (jq qL_law_c15 36 rfl) rfl) ?_
            exact H
        · rw [if_neg c439] at H
          refine Eq.trans (jb_nx (i := .if_icmp .eq 5) (n := 3) (q := (1152, [some (.ref p0), some (.ref p1), some (.ref p2), some (.ref p3), some (.int i4), some (.int x430), some (.int x435), o7, o8], [])) (jq qL_law_c15 22 rfl) (jo_icF (jz_eqF c439))) ?_
          refine Eq.trans (jb_nx (i := .iconst 0) (n := 1) (q := (1153, [some (.ref p0), some (.ref p1), some (.ref p2), some (.ref p3), some (.int i4), some (.int x430), some (.int x435), o7, o8], [.int 0])) (jq qL_law_c15 23 rfl) rfl) ?_
          exact Eq.trans (jb_rt (i := .ireturn) (n := 1) (jq qL_law_c15 24 rfl) (jo_iret rfl (by decide))) H
      · exact Eq.trans (jb_rt (i := .invokevirtual 108) (n := 3) (jq qL_law_c15 20 rfl) (jo_cv (y := mX13_thrown) rfl (Nat.le_of_ble_eq_true rfl) rfl (Nat.le_of_ble_eq_true rfl) b444 rfl r437 (jo_exn rfl))) H
    · exact Eq.trans (jb_rt (i := .invokevirtual 184) (n := 3) (jq qL_law_c15 17 rfl) (jo_cv (y := mX13_renamedByStep) rfl (Nat.le_of_ble_eq_true rfl) rfl (Nat.le_of_ble_eq_true rfl) b447 rfl r434 (jo_exn rfl))) H
  · exact Eq.trans (jb_rt (i := .invokestatic 182) (n := 3) (jq qL_law_c15 9 rfl) (jo_cs (y := mL_renamedByStep) (w := 4) (by decide) rfl (Nat.le_of_ble_eq_true rfl) rfl (Nat.le_of_ble_eq_true rfl) rfl r429 (jo_exn rfl))) H
theorem gL_law_1062 {d : Nat} {p0 : Nat} {p1 : Nat} {p2 : Nat} {p3 : Nat} {i4 : Int32} {o5 : Option Value} {o6 : Option Value} {o7 : Option Value} {o8 : Option Value} {h : jm_H} {r : jm_R} (H : ((jm_ali h p0 0 (i4 + 1)).bind fun x452 => jc_I (jm_D d mL_nextSceneAt [.ref p1, .int x452, .ref p3] h) (fun x456 h454 => (jm_ali h454 p0 0 (i4 + 1)).bind fun x457 => jm_O h454 p2 13 (jc_I (jm_D d mX13_nextSceneAt [.ref p2, .int x457] h454) (fun x461 h459 => jm_O h459 p2 13 (jc_I (jm_D d mX13_thrown [.ref p2] h459) (fun x464 h462 => (if x464 = x456 then (if x456 = 0 then (jm_all h462 p3 0).bind fun y467 => (if (lg_cmp y467 x461.toInt64) = 0 then kL_law_1982 d p0 p1 p2 p3 i4 (some (.int x456)) (some (.int x461)) o7 o8 h462 else some (.inl (some (.int 0)), h462)) else kL_law_1982 d p0 p1 p2 p3 i4 (some (.int x456)) (some (.int x461)) o7 o8 h462) else some (.inl (some (.int 0)), h462))) jx)) jx)) jx) = some r) : kL_law_1062 d p0 p1 p2 p3 i4 o5 o6 o7 o8 h = some r := by
  show jm_B d mL_law (1062, [some (.ref p0), some (.ref p1), some (.ref p2), some (.ref p3), some (.int i4), o5, o6, o7, o8], []) h = some r
  refine Eq.trans (jb_nx (i := .aload_n 1) (n := 1) (q := (1063, [some (.ref p0), some (.ref p1), some (.ref p2), some (.ref p3), some (.int i4), o5, o6, o7, o8], [.ref p1])) (jq qL_law_c14 7 rfl) rfl) ?_
  refine Eq.trans (jb_nx (i := .aload_n 0) (n := 1) (q := (1064, [some (.ref p0), some (.ref p1), some (.ref p2), some (.ref p3), some (.int i4), o5, o6, o7, o8], [.ref p0, .ref p1])) (jq qL_law_c14 8 rfl) rfl) ?_
  refine Eq.trans (jb_nx (i := .iload 4) (n := 2) (q := (1066, [some (.ref p0), some (.ref p1), some (.ref p2), some (.ref p3), some (.int i4), o5, o6, o7, o8], [.int i4, .ref p0, .ref p1])) (jq qL_law_c14 9 rfl) rfl) ?_
  refine Eq.trans (jb_nx (i := .iconst 1) (n := 1) (q := (1067, [some (.ref p0), some (.ref p1), some (.ref p2), some (.ref p3), some (.int i4), o5, o6, o7, o8], [.int 1, .int i4, .ref p0, .ref p1])) (jq qL_law_c14 10 rfl) rfl) ?_
  refine Eq.trans (jb_nx (i := .iadd) (n := 1) (q := (1068, [some (.ref p0), some (.ref p1), some (.ref p2), some (.ref p3), some (.int i4), o5, o6, o7, o8], [.int (i4 + 1), .ref p0, .ref p1])) (jq qL_law_c14 11 rfl) rfl) ?_
  obtain ⟨x452, e453, H⟩ := jbd H
  refine Eq.trans (jb_nx (i := .iaload) (n := 1) (q := (1069, [some (.ref p0), some (.ref p1), some (.ref p2), some (.ref p3), some (.int i4), o5, o6, o7, o8], [.int x452, .ref p1])) (jq qL_law_c14 12 rfl) (jo_ial e453)) ?_
  refine Eq.trans (jb_nx (i := .aload_n 3) (n := 1) (q := (1070, [some (.ref p0), some (.ref p1), some (.ref p2), some (.ref p3), some (.int i4), o5, o6, o7, o8], [.ref p3, .int x452, .ref p1])) (jq qL_law_c14 13 rfl) rfl) ?_
  rcases jcI H with ⟨x456, h454, r455, H⟩ | ⟨w476, h477, r455, H⟩
  · refine Eq.trans (jb_nx (i := .invokestatic 179) (n := 3) (q := (1073, [some (.ref p0), some (.ref p1), some (.ref p2), some (.ref p3), some (.int i4), o5, o6, o7, o8], [.int x456])) (jq qL_law_c14 14 rfl) (jo_cs (y := mL_nextSceneAt) (w := 4) (by decide) rfl (Nat.le_of_ble_eq_true rfl) rfl (Nat.le_of_ble_eq_true rfl) rfl r455 jo_ret)) ?_
    refine Eq.trans (jb_nx (i := .istore 5) (n := 2) (q := (1075, [some (.ref p0), some (.ref p1), some (.ref p2), some (.ref p3), some (.int i4), some (.int x456), o6, o7, o8], [])) (jq qL_law_c14 15 rfl) rfl) ?_
    refine Eq.trans (jb_nx (i := .aload_n 2) (n := 1) (q := (1076, [some (.ref p0), some (.ref p1), some (.ref p2), some (.ref p3), some (.int i4), some (.int x456), o6, o7, o8], [.ref p2])) (jq qL_law_c14 16 rfl) rfl) ?_
    refine Eq.trans (jb_nx (i := .aload_n 0) (n := 1) (q := (1077, [some (.ref p0), some (.ref p1), some (.ref p2), some (.ref p3), some (.int i4), some (.int x456), o6, o7, o8], [.ref p0, .ref p2])) (jq qL_law_c14 17 rfl) rfl) ?_
    refine Eq.trans (jb_nx (i := .iload 4) (n := 2) (q := (1079, [some (.ref p0), some (.ref p1), some (.ref p2), some (.ref p3), some (.int i4), some (.int x456), o6, o7, o8], [.int i4, .ref p0, .ref p2])) (jq qL_law_c14 18 rfl) rfl) ?_
    refine Eq.trans (jb_nx (i := .iconst 1) (n := 1) (q := (1080, [some (.ref p0), some (.ref p1), some (.ref p2), some (.ref p3), some (.int i4), some (.int x456), o6, o7, o8], [.int 1, .int i4, .ref p0, .ref p2])) (jq qL_law_c14 19 rfl) rfl) ?_
    refine Eq.trans (jb_nx (i := .iadd) (n := 1) (q := (1081, [some (.ref p0), some (.ref p1), some (.ref p2), some (.ref p3), some (.int i4), some (.int x456), o6, o7, o8], [.int (i4 + 1), .ref p0, .ref p2])) (jq qL_law_c14 20 rfl) rfl) ?_
    obtain ⟨x457, e458, H⟩ := jbd H
    refine Eq.trans (jb_nx (i := .iaload) (n := 1) (q := (1082, [some (.ref p0), some (.ref p1), some (.ref p2), some (.ref p3), some (.int i4), some (.int x456), o6, o7, o8], [.int x457, .ref p2])) (jq qL_law_c14 21 rfl) (jo_ial e458)) ?_
    obtain ⟨b473, H⟩ := jm_O_inv H
    rcases jcI H with ⟨x461, h459, r460, H⟩ | ⟨w474, h475, r460, H⟩
    · refine Eq.trans (jb_nx (i := .invokevirtual 181) (n := 3) (q := (1085, [some (.ref p0), some (.ref p1), some (.ref p2), some (.ref p3), some (.int i4), some (.int x456), o6, o7, o8], [.int x461])) (jq qL_law_c14 22 rfl) (jo_cv (y := mX13_nextSceneAt) rfl (Nat.le_of_ble_eq_true rfl) rfl (Nat.le_of_ble_eq_true rfl) b473 rfl r460 jo_ret)) ?_
      refine Eq.trans (jb_nx (i := .istore 6) (n := 2) (q := (1087, [some (.ref p0), some (.ref p1), some (.ref p2), some (.ref p3), some (.int i4), some (.int x456), some (.int x461), o7, o8], [])) (jq qL_law_c14 23 rfl) rfl) ?_
      refine Eq.trans (jb_nx (i := .aload_n 2) (n := 1) (q := (1088, [some (.ref p0), some (.ref p1), some (.ref p2), some (.ref p3), some (.int i4), some (.int x456), some (.int x461), o7, o8], [.ref p2])) (jq qL_law_c14 24 rfl) rfl) ?_
      obtain ⟨b470, H⟩ := jm_O_inv H
      rcases jcI H with ⟨x464, h462, r463, H⟩ | ⟨w471, h472, r463, H⟩
      · refine Eq.trans (jb_nx (i := .invokevirtual 108) (n := 3) (q := (1091, [some (.ref p0), some (.ref p1), some (.ref p2), some (.ref p3), some (.int i4), some (.int x456), some (.int x461), o7, o8], [.int x464])) (jq qL_law_c14 25 rfl) (jo_cv (y := mX13_thrown) rfl (Nat.le_of_ble_eq_true rfl) rfl (Nat.le_of_ble_eq_true rfl) b470 rfl r463 jo_ret)) ?_
        refine Eq.trans (jb_nx (i := .iload 5) (n := 2) (q := (1093, [some (.ref p0), some (.ref p1), some (.ref p2), some (.ref p3), some (.int i4), some (.int x456), some (.int x461), o7, o8], [.int x456, .int x464])) (jq qL_law_c14 26 rfl) rfl) ?_
        by_cases c465 : x464 = x456
        · rw [if_pos c465] at H
          refine Eq.trans (jb_nx (i := .if_icmp .eq 5) (n := 3) (q := (1098, [some (.ref p0), some (.ref p1), some (.ref p2), some (.ref p3), some (.int i4), some (.int x456), some (.int x461), o7, o8], [])) (jq qL_law_c14 27 rfl) (jo_icT (jz_eqT c465) rfl)) ?_
          refine Eq.trans (jb_nx (i := .iload 5) (n := 2) (q := (1100, [some (.ref p0), some (.ref p1), some (.ref p2), some (.ref p3), some (.int i4), some (.int x456), some (.int x461), o7, o8], [.int x456])) (jq qL_law_c14 30 rfl) rfl) ?_
          by_cases c466 : x456 = 0
          · rw [if_pos c466] at H
            refine Eq.trans (jb_nx (i := .ifCond .ne 15) (n := 3) (q := (1103, [some (.ref p0), some (.ref p1), some (.ref p2), some (.ref p3), some (.int i4), some (.int x456), some (.int x461), o7, o8], [])) (jq qL_law_c14 31 rfl) (jo_ifF (jz_neF c466))) ?_
            refine Eq.trans (jb_nx (i := .aload_n 3) (n := 1) (q := (1104, [some (.ref p0), some (.ref p1), some (.ref p2), some (.ref p3), some (.int i4), some (.int x456), some (.int x461), o7, o8], [.ref p3])) (jq qL_law_c14 32 rfl) rfl) ?_
            refine Eq.trans (jb_nx (i := .iconst 0) (n := 1) (q := (1105, [some (.ref p0), some (.ref p1), some (.ref p2), some (.ref p3), some (.int i4), some (.int x456), some (.int x461), o7, o8], [.int 0, .ref p3])) (jq qL_law_c14 33 rfl) rfl) ?_
            obtain ⟨y467, e468, H⟩ := jbd H
            refine Eq.trans (jb_nx (i := .laload) (n := 1) (q := (1106, [some (.ref p0), some (.ref p1), some (.ref p2), some (.ref p3), some (.int i4), some (.int x456), some (.int x461), o7, o8], [.long y467])) (jq qL_law_c14 34 rfl) (jo_lal e468)) ?_
            refine Eq.trans (jb_nx (i := .iload 6) (n := 2) (q := (1108, [some (.ref p0), some (.ref p1), some (.ref p2), some (.ref p3), some (.int i4), some (.int x456), some (.int x461), o7, o8], [.int x461, .long y467])) (jq qL_law_c14 35 rfl) rfl) ?_
            refine Eq.trans (jb_nx (i := .i2l) (n := 1) (q := (1109, [some (.ref p0), some (.ref p1), some (.ref p2), some (.ref p3), some (.int i4), some (.int x456), some (.int x461), o7, o8], [.long x461.toInt64, .long y467])) (jq qL_law_c14 36 rfl) rfl) ?_
            refine Eq.trans (jb_nx (i := .lcmp) (n := 1) (q := (1110, [some (.ref p0), some (.ref p1), some (.ref p2), some (.ref p3), some (.int i4), some (.int x456), some (.int x461), o7, o8], [.int (lg_cmp y467 x461.toInt64)])) (jq qL_law_c14 37 rfl) rfl) ?_
            by_cases c469 : (lg_cmp y467 x461.toInt64) = 0
            · rw [if_pos c469] at H
              refine Eq.trans (jb_nx (i := .ifCond .eq 5) (n := 3) (q := (1115, [some (.ref p0), some (.ref p1), some (.ref p2), some (.ref p3), some (.int i4), some (.int x456), some (.int x461), o7, o8], [])) (jq qL_law_c14 38 rfl) (jo_ifT (jz_eqT c469) rfl)) ?_
              refine Eq.trans (jb_nx (i := .goto 867) (n := 3) (q := (1982, [some (.ref p0), some (.ref p1), some (.ref p2), some (.ref p3), some (.int i4), some (.int x456), some (.int x461), o7, o8], [])) (jq qL_law_c15 1 rfl) rfl) ?_
              exact H
            · rw [if_neg c469] at H
              refine Eq.trans (jb_nx (i := .ifCond .eq 5) (n := 3) (q := (1113, [some (.ref p0), some (.ref p1), some (.ref p2), some (.ref p3), some (.int i4), some (.int x456), some (.int x461), o7, o8], [])) (jq qL_law_c14 38 rfl) (jo_ifF (jz_eqF c469))) ?_
              refine Eq.trans (jb_nx (i := .iconst 0) (n := 1) (q := (1114, [some (.ref p0), some (.ref p1), some (.ref p2), some (.ref p3), some (.int i4), some (.int x456), some (.int x461), o7, o8], [.int 0])) (jq qL_law_c14 39 rfl) rfl) ?_
              exact Eq.trans (jb_rt (i := .ireturn) (n := 1) (jq qL_law_c15 0 rfl) (jo_iret rfl (by decide))) H
          · rw [if_neg c466] at H
            refine Eq.trans (jb_nx (i := .ifCond .ne 15) (n := 3) (q := (1115, [some (.ref p0), some (.ref p1), some (.ref p2), some (.ref p3), some (.int i4), some (.int x456), some (.int x461), o7, o8], [])) (jq qL_law_c14 31 rfl) (jo_ifT (jz_neT c466) rfl)) ?_
            refine Eq.trans (jb_nx (i := .goto 867) (n := 3) (q := (1982, [some (.ref p0), some (.ref p1), some (.ref p2), some (.ref p3), some (.int i4), some (.int x456), some (.int x461), o7, o8], [])) (jq qL_law_c15 1 rfl) rfl) ?_
            exact H
        · rw [if_neg c465] at H
          refine Eq.trans (jb_nx (i := .if_icmp .eq 5) (n := 3) (q := (1096, [some (.ref p0), some (.ref p1), some (.ref p2), some (.ref p3), some (.int i4), some (.int x456), some (.int x461), o7, o8], [])) (jq qL_law_c14 27 rfl) (jo_icF (jz_eqF c465))) ?_
          refine Eq.trans (jb_nx (i := .iconst 0) (n := 1) (q := (1097, [some (.ref p0), some (.ref p1), some (.ref p2), some (.ref p3), some (.int i4), some (.int x456), some (.int x461), o7, o8], [.int 0])) (jq qL_law_c14 28 rfl) rfl) ?_
          exact Eq.trans (jb_rt (i := .ireturn) (n := 1) (jq qL_law_c14 29 rfl) (jo_iret rfl (by decide))) H
      · exact Eq.trans (jb_rt (i := .invokevirtual 108) (n := 3) (jq qL_law_c14 25 rfl) (jo_cv (y := mX13_thrown) rfl (Nat.le_of_ble_eq_true rfl) rfl (Nat.le_of_ble_eq_true rfl) b470 rfl r463 (jo_exn rfl))) H
    · exact Eq.trans (jb_rt (i := .invokevirtual 181) (n := 3) (jq qL_law_c14 22 rfl) (jo_cv (y := mX13_nextSceneAt) rfl (Nat.le_of_ble_eq_true rfl) rfl (Nat.le_of_ble_eq_true rfl) b473 rfl r460 (jo_exn rfl))) H
  · exact Eq.trans (jb_rt (i := .invokestatic 179) (n := 3) (jq qL_law_c14 14 rfl) (jo_cs (y := mL_nextSceneAt) (w := 4) (by decide) rfl (Nat.le_of_ble_eq_true rfl) rfl (Nat.le_of_ble_eq_true rfl) rfl r455 (jo_exn rfl))) H
theorem gL_law_994 {d : Nat} {p0 : Nat} {p1 : Nat} {p2 : Nat} {p3 : Nat} {i4 : Int32} {o5 : Option Value} {o6 : Option Value} {o7 : Option Value} {o8 : Option Value} {h : jm_H} {r : jm_R} (H : ((jm_ali h p0 0 (i4 + 1)).bind fun x478 => (jm_ali h p0 0 (i4 + 2)).bind fun x480 => jc_I (jm_D d mL_letterAt [.ref p1, .int x478, .int x480, .ref p3] h) (fun x484 h482 => (jm_ali h482 p0 0 (i4 + 1)).bind fun x485 => (jm_ali h482 p0 0 (i4 + 2)).bind fun x487 => jm_O h482 p2 13 (jc_I (jm_D d mX13_letterAt [.ref p2, .int x485, .int x487] h482) (fun x491 h489 => jm_O h489 p2 13 (jc_I (jm_D d mX13_thrown [.ref p2] h489) (fun x494 h492 => (if x494 = x484 then (if x484 = 0 then (jm_all h492 p3 0).bind fun y497 => (if (lg_cmp y497 x491.toInt64) = 0 then kL_law_1982 d p0 p1 p2 p3 i4 (some (.int x484)) (some (.int x491)) o7 o8 h492 else some (.inl (some (.int 0)), h492)) else kL_law_1982 d p0 p1 p2 p3 i4 (some (.int x484)) (some (.int x491)) o7 o8 h492) else some (.inl (some (.int 0)), h492))) jx)) jx)) jx) = some r) : kL_law_994 d p0 p1 p2 p3 i4 o5 o6 o7 o8 h = some r := by
  show jm_B d mL_law (994, [some (.ref p0), some (.ref p1), some (.ref p2), some (.ref p3), some (.int i4), o5, o6, o7, o8], []) h = some r
  refine Eq.trans (jb_nx (i := .aload_n 1) (n := 1) (q := (995, [some (.ref p0), some (.ref p1), some (.ref p2), some (.ref p3), some (.int i4), o5, o6, o7, o8], [.ref p1])) (jq qL_law_c13 2 rfl) rfl) ?_
  refine Eq.trans (jb_nx (i := .aload_n 0) (n := 1) (q := (996, [some (.ref p0), some (.ref p1), some (.ref p2), some (.ref p3), some (.int i4), o5, o6, o7, o8], [.ref p0, .ref p1])) (jq qL_law_c13 3 rfl) rfl) ?_
  refine Eq.trans (jb_nx (i := .iload 4) (n := 2) (q := (998, [some (.ref p0), some (.ref p1), some (.ref p2), some (.ref p3), some (.int i4), o5, o6, o7, o8], [.int i4, .ref p0, .ref p1])) (jq qL_law_c13 4 rfl) rfl) ?_
  refine Eq.trans (jb_nx (i := .iconst 1) (n := 1) (q := (999, [some (.ref p0), some (.ref p1), some (.ref p2), some (.ref p3), some (.int i4), o5, o6, o7, o8], [.int 1, .int i4, .ref p0, .ref p1])) (jq qL_law_c13 5 rfl) rfl) ?_
  refine Eq.trans (jb_nx (i := .iadd) (n := 1) (q := (1000, [some (.ref p0), some (.ref p1), some (.ref p2), some (.ref p3), some (.int i4), o5, o6, o7, o8], [.int (i4 + 1), .ref p0, .ref p1])) (jq qL_law_c13 6 rfl) rfl) ?_
  obtain ⟨x478, e479, H⟩ := jbd H
  refine Eq.trans (jb_nx (i := .iaload) (n := 1) (q := (1001, [some (.ref p0), some (.ref p1), some (.ref p2), some (.ref p3), some (.int i4), o5, o6, o7, o8], [.int x478, .ref p1])) (jq qL_law_c13 7 rfl) (jo_ial e479)) ?_
  refine Eq.trans (jb_nx (i := .aload_n 0) (n := 1) (q := (1002, [some (.ref p0), some (.ref p1), some (.ref p2), some (.ref p3), some (.int i4), o5, o6, o7, o8], [.ref p0, .int x478, .ref p1])) (jq qL_law_c13 8 rfl) rfl) ?_
  refine Eq.trans (jb_nx (i := .iload 4) (n := 2) (q := (1004, [some (.ref p0), some (.ref p1), some (.ref p2), some (.ref p3), some (.int i4), o5, o6, o7, o8], [.int i4, .ref p0, .int x478, .ref p1])) (jq qL_law_c13 9 rfl) rfl) ?_
  refine Eq.trans (jb_nx (i := .iconst 2) (n := 1) (q := (1005, [some (.ref p0), some (.ref p1), some (.ref p2), some (.ref p3), some (.int i4), o5, o6, o7, o8], [.int 2, .int i4, .ref p0, .int x478, .ref p1])) (jq qL_law_c13 10 rfl) rfl) ?_
  refine Eq.trans (jb_nx (i := .iadd) (n := 1) (q := (1006, [some (.ref p0), some (.ref p1), some (.ref p2), some (.ref p3), some (.int i4), o5, o6, o7, o8], [.int (i4 + 2), .ref p0, .int x478, .ref p1])) (jq qL_law_c13 11 rfl) rfl) ?_
  obtain ⟨x480, e481, H⟩ := jbd H
  refine Eq.trans (jb_nx (i := .iaload) (n := 1) (q := (1007, [some (.ref p0), some (.ref p1), some (.ref p2), some (.ref p3), some (.int i4), o5, o6, o7, o8], [.int x480, .int x478, .ref p1])) (jq qL_law_c13 12 rfl) (jo_ial e481)) ?_
  refine Eq.trans (jb_nx (i := .aload_n 3) (n := 1) (q := (1008, [some (.ref p0), some (.ref p1), some (.ref p2), some (.ref p3), some (.int i4), o5, o6, o7, o8], [.ref p3, .int x480, .int x478, .ref p1])) (jq qL_law_c13 13 rfl) rfl) ?_
  rcases jcI H with ⟨x484, h482, r483, H⟩ | ⟨w506, h507, r483, H⟩
  · refine Eq.trans (jb_nx (i := .invokestatic 176) (n := 3) (q := (1011, [some (.ref p0), some (.ref p1), some (.ref p2), some (.ref p3), some (.int i4), o5, o6, o7, o8], [.int x484])) (jq qL_law_c13 14 rfl) (jo_cs (y := mL_letterAt) (w := 4) (by decide) rfl (Nat.le_of_ble_eq_true rfl) rfl (Nat.le_of_ble_eq_true rfl) rfl r483 jo_ret)) ?_
    refine Eq.trans (jb_nx (i := .istore 5) (n := 2) (q := (1013, [some (.ref p0), some (.ref p1), some (.ref p2), some (.ref p3), some (.int i4), some (.int x484), o6, o7, o8], [])) (jq qL_law_c13 15 rfl) rfl) ?_
    refine Eq.trans (jb_nx (i := .aload_n 2) (n := 1) (q := (1014, [some (.ref p0), some (.ref p1), some (.ref p2), some (.ref p3), some (.int i4), some (.int x484), o6, o7, o8], [.ref p2])) (jq qL_law_c13 16 rfl) rfl) ?_
    refine Eq.trans (jb_nx (i := .aload_n 0) (n := 1) (q := (1015, [some (.ref p0), some (.ref p1), some (.ref p2), some (.ref p3), some (.int i4), some (.int x484), o6, o7, o8], [.ref p0, .ref p2])) (jq qL_law_c13 17 rfl) rfl) ?_
    refine Eq.trans (jb_nx (i := .iload 4) (n := 2) (q := (1017, [some (.ref p0), some (.ref p1), some (.ref p2), some (.ref p3), some (.int i4), some (.int x484), o6, o7, o8], [.int i4, .ref p0, .ref p2])) (jq qL_law_c13 18 rfl) rfl) ?_
    refine Eq.trans (jb_nx (i := .iconst 1) (n := 1) (q := (1018, [some (.ref p0), some (.ref p1), some (.ref p2), some (.ref p3), some (.int i4), some (.int x484), o6, o7, o8], [.int 1, .int i4, .ref p0, .ref p2])) (jq qL_law_c13 19 rfl) rfl) ?_
    refine Eq.trans (jb_nx (i := .iadd) (n := 1) (q := (1019, [some (.ref p0), some (.ref p1), some (.ref p2), some (.ref p3), some (.int i4), some (.int x484), o6, o7, o8], [.int (i4 + 1), .ref p0, .ref p2])) (jq qL_law_c13 20 rfl) rfl) ?_
    obtain ⟨x485, e486, H⟩ := jbd H
    refine Eq.trans (jb_nx (i := .iaload) (n := 1) (q := (1020, [some (.ref p0), some (.ref p1), some (.ref p2), some (.ref p3), some (.int i4), some (.int x484), o6, o7, o8], [.int x485, .ref p2])) (jq qL_law_c13 21 rfl) (jo_ial e486)) ?_
    refine Eq.trans (jb_nx (i := .aload_n 0) (n := 1) (q := (1021, [some (.ref p0), some (.ref p1), some (.ref p2), some (.ref p3), some (.int i4), some (.int x484), o6, o7, o8], [.ref p0, .int x485, .ref p2])) (jq qL_law_c13 22 rfl) rfl) ?_
    refine Eq.trans (jb_nx (i := .iload 4) (n := 2) (q := (1023, [some (.ref p0), some (.ref p1), some (.ref p2), some (.ref p3), some (.int i4), some (.int x484), o6, o7, o8], [.int i4, .ref p0, .int x485, .ref p2])) (jq qL_law_c13 23 rfl) rfl) ?_
    refine Eq.trans (jb_nx (i := .iconst 2) (n := 1) (q := (1024, [some (.ref p0), some (.ref p1), some (.ref p2), some (.ref p3), some (.int i4), some (.int x484), o6, o7, o8], [.int 2, .int i4, .ref p0, .int x485, .ref p2])) (jq qL_law_c13 24 rfl) rfl) ?_
    refine Eq.trans (jb_nx (i := .iadd) (n := 1) (q := (1025, [some (.ref p0), some (.ref p1), some (.ref p2), some (.ref p3), some (.int i4), some (.int x484), o6, o7, o8], [.int (i4 + 2), .ref p0, .int x485, .ref p2])) (jq qL_law_c13 25 rfl) rfl) ?_
    obtain ⟨x487, e488, H⟩ := jbd H
    refine Eq.trans (jb_nx (i := .iaload) (n := 1) (q := (1026, [some (.ref p0), some (.ref p1), some (.ref p2), some (.ref p3), some (.int i4), some (.int x484), o6, o7, o8], [.int x487, .int x485, .ref p2])) (jq qL_law_c13 26 rfl) (jo_ial e488)) ?_
    obtain ⟨b503, H⟩ := jm_O_inv H
    rcases jcI H with ⟨x491, h489, r490, H⟩ | ⟨w504, h505, r490, H⟩
    · refine Eq.trans (jb_nx (i := .invokevirtual 178) (n := 3) (q := (1029, [some (.ref p0), some (.ref p1), some (.ref p2), some (.ref p3), some (.int i4), some (.int x484), o6, o7, o8], [.int x491])) (jq qL_law_c13 27 rfl) (jo_cv (y := mX13_letterAt) rfl (Nat.le_of_ble_eq_true rfl) rfl (Nat.le_of_ble_eq_true rfl) b503 rfl r490 jo_ret)) ?_
      refine Eq.trans (jb_nx (i := .istore 6) (n := 2) (q := (1031, [some (.ref p0), some (.ref p1), some (.ref p2), some (.ref p3), some (.int i4), some (.int x484), some (.int x491), o7, o8], [])) (jq qL_law_c13 28 rfl) rfl) ?_
      refine Eq.trans (jb_nx (i := .aload_n 2) (n := 1) (q := (1032, [some (.ref p0), some (.ref p1), some (.ref p2), some (.ref p3), some (.int i4), some (.int x484), some (.int x491), o7, o8], [.ref p2])) (jq qL_law_c13 29 rfl) rfl) ?_
      obtain ⟨b500, H⟩ := jm_O_inv H
      rcases jcI H with ⟨x494, h492, r493, H⟩ | ⟨w501, h502, r493, H⟩
      · refine Eq.trans (jb_nx (i := .invokevirtual 108) (n := 3) (q := (1035, [some (.ref p0), some (.ref p1), some (.ref p2), some (.ref p3), some (.int i4), some (.int x484), some (.int x491), o7, o8], [.int x494])) (jq qL_law_c13 30 rfl) (jo_cv (y := mX13_thrown) rfl (Nat.le_of_ble_eq_true rfl) rfl (Nat.le_of_ble_eq_true rfl) b500 rfl r493 jo_ret)) ?_
        refine Eq.trans (jb_nx (i := .iload 5) (n := 2) (q := (1037, [some (.ref p0), some (.ref p1), some (.ref p2), some (.ref p3), some (.int i4), some (.int x484), some (.int x491), o7, o8], [.int x484, .int x494])) (jq qL_law_c13 31 rfl) rfl) ?_
        by_cases c495 : x494 = x484
        · rw [if_pos c495] at H
          refine Eq.trans (jb_nx (i := .if_icmp .eq 5) (n := 3) (q := (1042, [some (.ref p0), some (.ref p1), some (.ref p2), some (.ref p3), some (.int i4), some (.int x484), some (.int x491), o7, o8], [])) (jq qL_law_c13 32 rfl) (jo_icT (jz_eqT c495) rfl)) ?_
          refine Eq.trans (jb_nx (i := .iload 5) (n := 2) (q := (1044, [some (.ref p0), some (.ref p1), some (.ref p2), some (.ref p3), some (.int i4), some (.int x484), some (.int x491), o7, o8], [.int x484])) (jq qL_law_c13 35 rfl) rfl) ?_
          by_cases c496 : x484 = 0
          · rw [if_pos c496] at H
            refine Eq.trans (jb_nx (i := .ifCond .ne 15) (n := 3) (q := (1047, [some (.ref p0), some (.ref p1), some (.ref p2), some (.ref p3), some (.int i4), some (.int x484), some (.int x491), o7, o8], [])) (jq qL_law_c13 36 rfl) (jo_ifF (jz_neF c496))) ?_
            refine Eq.trans (jb_nx (i := .aload_n 3) (n := 1) (q := (1048, [some (.ref p0), some (.ref p1), some (.ref p2), some (.ref p3), some (.int i4), some (.int x484), some (.int x491), o7, o8], [.ref p3])) (jq qL_law_c13 37 rfl) rfl) ?_
            refine Eq.trans (jb_nx (i := .iconst 0) (n := 1) (q := (1049, [some (.ref p0), some (.ref p1), some (.ref p2), some (.ref p3), some (.int i4), some (.int x484), some (.int x491), o7, o8], [.int 0, .ref p3])) (jq qL_law_c13 38 rfl) rfl) ?_
            obtain ⟨y497, e498, H⟩ := jbd H
            refine Eq.trans (jb_nx (i := .laload) (n := 1) (q := (1050, [some (.ref p0), some (.ref p1), some (.ref p2), some (.ref p3), some (.int i4), some (.int x484), some (.int x491), o7, o8], [.long y497])) (jq qL_law_c13 39 rfl) (jo_lal e498)) ?_
            refine Eq.trans (jb_nx (i := .iload 6) (n := 2) (q := (1052, [some (.ref p0), some (.ref p1), some (.ref p2), some (.ref p3), some (.int i4), some (.int x484), some (.int x491), o7, o8], [.int x491, .long y497])) (jq qL_law_c14 0 rfl) rfl) ?_
            refine Eq.trans (jb_nx (i := .i2l) (n := 1) (q := (1053, [some (.ref p0), some (.ref p1), some (.ref p2), some (.ref p3), some (.int i4), some (.int x484), some (.int x491), o7, o8], [.long x491.toInt64, .long y497])) (jq qL_law_c14 1 rfl) rfl) ?_
            refine Eq.trans (jb_nx (i := .lcmp) (n := 1) (q := (1054, [some (.ref p0), some (.ref p1), some (.ref p2), some (.ref p3), some (.int i4), some (.int x484), some (.int x491), o7, o8], [.int (lg_cmp y497 x491.toInt64)])) (jq qL_law_c14 2 rfl) rfl) ?_
            by_cases c499 : (lg_cmp y497 x491.toInt64) = 0
            · rw [if_pos c499] at H
              refine Eq.trans (jb_nx (i := .ifCond .eq 5) (n := 3) (q := (1059, [some (.ref p0), some (.ref p1), some (.ref p2), some (.ref p3), some (.int i4), some (.int x484), some (.int x491), o7, o8], [])) (jq qL_law_c14 3 rfl) (jo_ifT (jz_eqT c499) rfl)) ?_
              refine Eq.trans (jb_nx (i := .goto 923) (n := 3) (q := (1982, [some (.ref p0), some (.ref p1), some (.ref p2), some (.ref p3), some (.int i4), some (.int x484), some (.int x491), o7, o8], [])) (jq qL_law_c14 6 rfl) rfl) ?_
              exact H
            · rw [if_neg c499] at H
              refine Eq.trans (jb_nx (i := .ifCond .eq 5) (n := 3) (q := (1057, [some (.ref p0), some (.ref p1), some (.ref p2), some (.ref p3), some (.int i4), some (.int x484), some (.int x491), o7, o8], [])) (jq qL_law_c14 3 rfl) (jo_ifF (jz_eqF c499))) ?_
              refine Eq.trans (jb_nx (i := .iconst 0) (n := 1) (q := (1058, [some (.ref p0), some (.ref p1), some (.ref p2), some (.ref p3), some (.int i4), some (.int x484), some (.int x491), o7, o8], [.int 0])) (jq qL_law_c14 4 rfl) rfl) ?_
              exact Eq.trans (jb_rt (i := .ireturn) (n := 1) (jq qL_law_c14 5 rfl) (jo_iret rfl (by decide))) H
          · rw [if_neg c496] at H
            refine Eq.trans (jb_nx (i := .ifCond .ne 15) (n := 3) (q := (1059, [some (.ref p0), some (.ref p1), some (.ref p2), some (.ref p3), some (.int i4), some (.int x484), some (.int x491), o7, o8], [])) (jq qL_law_c13 36 rfl) (jo_ifT (jz_neT c496) rfl)) ?_
            refine Eq.trans (jb_nx (i := .goto 923) (n := 3) (q := (1982, [some (.ref p0), some (.ref p1), some (.ref p2), some (.ref p3), some (.int i4), some (.int x484), some (.int x491), o7, o8], [])) (jq qL_law_c14 6 rfl) rfl) ?_
            exact H
        · rw [if_neg c495] at H
          refine Eq.trans (jb_nx (i := .if_icmp .eq 5) (n := 3) (q := (1040, [some (.ref p0), some (.ref p1), some (.ref p2), some (.ref p3), some (.int i4), some (.int x484), some (.int x491), o7, o8], [])) (jq qL_law_c13 32 rfl) (jo_icF (jz_eqF c495))) ?_
          refine Eq.trans (jb_nx (i := .iconst 0) (n := 1) (q := (1041, [some (.ref p0), some (.ref p1), some (.ref p2), some (.ref p3), some (.int i4), some (.int x484), some (.int x491), o7, o8], [.int 0])) (jq qL_law_c13 33 rfl) rfl) ?_
          exact Eq.trans (jb_rt (i := .ireturn) (n := 1) (jq qL_law_c13 34 rfl) (jo_iret rfl (by decide))) H
      · exact Eq.trans (jb_rt (i := .invokevirtual 108) (n := 3) (jq qL_law_c13 30 rfl) (jo_cv (y := mX13_thrown) rfl (Nat.le_of_ble_eq_true rfl) rfl (Nat.le_of_ble_eq_true rfl) b500 rfl r493 (jo_exn rfl))) H
    · exact Eq.trans (jb_rt (i := .invokevirtual 178) (n := 3) (jq qL_law_c13 27 rfl) (jo_cv (y := mX13_letterAt) rfl (Nat.le_of_ble_eq_true rfl) rfl (Nat.le_of_ble_eq_true rfl) b503 rfl r490 (jo_exn rfl))) H
  · exact Eq.trans (jb_rt (i := .invokestatic 176) (n := 3) (jq qL_law_c13 14 rfl) (jo_cs (y := mL_letterAt) (w := 4) (by decide) rfl (Nat.le_of_ble_eq_true rfl) rfl (Nat.le_of_ble_eq_true rfl) rfl r483 (jo_exn rfl))) H
theorem gL_law_938 {d : Nat} {p0 : Nat} {p1 : Nat} {p2 : Nat} {p3 : Nat} {i4 : Int32} {o5 : Option Value} {o6 : Option Value} {o7 : Option Value} {o8 : Option Value} {h : jm_H} {r : jm_R} (H : ((jm_ali h p0 0 (i4 + 1)).bind fun x508 => jc_I (jm_D d mL_textLength [.ref p1, .int x508, .ref p3] h) (fun x512 h510 => (jm_ali h510 p0 0 (i4 + 1)).bind fun x513 => jm_O h510 p2 13 (jc_I (jm_D d mX13_textLength [.ref p2, .int x513] h510) (fun x517 h515 => jm_O h515 p2 13 (jc_I (jm_D d mX13_thrown [.ref p2] h515) (fun x520 h518 => (if x520 = x512 then (if x512 = 0 then (jm_all h518 p3 0).bind fun y523 => (if (lg_cmp y523 x517.toInt64) = 0 then kL_law_1982 d p0 p1 p2 p3 i4 (some (.int x512)) (some (.int x517)) o7 o8 h518 else some (.inl (some (.int 0)), h518)) else kL_law_1982 d p0 p1 p2 p3 i4 (some (.int x512)) (some (.int x517)) o7 o8 h518) else some (.inl (some (.int 0)), h518))) jx)) jx)) jx) = some r) : kL_law_938 d p0 p1 p2 p3 i4 o5 o6 o7 o8 h = some r := by
  show jm_B d mL_law (938, [some (.ref p0), some (.ref p1), some (.ref p2), some (.ref p3), some (.int i4), o5, o6, o7, o8], []) h = some r
  refine Eq.trans (jb_nx (i := .aload_n 1) (n := 1) (q := (939, [some (.ref p0), some (.ref p1), some (.ref p2), some (.ref p3), some (.int i4), o5, o6, o7, o8], [.ref p1])) (jq qL_law_c12 7 rfl) rfl) ?_
  refine Eq.trans (jb_nx (i := .aload_n 0) (n := 1) (q := (940, [some (.ref p0), some (.ref p1), some (.ref p2), some (.ref p3), some (.int i4), o5, o6, o7, o8], [.ref p0, .ref p1])) (jq qL_law_c12 8 rfl) rfl) ?_
  refine Eq.trans (jb_nx (i := .iload 4) (n := 2) (q := (942, [some (.ref p0), some (.ref p1), some (.ref p2), some (.ref p3), some (.int i4), o5, o6, o7, o8], [.int i4, .ref p0, .ref p1])) (jq qL_law_c12 9 rfl) rfl) ?_
  refine Eq.trans (jb_nx (i := .iconst 1) (n := 1) (q := (943, [some (.ref p0), some (.ref p1), some (.ref p2), some (.ref p3), some (.int i4), o5, o6, o7, o8], [.int 1, .int i4, .ref p0, .ref p1])) (jq qL_law_c12 10 rfl) rfl) ?_
  refine Eq.trans (jb_nx (i := .iadd) (n := 1) (q := (944, [some (.ref p0), some (.ref p1), some (.ref p2), some (.ref p3), some (.int i4), o5, o6, o7, o8], [.int (i4 + 1), .ref p0, .ref p1])) (jq qL_law_c12 11 rfl) rfl) ?_
  obtain ⟨x508, e509, H⟩ := jbd H
  refine Eq.trans (jb_nx (i := .iaload) (n := 1) (q := (945, [some (.ref p0), some (.ref p1), some (.ref p2), some (.ref p3), some (.int i4), o5, o6, o7, o8], [.int x508, .ref p1])) (jq qL_law_c12 12 rfl) (jo_ial e509)) ?_
  refine Eq.trans (jb_nx (i := .aload_n 3) (n := 1) (q := (946, [some (.ref p0), some (.ref p1), some (.ref p2), some (.ref p3), some (.int i4), o5, o6, o7, o8], [.ref p3, .int x508, .ref p1])) (jq qL_law_c12 13 rfl) rfl) ?_
  rcases jcI H with ⟨x512, h510, r511, H⟩ | ⟨w532, h533, r511, H⟩
  · refine Eq.trans (jb_nx (i := .invokestatic 173) (n := 3) (q := (949, [some (.ref p0), some (.ref p1), some (.ref p2), some (.ref p3), some (.int i4), o5, o6, o7, o8], [.int x512])) (jq qL_law_c12 14 rfl) (jo_cs (y := mL_textLength) (w := 4) (by decide) rfl (Nat.le_of_ble_eq_true rfl) rfl (Nat.le_of_ble_eq_true rfl) rfl r511 jo_ret)) ?_
    refine Eq.trans (jb_nx (i := .istore 5) (n := 2) (q := (951, [some (.ref p0), some (.ref p1), some (.ref p2), some (.ref p3), some (.int i4), some (.int x512), o6, o7, o8], [])) (jq qL_law_c12 15 rfl) rfl) ?_
    refine Eq.trans (jb_nx (i := .aload_n 2) (n := 1) (q := (952, [some (.ref p0), some (.ref p1), some (.ref p2), some (.ref p3), some (.int i4), some (.int x512), o6, o7, o8], [.ref p2])) (jq qL_law_c12 16 rfl) rfl) ?_
    refine Eq.trans (jb_nx (i := .aload_n 0) (n := 1) (q := (953, [some (.ref p0), some (.ref p1), some (.ref p2), some (.ref p3), some (.int i4), some (.int x512), o6, o7, o8], [.ref p0, .ref p2])) (jq qL_law_c12 17 rfl) rfl) ?_
    refine Eq.trans (jb_nx (i := .iload 4) (n := 2) (q := (955, [some (.ref p0), some (.ref p1), some (.ref p2), some (.ref p3), some (.int i4), some (.int x512), o6, o7, o8], [.int i4, .ref p0, .ref p2])) (jq qL_law_c12 18 rfl) rfl) ?_
    refine Eq.trans (jb_nx (i := .iconst 1) (n := 1) (q := (956, [some (.ref p0), some (.ref p1), some (.ref p2), some (.ref p3), some (.int i4), some (.int x512), o6, o7, o8], [.int 1, .int i4, .ref p0, .ref p2])) (jq qL_law_c12 19 rfl) rfl) ?_
    refine Eq.trans (jb_nx (i := .iadd) (n := 1) (q := (957, [some (.ref p0), some (.ref p1), some (.ref p2), some (.ref p3), some (.int i4), some (.int x512), o6, o7, o8], [.int (i4 + 1), .ref p0, .ref p2])) (jq qL_law_c12 20 rfl) rfl) ?_
    obtain ⟨x513, e514, H⟩ := jbd H
    refine Eq.trans (jb_nx (i := .iaload) (n := 1) (q := (958, [some (.ref p0), some (.ref p1), some (.ref p2), some (.ref p3), some (.int i4), some (.int x512), o6, o7, o8], [.int x513, .ref p2])) (jq qL_law_c12 21 rfl) (jo_ial e514)) ?_
    obtain ⟨b529, H⟩ := jm_O_inv H
    rcases jcI H with ⟨x517, h515, r516, H⟩ | ⟨w530, h531, r516, H⟩
    · refine Eq.trans (jb_nx (i := .invokevirtual 175) (n := 3) (q := (961, [some (.ref p0), some (.ref p1), some (.ref p2), some (.ref p3), some (.int i4), some (.int x512), o6, o7, o8], [.int x517])) (jq qL_law_c12 22 rfl) (jo_cv (y := mX13_textLength) rfl (Nat.le_of_ble_eq_true rfl) rfl (Nat.le_of_ble_eq_true rfl) b529 rfl r516 jo_ret)) ?_
      refine Eq.trans (jb_nx (i := .istore 6) (n := 2) (q := (963, [some (.ref p0), some (.ref p1), some (.ref p2), some (.ref p3), some (.int i4), some (.int x512), some (.int x517), o7, o8], [])) (jq qL_law_c12 23 rfl) rfl) ?_
      refine Eq.trans (jb_nx (i := .aload_n 2) (n := 1) (q := (964, [some (.ref p0), some (.ref p1), some (.ref p2), some (.ref p3), some (.int i4), some (.int x512), some (.int x517), o7, o8], [.ref p2])) (jq qL_law_c12 24 rfl) rfl) ?_
      obtain ⟨b526, H⟩ := jm_O_inv H
      rcases jcI H with ⟨x520, h518, r519, H⟩ | ⟨w527, h528, r519, H⟩
      · refine Eq.trans (jb_nx (i := .invokevirtual 108) (n := 3) (q := (967, [some (.ref p0), some (.ref p1), some (.ref p2), some (.ref p3), some (.int i4), some (.int x512), some (.int x517), o7, o8], [.int x520])) (jq qL_law_c12 25 rfl) (jo_cv (y := mX13_thrown) rfl (Nat.le_of_ble_eq_true rfl) rfl (Nat.le_of_ble_eq_true rfl) b526 rfl r519 jo_ret)) ?_
        refine Eq.trans (jb_nx (i := .iload 5) (n := 2) (q := (969, [some (.ref p0), some (.ref p1), some (.ref p2), some (.ref p3), some (.int i4), some (.int x512), some (.int x517), o7, o8], [.int x512, .int x520])) (jq qL_law_c12 26 rfl) rfl) ?_
        by_cases c521 : x520 = x512
        · rw [if_pos c521] at H
          refine Eq.trans (jb_nx (i := .if_icmp .eq 5) (n := 3) (q := (974, [some (.ref p0), some (.ref p1), some (.ref p2), some (.ref p3), some (.int i4), some (.int x512), some (.int x517), o7, o8], [])) (jq qL_law_c12 27 rfl) (jo_icT (jz_eqT c521) rfl)) ?_
          refine Eq.trans (jb_nx (i := .iload 5) (n := 2) (q := (976, [some (.ref p0), some (.ref p1), some (.ref p2), some (.ref p3), some (.int i4), some (.int x512), some (.int x517), o7, o8], [.int x512])) (jq qL_law_c12 30 rfl) rfl) ?_
          by_cases c522 : x512 = 0
          · rw [if_pos c522] at H
            refine Eq.trans (jb_nx (i := .ifCond .ne 15) (n := 3) (q := (979, [some (.ref p0), some (.ref p1), some (.ref p2), some (.ref p3), some (.int i4), some (.int x512), some (.int x517), o7, o8], [])) (jq qL_law_c12 31 rfl) (jo_ifF (jz_neF c522))) ?_
            refine Eq.trans (jb_nx (i := .aload_n 3) (n := 1) (q := (980, [some (.ref p0), some (.ref p1), some (.ref p2), some (.ref p3), some (.int i4), some (.int x512), some (.int x517), o7, o8], [.ref p3])) (jq qL_law_c12 32 rfl) rfl) ?_
            refine Eq.trans (jb_nx (i := .iconst 0) (n := 1) (q := (981, [some (.ref p0), some (.ref p1), some (.ref p2), some (.ref p3), some (.int i4), some (.int x512), some (.int x517), o7, o8], [.int 0, .ref p3])) (jq qL_law_c12 33 rfl) rfl) ?_
            obtain ⟨y523, e524, H⟩ := jbd H
            refine Eq.trans (jb_nx (i := .laload) (n := 1) (q := (982, [some (.ref p0), some (.ref p1), some (.ref p2), some (.ref p3), some (.int i4), some (.int x512), some (.int x517), o7, o8], [.long y523])) (jq qL_law_c12 34 rfl) (jo_lal e524)) ?_
            refine Eq.trans (jb_nx (i := .iload 6) (n := 2) (q := (984, [some (.ref p0), some (.ref p1), some (.ref p2), some (.ref p3), some (.int i4), some (.int x512), some (.int x517), o7, o8], [.int x517, .long y523])) (jq qL_law_c12 35 rfl) rfl) ?_
            refine Eq.trans (jb_nx (i := .i2l) (n := 1) (q := (985, [some (.ref p0), some (.ref p1), some (.ref p2), some (.ref p3), some (.int i4), some (.int x512), some (.int x517), o7, o8], [.long x517.toInt64, .long y523])) (jq qL_law_c12 36 rfl) rfl) ?_
            refine Eq.trans (jb_nx (i := .lcmp) (n := 1) (q := (986, [some (.ref p0), some (.ref p1), some (.ref p2), some (.ref p3), some (.int i4), some (.int x512), some (.int x517), o7, o8], [.int (lg_cmp y523 x517.toInt64)])) (jq qL_law_c12 37 rfl) rfl) ?_
            by_cases c525 : (lg_cmp y523 x517.toInt64) = 0
            · rw [if_pos c525] at H
              refine Eq.trans (jb_nx (i := .ifCond .eq 5) (n := 3) (q := (991, [some (.ref p0), some (.ref p1), some (.ref p2), some (.ref p3), some (.int i4), some (.int x512), some (.int x517), o7, o8], [])) (jq qL_law_c12 38 rfl) (jo_ifT (jz_eqT c525) rfl)) ?_
              refine Eq.trans (jb_nx (i := .goto 991) (n := 3) (q := (1982, [some (.ref p0), some (.ref p1), some (.ref p2), some (.ref p3), some (.int i4), some (.int x512), some (.int x517), o7, o8], [])) (jq qL_law_c13 1 rfl) rfl) ?_
              exact H
            · rw [if_neg c525] at H
              refine Eq.trans (jb_nx (i := .ifCond .eq 5) (n := 3) (q := (989, [some (.ref p0), some (.ref p1), some (.ref p2), some (.ref p3), some (.int i4), some (.int x512), some (.int x517), o7, o8], [])) (jq qL_law_c12 38 rfl) (jo_ifF (jz_eqF c525))) ?_
              refine Eq.trans (jb_nx (i := .iconst 0) (n := 1) (q := (990, [some (.ref p0), some (.ref p1), some (.ref p2), some (.ref p3), some (.int i4), some (.int x512), some (.int x517), o7, o8], [.int 0])) (jq qL_law_c12 39 rfl) rfl) ?_
              exact Eq.trans (jb_rt (i := .ireturn) (n := 1) (jq qL_law_c13 0 rfl) (jo_iret rfl (by decide))) H
          · rw [if_neg c522] at H
            refine Eq.trans (jb_nx (i := .ifCond .ne 15) (n := 3) (q := (991, [some (.ref p0), some (.ref p1), some (.ref p2), some (.ref p3), some (.int i4), some (.int x512), some (.int x517), o7, o8], [])) (jq qL_law_c12 31 rfl) (jo_ifT (jz_neT c522) rfl)) ?_
            refine Eq.trans (jb_nx (i := .goto 991) (n := 3) (q := (1982, [some (.ref p0), some (.ref p1), some (.ref p2), some (.ref p3), some (.int i4), some (.int x512), some (.int x517), o7, o8], [])) (jq qL_law_c13 1 rfl) rfl) ?_
            exact H
        · rw [if_neg c521] at H
          refine Eq.trans (jb_nx (i := .if_icmp .eq 5) (n := 3) (q := (972, [some (.ref p0), some (.ref p1), some (.ref p2), some (.ref p3), some (.int i4), some (.int x512), some (.int x517), o7, o8], [])) (jq qL_law_c12 27 rfl) (jo_icF (jz_eqF c521))) ?_
          refine Eq.trans (jb_nx (i := .iconst 0) (n := 1) (q := (973, [some (.ref p0), some (.ref p1), some (.ref p2), some (.ref p3), some (.int i4), some (.int x512), some (.int x517), o7, o8], [.int 0])) (jq qL_law_c12 28 rfl) rfl) ?_
          exact Eq.trans (jb_rt (i := .ireturn) (n := 1) (jq qL_law_c12 29 rfl) (jo_iret rfl (by decide))) H
      · exact Eq.trans (jb_rt (i := .invokevirtual 108) (n := 3) (jq qL_law_c12 25 rfl) (jo_cv (y := mX13_thrown) rfl (Nat.le_of_ble_eq_true rfl) rfl (Nat.le_of_ble_eq_true rfl) b526 rfl r519 (jo_exn rfl))) H
    · exact Eq.trans (jb_rt (i := .invokevirtual 175) (n := 3) (jq qL_law_c12 22 rfl) (jo_cv (y := mX13_textLength) rfl (Nat.le_of_ble_eq_true rfl) rfl (Nat.le_of_ble_eq_true rfl) b529 rfl r516 (jo_exn rfl))) H
  · exact Eq.trans (jb_rt (i := .invokestatic 173) (n := 3) (jq qL_law_c12 14 rfl) (jo_cs (y := mL_textLength) (w := 4) (by decide) rfl (Nat.le_of_ble_eq_true rfl) rfl (Nat.le_of_ble_eq_true rfl) rfl r511 (jo_exn rfl))) H
theorem gL_law_875 {d : Nat} {p0 : Nat} {p1 : Nat} {p2 : Nat} {p3 : Nat} {i4 : Int32} {o5 : Option Value} {o6 : Option Value} {o7 : Option Value} {o8 : Option Value} {h : jm_H} {r : jm_R} (H : ((jm_ali h p0 0 (i4 + 1)).bind fun x534 => jc_I (jm_D d mL_canStep [.ref p1, .int x534, .ref p3] h) (fun x538 h536 => (jm_ali h536 p0 0 (i4 + 1)).bind fun x539 => jm_O h536 p2 13 (jc_I (jm_D d mX13_canStep [.ref p2, .int x539] h536) (fun x543 h541 => jm_O h541 p2 13 (jc_I (jm_D d mX13_thrown [.ref p2] h541) (fun x546 h544 => (if x546 = x538 then (if x538 = 0 then (jm_all h544 p3 0).bind fun y549 => (if x543 = 0 then (if (lg_cmp y549 0) = 0 then kL_law_1982 d p0 p1 p2 p3 i4 (some (.int x538)) (some (.int x543)) o7 o8 h544 else some (.inl (some (.int 0)), h544)) else (if (lg_cmp y549 1) = 0 then kL_law_1982 d p0 p1 p2 p3 i4 (some (.int x538)) (some (.int x543)) o7 o8 h544 else some (.inl (some (.int 0)), h544))) else kL_law_1982 d p0 p1 p2 p3 i4 (some (.int x538)) (some (.int x543)) o7 o8 h544) else some (.inl (some (.int 0)), h544))) jx)) jx)) jx) = some r) : kL_law_875 d p0 p1 p2 p3 i4 o5 o6 o7 o8 h = some r := by
  show jm_B d mL_law (875, [some (.ref p0), some (.ref p1), some (.ref p2), some (.ref p3), some (.int i4), o5, o6, o7, o8], []) h = some r
  refine Eq.trans (jb_nx (i := .aload_n 1) (n := 1) (q := (876, [some (.ref p0), some (.ref p1), some (.ref p2), some (.ref p3), some (.int i4), o5, o6, o7, o8], [.ref p1])) (jq qL_law_c11 9 rfl) rfl) ?_
  refine Eq.trans (jb_nx (i := .aload_n 0) (n := 1) (q := (877, [some (.ref p0), some (.ref p1), some (.ref p2), some (.ref p3), some (.int i4), o5, o6, o7, o8], [.ref p0, .ref p1])) (jq qL_law_c11 10 rfl) rfl) ?_
  refine Eq.trans (jb_nx (i := .iload 4) (n := 2) (q := (879, [some (.ref p0), some (.ref p1), some (.ref p2), some (.ref p3), some (.int i4), o5, o6, o7, o8], [.int i4, .ref p0, .ref p1])) (jq qL_law_c11 11 rfl) rfl) ?_
  refine Eq.trans (jb_nx (i := .iconst 1) (n := 1) (q := (880, [some (.ref p0), some (.ref p1), some (.ref p2), some (.ref p3), some (.int i4), o5, o6, o7, o8], [.int 1, .int i4, .ref p0, .ref p1])) (jq qL_law_c11 12 rfl) rfl) ?_
  refine Eq.trans (jb_nx (i := .iadd) (n := 1) (q := (881, [some (.ref p0), some (.ref p1), some (.ref p2), some (.ref p3), some (.int i4), o5, o6, o7, o8], [.int (i4 + 1), .ref p0, .ref p1])) (jq qL_law_c11 13 rfl) rfl) ?_
  obtain ⟨x534, e535, H⟩ := jbd H
  refine Eq.trans (jb_nx (i := .iaload) (n := 1) (q := (882, [some (.ref p0), some (.ref p1), some (.ref p2), some (.ref p3), some (.int i4), o5, o6, o7, o8], [.int x534, .ref p1])) (jq qL_law_c11 14 rfl) (jo_ial e535)) ?_
  refine Eq.trans (jb_nx (i := .aload_n 3) (n := 1) (q := (883, [some (.ref p0), some (.ref p1), some (.ref p2), some (.ref p3), some (.int i4), o5, o6, o7, o8], [.ref p3, .int x534, .ref p1])) (jq qL_law_c11 15 rfl) rfl) ?_
  rcases jcI H with ⟨x538, h536, r537, H⟩ | ⟨w560, h561, r537, H⟩
  · refine Eq.trans (jb_nx (i := .invokestatic 170) (n := 3) (q := (886, [some (.ref p0), some (.ref p1), some (.ref p2), some (.ref p3), some (.int i4), o5, o6, o7, o8], [.int x538])) (jq qL_law_c11 16 rfl) (jo_cs (y := mL_canStep) (w := 4) (by decide) rfl (Nat.le_of_ble_eq_true rfl) rfl (Nat.le_of_ble_eq_true rfl) rfl r537 jo_ret)) ?_
    refine Eq.trans (jb_nx (i := .istore 5) (n := 2) (q := (888, [some (.ref p0), some (.ref p1), some (.ref p2), some (.ref p3), some (.int i4), some (.int x538), o6, o7, o8], [])) (jq qL_law_c11 17 rfl) rfl) ?_
    refine Eq.trans (jb_nx (i := .aload_n 2) (n := 1) (q := (889, [some (.ref p0), some (.ref p1), some (.ref p2), some (.ref p3), some (.int i4), some (.int x538), o6, o7, o8], [.ref p2])) (jq qL_law_c11 18 rfl) rfl) ?_
    refine Eq.trans (jb_nx (i := .aload_n 0) (n := 1) (q := (890, [some (.ref p0), some (.ref p1), some (.ref p2), some (.ref p3), some (.int i4), some (.int x538), o6, o7, o8], [.ref p0, .ref p2])) (jq qL_law_c11 19 rfl) rfl) ?_
    refine Eq.trans (jb_nx (i := .iload 4) (n := 2) (q := (892, [some (.ref p0), some (.ref p1), some (.ref p2), some (.ref p3), some (.int i4), some (.int x538), o6, o7, o8], [.int i4, .ref p0, .ref p2])) (jq qL_law_c11 20 rfl) rfl) ?_
    refine Eq.trans (jb_nx (i := .iconst 1) (n := 1) (q := (893, [some (.ref p0), some (.ref p1), some (.ref p2), some (.ref p3), some (.int i4), some (.int x538), o6, o7, o8], [.int 1, .int i4, .ref p0, .ref p2])) (jq qL_law_c11 21 rfl) rfl) ?_
    refine Eq.trans (jb_nx (i := .iadd) (n := 1) (q := (894, [some (.ref p0), some (.ref p1), some (.ref p2), some (.ref p3), some (.int i4), some (.int x538), o6, o7, o8], [.int (i4 + 1), .ref p0, .ref p2])) (jq qL_law_c11 22 rfl) rfl) ?_
    obtain ⟨x539, e540, H⟩ := jbd H
    refine Eq.trans (jb_nx (i := .iaload) (n := 1) (q := (895, [some (.ref p0), some (.ref p1), some (.ref p2), some (.ref p3), some (.int i4), some (.int x538), o6, o7, o8], [.int x539, .ref p2])) (jq qL_law_c11 23 rfl) (jo_ial e540)) ?_
    obtain ⟨b557, H⟩ := jm_O_inv H
    rcases jcI H with ⟨x543, h541, r542, H⟩ | ⟨w558, h559, r542, H⟩
    · refine Eq.trans (jb_nx (i := .invokevirtual 172) (n := 3) (q := (898, [some (.ref p0), some (.ref p1), some (.ref p2), some (.ref p3), some (.int i4), some (.int x538), o6, o7, o8], [.int x543])) (jq qL_law_c11 24 rfl) (jo_cv (y := mX13_canStep) rfl (Nat.le_of_ble_eq_true rfl) rfl (Nat.le_of_ble_eq_true rfl) b557 rfl r542 jo_ret)) ?_
      refine Eq.trans (jb_nx (i := .istore 6) (n := 2) (q := (900, [some (.ref p0), some (.ref p1), some (.ref p2), some (.ref p3), some (.int i4), some (.int x538), some (.int x543), o7, o8], [])) (jq qL_law_c11 25 rfl) rfl) ?_
      refine Eq.trans (jb_nx (i := .aload_n 2) (n := 1) (q := (901, [some (.ref p0), some (.ref p1), some (.ref p2), some (.ref p3), some (.int i4), some (.int x538), some (.int x543), o7, o8], [.ref p2])) (jq qL_law_c11 26 rfl) rfl) ?_
      obtain ⟨b554, H⟩ := jm_O_inv H
      rcases jcI H with ⟨x546, h544, r545, H⟩ | ⟨w555, h556, r545, H⟩
      · refine Eq.trans (jb_nx (i := .invokevirtual 108) (n := 3) (q := (904, [some (.ref p0), some (.ref p1), some (.ref p2), some (.ref p3), some (.int i4), some (.int x538), some (.int x543), o7, o8], [.int x546])) (jq qL_law_c11 27 rfl) (jo_cv (y := mX13_thrown) rfl (Nat.le_of_ble_eq_true rfl) rfl (Nat.le_of_ble_eq_true rfl) b554 rfl r545 jo_ret)) ?_
        refine Eq.trans (jb_nx (i := .iload 5) (n := 2) (q := (906, [some (.ref p0), some (.ref p1), some (.ref p2), some (.ref p3), some (.int i4), some (.int x538), some (.int x543), o7, o8], [.int x538, .int x546])) (jq qL_law_c11 28 rfl) rfl) ?_
        by_cases c547 : x546 = x538
        · rw [if_pos c547] at H
          refine Eq.trans (jb_nx (i := .if_icmp .eq 5) (n := 3) (q := (911, [some (.ref p0), some (.ref p1), some (.ref p2), some (.ref p3), some (.int i4), some (.int x538), some (.int x543), o7, o8], [])) (jq qL_law_c11 29 rfl) (jo_icT (jz_eqT c547) rfl)) ?_
          refine Eq.trans (jb_nx (i := .iload 5) (n := 2) (q := (913, [some (.ref p0), some (.ref p1), some (.ref p2), some (.ref p3), some (.int i4), some (.int x538), some (.int x543), o7, o8], [.int x538])) (jq qL_law_c11 32 rfl) rfl) ?_
          by_cases c548 : x538 = 0
          · rw [if_pos c548] at H
            refine Eq.trans (jb_nx (i := .ifCond .ne 22) (n := 3) (q := (916, [some (.ref p0), some (.ref p1), some (.ref p2), some (.ref p3), some (.int i4), some (.int x538), some (.int x543), o7, o8], [])) (jq qL_law_c11 33 rfl) (jo_ifF (jz_neF c548))) ?_
            refine Eq.trans (jb_nx (i := .aload_n 3) (n := 1) (q := (917, [some (.ref p0), some (.ref p1), some (.ref p2), some (.ref p3), some (.int i4), some (.int x538), some (.int x543), o7, o8], [.ref p3])) (jq qL_law_c11 34 rfl) rfl) ?_
            refine Eq.trans (jb_nx (i := .iconst 0) (n := 1) (q := (918, [some (.ref p0), some (.ref p1), some (.ref p2), some (.ref p3), some (.int i4), some (.int x538), some (.int x543), o7, o8], [.int 0, .ref p3])) (jq qL_law_c11 35 rfl) rfl) ?_
            obtain ⟨y549, e550, H⟩ := jbd H
            refine Eq.trans (jb_nx (i := .laload) (n := 1) (q := (919, [some (.ref p0), some (.ref p1), some (.ref p2), some (.ref p3), some (.int i4), some (.int x538), some (.int x543), o7, o8], [.long y549])) (jq qL_law_c11 36 rfl) (jo_lal e550)) ?_
            refine Eq.trans (jb_nx (i := .iload 6) (n := 2) (q := (921, [some (.ref p0), some (.ref p1), some (.ref p2), some (.ref p3), some (.int i4), some (.int x538), some (.int x543), o7, o8], [.int x543, .long y549])) (jq qL_law_c11 37 rfl) rfl) ?_
            by_cases c551 : x543 = 0
            · rw [if_pos c551] at H
              refine Eq.trans (jb_nx (i := .ifCond .eq 7) (n := 3) (q := (928, [some (.ref p0), some (.ref p1), some (.ref p2), some (.ref p3), some (.int i4), some (.int x538), some (.int x543), o7, o8], [.long y549])) (jq qL_law_c11 38 rfl) (jo_ifT (jz_eqT c551) rfl)) ?_
              refine Eq.trans (jb_nx (i := .lconst 0) (n := 1) (q := (929, [some (.ref p0), some (.ref p1), some (.ref p2), some (.ref p3), some (.int i4), some (.int x538), some (.int x543), o7, o8], [.long 0, .long y549])) (jq qL_law_c12 1 rfl) rfl) ?_
              refine Eq.trans (jb_nx (i := .lcmp) (n := 1) (q := (930, [some (.ref p0), some (.ref p1), some (.ref p2), some (.ref p3), some (.int i4), some (.int x538), some (.int x543), o7, o8], [.int (lg_cmp y549 0)])) (jq qL_law_c12 2 rfl) rfl) ?_
              by_cases c552 : (lg_cmp y549 0) = 0
              · rw [if_pos c552] at H
                refine Eq.trans (jb_nx (i := .ifCond .eq 5) (n := 3) (q := (935, [some (.ref p0), some (.ref p1), some (.ref p2), some (.ref p3), some (.int i4), some (.int x538), some (.int x543), o7, o8], [])) (jq qL_law_c12 3 rfl) (jo_ifT (jz_eqT c552) rfl)) ?_
                refine Eq.trans (jb_nx (i := .goto 1047) (n := 3) (q := (1982, [some (.ref p0), some (.ref p1), some (.ref p2), some (.ref p3), some (.int i4), some (.int x538), some (.int x543), o7, o8], [])) (jq qL_law_c12 6 rfl) rfl) ?_
                exact H
              · rw [if_neg c552] at H
                refine Eq.trans (jb_nx (i := .ifCond .eq 5) (n := 3) (q := (933, [some (.ref p0), some (.ref p1), some (.ref p2), some (.ref p3), some (.int i4), some (.int x538), some (.int x543), o7, o8], [])) (jq qL_law_c12 3 rfl) (jo_ifF (jz_eqF c552))) ?_
                refine Eq.trans (jb_nx (i := .iconst 0) (n := 1) (q := (934, [some (.ref p0), some (.ref p1), some (.ref p2), some (.ref p3), some (.int i4), some (.int x538), some (.int x543), o7, o8], [.int 0])) (jq qL_law_c12 4 rfl) rfl) ?_
                exact Eq.trans (jb_rt (i := .ireturn) (n := 1) (jq qL_law_c12 5 rfl) (jo_iret rfl (by decide))) H
            · rw [if_neg c551] at H
              refine Eq.trans (jb_nx (i := .ifCond .eq 7) (n := 3) (q := (924, [some (.ref p0), some (.ref p1), some (.ref p2), some (.ref p3), some (.int i4), some (.int x538), some (.int x543), o7, o8], [.long y549])) (jq qL_law_c11 38 rfl) (jo_ifF (jz_eqF c551))) ?_
              refine Eq.trans (jb_nx (i := .lconst 1) (n := 1) (q := (925, [some (.ref p0), some (.ref p1), some (.ref p2), some (.ref p3), some (.int i4), some (.int x538), some (.int x543), o7, o8], [.long 1, .long y549])) (jq qL_law_c11 39 rfl) rfl) ?_
              refine Eq.trans (jb_nx (i := .goto 4) (n := 3) (q := (929, [some (.ref p0), some (.ref p1), some (.ref p2), some (.ref p3), some (.int i4), some (.int x538), some (.int x543), o7, o8], [.long 1, .long y549])) (jq qL_law_c12 0 rfl) rfl) ?_
              refine Eq.trans (jb_nx (i := .lcmp) (n := 1) (q := (930, [some (.ref p0), some (.ref p1), some (.ref p2), some (.ref p3), some (.int i4), some (.int x538), some (.int x543), o7, o8], [.int (lg_cmp y549 1)])) (jq qL_law_c12 2 rfl) rfl) ?_
              by_cases c553 : (lg_cmp y549 1) = 0
              · rw [if_pos c553] at H
                refine Eq.trans (jb_nx (i := .ifCond .eq 5) (n := 3) (q := (935, [some (.ref p0), some (.ref p1), some (.ref p2), some (.ref p3), some (.int i4), some (.int x538), some (.int x543), o7, o8], [])) (jq qL_law_c12 3 rfl) (jo_ifT (jz_eqT c553) rfl)) ?_
                refine Eq.trans (jb_nx (i := .goto 1047) (n := 3) (q := (1982, [some (.ref p0), some (.ref p1), some (.ref p2), some (.ref p3), some (.int i4), some (.int x538), some (.int x543), o7, o8], [])) (jq qL_law_c12 6 rfl) rfl) ?_
                exact H
              · rw [if_neg c553] at H
                refine Eq.trans (jb_nx (i := .ifCond .eq 5) (n := 3) (q := (933, [some (.ref p0), some (.ref p1), some (.ref p2), some (.ref p3), some (.int i4), some (.int x538), some (.int x543), o7, o8], [])) (jq qL_law_c12 3 rfl) (jo_ifF (jz_eqF c553))) ?_
                refine Eq.trans (jb_nx (i := .iconst 0) (n := 1) (q := (934, [some (.ref p0), some (.ref p1), some (.ref p2), some (.ref p3), some (.int i4), some (.int x538), some (.int x543), o7, o8], [.int 0])) (jq qL_law_c12 4 rfl) rfl) ?_
                exact Eq.trans (jb_rt (i := .ireturn) (n := 1) (jq qL_law_c12 5 rfl) (jo_iret rfl (by decide))) H
          · rw [if_neg c548] at H
            refine Eq.trans (jb_nx (i := .ifCond .ne 22) (n := 3) (q := (935, [some (.ref p0), some (.ref p1), some (.ref p2), some (.ref p3), some (.int i4), some (.int x538), some (.int x543), o7, o8], [])) (jq qL_law_c11 33 rfl) (jo_ifT (jz_neT c548) rfl)) ?_
            refine Eq.trans (jb_nx (i := .goto 1047) (n := 3) (q := (1982, [some (.ref p0), some (.ref p1), some (.ref p2), some (.ref p3), some (.int i4), some (.int x538), some (.int x543), o7, o8], [])) (jq qL_law_c12 6 rfl) rfl) ?_
            exact H
        · rw [if_neg c547] at H
          refine Eq.trans (jb_nx (i := .if_icmp .eq 5) (n := 3) (q := (909, [some (.ref p0), some (.ref p1), some (.ref p2), some (.ref p3), some (.int i4), some (.int x538), some (.int x543), o7, o8], [])) (jq qL_law_c11 29 rfl) (jo_icF (jz_eqF c547))) ?_
          refine Eq.trans (jb_nx (i := .iconst 0) (n := 1) (q := (910, [some (.ref p0), some (.ref p1), some (.ref p2), some (.ref p3), some (.int i4), some (.int x538), some (.int x543), o7, o8], [.int 0])) (jq qL_law_c11 30 rfl) rfl) ?_
          exact Eq.trans (jb_rt (i := .ireturn) (n := 1) (jq qL_law_c11 31 rfl) (jo_iret rfl (by decide))) H
      · exact Eq.trans (jb_rt (i := .invokevirtual 108) (n := 3) (jq qL_law_c11 27 rfl) (jo_cv (y := mX13_thrown) rfl (Nat.le_of_ble_eq_true rfl) rfl (Nat.le_of_ble_eq_true rfl) b554 rfl r545 (jo_exn rfl))) H
    · exact Eq.trans (jb_rt (i := .invokevirtual 172) (n := 3) (jq qL_law_c11 24 rfl) (jo_cv (y := mX13_canStep) rfl (Nat.le_of_ble_eq_true rfl) rfl (Nat.le_of_ble_eq_true rfl) b557 rfl r542 (jo_exn rfl))) H
  · exact Eq.trans (jb_rt (i := .invokestatic 170) (n := 3) (jq qL_law_c11 16 rfl) (jo_cs (y := mL_canStep) (w := 4) (by decide) rfl (Nat.le_of_ble_eq_true rfl) rfl (Nat.le_of_ble_eq_true rfl) rfl r537 (jo_exn rfl))) H
theorem gL_law_812 {d : Nat} {p0 : Nat} {p1 : Nat} {p2 : Nat} {p3 : Nat} {i4 : Int32} {o5 : Option Value} {o6 : Option Value} {o7 : Option Value} {o8 : Option Value} {h : jm_H} {r : jm_R} (H : ((jm_ali h p0 0 (i4 + 1)).bind fun x562 => jc_I (jm_D d mL_isFinished [.ref p1, .int x562, .ref p3] h) (fun x566 h564 => (jm_ali h564 p0 0 (i4 + 1)).bind fun x567 => jm_O h564 p2 13 (jc_I (jm_D d mX13_isFinished [.ref p2, .int x567] h564) (fun x571 h569 => jm_O h569 p2 13 (jc_I (jm_D d mX13_thrown [.ref p2] h569) (fun x574 h572 => (if x574 = x566 then (if x566 = 0 then (jm_all h572 p3 0).bind fun y577 => (if x571 = 0 then (if (lg_cmp y577 0) = 0 then kL_law_1982 d p0 p1 p2 p3 i4 (some (.int x566)) (some (.int x571)) o7 o8 h572 else some (.inl (some (.int 0)), h572)) else (if (lg_cmp y577 1) = 0 then kL_law_1982 d p0 p1 p2 p3 i4 (some (.int x566)) (some (.int x571)) o7 o8 h572 else some (.inl (some (.int 0)), h572))) else kL_law_1982 d p0 p1 p2 p3 i4 (some (.int x566)) (some (.int x571)) o7 o8 h572) else some (.inl (some (.int 0)), h572))) jx)) jx)) jx) = some r) : kL_law_812 d p0 p1 p2 p3 i4 o5 o6 o7 o8 h = some r := by
  show jm_B d mL_law (812, [some (.ref p0), some (.ref p1), some (.ref p2), some (.ref p3), some (.int i4), o5, o6, o7, o8], []) h = some r
  refine Eq.trans (jb_nx (i := .aload_n 1) (n := 1) (q := (813, [some (.ref p0), some (.ref p1), some (.ref p2), some (.ref p3), some (.int i4), o5, o6, o7, o8], [.ref p1])) (jq qL_law_c10 11 rfl) rfl) ?_
  refine Eq.trans (jb_nx (i := .aload_n 0) (n := 1) (q := (814, [some (.ref p0), some (.ref p1), some (.ref p2), some (.ref p3), some (.int i4), o5, o6, o7, o8], [.ref p0, .ref p1])) (jq qL_law_c10 12 rfl) rfl) ?_
  refine Eq.trans (jb_nx (i := .iload 4) (n := 2) (q := (816, [some (.ref p0), some (.ref p1), some (.ref p2), some (.ref p3), some (.int i4), o5, o6, o7, o8], [.int i4, .ref p0, .ref p1])) (jq qL_law_c10 13 rfl) rfl) ?_
  refine Eq.trans (jb_nx (i := .iconst 1) (n := 1) (q := (817, [some (.ref p0), some (.ref p1), some (.ref p2), some (.ref p3), some (.int i4), o5, o6, o7, o8], [.int 1, .int i4, .ref p0, .ref p1])) (jq qL_law_c10 14 rfl) rfl) ?_
  refine Eq.trans (jb_nx (i := .iadd) (n := 1) (q := (818, [some (.ref p0), some (.ref p1), some (.ref p2), some (.ref p3), some (.int i4), o5, o6, o7, o8], [.int (i4 + 1), .ref p0, .ref p1])) (jq qL_law_c10 15 rfl) rfl) ?_
  obtain ⟨x562, e563, H⟩ := jbd H
  refine Eq.trans (jb_nx (i := .iaload) (n := 1) (q := (819, [some (.ref p0), some (.ref p1), some (.ref p2), some (.ref p3), some (.int i4), o5, o6, o7, o8], [.int x562, .ref p1])) (jq qL_law_c10 16 rfl) (jo_ial e563)) ?_
  refine Eq.trans (jb_nx (i := .aload_n 3) (n := 1) (q := (820, [some (.ref p0), some (.ref p1), some (.ref p2), some (.ref p3), some (.int i4), o5, o6, o7, o8], [.ref p3, .int x562, .ref p1])) (jq qL_law_c10 17 rfl) rfl) ?_
  rcases jcI H with ⟨x566, h564, r565, H⟩ | ⟨w588, h589, r565, H⟩
  · refine Eq.trans (jb_nx (i := .invokestatic 167) (n := 3) (q := (823, [some (.ref p0), some (.ref p1), some (.ref p2), some (.ref p3), some (.int i4), o5, o6, o7, o8], [.int x566])) (jq qL_law_c10 18 rfl) (jo_cs (y := mL_isFinished) (w := 4) (by decide) rfl (Nat.le_of_ble_eq_true rfl) rfl (Nat.le_of_ble_eq_true rfl) rfl r565 jo_ret)) ?_
    refine Eq.trans (jb_nx (i := .istore 5) (n := 2) (q := (825, [some (.ref p0), some (.ref p1), some (.ref p2), some (.ref p3), some (.int i4), some (.int x566), o6, o7, o8], [])) (jq qL_law_c10 19 rfl) rfl) ?_
    refine Eq.trans (jb_nx (i := .aload_n 2) (n := 1) (q := (826, [some (.ref p0), some (.ref p1), some (.ref p2), some (.ref p3), some (.int i4), some (.int x566), o6, o7, o8], [.ref p2])) (jq qL_law_c10 20 rfl) rfl) ?_
    refine Eq.trans (jb_nx (i := .aload_n 0) (n := 1) (q := (827, [some (.ref p0), some (.ref p1), some (.ref p2), some (.ref p3), some (.int i4), some (.int x566), o6, o7, o8], [.ref p0, .ref p2])) (jq qL_law_c10 21 rfl) rfl) ?_
    refine Eq.trans (jb_nx (i := .iload 4) (n := 2) (q := (829, [some (.ref p0), some (.ref p1), some (.ref p2), some (.ref p3), some (.int i4), some (.int x566), o6, o7, o8], [.int i4, .ref p0, .ref p2])) (jq qL_law_c10 22 rfl) rfl) ?_
    refine Eq.trans (jb_nx (i := .iconst 1) (n := 1) (q := (830, [some (.ref p0), some (.ref p1), some (.ref p2), some (.ref p3), some (.int i4), some (.int x566), o6, o7, o8], [.int 1, .int i4, .ref p0, .ref p2])) (jq qL_law_c10 23 rfl) rfl) ?_
    refine Eq.trans (jb_nx (i := .iadd) (n := 1) (q := (831, [some (.ref p0), some (.ref p1), some (.ref p2), some (.ref p3), some (.int i4), some (.int x566), o6, o7, o8], [.int (i4 + 1), .ref p0, .ref p2])) (jq qL_law_c10 24 rfl) rfl) ?_
    obtain ⟨x567, e568, H⟩ := jbd H
    refine Eq.trans (jb_nx (i := .iaload) (n := 1) (q := (832, [some (.ref p0), some (.ref p1), some (.ref p2), some (.ref p3), some (.int i4), some (.int x566), o6, o7, o8], [.int x567, .ref p2])) (jq qL_law_c10 25 rfl) (jo_ial e568)) ?_
    obtain ⟨b585, H⟩ := jm_O_inv H
    rcases jcI H with ⟨x571, h569, r570, H⟩ | ⟨w586, h587, r570, H⟩
    · refine Eq.trans (jb_nx (i := .invokevirtual 169) (n := 3) (q := (835, [some (.ref p0), some (.ref p1), some (.ref p2), some (.ref p3), some (.int i4), some (.int x566), o6, o7, o8], [.int x571])) (jq qL_law_c10 26 rfl) (jo_cv (y := mX13_isFinished) rfl (Nat.le_of_ble_eq_true rfl) rfl (Nat.le_of_ble_eq_true rfl) b585 rfl r570 jo_ret)) ?_
      refine Eq.trans (jb_nx (i := .istore 6) (n := 2) (q := (837, [some (.ref p0), some (.ref p1), some (.ref p2), some (.ref p3), some (.int i4), some (.int x566), some (.int x571), o7, o8], [])) (jq qL_law_c10 27 rfl) rfl) ?_
      refine Eq.trans (jb_nx (i := .aload_n 2) (n := 1) (q := (838, [some (.ref p0), some (.ref p1), some (.ref p2), some (.ref p3), some (.int i4), some (.int x566), some (.int x571), o7, o8], [.ref p2])) (jq qL_law_c10 28 rfl) rfl) ?_
      obtain ⟨b582, H⟩ := jm_O_inv H
      rcases jcI H with ⟨x574, h572, r573, H⟩ | ⟨w583, h584, r573, H⟩
      · refine Eq.trans (jb_nx (i := .invokevirtual 108) (n := 3) (q := (841, [some (.ref p0), some (.ref p1), some (.ref p2), some (.ref p3), some (.int i4), some (.int x566), some (.int x571), o7, o8], [.int x574])) (jq qL_law_c10 29 rfl) (jo_cv (y := mX13_thrown) rfl (Nat.le_of_ble_eq_true rfl) rfl (Nat.le_of_ble_eq_true rfl) b582 rfl r573 jo_ret)) ?_
        refine Eq.trans (jb_nx (i := .iload 5) (n := 2) (q := (843, [some (.ref p0), some (.ref p1), some (.ref p2), some (.ref p3), some (.int i4), some (.int x566), some (.int x571), o7, o8], [.int x566, .int x574])) (jq qL_law_c10 30 rfl) rfl) ?_
        by_cases c575 : x574 = x566
        · rw [if_pos c575] at H
          refine Eq.trans (jb_nx (i := .if_icmp .eq 5) (n := 3) (q := (848, [some (.ref p0), some (.ref p1), some (.ref p2), some (.ref p3), some (.int i4), some (.int x566), some (.int x571), o7, o8], [])) (jq qL_law_c10 31 rfl) (jo_icT (jz_eqT c575) rfl)) ?_
          refine Eq.trans (jb_nx (i := .iload 5) (n := 2) (q := (850, [some (.ref p0), some (.ref p1), some (.ref p2), some (.ref p3), some (.int i4), some (.int x566), some (.int x571), o7, o8], [.int x566])) (jq qL_law_c10 34 rfl) rfl) ?_
          by_cases c576 : x566 = 0
          · rw [if_pos c576] at H
            refine Eq.trans (jb_nx (i := .ifCond .ne 22) (n := 3) (q := (853, [some (.ref p0), some (.ref p1), some (.ref p2), some (.ref p3), some (.int i4), some (.int x566), some (.int x571), o7, o8], [])) (jq qL_law_c10 35 rfl) (jo_ifF (jz_neF c576))) ?_
            refine Eq.trans (jb_nx (i := .aload_n 3) (n := 1) (q := (854, [some (.ref p0), some (.ref p1), some (.ref p2), some (.ref p3), some (.int i4), some (.int x566), some (.int x571), o7, o8], [.ref p3])) (jq qL_law_c10 36 rfl) rfl) ?_
            refine Eq.trans (jb_nx (i := .iconst 0) (n := 1) (q := (855, [some (.ref p0), some (.ref p1), some (.ref p2), some (.ref p3), some (.int i4), some (.int x566), some (.int x571), o7, o8], [.int 0, .ref p3])) (jq qL_law_c10 37 rfl) rfl) ?_
            obtain ⟨y577, e578, H⟩ := jbd H
            refine Eq.trans (jb_nx (i := .laload) (n := 1) (q := (856, [some (.ref p0), some (.ref p1), some (.ref p2), some (.ref p3), some (.int i4), some (.int x566), some (.int x571), o7, o8], [.long y577])) (jq qL_law_c10 38 rfl) (jo_lal e578)) ?_
            refine Eq.trans (jb_nx (i := .iload 6) (n := 2) (q := (858, [some (.ref p0), some (.ref p1), some (.ref p2), some (.ref p3), some (.int i4), some (.int x566), some (.int x571), o7, o8], [.int x571, .long y577])) (jq qL_law_c10 39 rfl) rfl) ?_
            by_cases c579 : x571 = 0
            · rw [if_pos c579] at H
              refine Eq.trans (jb_nx (i := .ifCond .eq 7) (n := 3) (q := (865, [some (.ref p0), some (.ref p1), some (.ref p2), some (.ref p3), some (.int i4), some (.int x566), some (.int x571), o7, o8], [.long y577])) (jq qL_law_c11 0 rfl) (jo_ifT (jz_eqT c579) rfl)) ?_
              refine Eq.trans (jb_nx (i := .lconst 0) (n := 1) (q := (866, [some (.ref p0), some (.ref p1), some (.ref p2), some (.ref p3), some (.int i4), some (.int x566), some (.int x571), o7, o8], [.long 0, .long y577])) (jq qL_law_c11 3 rfl) rfl) ?_
              refine Eq.trans (jb_nx (i := .lcmp) (n := 1) (q := (867, [some (.ref p0), some (.ref p1), some (.ref p2), some (.ref p3), some (.int i4), some (.int x566), some (.int x571), o7, o8], [.int (lg_cmp y577 0)])) (jq qL_law_c11 4 rfl) rfl) ?_
              by_cases c580 : (lg_cmp y577 0) = 0
              · rw [if_pos c580] at H
                refine Eq.trans (jb_nx (i := .ifCond .eq 5) (n := 3) (q := (872, [some (.ref p0), some (.ref p1), some (.ref p2), some (.ref p3), some (.int i4), some (.int x566), some (.int x571), o7, o8], [])) (jq qL_law_c11 5 rfl) (jo_ifT (jz_eqT c580) rfl)) ?_
                refine Eq.trans (jb_nx (i := .goto 1110) (n := 3) (q := (1982, [some (.ref p0), some (.ref p1), some (.ref p2), some (.ref p3), some (.int i4), some (.int x566), some (.int x571), o7, o8], [])) (jq qL_law_c11 8 rfl) rfl) ?_
                exact H
              · rw [if_neg c580] at H
                refine Eq.trans (jb_nx (i := .ifCond .eq 5) (n := 3) (q := (870, [some (.ref p0), some (.ref p1), some (.ref p2), some (.ref p3), some (.int i4), some (.int x566), some (.int x571), o7, o8], [])) (jq qL_law_c11 5 rfl) (jo_ifF (jz_eqF c580))) ?_
                refine Eq.trans (jb_nx (i := .iconst 0) (n := 1) (q := (871, [some (.ref p0), some (.ref p1), some (.ref p2), some (.ref p3), some (.int i4), some (.int x566), some (.int x571), o7, o8], [.int 0])) (jq qL_law_c11 6 rfl) rfl) ?_
                exact Eq.trans (jb_rt (i := .ireturn) (n := 1) (jq qL_law_c11 7 rfl) (jo_iret rfl (by decide))) H
            · rw [if_neg c579] at H
              refine Eq.trans (jb_nx (i := .ifCond .eq 7) (n := 3) (q := (861, [some (.ref p0), some (.ref p1), some (.ref p2), some (.ref p3), some (.int i4), some (.int x566), some (.int x571), o7, o8], [.long y577])) (jq qL_law_c11 0 rfl) (jo_ifF (jz_eqF c579))) ?_
              refine Eq.trans (jb_nx (i := .lconst 1) (n := 1) (q := (862, [some (.ref p0), some (.ref p1), some (.ref p2), some (.ref p3), some (.int i4), some (.int x566), some (.int x571), o7, o8], [.long 1, .long y577])) (jq qL_law_c11 1 rfl) rfl) ?_
              refine Eq.trans (jb_nx (i := .goto 4) (n := 3) (q := (866, [some (.ref p0), some (.ref p1), some (.ref p2), some (.ref p3), some (.int i4), some (.int x566), some (.int x571), o7, o8], [.long 1, .long y577])) (jq qL_law_c11 2 rfl) rfl) ?_
              refine Eq.trans (jb_nx (i := .lcmp) (n := 1) (q := (867, [some (.ref p0), some (.ref p1), some (.ref p2), some (.ref p3), some (.int i4), some (.int x566), some (.int x571), o7, o8], [.int (lg_cmp y577 1)])) (jq qL_law_c11 4 rfl) rfl) ?_
              by_cases c581 : (lg_cmp y577 1) = 0
              · rw [if_pos c581] at H
                refine Eq.trans (jb_nx (i := .ifCond .eq 5) (n := 3) (q := (872, [some (.ref p0), some (.ref p1), some (.ref p2), some (.ref p3), some (.int i4), some (.int x566), some (.int x571), o7, o8], [])) (jq qL_law_c11 5 rfl) (jo_ifT (jz_eqT c581) rfl)) ?_
                refine Eq.trans (jb_nx (i := .goto 1110) (n := 3) (q := (1982, [some (.ref p0), some (.ref p1), some (.ref p2), some (.ref p3), some (.int i4), some (.int x566), some (.int x571), o7, o8], [])) (jq qL_law_c11 8 rfl) rfl) ?_
                exact H
              · rw [if_neg c581] at H
                refine Eq.trans (jb_nx (i := .ifCond .eq 5) (n := 3) (q := (870, [some (.ref p0), some (.ref p1), some (.ref p2), some (.ref p3), some (.int i4), some (.int x566), some (.int x571), o7, o8], [])) (jq qL_law_c11 5 rfl) (jo_ifF (jz_eqF c581))) ?_
                refine Eq.trans (jb_nx (i := .iconst 0) (n := 1) (q := (871, [some (.ref p0), some (.ref p1), some (.ref p2), some (.ref p3), some (.int i4), some (.int x566), some (.int x571), o7, o8], [.int 0])) (jq qL_law_c11 6 rfl) rfl) ?_
                exact Eq.trans (jb_rt (i := .ireturn) (n := 1) (jq qL_law_c11 7 rfl) (jo_iret rfl (by decide))) H
          · rw [if_neg c576] at H
            refine Eq.trans (jb_nx (i := .ifCond .ne 22) (n := 3) (q := (872, [some (.ref p0), some (.ref p1), some (.ref p2), some (.ref p3), some (.int i4), some (.int x566), some (.int x571), o7, o8], [])) (jq qL_law_c10 35 rfl) (jo_ifT (jz_neT c576) rfl)) ?_
            refine Eq.trans (jb_nx (i := .goto 1110) (n := 3) (q := (1982, [some (.ref p0), some (.ref p1), some (.ref p2), some (.ref p3), some (.int i4), some (.int x566), some (.int x571), o7, o8], [])) (jq qL_law_c11 8 rfl) rfl) ?_
            exact H
        · rw [if_neg c575] at H
          refine Eq.trans (jb_nx (i := .if_icmp .eq 5) (n := 3) (q := (846, [some (.ref p0), some (.ref p1), some (.ref p2), some (.ref p3), some (.int i4), some (.int x566), some (.int x571), o7, o8], [])) (jq qL_law_c10 31 rfl) (jo_icF (jz_eqF c575))) ?_
          refine Eq.trans (jb_nx (i := .iconst 0) (n := 1) (q := (847, [some (.ref p0), some (.ref p1), some (.ref p2), some (.ref p3), some (.int i4), some (.int x566), some (.int x571), o7, o8], [.int 0])) (jq qL_law_c10 32 rfl) rfl) ?_
          exact Eq.trans (jb_rt (i := .ireturn) (n := 1) (jq qL_law_c10 33 rfl) (jo_iret rfl (by decide))) H
      · exact Eq.trans (jb_rt (i := .invokevirtual 108) (n := 3) (jq qL_law_c10 29 rfl) (jo_cv (y := mX13_thrown) rfl (Nat.le_of_ble_eq_true rfl) rfl (Nat.le_of_ble_eq_true rfl) b582 rfl r573 (jo_exn rfl))) H
    · exact Eq.trans (jb_rt (i := .invokevirtual 169) (n := 3) (jq qL_law_c10 26 rfl) (jo_cv (y := mX13_isFinished) rfl (Nat.le_of_ble_eq_true rfl) rfl (Nat.le_of_ble_eq_true rfl) b585 rfl r570 (jo_exn rfl))) H
  · exact Eq.trans (jb_rt (i := .invokestatic 167) (n := 3) (jq qL_law_c10 18 rfl) (jo_cs (y := mL_isFinished) (w := 4) (by decide) rfl (Nat.le_of_ble_eq_true rfl) rfl (Nat.le_of_ble_eq_true rfl) rfl r565 (jo_exn rfl))) H
theorem gL_law_756 {d : Nat} {p0 : Nat} {p1 : Nat} {p2 : Nat} {p3 : Nat} {i4 : Int32} {o5 : Option Value} {o6 : Option Value} {o7 : Option Value} {o8 : Option Value} {h : jm_H} {r : jm_R} (H : ((jm_ali h p0 0 (i4 + 1)).bind fun x590 => jc_I (jm_D d mL_stepsDone [.ref p1, .int x590, .ref p3] h) (fun x594 h592 => (jm_ali h592 p0 0 (i4 + 1)).bind fun x595 => jm_O h592 p2 13 (jc_I (jm_D d mX13_stepsDone [.ref p2, .int x595] h592) (fun x599 h597 => jm_O h597 p2 13 (jc_I (jm_D d mX13_thrown [.ref p2] h597) (fun x602 h600 => (if x602 = x594 then (if x594 = 0 then (jm_all h600 p3 0).bind fun y605 => (if (lg_cmp y605 x599.toInt64) = 0 then kL_law_1982 d p0 p1 p2 p3 i4 (some (.int x594)) (some (.int x599)) o7 o8 h600 else some (.inl (some (.int 0)), h600)) else kL_law_1982 d p0 p1 p2 p3 i4 (some (.int x594)) (some (.int x599)) o7 o8 h600) else some (.inl (some (.int 0)), h600))) jx)) jx)) jx) = some r) : kL_law_756 d p0 p1 p2 p3 i4 o5 o6 o7 o8 h = some r := by
  show jm_B d mL_law (756, [some (.ref p0), some (.ref p1), some (.ref p2), some (.ref p3), some (.int i4), o5, o6, o7, o8], []) h = some r
  refine Eq.trans (jb_nx (i := .aload_n 1) (n := 1) (q := (757, [some (.ref p0), some (.ref p1), some (.ref p2), some (.ref p3), some (.int i4), o5, o6, o7, o8], [.ref p1])) (jq qL_law_c9 16 rfl) rfl) ?_
  refine Eq.trans (jb_nx (i := .aload_n 0) (n := 1) (q := (758, [some (.ref p0), some (.ref p1), some (.ref p2), some (.ref p3), some (.int i4), o5, o6, o7, o8], [.ref p0, .ref p1])) (jq qL_law_c9 17 rfl) rfl) ?_
  refine Eq.trans (jb_nx (i := .iload 4) (n := 2) (q := (760, [some (.ref p0), some (.ref p1), some (.ref p2), some (.ref p3), some (.int i4), o5, o6, o7, o8], [.int i4, .ref p0, .ref p1])) (jq qL_law_c9 18 rfl) rfl) ?_
  refine Eq.trans (jb_nx (i := .iconst 1) (n := 1) (q := (761, [some (.ref p0), some (.ref p1), some (.ref p2), some (.ref p3), some (.int i4), o5, o6, o7, o8], [.int 1, .int i4, .ref p0, .ref p1])) (jq qL_law_c9 19 rfl) rfl) ?_
  refine Eq.trans (jb_nx (i := .iadd) (n := 1) (q := (762, [some (.ref p0), some (.ref p1), some (.ref p2), some (.ref p3), some (.int i4), o5, o6, o7, o8], [.int (i4 + 1), .ref p0, .ref p1])) (jq qL_law_c9 20 rfl) rfl) ?_
  obtain ⟨x590, e591, H⟩ := jbd H
  refine Eq.trans (jb_nx (i := .iaload) (n := 1) (q := (763, [some (.ref p0), some (.ref p1), some (.ref p2), some (.ref p3), some (.int i4), o5, o6, o7, o8], [.int x590, .ref p1])) (jq qL_law_c9 21 rfl) (jo_ial e591)) ?_
  refine Eq.trans (jb_nx (i := .aload_n 3) (n := 1) (q := (764, [some (.ref p0), some (.ref p1), some (.ref p2), some (.ref p3), some (.int i4), o5, o6, o7, o8], [.ref p3, .int x590, .ref p1])) (jq qL_law_c9 22 rfl) rfl) ?_
  rcases jcI H with ⟨x594, h592, r593, H⟩ | ⟨w614, h615, r593, H⟩
  · refine Eq.trans (jb_nx (i := .invokestatic 164) (n := 3) (q := (767, [some (.ref p0), some (.ref p1), some (.ref p2), some (.ref p3), some (.int i4), o5, o6, o7, o8], [.int x594])) (jq qL_law_c9 23 rfl) (jo_cs (y := mL_stepsDone) (w := 4) (by decide) rfl (Nat.le_of_ble_eq_true rfl) rfl (Nat.le_of_ble_eq_true rfl) rfl r593 jo_ret)) ?_
    refine Eq.trans (jb_nx (i := .istore 5) (n := 2) (q := (769, [some (.ref p0), some (.ref p1), some (.ref p2), some (.ref p3), some (.int i4), some (.int x594), o6, o7, o8], [])) (jq qL_law_c9 24 rfl) rfl) ?_
    refine Eq.trans (jb_nx (i := .aload_n 2) (n := 1) (q := (770, [some (.ref p0), some (.ref p1), some (.ref p2), some (.ref p3), some (.int i4), some (.int x594), o6, o7, o8], [.ref p2])) (jq qL_law_c9 25 rfl) rfl) ?_
    refine Eq.trans (jb_nx (i := .aload_n 0) (n := 1) (q := (771, [some (.ref p0), some (.ref p1), some (.ref p2), some (.ref p3), some (.int i4), some (.int x594), o6, o7, o8], [.ref p0, .ref p2])) (jq qL_law_c9 26 rfl) rfl) ?_
    refine Eq.trans (jb_nx (i := .iload 4) (n := 2) (q := (773, [some (.ref p0), some (.ref p1), some (.ref p2), some (.ref p3), some (.int i4), some (.int x594), o6, o7, o8], [.int i4, .ref p0, .ref p2])) (jq qL_law_c9 27 rfl) rfl) ?_
    refine Eq.trans (jb_nx (i := .iconst 1) (n := 1) (q := (774, [some (.ref p0), some (.ref p1), some (.ref p2), some (.ref p3), some (.int i4), some (.int x594), o6, o7, o8], [.int 1, .int i4, .ref p0, .ref p2])) (jq qL_law_c9 28 rfl) rfl) ?_
    refine Eq.trans (jb_nx (i := .iadd) (n := 1) (q := (775, [some (.ref p0), some (.ref p1), some (.ref p2), some (.ref p3), some (.int i4), some (.int x594), o6, o7, o8], [.int (i4 + 1), .ref p0, .ref p2])) (jq qL_law_c9 29 rfl) rfl) ?_
    obtain ⟨x595, e596, H⟩ := jbd H
    refine Eq.trans (jb_nx (i := .iaload) (n := 1) (q := (776, [some (.ref p0), some (.ref p1), some (.ref p2), some (.ref p3), some (.int i4), some (.int x594), o6, o7, o8], [.int x595, .ref p2])) (jq qL_law_c9 30 rfl) (jo_ial e596)) ?_
    obtain ⟨b611, H⟩ := jm_O_inv H
    rcases jcI H with ⟨x599, h597, r598, H⟩ | ⟨w612, h613, r598, H⟩
    · refine Eq.trans (jb_nx (i := .invokevirtual 166) (n := 3) (q := (779, [some (.ref p0), some (.ref p1), some (.ref p2), some (.ref p3), some (.int i4), some (.int x594), o6, o7, o8], [.int x599])) (jq qL_law_c9 31 rfl) (jo_cv (y := mX13_stepsDone) rfl (Nat.le_of_ble_eq_true rfl) rfl (Nat.le_of_ble_eq_true rfl) b611 rfl r598 jo_ret)) ?_
      refine Eq.trans (jb_nx (i := .istore 6) (n := 2) (q := (781, [some (.ref p0), some (.ref p1), some (.ref p2), some (.ref p3), some (.int i4), some (.int x594), some (.int x599), o7, o8], [])) (jq qL_law_c9 32 rfl) rfl) ?_
      refine Eq.trans (jb_nx (i := .aload_n 2) (n := 1) (q := (782, [some (.ref p0), some (.ref p1), some (.ref p2), some (.ref p3), some (.int i4), some (.int x594), some (.int x599), o7, o8], [.ref p2])) (jq qL_law_c9 33 rfl) rfl) ?_
      obtain ⟨b608, H⟩ := jm_O_inv H
      rcases jcI H with ⟨x602, h600, r601, H⟩ | ⟨w609, h610, r601, H⟩
      · refine Eq.trans (jb_nx (i := .invokevirtual 108) (n := 3) (q := (785, [some (.ref p0), some (.ref p1), some (.ref p2), some (.ref p3), some (.int i4), some (.int x594), some (.int x599), o7, o8], [.int x602])) (jq qL_law_c9 34 rfl) (jo_cv (y := mX13_thrown) rfl (Nat.le_of_ble_eq_true rfl) rfl (Nat.le_of_ble_eq_true rfl) b608 rfl r601 jo_ret)) ?_
        refine Eq.trans (jb_nx (i := .iload 5) (n := 2) (q := (787, [some (.ref p0), some (.ref p1), some (.ref p2), some (.ref p3), some (.int i4), some (.int x594), some (.int x599), o7, o8], [.int x594, .int x602])) (jq qL_law_c9 35 rfl) rfl) ?_
        by_cases c603 : x602 = x594
        · rw [if_pos c603] at H
          refine Eq.trans (jb_nx (i := .if_icmp .eq 5) (n := 3) (q := (792, [some (.ref p0), some (.ref p1), some (.ref p2), some (.ref p3), some (.int i4), some (.int x594), some (.int x599), o7, o8], [])) (jq qL_law_c9 36 rfl) (jo_icT (jz_eqT c603) rfl)) ?_
          refine Eq.trans (jb_nx (i := .iload 5) (n := 2) (q := (794, [some (.ref p0), some (.ref p1), some (.ref p2), some (.ref p3), some (.int i4), some (.int x594), some (.int x599), o7, o8], [.int x594])) (jq qL_law_c9 39 rfl) rfl) ?_
          by_cases c604 : x594 = 0
          · rw [if_pos c604] at H
            refine Eq.trans (jb_nx (i := .ifCond .ne 15) (n := 3) (q := (797, [some (.ref p0), some (.ref p1), some (.ref p2), some (.ref p3), some (.int i4), some (.int x594), some (.int x599), o7, o8], [])) (jq qL_law_c10 0 rfl) (jo_ifF (jz_neF c604))) ?_
            refine Eq.trans (jb_nx (i := .aload_n 3) (n := 1) (q := (798, [some (.ref p0), some (.ref p1), some (.ref p2), some (.ref p3), some (.int i4), some (.int x594), some (.int x599), o7, o8], [.ref p3])) (jq qL_law_c10 1 rfl) rfl) ?_
            refine Eq.trans (jb_nx (i := .iconst 0) (n := 1) (q := (799, [some (.ref p0), some (.ref p1), some (.ref p2), some (.ref p3), some (.int i4), some (.int x594), some (.int x599), o7, o8], [.int 0, .ref p3])) (jq qL_law_c10 2 rfl) rfl) ?_
            obtain ⟨y605, e606, H⟩ := jbd H
            refine Eq.trans (jb_nx (i := .laload) (n := 1) (q := (800, [some (.ref p0), some (.ref p1), some (.ref p2), some (.ref p3), some (.int i4), some (.int x594), some (.int x599), o7, o8], [.long y605])) (jq qL_law_c10 3 rfl) (jo_lal e606)) ?_
            refine Eq.trans (jb_nx (i := .iload 6) (n := 2) (q := (802, [some (.ref p0), some (.ref p1), some (.ref p2), some (.ref p3), some (.int i4), some (.int x594), some (.int x599), o7, o8], [.int x599, .long y605])) (jq qL_law_c10 4 rfl) rfl) ?_
            refine Eq.trans (jb_nx (i := .i2l) (n := 1) (q := (803, [some (.ref p0), some (.ref p1), some (.ref p2), some (.ref p3), some (.int i4), some (.int x594), some (.int x599), o7, o8], [.long x599.toInt64, .long y605])) (jq qL_law_c10 5 rfl) rfl) ?_
            refine Eq.trans (jb_nx (i := .lcmp) (n := 1) (q := (804, [some (.ref p0), some (.ref p1), some (.ref p2), some (.ref p3), some (.int i4), some (.int x594), some (.int x599), o7, o8], [.int (lg_cmp y605 x599.toInt64)])) (jq qL_law_c10 6 rfl) rfl) ?_
            by_cases c607 : (lg_cmp y605 x599.toInt64) = 0
            · rw [if_pos c607] at H
              refine Eq.trans (jb_nx (i := .ifCond .eq 5) (n := 3) (q := (809, [some (.ref p0), some (.ref p1), some (.ref p2), some (.ref p3), some (.int i4), some (.int x594), some (.int x599), o7, o8], [])) (jq qL_law_c10 7 rfl) (jo_ifT (jz_eqT c607) rfl)) ?_
              refine Eq.trans (jb_nx (i := .goto 1173) (n := 3) (q := (1982, [some (.ref p0), some (.ref p1), some (.ref p2), some (.ref p3), some (.int i4), some (.int x594), some (.int x599), o7, o8], [])) (jq qL_law_c10 10 rfl) rfl) ?_
              exact H
            · rw [if_neg c607] at H
              refine Eq.trans (jb_nx (i := .ifCond .eq 5) (n := 3) (q := (807, [some (.ref p0), some (.ref p1), some (.ref p2), some (.ref p3), some (.int i4), some (.int x594), some (.int x599), o7, o8], [])) (jq qL_law_c10 7 rfl) (jo_ifF (jz_eqF c607))) ?_
              refine Eq.trans (jb_nx (i := .iconst 0) (n := 1) (q := (808, [some (.ref p0), some (.ref p1), some (.ref p2), some (.ref p3), some (.int i4), some (.int x594), some (.int x599), o7, o8], [.int 0])) (jq qL_law_c10 8 rfl) rfl) ?_
              exact Eq.trans (jb_rt (i := .ireturn) (n := 1) (jq qL_law_c10 9 rfl) (jo_iret rfl (by decide))) H
          · rw [if_neg c604] at H
            refine Eq.trans (jb_nx (i := .ifCond .ne 15) (n := 3) (q := (809, [some (.ref p0), some (.ref p1), some (.ref p2), some (.ref p3), some (.int i4), some (.int x594), some (.int x599), o7, o8], [])) (jq qL_law_c10 0 rfl) (jo_ifT (jz_neT c604) rfl)) ?_
            refine Eq.trans (jb_nx (i := .goto 1173) (n := 3) (q := (1982, [some (.ref p0), some (.ref p1), some (.ref p2), some (.ref p3), some (.int i4), some (.int x594), some (.int x599), o7, o8], [])) (jq qL_law_c10 10 rfl) rfl) ?_
            exact H
        · rw [if_neg c603] at H
          refine Eq.trans (jb_nx (i := .if_icmp .eq 5) (n := 3) (q := (790, [some (.ref p0), some (.ref p1), some (.ref p2), some (.ref p3), some (.int i4), some (.int x594), some (.int x599), o7, o8], [])) (jq qL_law_c9 36 rfl) (jo_icF (jz_eqF c603))) ?_
          refine Eq.trans (jb_nx (i := .iconst 0) (n := 1) (q := (791, [some (.ref p0), some (.ref p1), some (.ref p2), some (.ref p3), some (.int i4), some (.int x594), some (.int x599), o7, o8], [.int 0])) (jq qL_law_c9 37 rfl) rfl) ?_
          exact Eq.trans (jb_rt (i := .ireturn) (n := 1) (jq qL_law_c9 38 rfl) (jo_iret rfl (by decide))) H
      · exact Eq.trans (jb_rt (i := .invokevirtual 108) (n := 3) (jq qL_law_c9 34 rfl) (jo_cv (y := mX13_thrown) rfl (Nat.le_of_ble_eq_true rfl) rfl (Nat.le_of_ble_eq_true rfl) b608 rfl r601 (jo_exn rfl))) H
    · exact Eq.trans (jb_rt (i := .invokevirtual 166) (n := 3) (jq qL_law_c9 31 rfl) (jo_cv (y := mX13_stepsDone) rfl (Nat.le_of_ble_eq_true rfl) rfl (Nat.le_of_ble_eq_true rfl) b611 rfl r598 (jo_exn rfl))) H
  · exact Eq.trans (jb_rt (i := .invokestatic 164) (n := 3) (jq qL_law_c9 23 rfl) (jo_cs (y := mL_stepsDone) (w := 4) (by decide) rfl (Nat.le_of_ble_eq_true rfl) rfl (Nat.le_of_ble_eq_true rfl) rfl r593 (jo_exn rfl))) H
theorem gL_law_688 {d : Nat} {p0 : Nat} {p1 : Nat} {p2 : Nat} {p3 : Nat} {i4 : Int32} {o5 : Option Value} {o6 : Option Value} {o7 : Option Value} {o8 : Option Value} {h : jm_H} {r : jm_R} (H : ((jm_ali h p0 0 (i4 + 1)).bind fun x616 => (jm_ali h p0 0 (i4 + 2)).bind fun x618 => jc_I (jm_D d mL_standsIn [.ref p1, .int x616, .int x618, .ref p3] h) (fun x622 h620 => (jm_ali h620 p0 0 (i4 + 1)).bind fun x623 => (jm_ali h620 p0 0 (i4 + 2)).bind fun x625 => jm_O h620 p2 13 (jc_I (jm_D d mX13_standsIn [.ref p2, .int x623, .int x625] h620) (fun x629 h627 => jm_O h627 p2 13 (jc_I (jm_D d mX13_thrown [.ref p2] h627) (fun x632 h630 => (if x632 = x622 then (if x622 = 0 then (jm_all h630 p3 0).bind fun y635 => (if (lg_cmp y635 x629.toInt64) = 0 then kL_law_1982 d p0 p1 p2 p3 i4 (some (.int x622)) (some (.int x629)) o7 o8 h630 else some (.inl (some (.int 0)), h630)) else kL_law_1982 d p0 p1 p2 p3 i4 (some (.int x622)) (some (.int x629)) o7 o8 h630) else some (.inl (some (.int 0)), h630))) jx)) jx)) jx) = some r) : kL_law_688 d p0 p1 p2 p3 i4 o5 o6 o7 o8 h = some r := by
  show jm_B d mL_law (688, [some (.ref p0), some (.ref p1), some (.ref p2), some (.ref p3), some (.int i4), o5, o6, o7, o8], []) h = some r
  refine Eq.trans (jb_nx (i := .aload_n 1) (n := 1) (q := (689, [some (.ref p0), some (.ref p1), some (.ref p2), some (.ref p3), some (.int i4), o5, o6, o7, o8], [.ref p1])) (jq qL_law_c8 11 rfl) rfl) ?_
  refine Eq.trans (jb_nx (i := .aload_n 0) (n := 1) (q := (690, [some (.ref p0), some (.ref p1), some (.ref p2), some (.ref p3), some (.int i4), o5, o6, o7, o8], [.ref p0, .ref p1])) (jq qL_law_c8 12 rfl) rfl) ?_
  refine Eq.trans (jb_nx (i := .iload 4) (n := 2) (q := (692, [some (.ref p0), some (.ref p1), some (.ref p2), some (.ref p3), some (.int i4), o5, o6, o7, o8], [.int i4, .ref p0, .ref p1])) (jq qL_law_c8 13 rfl) rfl) ?_
  refine Eq.trans (jb_nx (i := .iconst 1) (n := 1) (q := (693, [some (.ref p0), some (.ref p1), some (.ref p2), some (.ref p3), some (.int i4), o5, o6, o7, o8], [.int 1, .int i4, .ref p0, .ref p1])) (jq qL_law_c8 14 rfl) rfl) ?_
  refine Eq.trans (jb_nx (i := .iadd) (n := 1) (q := (694, [some (.ref p0), some (.ref p1), some (.ref p2), some (.ref p3), some (.int i4), o5, o6, o7, o8], [.int (i4 + 1), .ref p0, .ref p1])) (jq qL_law_c8 15 rfl) rfl) ?_
  obtain ⟨x616, e617, H⟩ := jbd H
  refine Eq.trans (jb_nx (i := .iaload) (n := 1) (q := (695, [some (.ref p0), some (.ref p1), some (.ref p2), some (.ref p3), some (.int i4), o5, o6, o7, o8], [.int x616, .ref p1])) (jq qL_law_c8 16 rfl) (jo_ial e617)) ?_
  refine Eq.trans (jb_nx (i := .aload_n 0) (n := 1) (q := (696, [some (.ref p0), some (.ref p1), some (.ref p2), some (.ref p3), some (.int i4), o5, o6, o7, o8], [.ref p0, .int x616, .ref p1])) (jq qL_law_c8 17 rfl) rfl) ?_
  refine Eq.trans (jb_nx (i := .iload 4) (n := 2) (q := (698, [some (.ref p0), some (.ref p1), some (.ref p2), some (.ref p3), some (.int i4), o5, o6, o7, o8], [.int i4, .ref p0, .int x616, .ref p1])) (jq qL_law_c8 18 rfl) rfl) ?_
  refine Eq.trans (jb_nx (i := .iconst 2) (n := 1) (q := (699, [some (.ref p0), some (.ref p1), some (.ref p2), some (.ref p3), some (.int i4), o5, o6, o7, o8], [.int 2, .int i4, .ref p0, .int x616, .ref p1])) (jq qL_law_c8 19 rfl) rfl) ?_
  refine Eq.trans (jb_nx (i := .iadd) (n := 1) (q := (700, [some (.ref p0), some (.ref p1), some (.ref p2), some (.ref p3), some (.int i4), o5, o6, o7, o8], [.int (i4 + 2), .ref p0, .int x616, .ref p1])) (jq qL_law_c8 20 rfl) rfl) ?_
  obtain ⟨x618, e619, H⟩ := jbd H
  refine Eq.trans (jb_nx (i := .iaload) (n := 1) (q := (701, [some (.ref p0), some (.ref p1), some (.ref p2), some (.ref p3), some (.int i4), o5, o6, o7, o8], [.int x618, .int x616, .ref p1])) (jq qL_law_c8 21 rfl) (jo_ial e619)) ?_
  refine Eq.trans (jb_nx (i := .aload_n 3) (n := 1) (q := (702, [some (.ref p0), some (.ref p1), some (.ref p2), some (.ref p3), some (.int i4), o5, o6, o7, o8], [.ref p3, .int x618, .int x616, .ref p1])) (jq qL_law_c8 22 rfl) rfl) ?_
  rcases jcI H with ⟨x622, h620, r621, H⟩ | ⟨w644, h645, r621, H⟩
  · refine Eq.trans (jb_nx (i := .invokestatic 160) (n := 3) (q := (705, [some (.ref p0), some (.ref p1), some (.ref p2), some (.ref p3), some (.int i4), o5, o6, o7, o8], [.int x622])) (jq qL_law_c8 23 rfl) (jo_cs (y := mL_standsIn) (w := 4) (by decide) rfl (Nat.le_of_ble_eq_true rfl) rfl (Nat.le_of_ble_eq_true rfl) rfl r621 jo_ret)) ?_
    refine Eq.trans (jb_nx (i := .istore 5) (n := 2) (q := (707, [some (.ref p0), some (.ref p1), some (.ref p2), some (.ref p3), some (.int i4), some (.int x622), o6, o7, o8], [])) (jq qL_law_c8 24 rfl) rfl) ?_
    refine Eq.trans (jb_nx (i := .aload_n 2) (n := 1) (q := (708, [some (.ref p0), some (.ref p1), some (.ref p2), some (.ref p3), some (.int i4), some (.int x622), o6, o7, o8], [.ref p2])) (jq qL_law_c8 25 rfl) rfl) ?_
    refine Eq.trans (jb_nx (i := .aload_n 0) (n := 1) (q := (709, [some (.ref p0), some (.ref p1), some (.ref p2), some (.ref p3), some (.int i4), some (.int x622), o6, o7, o8], [.ref p0, .ref p2])) (jq qL_law_c8 26 rfl) rfl) ?_
    refine Eq.trans (jb_nx (i := .iload 4) (n := 2) (q := (711, [some (.ref p0), some (.ref p1), some (.ref p2), some (.ref p3), some (.int i4), some (.int x622), o6, o7, o8], [.int i4, .ref p0, .ref p2])) (jq qL_law_c8 27 rfl) rfl) ?_
    refine Eq.trans (jb_nx (i := .iconst 1) (n := 1) (q := (712, [some (.ref p0), some (.ref p1), some (.ref p2), some (.ref p3), some (.int i4), some (.int x622), o6, o7, o8], [.int 1, .int i4, .ref p0, .ref p2])) (jq qL_law_c8 28 rfl) rfl) ?_
    refine Eq.trans (jb_nx (i := .iadd) (n := 1) (q := (713, [some (.ref p0), some (.ref p1), some (.ref p2), some (.ref p3), some (.int i4), some (.int x622), o6, o7, o8], [.int (i4 + 1), .ref p0, .ref p2])) (jq qL_law_c8 29 rfl) rfl) ?_
    obtain ⟨x623, e624, H⟩ := jbd H
    refine Eq.trans (jb_nx (i := .iaload) (n := 1) (q := (714, [some (.ref p0), some (.ref p1), some (.ref p2), some (.ref p3), some (.int i4), some (.int x622), o6, o7, o8], [.int x623, .ref p2])) (jq qL_law_c8 30 rfl) (jo_ial e624)) ?_
    refine Eq.trans (jb_nx (i := .aload_n 0) (n := 1) (q := (715, [some (.ref p0), some (.ref p1), some (.ref p2), some (.ref p3), some (.int i4), some (.int x622), o6, o7, o8], [.ref p0, .int x623, .ref p2])) (jq qL_law_c8 31 rfl) rfl) ?_
    refine Eq.trans (jb_nx (i := .iload 4) (n := 2) (q := (717, [some (.ref p0), some (.ref p1), some (.ref p2), some (.ref p3), some (.int i4), some (.int x622), o6, o7, o8], [.int i4, .ref p0, .int x623, .ref p2])) (jq qL_law_c8 32 rfl) rfl) ?_
    refine Eq.trans (jb_nx (i := .iconst 2) (n := 1) (q := (718, [some (.ref p0), some (.ref p1), some (.ref p2), some (.ref p3), some (.int i4), some (.int x622), o6, o7, o8], [.int 2, .int i4, .ref p0, .int x623, .ref p2])) (jq qL_law_c8 33 rfl) rfl) ?_
    refine Eq.trans (jb_nx (i := .iadd) (n := 1) (q := (719, [some (.ref p0), some (.ref p1), some (.ref p2), some (.ref p3), some (.int i4), some (.int x622), o6, o7, o8], [.int (i4 + 2), .ref p0, .int x623, .ref p2])) (jq qL_law_c8 34 rfl) rfl) ?_
    obtain ⟨x625, e626, H⟩ := jbd H
    refine Eq.trans (jb_nx (i := .iaload) (n := 1) (q := (720, [some (.ref p0), some (.ref p1), some (.ref p2), some (.ref p3), some (.int i4), some (.int x622), o6, o7, o8], [.int x625, .int x623, .ref p2])) (jq qL_law_c8 35 rfl) (jo_ial e626)) ?_
    obtain ⟨b641, H⟩ := jm_O_inv H
    rcases jcI H with ⟨x629, h627, r628, H⟩ | ⟨w642, h643, r628, H⟩
    · refine Eq.trans (jb_nx (i := .invokevirtual 163) (n := 3) (q := (723, [some (.ref p0), some (.ref p1), some (.ref p2), some (.ref p3), some (.int i4), some (.int x622), o6, o7, o8], [.int x629])) (jq qL_law_c8 36 rfl) (jo_cv (y := mX13_standsIn) rfl (Nat.le_of_ble_eq_true rfl) rfl (Nat.le_of_ble_eq_true rfl) b641 rfl r628 jo_ret)) ?_
      refine Eq.trans (jb_nx (i := .istore 6) (n := 2) (q := (725, [some (.ref p0), some (.ref p1), some (.ref p2), some (.ref p3), some (.int i4), some (.int x622), some (.int x629), o7, o8], [])) (jq qL_law_c8 37 rfl) rfl) ?_
      refine Eq.trans (jb_nx (i := .aload_n 2) (n := 1) (q := (726, [some (.ref p0), some (.ref p1), some (.ref p2), some (.ref p3), some (.int i4), some (.int x622), some (.int x629), o7, o8], [.ref p2])) (jq qL_law_c8 38 rfl) rfl) ?_
      obtain ⟨b638, H⟩ := jm_O_inv H
      rcases jcI H with ⟨x632, h630, r631, H⟩ | ⟨w639, h640, r631, H⟩
      · refine Eq.trans (jb_nx (i := .invokevirtual 108) (n := 3) (q := (729, [some (.ref p0), some (.ref p1), some (.ref p2), some (.ref p3), some (.int i4), some (.int x622), some (.int x629), o7, o8], [.int x632])) (jq qL_law_c8 39 rfl) (jo_cv (y := mX13_thrown) rfl (Nat.le_of_ble_eq_true rfl) rfl (Nat.le_of_ble_eq_true rfl) b638 rfl r631 jo_ret)) ?_
        refine Eq.trans (jb_nx (i := .iload 5) (n := 2) (q := (731, [some (.ref p0), some (.ref p1), some (.ref p2), some (.ref p3), some (.int i4), some (.int x622), some (.int x629), o7, o8], [.int x622, .int x632])) (jq qL_law_c9 0 rfl) rfl) ?_
        by_cases c633 : x632 = x622
        · rw [if_pos c633] at H
          refine Eq.trans (jb_nx (i := .if_icmp .eq 5) (n := 3) (q := (736, [some (.ref p0), some (.ref p1), some (.ref p2), some (.ref p3), some (.int i4), some (.int x622), some (.int x629), o7, o8], [])) (jq qL_law_c9 1 rfl) (jo_icT (jz_eqT c633) rfl)) ?_
          refine Eq.trans (jb_nx (i := .iload 5) (n := 2) (q := (738, [some (.ref p0), some (.ref p1), some (.ref p2), some (.ref p3), some (.int i4), some (.int x622), some (.int x629), o7, o8], [.int x622])) (jq qL_law_c9 4 rfl) rfl) ?_
          by_cases c634 : x622 = 0
          · rw [if_pos c634] at H
            refine Eq.trans (jb_nx (i := .ifCond .ne 15) (n := 3) (q := (741, [some (.ref p0), some (.ref p1), some (.ref p2), some (.ref p3), some (.int i4), some (.int x622), some (.int x629), o7, o8], [])) (jq qL_law_c9 5 rfl) (jo_ifF (jz_neF c634))) ?_
            refine Eq.trans (jb_nx (i := .aload_n 3) (n := 1) (q := (742, [some (.ref p0), some (.ref p1), some (.ref p2), some (.ref p3), some (.int i4), some (.int x622), some (.int x629), o7, o8], [.ref p3])) (jq qL_law_c9 6 rfl) rfl) ?_
            refine Eq.trans (jb_nx (i := .iconst 0) (n := 1) (q := (743, [some (.ref p0), some (.ref p1), some (.ref p2), some (.ref p3), some (.int i4), some (.int x622), some (.int x629), o7, o8], [.int 0, .ref p3])) (jq qL_law_c9 7 rfl) rfl) ?_
            obtain ⟨y635, e636, H⟩ := jbd H
            refine Eq.trans (jb_nx (i := .laload) (n := 1) (q := (744, [some (.ref p0), some (.ref p1), some (.ref p2), some (.ref p3), some (.int i4), some (.int x622), some (.int x629), o7, o8], [.long y635])) (jq qL_law_c9 8 rfl) (jo_lal e636)) ?_
            refine Eq.trans (jb_nx (i := .iload 6) (n := 2) (q := (746, [some (.ref p0), some (.ref p1), some (.ref p2), some (.ref p3), some (.int i4), some (.int x622), some (.int x629), o7, o8], [.int x629, .long y635])) (jq qL_law_c9 9 rfl) rfl) ?_
            refine Eq.trans (jb_nx (i := .i2l) (n := 1) (q := (747, [some (.ref p0), some (.ref p1), some (.ref p2), some (.ref p3), some (.int i4), some (.int x622), some (.int x629), o7, o8], [.long x629.toInt64, .long y635])) (jq qL_law_c9 10 rfl) rfl) ?_
            refine Eq.trans (jb_nx (i := .lcmp) (n := 1) (q := (748, [some (.ref p0), some (.ref p1), some (.ref p2), some (.ref p3), some (.int i4), some (.int x622), some (.int x629), o7, o8], [.int (lg_cmp y635 x629.toInt64)])) (jq qL_law_c9 11 rfl) rfl) ?_
            by_cases c637 : (lg_cmp y635 x629.toInt64) = 0
            · rw [if_pos c637] at H
              refine Eq.trans (jb_nx (i := .ifCond .eq 5) (n := 3) (q := (753, [some (.ref p0), some (.ref p1), some (.ref p2), some (.ref p3), some (.int i4), some (.int x622), some (.int x629), o7, o8], [])) (jq qL_law_c9 12 rfl) (jo_ifT (jz_eqT c637) rfl)) ?_
              refine Eq.trans (jb_nx (i := .goto 1229) (n := 3) (q := (1982, [some (.ref p0), some (.ref p1), some (.ref p2), some (.ref p3), some (.int i4), some (.int x622), some (.int x629), o7, o8], [])) (jq qL_law_c9 15 rfl) rfl) ?_
              exact H
            · rw [if_neg c637] at H
              refine Eq.trans (jb_nx (i := .ifCond .eq 5) (n := 3) (q := (751, [some (.ref p0), some (.ref p1), some (.ref p2), some (.ref p3), some (.int i4), some (.int x622), some (.int x629), o7, o8], [])) (jq qL_law_c9 12 rfl) (jo_ifF (jz_eqF c637))) ?_
              refine Eq.trans (jb_nx (i := .iconst 0) (n := 1) (q := (752, [some (.ref p0), some (.ref p1), some (.ref p2), some (.ref p3), some (.int i4), some (.int x622), some (.int x629), o7, o8], [.int 0])) (jq qL_law_c9 13 rfl) rfl) ?_
              exact Eq.trans (jb_rt (i := .ireturn) (n := 1) (jq qL_law_c9 14 rfl) (jo_iret rfl (by decide))) H
          · rw [if_neg c634] at H
            refine Eq.trans (jb_nx (i := .ifCond .ne 15) (n := 3) (q := (753, [some (.ref p0), some (.ref p1), some (.ref p2), some (.ref p3), some (.int i4), some (.int x622), some (.int x629), o7, o8], [])) (jq qL_law_c9 5 rfl) (jo_ifT (jz_neT c634) rfl)) ?_
            refine Eq.trans (jb_nx (i := .goto 1229) (n := 3) (q := (1982, [some (.ref p0), some (.ref p1), some (.ref p2), some (.ref p3), some (.int i4), some (.int x622), some (.int x629), o7, o8], [])) (jq qL_law_c9 15 rfl) rfl) ?_
            exact H
        · rw [if_neg c633] at H
          refine Eq.trans (jb_nx (i := .if_icmp .eq 5) (n := 3) (q := (734, [some (.ref p0), some (.ref p1), some (.ref p2), some (.ref p3), some (.int i4), some (.int x622), some (.int x629), o7, o8], [])) (jq qL_law_c9 1 rfl) (jo_icF (jz_eqF c633))) ?_
          refine Eq.trans (jb_nx (i := .iconst 0) (n := 1) (q := (735, [some (.ref p0), some (.ref p1), some (.ref p2), some (.ref p3), some (.int i4), some (.int x622), some (.int x629), o7, o8], [.int 0])) (jq qL_law_c9 2 rfl) rfl) ?_
          exact Eq.trans (jb_rt (i := .ireturn) (n := 1) (jq qL_law_c9 3 rfl) (jo_iret rfl (by decide))) H
      · exact Eq.trans (jb_rt (i := .invokevirtual 108) (n := 3) (jq qL_law_c8 39 rfl) (jo_cv (y := mX13_thrown) rfl (Nat.le_of_ble_eq_true rfl) rfl (Nat.le_of_ble_eq_true rfl) b638 rfl r631 (jo_exn rfl))) H
    · exact Eq.trans (jb_rt (i := .invokevirtual 163) (n := 3) (jq qL_law_c8 36 rfl) (jo_cv (y := mX13_standsIn) rfl (Nat.le_of_ble_eq_true rfl) rfl (Nat.le_of_ble_eq_true rfl) b641 rfl r628 (jo_exn rfl))) H
  · exact Eq.trans (jb_rt (i := .invokestatic 160) (n := 3) (jq qL_law_c8 23 rfl) (jo_cs (y := mL_standsIn) (w := 4) (by decide) rfl (Nat.le_of_ble_eq_true rfl) rfl (Nat.le_of_ble_eq_true rfl) rfl r621 (jo_exn rfl))) H
theorem gL_law_632 {d : Nat} {p0 : Nat} {p1 : Nat} {p2 : Nat} {p3 : Nat} {i4 : Int32} {o5 : Option Value} {o6 : Option Value} {o7 : Option Value} {o8 : Option Value} {h : jm_H} {r : jm_R} (H : ((jm_ali h p0 0 (i4 + 1)).bind fun x646 => jc_I (jm_D d mL_mostMasksAround [.ref p1, .int x646, .ref p3] h) (fun x650 h648 => (jm_ali h648 p0 0 (i4 + 1)).bind fun x651 => jm_O h648 p2 13 (jc_I (jm_D d mX13_mostMasksAround [.ref p2, .int x651] h648) (fun x655 h653 => jm_O h653 p2 13 (jc_I (jm_D d mX13_thrown [.ref p2] h653) (fun x658 h656 => (if x658 = x650 then (if x650 = 0 then (jm_all h656 p3 0).bind fun y661 => (if (lg_cmp y661 x655.toInt64) = 0 then kL_law_1982 d p0 p1 p2 p3 i4 (some (.int x650)) (some (.int x655)) o7 o8 h656 else some (.inl (some (.int 0)), h656)) else kL_law_1982 d p0 p1 p2 p3 i4 (some (.int x650)) (some (.int x655)) o7 o8 h656) else some (.inl (some (.int 0)), h656))) jx)) jx)) jx) = some r) : kL_law_632 d p0 p1 p2 p3 i4 o5 o6 o7 o8 h = some r := by
  show jm_B d mL_law (632, [some (.ref p0), some (.ref p1), some (.ref p2), some (.ref p3), some (.int i4), o5, o6, o7, o8], []) h = some r
  refine Eq.trans (jb_nx (i := .aload_n 1) (n := 1) (q := (633, [some (.ref p0), some (.ref p1), some (.ref p2), some (.ref p3), some (.int i4), o5, o6, o7, o8], [.ref p1])) (jq qL_law_c7 16 rfl) rfl) ?_
  refine Eq.trans (jb_nx (i := .aload_n 0) (n := 1) (q := (634, [some (.ref p0), some (.ref p1), some (.ref p2), some (.ref p3), some (.int i4), o5, o6, o7, o8], [.ref p0, .ref p1])) (jq qL_law_c7 17 rfl) rfl) ?_
  refine Eq.trans (jb_nx (i := .iload 4) (n := 2) (q := (636, [some (.ref p0), some (.ref p1), some (.ref p2), some (.ref p3), some (.int i4), o5, o6, o7, o8], [.int i4, .ref p0, .ref p1])) (jq qL_law_c7 18 rfl) rfl) ?_
  refine Eq.trans (jb_nx (i := .iconst 1) (n := 1) (q := (637, [some (.ref p0), some (.ref p1), some (.ref p2), some (.ref p3), some (.int i4), o5, o6, o7, o8], [.int 1, .int i4, .ref p0, .ref p1])) (jq qL_law_c7 19 rfl) rfl) ?_
  refine Eq.trans (jb_nx (i := .iadd) (n := 1) (q := (638, [some (.ref p0), some (.ref p1), some (.ref p2), some (.ref p3), some (.int i4), o5, o6, o7, o8], [.int (i4 + 1), .ref p0, .ref p1])) (jq qL_law_c7 20 rfl) rfl) ?_
  obtain ⟨x646, e647, H⟩ := jbd H
  refine Eq.trans (jb_nx (i := .iaload) (n := 1) (q := (639, [some (.ref p0), some (.ref p1), some (.ref p2), some (.ref p3), some (.int i4), o5, o6, o7, o8], [.int x646, .ref p1])) (jq qL_law_c7 21 rfl) (jo_ial e647)) ?_
  refine Eq.trans (jb_nx (i := .aload_n 3) (n := 1) (q := (640, [some (.ref p0), some (.ref p1), some (.ref p2), some (.ref p3), some (.int i4), o5, o6, o7, o8], [.ref p3, .int x646, .ref p1])) (jq qL_law_c7 22 rfl) rfl) ?_
  rcases jcI H with ⟨x650, h648, r649, H⟩ | ⟨w670, h671, r649, H⟩
  · refine Eq.trans (jb_nx (i := .invokestatic 157) (n := 3) (q := (643, [some (.ref p0), some (.ref p1), some (.ref p2), some (.ref p3), some (.int i4), o5, o6, o7, o8], [.int x650])) (jq qL_law_c7 23 rfl) (jo_cs (y := mL_mostMasksAround) (w := 4) (by decide) rfl (Nat.le_of_ble_eq_true rfl) rfl (Nat.le_of_ble_eq_true rfl) rfl r649 jo_ret)) ?_
    refine Eq.trans (jb_nx (i := .istore 5) (n := 2) (q := (645, [some (.ref p0), some (.ref p1), some (.ref p2), some (.ref p3), some (.int i4), some (.int x650), o6, o7, o8], [])) (jq qL_law_c7 24 rfl) rfl) ?_
    refine Eq.trans (jb_nx (i := .aload_n 2) (n := 1) (q := (646, [some (.ref p0), some (.ref p1), some (.ref p2), some (.ref p3), some (.int i4), some (.int x650), o6, o7, o8], [.ref p2])) (jq qL_law_c7 25 rfl) rfl) ?_
    refine Eq.trans (jb_nx (i := .aload_n 0) (n := 1) (q := (647, [some (.ref p0), some (.ref p1), some (.ref p2), some (.ref p3), some (.int i4), some (.int x650), o6, o7, o8], [.ref p0, .ref p2])) (jq qL_law_c7 26 rfl) rfl) ?_
    refine Eq.trans (jb_nx (i := .iload 4) (n := 2) (q := (649, [some (.ref p0), some (.ref p1), some (.ref p2), some (.ref p3), some (.int i4), some (.int x650), o6, o7, o8], [.int i4, .ref p0, .ref p2])) (jq qL_law_c7 27 rfl) rfl) ?_
    refine Eq.trans (jb_nx (i := .iconst 1) (n := 1) (q := (650, [some (.ref p0), some (.ref p1), some (.ref p2), some (.ref p3), some (.int i4), some (.int x650), o6, o7, o8], [.int 1, .int i4, .ref p0, .ref p2])) (jq qL_law_c7 28 rfl) rfl) ?_
    refine Eq.trans (jb_nx (i := .iadd) (n := 1) (q := (651, [some (.ref p0), some (.ref p1), some (.ref p2), some (.ref p3), some (.int i4), some (.int x650), o6, o7, o8], [.int (i4 + 1), .ref p0, .ref p2])) (jq qL_law_c7 29 rfl) rfl) ?_
    obtain ⟨x651, e652, H⟩ := jbd H
    refine Eq.trans (jb_nx (i := .iaload) (n := 1) (q := (652, [some (.ref p0), some (.ref p1), some (.ref p2), some (.ref p3), some (.int i4), some (.int x650), o6, o7, o8], [.int x651, .ref p2])) (jq qL_law_c7 30 rfl) (jo_ial e652)) ?_
    obtain ⟨b667, H⟩ := jm_O_inv H
    rcases jcI H with ⟨x655, h653, r654, H⟩ | ⟨w668, h669, r654, H⟩
    · refine Eq.trans (jb_nx (i := .invokevirtual 159) (n := 3) (q := (655, [some (.ref p0), some (.ref p1), some (.ref p2), some (.ref p3), some (.int i4), some (.int x650), o6, o7, o8], [.int x655])) (jq qL_law_c7 31 rfl) (jo_cv (y := mX13_mostMasksAround) rfl (Nat.le_of_ble_eq_true rfl) rfl (Nat.le_of_ble_eq_true rfl) b667 rfl r654 jo_ret)) ?_
      refine Eq.trans (jb_nx (i := .istore 6) (n := 2) (q := (657, [some (.ref p0), some (.ref p1), some (.ref p2), some (.ref p3), some (.int i4), some (.int x650), some (.int x655), o7, o8], [])) (jq qL_law_c7 32 rfl) rfl) ?_
      refine Eq.trans (jb_nx (i := .aload_n 2) (n := 1) (q := (658, [some (.ref p0), some (.ref p1), some (.ref p2), some (.ref p3), some (.int i4), some (.int x650), some (.int x655), o7, o8], [.ref p2])) (jq qL_law_c7 33 rfl) rfl) ?_
      obtain ⟨b664, H⟩ := jm_O_inv H
      rcases jcI H with ⟨x658, h656, r657, H⟩ | ⟨w665, h666, r657, H⟩
      · refine Eq.trans (jb_nx (i := .invokevirtual 108) (n := 3) (q := (661, [some (.ref p0), some (.ref p1), some (.ref p2), some (.ref p3), some (.int i4), some (.int x650), some (.int x655), o7, o8], [.int x658])) (jq qL_law_c7 34 rfl) (jo_cv (y := mX13_thrown) rfl (Nat.le_of_ble_eq_true rfl) rfl (Nat.le_of_ble_eq_true rfl) b664 rfl r657 jo_ret)) ?_
        refine Eq.trans (jb_nx (i := .iload 5) (n := 2) (q := (663, [some (.ref p0), some (.ref p1), some (.ref p2), some (.ref p3), some (.int i4), some (.int x650), some (.int x655), o7, o8], [.int x650, .int x658])) (jq qL_law_c7 35 rfl) rfl) ?_
        by_cases c659 : x658 = x650
        · rw [if_pos c659] at H
          refine Eq.trans (jb_nx (i := .if_icmp .eq 5) (n := 3) (q := (668, [some (.ref p0), some (.ref p1), some (.ref p2), some (.ref p3), some (.int i4), some (.int x650), some (.int x655), o7, o8], [])) (jq qL_law_c7 36 rfl) (jo_icT (jz_eqT c659) rfl)) ?_
          refine Eq.trans (jb_nx (i := .iload 5) (n := 2) (q := (670, [some (.ref p0), some (.ref p1), some (.ref p2), some (.ref p3), some (.int i4), some (.int x650), some (.int x655), o7, o8], [.int x650])) (jq qL_law_c7 39 rfl) rfl) ?_
          by_cases c660 : x650 = 0
          · rw [if_pos c660] at H
            refine Eq.trans (jb_nx (i := .ifCond .ne 15) (n := 3) (q := (673, [some (.ref p0), some (.ref p1), some (.ref p2), some (.ref p3), some (.int i4), some (.int x650), some (.int x655), o7, o8], [])) (jq qL_law_c8 0 rfl) (jo_ifF (jz_neF c660))) ?_
            refine Eq.trans (jb_nx (i := .aload_n 3) (n := 1) (q := (674, [some (.ref p0), some (.ref p1), some (.ref p2), some (.ref p3), some (.int i4), some (.int x650), some (.int x655), o7, o8], [.ref p3])) (jq qL_law_c8 1 rfl) rfl) ?_
            refine Eq.trans (jb_nx (i := .iconst 0) (n := 1) (q := (675, [some (.ref p0), some (.ref p1), some (.ref p2), some (.ref p3), some (.int i4), some (.int x650), some (.int x655), o7, o8], [.int 0, .ref p3])) (jq qL_law_c8 2 rfl) rfl) ?_
            obtain ⟨y661, e662, H⟩ := jbd H
            refine Eq.trans (jb_nx (i := .laload) (n := 1) (q := (676, [some (.ref p0), some (.ref p1), some (.ref p2), some (.ref p3), some (.int i4), some (.int x650), some (.int x655), o7, o8], [.long y661])) (jq qL_law_c8 3 rfl) (jo_lal e662)) ?_
            refine Eq.trans (jb_nx (i := .iload 6) (n := 2) (q := (678, [some (.ref p0), some (.ref p1), some (.ref p2), some (.ref p3), some (.int i4), some (.int x650), some (.int x655), o7, o8], [.int x655, .long y661])) (jq qL_law_c8 4 rfl) rfl) ?_
            refine Eq.trans (jb_nx (i := .i2l) (n := 1) (q := (679, [some (.ref p0), some (.ref p1), some (.ref p2), some (.ref p3), some (.int i4), some (.int x650), some (.int x655), o7, o8], [.long x655.toInt64, .long y661])) (jq qL_law_c8 5 rfl) rfl) ?_
            refine Eq.trans (jb_nx (i := .lcmp) (n := 1) (q := (680, [some (.ref p0), some (.ref p1), some (.ref p2), some (.ref p3), some (.int i4), some (.int x650), some (.int x655), o7, o8], [.int (lg_cmp y661 x655.toInt64)])) (jq qL_law_c8 6 rfl) rfl) ?_
            by_cases c663 : (lg_cmp y661 x655.toInt64) = 0
            · rw [if_pos c663] at H
              refine Eq.trans (jb_nx (i := .ifCond .eq 5) (n := 3) (q := (685, [some (.ref p0), some (.ref p1), some (.ref p2), some (.ref p3), some (.int i4), some (.int x650), some (.int x655), o7, o8], [])) (jq qL_law_c8 7 rfl) (jo_ifT (jz_eqT c663) rfl)) ?_
              refine Eq.trans (jb_nx (i := .goto 1297) (n := 3) (q := (1982, [some (.ref p0), some (.ref p1), some (.ref p2), some (.ref p3), some (.int i4), some (.int x650), some (.int x655), o7, o8], [])) (jq qL_law_c8 10 rfl) rfl) ?_
              exact H
            · rw [if_neg c663] at H
              refine Eq.trans (jb_nx (i := .ifCond .eq 5) (n := 3) (q := (683, [some (.ref p0), some (.ref p1), some (.ref p2), some (.ref p3), some (.int i4), some (.int x650), some (.int x655), o7, o8], [])) (jq qL_law_c8 7 rfl) (jo_ifF (jz_eqF c663))) ?_
              refine Eq.trans (jb_nx (i := .iconst 0) (n := 1) (q := (684, [some (.ref p0), some (.ref p1), some (.ref p2), some (.ref p3), some (.int i4), some (.int x650), some (.int x655), o7, o8], [.int 0])) (jq qL_law_c8 8 rfl) rfl) ?_
              exact Eq.trans (jb_rt (i := .ireturn) (n := 1) (jq qL_law_c8 9 rfl) (jo_iret rfl (by decide))) H
          · rw [if_neg c660] at H
            refine Eq.trans (jb_nx (i := .ifCond .ne 15) (n := 3) (q := (685, [some (.ref p0), some (.ref p1), some (.ref p2), some (.ref p3), some (.int i4), some (.int x650), some (.int x655), o7, o8], [])) (jq qL_law_c8 0 rfl) (jo_ifT (jz_neT c660) rfl)) ?_
            refine Eq.trans (jb_nx (i := .goto 1297) (n := 3) (q := (1982, [some (.ref p0), some (.ref p1), some (.ref p2), some (.ref p3), some (.int i4), some (.int x650), some (.int x655), o7, o8], [])) (jq qL_law_c8 10 rfl) rfl) ?_
            exact H
        · rw [if_neg c659] at H
          refine Eq.trans (jb_nx (i := .if_icmp .eq 5) (n := 3) (q := (666, [some (.ref p0), some (.ref p1), some (.ref p2), some (.ref p3), some (.int i4), some (.int x650), some (.int x655), o7, o8], [])) (jq qL_law_c7 36 rfl) (jo_icF (jz_eqF c659))) ?_
          refine Eq.trans (jb_nx (i := .iconst 0) (n := 1) (q := (667, [some (.ref p0), some (.ref p1), some (.ref p2), some (.ref p3), some (.int i4), some (.int x650), some (.int x655), o7, o8], [.int 0])) (jq qL_law_c7 37 rfl) rfl) ?_
          exact Eq.trans (jb_rt (i := .ireturn) (n := 1) (jq qL_law_c7 38 rfl) (jo_iret rfl (by decide))) H
      · exact Eq.trans (jb_rt (i := .invokevirtual 108) (n := 3) (jq qL_law_c7 34 rfl) (jo_cv (y := mX13_thrown) rfl (Nat.le_of_ble_eq_true rfl) rfl (Nat.le_of_ble_eq_true rfl) b664 rfl r657 (jo_exn rfl))) H
    · exact Eq.trans (jb_rt (i := .invokevirtual 159) (n := 3) (jq qL_law_c7 31 rfl) (jo_cv (y := mX13_mostMasksAround) rfl (Nat.le_of_ble_eq_true rfl) rfl (Nat.le_of_ble_eq_true rfl) b667 rfl r654 (jo_exn rfl))) H
  · exact Eq.trans (jb_rt (i := .invokestatic 157) (n := 3) (jq qL_law_c7 23 rfl) (jo_cs (y := mL_mostMasksAround) (w := 4) (by decide) rfl (Nat.le_of_ble_eq_true rfl) rfl (Nat.le_of_ble_eq_true rfl) rfl r649 (jo_exn rfl))) H
theorem gL_law_576 {d : Nat} {p0 : Nat} {p1 : Nat} {p2 : Nat} {p3 : Nat} {i4 : Int32} {o5 : Option Value} {o6 : Option Value} {o7 : Option Value} {o8 : Option Value} {h : jm_H} {r : jm_R} (H : ((jm_ali h p0 0 (i4 + 1)).bind fun x672 => jc_I (jm_D d mL_scenesIn [.ref p1, .int x672, .ref p3] h) (fun x676 h674 => (jm_ali h674 p0 0 (i4 + 1)).bind fun x677 => jm_O h674 p2 13 (jc_I (jm_D d mX13_scenesIn [.ref p2, .int x677] h674) (fun x681 h679 => jm_O h679 p2 13 (jc_I (jm_D d mX13_thrown [.ref p2] h679) (fun x684 h682 => (if x684 = x676 then (if x676 = 0 then (jm_all h682 p3 0).bind fun y687 => (if (lg_cmp y687 x681.toInt64) = 0 then kL_law_1982 d p0 p1 p2 p3 i4 (some (.int x676)) (some (.int x681)) o7 o8 h682 else some (.inl (some (.int 0)), h682)) else kL_law_1982 d p0 p1 p2 p3 i4 (some (.int x676)) (some (.int x681)) o7 o8 h682) else some (.inl (some (.int 0)), h682))) jx)) jx)) jx) = some r) : kL_law_576 d p0 p1 p2 p3 i4 o5 o6 o7 o8 h = some r := by
  show jm_B d mL_law (576, [some (.ref p0), some (.ref p1), some (.ref p2), some (.ref p3), some (.int i4), o5, o6, o7, o8], []) h = some r
  refine Eq.trans (jb_nx (i := .aload_n 1) (n := 1) (q := (577, [some (.ref p0), some (.ref p1), some (.ref p2), some (.ref p3), some (.int i4), o5, o6, o7, o8], [.ref p1])) (jq qL_law_c6 21 rfl) rfl) ?_
  refine Eq.trans (jb_nx (i := .aload_n 0) (n := 1) (q := (578, [some (.ref p0), some (.ref p1), some (.ref p2), some (.ref p3), some (.int i4), o5, o6, o7, o8], [.ref p0, .ref p1])) (jq qL_law_c6 22 rfl) rfl) ?_
  refine Eq.trans (jb_nx (i := .iload 4) (n := 2) (q := (580, [some (.ref p0), some (.ref p1), some (.ref p2), some (.ref p3), some (.int i4), o5, o6, o7, o8], [.int i4, .ref p0, .ref p1])) (jq qL_law_c6 23 rfl) rfl) ?_
  refine Eq.trans (jb_nx (i := .iconst 1) (n := 1) (q := (581, [some (.ref p0), some (.ref p1), some (.ref p2), some (.ref p3), some (.int i4), o5, o6, o7, o8], [.int 1, .int i4, .ref p0, .ref p1])) (jq qL_law_c6 24 rfl) rfl) ?_
  refine Eq.trans (jb_nx (i := .iadd) (n := 1) (q := (582, [some (.ref p0), some (.ref p1), some (.ref p2), some (.ref p3), some (.int i4), o5, o6, o7, o8], [.int (i4 + 1), .ref p0, .ref p1])) (jq qL_law_c6 25 rfl) rfl) ?_
  obtain ⟨x672, e673, H⟩ := jbd H
  refine Eq.trans (jb_nx (i := .iaload) (n := 1) (q := (583, [some (.ref p0), some (.ref p1), some (.ref p2), some (.ref p3), some (.int i4), o5, o6, o7, o8], [.int x672, .ref p1])) (jq qL_law_c6 26 rfl) (jo_ial e673)) ?_
  refine Eq.trans (jb_nx (i := .aload_n 3) (n := 1) (q := (584, [some (.ref p0), some (.ref p1), some (.ref p2), some (.ref p3), some (.int i4), o5, o6, o7, o8], [.ref p3, .int x672, .ref p1])) (jq qL_law_c6 27 rfl) rfl) ?_
  rcases jcI H with ⟨x676, h674, r675, H⟩ | ⟨w696, h697, r675, H⟩
  · refine Eq.trans (jb_nx (i := .invokestatic 154) (n := 3) (q := (587, [some (.ref p0), some (.ref p1), some (.ref p2), some (.ref p3), some (.int i4), o5, o6, o7, o8], [.int x676])) (jq qL_law_c6 28 rfl) (jo_cs (y := mL_scenesIn) (w := 4) (by decide) rfl (Nat.le_of_ble_eq_true rfl) rfl (Nat.le_of_ble_eq_true rfl) rfl r675 jo_ret)) ?_
    refine Eq.trans (jb_nx (i := .istore 5) (n := 2) (q := (589, [some (.ref p0), some (.ref p1), some (.ref p2), some (.ref p3), some (.int i4), some (.int x676), o6, o7, o8], [])) (jq qL_law_c6 29 rfl) rfl) ?_
    refine Eq.trans (jb_nx (i := .aload_n 2) (n := 1) (q := (590, [some (.ref p0), some (.ref p1), some (.ref p2), some (.ref p3), some (.int i4), some (.int x676), o6, o7, o8], [.ref p2])) (jq qL_law_c6 30 rfl) rfl) ?_
    refine Eq.trans (jb_nx (i := .aload_n 0) (n := 1) (q := (591, [some (.ref p0), some (.ref p1), some (.ref p2), some (.ref p3), some (.int i4), some (.int x676), o6, o7, o8], [.ref p0, .ref p2])) (jq qL_law_c6 31 rfl) rfl) ?_
    refine Eq.trans (jb_nx (i := .iload 4) (n := 2) (q := (593, [some (.ref p0), some (.ref p1), some (.ref p2), some (.ref p3), some (.int i4), some (.int x676), o6, o7, o8], [.int i4, .ref p0, .ref p2])) (jq qL_law_c6 32 rfl) rfl) ?_
    refine Eq.trans (jb_nx (i := .iconst 1) (n := 1) (q := (594, [some (.ref p0), some (.ref p1), some (.ref p2), some (.ref p3), some (.int i4), some (.int x676), o6, o7, o8], [.int 1, .int i4, .ref p0, .ref p2])) (jq qL_law_c6 33 rfl) rfl) ?_
    refine Eq.trans (jb_nx (i := .iadd) (n := 1) (q := (595, [some (.ref p0), some (.ref p1), some (.ref p2), some (.ref p3), some (.int i4), some (.int x676), o6, o7, o8], [.int (i4 + 1), .ref p0, .ref p2])) (jq qL_law_c6 34 rfl) rfl) ?_
    obtain ⟨x677, e678, H⟩ := jbd H
    refine Eq.trans (jb_nx (i := .iaload) (n := 1) (q := (596, [some (.ref p0), some (.ref p1), some (.ref p2), some (.ref p3), some (.int i4), some (.int x676), o6, o7, o8], [.int x677, .ref p2])) (jq qL_law_c6 35 rfl) (jo_ial e678)) ?_
    obtain ⟨b693, H⟩ := jm_O_inv H
    rcases jcI H with ⟨x681, h679, r680, H⟩ | ⟨w694, h695, r680, H⟩
    · refine Eq.trans (jb_nx (i := .invokevirtual 156) (n := 3) (q := (599, [some (.ref p0), some (.ref p1), some (.ref p2), some (.ref p3), some (.int i4), some (.int x676), o6, o7, o8], [.int x681])) (jq qL_law_c6 36 rfl) (jo_cv (y := mX13_scenesIn) rfl (Nat.le_of_ble_eq_true rfl) rfl (Nat.le_of_ble_eq_true rfl) b693 rfl r680 jo_ret)) ?_
      refine Eq.trans (jb_nx (i := .istore 6) (n := 2) (q := (601, [some (.ref p0), some (.ref p1), some (.ref p2), some (.ref p3), some (.int i4), some (.int x676), some (.int x681), o7, o8], [])) (jq qL_law_c6 37 rfl) rfl) ?_
      refine Eq.trans (jb_nx (i := .aload_n 2) (n := 1) (q := (602, [some (.ref p0), some (.ref p1), some (.ref p2), some (.ref p3), some (.int i4), some (.int x676), some (.int x681), o7, o8], [.ref p2])) (jq qL_law_c6 38 rfl) rfl) ?_
      obtain ⟨b690, H⟩ := jm_O_inv H
      rcases jcI H with ⟨x684, h682, r683, H⟩ | ⟨w691, h692, r683, H⟩
      · refine Eq.trans (jb_nx (i := .invokevirtual 108) (n := 3) (q := (605, [some (.ref p0), some (.ref p1), some (.ref p2), some (.ref p3), some (.int i4), some (.int x676), some (.int x681), o7, o8], [.int x684])) (jq qL_law_c6 39 rfl) (jo_cv (y := mX13_thrown) rfl (Nat.le_of_ble_eq_true rfl) rfl (Nat.le_of_ble_eq_true rfl) b690 rfl r683 jo_ret)) ?_
        refine Eq.trans (jb_nx (i := .iload 5) (n := 2) (q := (607, [some (.ref p0), some (.ref p1), some (.ref p2), some (.ref p3), some (.int i4), some (.int x676), some (.int x681), o7, o8], [.int x676, .int x684])) (jq qL_law_c7 0 rfl) rfl) ?_
        by_cases c685 : x684 = x676
        · rw [if_pos c685] at H
          refine Eq.trans (jb_nx (i := .if_icmp .eq 5) (n := 3) (q := (612, [some (.ref p0), some (.ref p1), some (.ref p2), some (.ref p3), some (.int i4), some (.int x676), some (.int x681), o7, o8], [])) (jq qL_law_c7 1 rfl) (jo_icT (jz_eqT c685) rfl)) ?_
          refine Eq.trans (jb_nx (i := .iload 5) (n := 2) (q := (614, [some (.ref p0), some (.ref p1), some (.ref p2), some (.ref p3), some (.int i4), some (.int x676), some (.int x681), o7, o8], [.int x676])) (jq qL_law_c7 4 rfl) rfl) ?_
          by_cases c686 : x676 = 0
          · rw [if_pos c686] at H
            refine Eq.trans (jb_nx (i := .ifCond .ne 15) (n := 3) (q := (617, [some (.ref p0), some (.ref p1), some (.ref p2), some (.ref p3), some (.int i4), some (.int x676), some (.int x681), o7, o8], [])) (jq qL_law_c7 5 rfl) (jo_ifF (jz_neF c686))) ?_
            refine Eq.trans (jb_nx (i := .aload_n 3) (n := 1) (q := (618, [some (.ref p0), some (.ref p1), some (.ref p2), some (.ref p3), some (.int i4), some (.int x676), some (.int x681), o7, o8], [.ref p3])) (jq qL_law_c7 6 rfl) rfl) ?_
            refine Eq.trans (jb_nx (i := .iconst 0) (n := 1) (q := (619, [some (.ref p0), some (.ref p1), some (.ref p2), some (.ref p3), some (.int i4), some (.int x676), some (.int x681), o7, o8], [.int 0, .ref p3])) (jq qL_law_c7 7 rfl) rfl) ?_
            obtain ⟨y687, e688, H⟩ := jbd H
            refine Eq.trans (jb_nx (i := .laload) (n := 1) (q := (620, [some (.ref p0), some (.ref p1), some (.ref p2), some (.ref p3), some (.int i4), some (.int x676), some (.int x681), o7, o8], [.long y687])) (jq qL_law_c7 8 rfl) (jo_lal e688)) ?_
            refine Eq.trans (jb_nx (i := .iload 6) (n := 2) (q := (622, [some (.ref p0), some (.ref p1), some (.ref p2), some (.ref p3), some (.int i4), some (.int x676), some (.int x681), o7, o8], [.int x681, .long y687])) (jq qL_law_c7 9 rfl) rfl) ?_
            refine Eq.trans (jb_nx (i := .i2l) (n := 1) (q := (623, [some (.ref p0), some (.ref p1), some (.ref p2), some (.ref p3), some (.int i4), some (.int x676), some (.int x681), o7, o8], [.long x681.toInt64, .long y687])) (jq qL_law_c7 10 rfl) rfl) ?_
            refine Eq.trans (jb_nx (i := .lcmp) (n := 1) (q := (624, [some (.ref p0), some (.ref p1), some (.ref p2), some (.ref p3), some (.int i4), some (.int x676), some (.int x681), o7, o8], [.int (lg_cmp y687 x681.toInt64)])) (jq qL_law_c7 11 rfl) rfl) ?_
            by_cases c689 : (lg_cmp y687 x681.toInt64) = 0
            · rw [if_pos c689] at H
              refine Eq.trans (jb_nx (i := .ifCond .eq 5) (n := 3) (q := (629, [some (.ref p0), some (.ref p1), some (.ref p2), some (.ref p3), some (.int i4), some (.int x676), some (.int x681), o7, o8], [])) (jq qL_law_c7 12 rfl) (jo_ifT (jz_eqT c689) rfl)) ?_
              refine Eq.trans (jb_nx (i := .goto 1353) (n := 3) (q := (1982, [some (.ref p0), some (.ref p1), some (.ref p2), some (.ref p3), some (.int i4), some (.int x676), some (.int x681), o7, o8], [])) (jq qL_law_c7 15 rfl) rfl) ?_
              exact H
            · rw [if_neg c689] at H
              refine Eq.trans (jb_nx (i := .ifCond .eq 5) (n := 3) (q := (627, [some (.ref p0), some (.ref p1), some (.ref p2), some (.ref p3), some (.int i4), some (.int x676), some (.int x681), o7, o8], [])) (jq qL_law_c7 12 rfl) (jo_ifF (jz_eqF c689))) ?_
              refine Eq.trans (jb_nx (i := .iconst 0) (n := 1) (q := (628, [some (.ref p0), some (.ref p1), some (.ref p2), some (.ref p3), some (.int i4), some (.int x676), some (.int x681), o7, o8], [.int 0])) (jq qL_law_c7 13 rfl) rfl) ?_
              exact Eq.trans (jb_rt (i := .ireturn) (n := 1) (jq qL_law_c7 14 rfl) (jo_iret rfl (by decide))) H
          · rw [if_neg c686] at H
            refine Eq.trans (jb_nx (i := .ifCond .ne 15) (n := 3) (q := (629, [some (.ref p0), some (.ref p1), some (.ref p2), some (.ref p3), some (.int i4), some (.int x676), some (.int x681), o7, o8], [])) (jq qL_law_c7 5 rfl) (jo_ifT (jz_neT c686) rfl)) ?_
            refine Eq.trans (jb_nx (i := .goto 1353) (n := 3) (q := (1982, [some (.ref p0), some (.ref p1), some (.ref p2), some (.ref p3), some (.int i4), some (.int x676), some (.int x681), o7, o8], [])) (jq qL_law_c7 15 rfl) rfl) ?_
            exact H
        · rw [if_neg c685] at H
          refine Eq.trans (jb_nx (i := .if_icmp .eq 5) (n := 3) (q := (610, [some (.ref p0), some (.ref p1), some (.ref p2), some (.ref p3), some (.int i4), some (.int x676), some (.int x681), o7, o8], [])) (jq qL_law_c7 1 rfl) (jo_icF (jz_eqF c685))) ?_
          refine Eq.trans (jb_nx (i := .iconst 0) (n := 1) (q := (611, [some (.ref p0), some (.ref p1), some (.ref p2), some (.ref p3), some (.int i4), some (.int x676), some (.int x681), o7, o8], [.int 0])) (jq qL_law_c7 2 rfl) rfl) ?_
          exact Eq.trans (jb_rt (i := .ireturn) (n := 1) (jq qL_law_c7 3 rfl) (jo_iret rfl (by decide))) H
      · exact Eq.trans (jb_rt (i := .invokevirtual 108) (n := 3) (jq qL_law_c6 39 rfl) (jo_cv (y := mX13_thrown) rfl (Nat.le_of_ble_eq_true rfl) rfl (Nat.le_of_ble_eq_true rfl) b690 rfl r683 (jo_exn rfl))) H
    · exact Eq.trans (jb_rt (i := .invokevirtual 156) (n := 3) (jq qL_law_c6 36 rfl) (jo_cv (y := mX13_scenesIn) rfl (Nat.le_of_ble_eq_true rfl) rfl (Nat.le_of_ble_eq_true rfl) b693 rfl r680 (jo_exn rfl))) H
  · exact Eq.trans (jb_rt (i := .invokestatic 154) (n := 3) (jq qL_law_c6 28 rfl) (jo_cs (y := mL_scenesIn) (w := 4) (by decide) rfl (Nat.le_of_ble_eq_true rfl) rfl (Nat.le_of_ble_eq_true rfl) rfl r675 (jo_exn rfl))) H
theorem gL_law_520 {d : Nat} {p0 : Nat} {p1 : Nat} {p2 : Nat} {p3 : Nat} {i4 : Int32} {o5 : Option Value} {o6 : Option Value} {o7 : Option Value} {o8 : Option Value} {h : jm_H} {r : jm_R} (H : ((jm_ali h p0 0 (i4 + 1)).bind fun x698 => jc_I (jm_D d mL_masksIn [.ref p1, .int x698, .ref p3] h) (fun x702 h700 => (jm_ali h700 p0 0 (i4 + 1)).bind fun x703 => jm_O h700 p2 13 (jc_I (jm_D d mX13_masksIn [.ref p2, .int x703] h700) (fun x707 h705 => jm_O h705 p2 13 (jc_I (jm_D d mX13_thrown [.ref p2] h705) (fun x710 h708 => (if x710 = x702 then (if x702 = 0 then (jm_all h708 p3 0).bind fun y713 => (if (lg_cmp y713 x707.toInt64) = 0 then kL_law_1982 d p0 p1 p2 p3 i4 (some (.int x702)) (some (.int x707)) o7 o8 h708 else some (.inl (some (.int 0)), h708)) else kL_law_1982 d p0 p1 p2 p3 i4 (some (.int x702)) (some (.int x707)) o7 o8 h708) else some (.inl (some (.int 0)), h708))) jx)) jx)) jx) = some r) : kL_law_520 d p0 p1 p2 p3 i4 o5 o6 o7 o8 h = some r := by
  show jm_B d mL_law (520, [some (.ref p0), some (.ref p1), some (.ref p2), some (.ref p3), some (.int i4), o5, o6, o7, o8], []) h = some r
  refine Eq.trans (jb_nx (i := .aload_n 1) (n := 1) (q := (521, [some (.ref p0), some (.ref p1), some (.ref p2), some (.ref p3), some (.int i4), o5, o6, o7, o8], [.ref p1])) (jq qL_law_c5 26 rfl) rfl) ?_
  refine Eq.trans (jb_nx (i := .aload_n 0) (n := 1) (q := (522, [some (.ref p0), some (.ref p1), some (.ref p2), some (.ref p3), some (.int i4), o5, o6, o7, o8], [.ref p0, .ref p1])) (jq qL_law_c5 27 rfl) rfl) ?_
  refine Eq.trans (jb_nx (i := .iload 4) (n := 2) (q := (524, [some (.ref p0), some (.ref p1), some (.ref p2), some (.ref p3), some (.int i4), o5, o6, o7, o8], [.int i4, .ref p0, .ref p1])) (jq qL_law_c5 28 rfl) rfl) ?_
  refine Eq.trans (jb_nx (i := .iconst 1) (n := 1) (q := (525, [some (.ref p0), some (.ref p1), some (.ref p2), some (.ref p3), some (.int i4), o5, o6, o7, o8], [.int 1, .int i4, .ref p0, .ref p1])) (jq qL_law_c5 29 rfl) rfl) ?_
  refine Eq.trans (jb_nx (i := .iadd) (n := 1) (q := (526, [some (.ref p0), some (.ref p1), some (.ref p2), some (.ref p3), some (.int i4), o5, o6, o7, o8], [.int (i4 + 1), .ref p0, .ref p1])) (jq qL_law_c5 30 rfl) rfl) ?_
  obtain ⟨x698, e699, H⟩ := jbd H
  refine Eq.trans (jb_nx (i := .iaload) (n := 1) (q := (527, [some (.ref p0), some (.ref p1), some (.ref p2), some (.ref p3), some (.int i4), o5, o6, o7, o8], [.int x698, .ref p1])) (jq qL_law_c5 31 rfl) (jo_ial e699)) ?_
  refine Eq.trans (jb_nx (i := .aload_n 3) (n := 1) (q := (528, [some (.ref p0), some (.ref p1), some (.ref p2), some (.ref p3), some (.int i4), o5, o6, o7, o8], [.ref p3, .int x698, .ref p1])) (jq qL_law_c5 32 rfl) rfl) ?_
  rcases jcI H with ⟨x702, h700, r701, H⟩ | ⟨w722, h723, r701, H⟩
  · refine Eq.trans (jb_nx (i := .invokestatic 151) (n := 3) (q := (531, [some (.ref p0), some (.ref p1), some (.ref p2), some (.ref p3), some (.int i4), o5, o6, o7, o8], [.int x702])) (jq qL_law_c5 33 rfl) (jo_cs (y := mL_masksIn) (w := 4) (by decide) rfl (Nat.le_of_ble_eq_true rfl) rfl (Nat.le_of_ble_eq_true rfl) rfl r701 jo_ret)) ?_
    refine Eq.trans (jb_nx (i := .istore 5) (n := 2) (q := (533, [some (.ref p0), some (.ref p1), some (.ref p2), some (.ref p3), some (.int i4), some (.int x702), o6, o7, o8], [])) (jq qL_law_c5 34 rfl) rfl) ?_
    refine Eq.trans (jb_nx (i := .aload_n 2) (n := 1) (q := (534, [some (.ref p0), some (.ref p1), some (.ref p2), some (.ref p3), some (.int i4), some (.int x702), o6, o7, o8], [.ref p2])) (jq qL_law_c5 35 rfl) rfl) ?_
    refine Eq.trans (jb_nx (i := .aload_n 0) (n := 1) (q := (535, [some (.ref p0), some (.ref p1), some (.ref p2), some (.ref p3), some (.int i4), some (.int x702), o6, o7, o8], [.ref p0, .ref p2])) (jq qL_law_c5 36 rfl) rfl) ?_
    refine Eq.trans (jb_nx (i := .iload 4) (n := 2) (q := (537, [some (.ref p0), some (.ref p1), some (.ref p2), some (.ref p3), some (.int i4), some (.int x702), o6, o7, o8], [.int i4, .ref p0, .ref p2])) (jq qL_law_c5 37 rfl) rfl) ?_
    refine Eq.trans (jb_nx (i := .iconst 1) (n := 1) (q := (538, [some (.ref p0), some (.ref p1), some (.ref p2), some (.ref p3), some (.int i4), some (.int x702), o6, o7, o8], [.int 1, .int i4, .ref p0, .ref p2])) (jq qL_law_c5 38 rfl) rfl) ?_
    refine Eq.trans (jb_nx (i := .iadd) (n := 1) (q := (539, [some (.ref p0), some (.ref p1), some (.ref p2), some (.ref p3), some (.int i4), some (.int x702), o6, o7, o8], [.int (i4 + 1), .ref p0, .ref p2])) (jq qL_law_c5 39 rfl) rfl) ?_
    obtain ⟨x703, e704, H⟩ := jbd H
    refine Eq.trans (jb_nx (i := .iaload) (n := 1) (q := (540, [some (.ref p0), some (.ref p1), some (.ref p2), some (.ref p3), some (.int i4), some (.int x702), o6, o7, o8], [.int x703, .ref p2])) (jq qL_law_c6 0 rfl) (jo_ial e704)) ?_
    obtain ⟨b719, H⟩ := jm_O_inv H
    rcases jcI H with ⟨x707, h705, r706, H⟩ | ⟨w720, h721, r706, H⟩
    · refine Eq.trans (jb_nx (i := .invokevirtual 153) (n := 3) (q := (543, [some (.ref p0), some (.ref p1), some (.ref p2), some (.ref p3), some (.int i4), some (.int x702), o6, o7, o8], [.int x707])) (jq qL_law_c6 1 rfl) (jo_cv (y := mX13_masksIn) rfl (Nat.le_of_ble_eq_true rfl) rfl (Nat.le_of_ble_eq_true rfl) b719 rfl r706 jo_ret)) ?_
      refine Eq.trans (jb_nx (i := .istore 6) (n := 2) (q := (545, [some (.ref p0), some (.ref p1), some (.ref p2), some (.ref p3), some (.int i4), some (.int x702), some (.int x707), o7, o8], [])) (jq qL_law_c6 2 rfl) rfl) ?_
      refine Eq.trans (jb_nx (i := .aload_n 2) (n := 1) (q := (546, [some (.ref p0), some (.ref p1), some (.ref p2), some (.ref p3), some (.int i4), some (.int x702), some (.int x707), o7, o8], [.ref p2])) (jq qL_law_c6 3 rfl) rfl) ?_
      obtain ⟨b716, H⟩ := jm_O_inv H
      rcases jcI H with ⟨x710, h708, r709, H⟩ | ⟨w717, h718, r709, H⟩
      · refine Eq.trans (jb_nx (i := .invokevirtual 108) (n := 3) (q := (549, [some (.ref p0), some (.ref p1), some (.ref p2), some (.ref p3), some (.int i4), some (.int x702), some (.int x707), o7, o8], [.int x710])) (jq qL_law_c6 4 rfl) (jo_cv (y := mX13_thrown) rfl (Nat.le_of_ble_eq_true rfl) rfl (Nat.le_of_ble_eq_true rfl) b716 rfl r709 jo_ret)) ?_
        refine Eq.trans (jb_nx (i := .iload 5) (n := 2) (q := (551, [some (.ref p0), some (.ref p1), some (.ref p2), some (.ref p3), some (.int i4), some (.int x702), some (.int x707), o7, o8], [.int x702, .int x710])) (jq qL_law_c6 5 rfl) rfl) ?_
        by_cases c711 : x710 = x702
        · rw [if_pos c711] at H
          refine Eq.trans (jb_nx (i := .if_icmp .eq 5) (n := 3) (q := (556, [some (.ref p0), some (.ref p1), some (.ref p2), some (.ref p3), some (.int i4), some (.int x702), some (.int x707), o7, o8], [])) (jq qL_law_c6 6 rfl) (jo_icT (jz_eqT c711) rfl)) ?_
          refine Eq.trans (jb_nx (i := .iload 5) (n := 2) (q := (558, [some (.ref p0), some (.ref p1), some (.ref p2), some (.ref p3), some (.int i4), some (.int x702), some (.int x707), o7, o8], [.int x702])) (jq qL_law_c6 9 rfl) rfl) ?_
          by_cases c712 : x702 = 0
          · rw [if_pos c712] at H
            refine Eq.trans (jb_nx (i := .ifCond .ne 15) (n := 3) (q := (561, [some (.ref p0), some (.ref p1), some (.ref p2), some (.ref p3), some (.int i4), some (.int x702), some (.int x707), o7, o8], [])) (jq qL_law_c6 10 rfl) (jo_ifF (jz_neF c712))) ?_
            refine Eq.trans (jb_nx (i := .aload_n 3) (n := 1) (q := (562, [some (.ref p0), some (.ref p1), some (.ref p2), some (.ref p3), some (.int i4), some (.int x702), some (.int x707), o7, o8], [.ref p3])) (jq qL_law_c6 11 rfl) rfl) ?_
            refine Eq.trans (jb_nx (i := .iconst 0) (n := 1) (q := (563, [some (.ref p0), some (.ref p1), some (.ref p2), some (.ref p3), some (.int i4), some (.int x702), some (.int x707), o7, o8], [.int 0, .ref p3])) (jq qL_law_c6 12 rfl) rfl) ?_
            obtain ⟨y713, e714, H⟩ := jbd H
            refine Eq.trans (jb_nx (i := .laload) (n := 1) (q := (564, [some (.ref p0), some (.ref p1), some (.ref p2), some (.ref p3), some (.int i4), some (.int x702), some (.int x707), o7, o8], [.long y713])) (jq qL_law_c6 13 rfl) (jo_lal e714)) ?_
            refine Eq.trans (jb_nx (i := .iload 6) (n := 2) (q := (566, [some (.ref p0), some (.ref p1), some (.ref p2), some (.ref p3), some (.int i4), some (.int x702), some (.int x707), o7, o8], [.int x707, .long y713])) (jq qL_law_c6 14 rfl) rfl) ?_
            refine Eq.trans (jb_nx (i := .i2l) (n := 1) (q := (567, [some (.ref p0), some (.ref p1), some (.ref p2), some (.ref p3), some (.int i4), some (.int x702), some (.int x707), o7, o8], [.long x707.toInt64, .long y713])) (jq qL_law_c6 15 rfl) rfl) ?_
            refine Eq.trans (jb_nx (i := .lcmp) (n := 1) (q := (568, [some (.ref p0), some (.ref p1), some (.ref p2), some (.ref p3), some (.int i4), some (.int x702), some (.int x707), o7, o8], [.int (lg_cmp y713 x707.toInt64)])) (jq qL_law_c6 16 rfl) rfl) ?_
            by_cases c715 : (lg_cmp y713 x707.toInt64) = 0
            · rw [if_pos c715] at H
              refine Eq.trans (jb_nx (i := .ifCond .eq 5) (n := 3) (q := (573, [some (.ref p0), some (.ref p1), some (.ref p2), some (.ref p3), some (.int i4), some (.int x702), some (.int x707), o7, o8], [])) (jq qL_law_c6 17 rfl) (jo_ifT (jz_eqT c715) rfl)) ?_
              refine Eq.trans (jb_nx (i := .goto 1409) (n := 3) (q := (1982, [some (.ref p0), some (.ref p1), some (.ref p2), some (.ref p3), some (.int i4), some (.int x702), some (.int x707), o7, o8], [])) (jq qL_law_c6 20 rfl) rfl) ?_
              exact H
            · rw [if_neg c715] at H
              refine Eq.trans (jb_nx (i := .ifCond .eq 5) (n := 3) (q := (571, [some (.ref p0), some (.ref p1), some (.ref p2), some (.ref p3), some (.int i4), some (.int x702), some (.int x707), o7, o8], [])) (jq qL_law_c6 17 rfl) (jo_ifF (jz_eqF c715))) ?_
              refine Eq.trans (jb_nx (i := .iconst 0) (n := 1) (q := (572, [some (.ref p0), some (.ref p1), some (.ref p2), some (.ref p3), some (.int i4), some (.int x702), some (.int x707), o7, o8], [.int 0])) (jq qL_law_c6 18 rfl) rfl) ?_
              exact Eq.trans (jb_rt (i := .ireturn) (n := 1) (jq qL_law_c6 19 rfl) (jo_iret rfl (by decide))) H
          · rw [if_neg c712] at H
            refine Eq.trans (jb_nx (i := .ifCond .ne 15) (n := 3) (q := (573, [some (.ref p0), some (.ref p1), some (.ref p2), some (.ref p3), some (.int i4), some (.int x702), some (.int x707), o7, o8], [])) (jq qL_law_c6 10 rfl) (jo_ifT (jz_neT c712) rfl)) ?_
            refine Eq.trans (jb_nx (i := .goto 1409) (n := 3) (q := (1982, [some (.ref p0), some (.ref p1), some (.ref p2), some (.ref p3), some (.int i4), some (.int x702), some (.int x707), o7, o8], [])) (jq qL_law_c6 20 rfl) rfl) ?_
            exact H
        · rw [if_neg c711] at H
          refine Eq.trans (jb_nx (i := .if_icmp .eq 5) (n := 3) (q := (554, [some (.ref p0), some (.ref p1), some (.ref p2), some (.ref p3), some (.int i4), some (.int x702), some (.int x707), o7, o8], [])) (jq qL_law_c6 6 rfl) (jo_icF (jz_eqF c711))) ?_
          refine Eq.trans (jb_nx (i := .iconst 0) (n := 1) (q := (555, [some (.ref p0), some (.ref p1), some (.ref p2), some (.ref p3), some (.int i4), some (.int x702), some (.int x707), o7, o8], [.int 0])) (jq qL_law_c6 7 rfl) rfl) ?_
          exact Eq.trans (jb_rt (i := .ireturn) (n := 1) (jq qL_law_c6 8 rfl) (jo_iret rfl (by decide))) H
      · exact Eq.trans (jb_rt (i := .invokevirtual 108) (n := 3) (jq qL_law_c6 4 rfl) (jo_cv (y := mX13_thrown) rfl (Nat.le_of_ble_eq_true rfl) rfl (Nat.le_of_ble_eq_true rfl) b716 rfl r709 (jo_exn rfl))) H
    · exact Eq.trans (jb_rt (i := .invokevirtual 153) (n := 3) (jq qL_law_c6 1 rfl) (jo_cv (y := mX13_masksIn) rfl (Nat.le_of_ble_eq_true rfl) rfl (Nat.le_of_ble_eq_true rfl) b719 rfl r706 (jo_exn rfl))) H
  · exact Eq.trans (jb_rt (i := .invokestatic 151) (n := 3) (jq qL_law_c5 33 rfl) (jo_cs (y := mL_masksIn) (w := 4) (by decide) rfl (Nat.le_of_ble_eq_true rfl) rfl (Nat.le_of_ble_eq_true rfl) rfl r701 (jo_exn rfl))) H
theorem gL_law_464 {d : Nat} {p0 : Nat} {p1 : Nat} {p2 : Nat} {p3 : Nat} {i4 : Int32} {o5 : Option Value} {o6 : Option Value} {o7 : Option Value} {o8 : Option Value} {h : jm_H} {r : jm_R} (H : ((jm_ali h p0 0 (i4 + 1)).bind fun x724 => jc_I (jm_D d mL_sizeOf [.ref p1, .int x724, .ref p3] h) (fun x728 h726 => (jm_ali h726 p0 0 (i4 + 1)).bind fun x729 => jm_O h726 p2 13 (jc_I (jm_D d mX13_sizeOf [.ref p2, .int x729] h726) (fun x733 h731 => jm_O h731 p2 13 (jc_I (jm_D d mX13_thrown [.ref p2] h731) (fun x736 h734 => (if x736 = x728 then (if x728 = 0 then (jm_all h734 p3 0).bind fun y739 => (if (lg_cmp y739 x733.toInt64) = 0 then kL_law_1982 d p0 p1 p2 p3 i4 (some (.int x728)) (some (.int x733)) o7 o8 h734 else some (.inl (some (.int 0)), h734)) else kL_law_1982 d p0 p1 p2 p3 i4 (some (.int x728)) (some (.int x733)) o7 o8 h734) else some (.inl (some (.int 0)), h734))) jx)) jx)) jx) = some r) : kL_law_464 d p0 p1 p2 p3 i4 o5 o6 o7 o8 h = some r := by
  show jm_B d mL_law (464, [some (.ref p0), some (.ref p1), some (.ref p2), some (.ref p3), some (.int i4), o5, o6, o7, o8], []) h = some r
  refine Eq.trans (jb_nx (i := .aload_n 1) (n := 1) (q := (465, [some (.ref p0), some (.ref p1), some (.ref p2), some (.ref p3), some (.int i4), o5, o6, o7, o8], [.ref p1])) (jq qL_law_c4 31 rfl) rfl) ?_
  refine Eq.trans (jb_nx (i := .aload_n 0) (n := 1) (q := (466, [some (.ref p0), some (.ref p1), some (.ref p2), some (.ref p3), some (.int i4), o5, o6, o7, o8], [.ref p0, .ref p1])) (jq qL_law_c4 32 rfl) rfl) ?_
  refine Eq.trans (jb_nx (i := .iload 4) (n := 2) (q := (468, [some (.ref p0), some (.ref p1), some (.ref p2), some (.ref p3), some (.int i4), o5, o6, o7, o8], [.int i4, .ref p0, .ref p1])) (jq qL_law_c4 33 rfl) rfl) ?_
  refine Eq.trans (jb_nx (i := .iconst 1) (n := 1) (q := (469, [some (.ref p0), some (.ref p1), some (.ref p2), some (.ref p3), some (.int i4), o5, o6, o7, o8], [.int 1, .int i4, .ref p0, .ref p1])) (jq qL_law_c4 34 rfl) rfl) ?_
  refine Eq.trans (jb_nx (i := .iadd) (n := 1) (q := (470, [some (.ref p0), some (.ref p1), some (.ref p2), some (.ref p3), some (.int i4), o5, o6, o7, o8], [.int (i4 + 1), .ref p0, .ref p1])) (jq qL_law_c4 35 rfl) rfl) ?_
  obtain ⟨x724, e725, H⟩ := jbd H
  refine Eq.trans (jb_nx (i := .iaload) (n := 1) (q := (471, [some (.ref p0), some (.ref p1), some (.ref p2), some (.ref p3), some (.int i4), o5, o6, o7, o8], [.int x724, .ref p1])) (jq qL_law_c4 36 rfl) (jo_ial e725)) ?_
  refine Eq.trans (jb_nx (i := .aload_n 3) (n := 1) (q := (472, [some (.ref p0), some (.ref p1), some (.ref p2), some (.ref p3), some (.int i4), o5, o6, o7, o8], [.ref p3, .int x724, .ref p1])) (jq qL_law_c4 37 rfl) rfl) ?_
  rcases jcI H with ⟨x728, h726, r727, H⟩ | ⟨w748, h749, r727, H⟩
  · refine Eq.trans (jb_nx (i := .invokestatic 148) (n := 3) (q := (475, [some (.ref p0), some (.ref p1), some (.ref p2), some (.ref p3), some (.int i4), o5, o6, o7, o8], [.int x728])) (jq qL_law_c4 38 rfl) (jo_cs (y := mL_sizeOf) (w := 4) (by decide) rfl (Nat.le_of_ble_eq_true rfl) rfl (Nat.le_of_ble_eq_true rfl) rfl r727 jo_ret)) ?_
    refine Eq.trans (jb_nx (i := .istore 5) (n := 2) (q := (477, [some (.ref p0), some (.ref p1), some (.ref p2), some (.ref p3), some (.int i4), some (.int x728), o6, o7, o8], [])) (jq qL_law_c4 39 rfl) rfl) ?_
    refine Eq.trans (jb_nx (i := .aload_n 2) (n := 1) (q := (478, [some (.ref p0), some (.ref p1), some (.ref p2), some (.ref p3), some (.int i4), some (.int x728), o6, o7, o8], [.ref p2])) (jq qL_law_c5 0 rfl) rfl) ?_
    refine Eq.trans (jb_nx (i := .aload_n 0) (n := 1) (q := (479, [some (.ref p0), some (.ref p1), some (.ref p2), some (.ref p3), some (.int i4), some (.int x728), o6, o7, o8], [.ref p0, .ref p2])) (jq qL_law_c5 1 rfl) rfl) ?_
    refine Eq.trans (jb_nx (i := .iload 4) (n := 2) (q := (481, [some (.ref p0), some (.ref p1), some (.ref p2), some (.ref p3), some (.int i4), some (.int x728), o6, o7, o8], [.int i4, .ref p0, .ref p2])) (jq qL_law_c5 2 rfl) rfl) ?_
    refine Eq.trans (jb_nx (i := .iconst 1) (n := 1) (q := (482, [some (.ref p0), some (.ref p1), some (.ref p2), some (.ref p3), some (.int i4), some (.int x728), o6, o7, o8], [.int 1, .int i4, .ref p0, .ref p2])) (jq qL_law_c5 3 rfl) rfl) ?_
    refine Eq.trans (jb_nx (i := .iadd) (n := 1) (q := (483, [some (.ref p0), some (.ref p1), some (.ref p2), some (.ref p3), some (.int i4), some (.int x728), o6, o7, o8], [.int (i4 + 1), .ref p0, .ref p2])) (jq qL_law_c5 4 rfl) rfl) ?_
    obtain ⟨x729, e730, H⟩ := jbd H
    refine Eq.trans (jb_nx (i := .iaload) (n := 1) (q := (484, [some (.ref p0), some (.ref p1), some (.ref p2), some (.ref p3), some (.int i4), some (.int x728), o6, o7, o8], [.int x729, .ref p2])) (jq qL_law_c5 5 rfl) (jo_ial e730)) ?_
    obtain ⟨b745, H⟩ := jm_O_inv H
    rcases jcI H with ⟨x733, h731, r732, H⟩ | ⟨w746, h747, r732, H⟩
    · refine Eq.trans (jb_nx (i := .invokevirtual 150) (n := 3) (q := (487, [some (.ref p0), some (.ref p1), some (.ref p2), some (.ref p3), some (.int i4), some (.int x728), o6, o7, o8], [.int x733])) (jq qL_law_c5 6 rfl) (jo_cv (y := mX13_sizeOf) rfl (Nat.le_of_ble_eq_true rfl) rfl (Nat.le_of_ble_eq_true rfl) b745 rfl r732 jo_ret)) ?_
      refine Eq.trans (jb_nx (i := .istore 6) (n := 2) (q := (489, [some (.ref p0), some (.ref p1), some (.ref p2), some (.ref p3), some (.int i4), some (.int x728), some (.int x733), o7, o8], [])) (jq qL_law_c5 7 rfl) rfl) ?_
      refine Eq.trans (jb_nx (i := .aload_n 2) (n := 1) (q := (490, [some (.ref p0), some (.ref p1), some (.ref p2), some (.ref p3), some (.int i4), some (.int x728), some (.int x733), o7, o8], [.ref p2])) (jq qL_law_c5 8 rfl) rfl) ?_
      obtain ⟨b742, H⟩ := jm_O_inv H
      rcases jcI H with ⟨x736, h734, r735, H⟩ | ⟨w743, h744, r735, H⟩
      · refine Eq.trans (jb_nx (i := .invokevirtual 108) (n := 3) (q := (493, [some (.ref p0), some (.ref p1), some (.ref p2), some (.ref p3), some (.int i4), some (.int x728), some (.int x733), o7, o8], [.int x736])) (jq qL_law_c5 9 rfl) (jo_cv (y := mX13_thrown) rfl (Nat.le_of_ble_eq_true rfl) rfl (Nat.le_of_ble_eq_true rfl) b742 rfl r735 jo_ret)) ?_
        refine Eq.trans (jb_nx (i := .iload 5) (n := 2) (q := (495, [some (.ref p0), some (.ref p1), some (.ref p2), some (.ref p3), some (.int i4), some (.int x728), some (.int x733), o7, o8], [.int x728, .int x736])) (jq qL_law_c5 10 rfl) rfl) ?_
        by_cases c737 : x736 = x728
        · rw [if_pos c737] at H
          refine Eq.trans (jb_nx (i := .if_icmp .eq 5) (n := 3) (q := (500, [some (.ref p0), some (.ref p1), some (.ref p2), some (.ref p3), some (.int i4), some (.int x728), some (.int x733), o7, o8], [])) (jq qL_law_c5 11 rfl) (jo_icT (jz_eqT c737) rfl)) ?_
          refine Eq.trans (jb_nx (i := .iload 5) (n := 2) (q := (502, [some (.ref p0), some (.ref p1), some (.ref p2), some (.ref p3), some (.int i4), some (.int x728), some (.int x733), o7, o8], [.int x728])) (jq qL_law_c5 14 rfl) rfl) ?_
          by_cases c738 : x728 = 0
          · rw [if_pos c738] at H
            refine Eq.trans (jb_nx (i := .ifCond .ne 15) (n := 3) (q := (505, [some (.ref p0), some (.ref p1), some (.ref p2), some (.ref p3), some (.int i4), some (.int x728), some (.int x733), o7, o8], [])) (jq qL_law_c5 15 rfl) (jo_ifF (jz_neF c738))) ?_
            refine Eq.trans (jb_nx (i := .aload_n 3) (n := 1) (q := (506, [some (.ref p0), some (.ref p1), some (.ref p2), some (.ref p3), some (.int i4), some (.int x728), some (.int x733), o7, o8], [.ref p3])) (jq qL_law_c5 16 rfl) rfl) ?_
            refine Eq.trans (jb_nx (i := .iconst 0) (n := 1) (q := (507, [some (.ref p0), some (.ref p1), some (.ref p2), some (.ref p3), some (.int i4), some (.int x728), some (.int x733), o7, o8], [.int 0, .ref p3])) (jq qL_law_c5 17 rfl) rfl) ?_
            obtain ⟨y739, e740, H⟩ := jbd H
            refine Eq.trans (jb_nx (i := .laload) (n := 1) (q := (508, [some (.ref p0), some (.ref p1), some (.ref p2), some (.ref p3), some (.int i4), some (.int x728), some (.int x733), o7, o8], [.long y739])) (jq qL_law_c5 18 rfl) (jo_lal e740)) ?_
            refine Eq.trans (jb_nx (i := .iload 6) (n := 2) (q := (510, [some (.ref p0), some (.ref p1), some (.ref p2), some (.ref p3), some (.int i4), some (.int x728), some (.int x733), o7, o8], [.int x733, .long y739])) (jq qL_law_c5 19 rfl) rfl) ?_
            refine Eq.trans (jb_nx (i := .i2l) (n := 1) (q := (511, [some (.ref p0), some (.ref p1), some (.ref p2), some (.ref p3), some (.int i4), some (.int x728), some (.int x733), o7, o8], [.long x733.toInt64, .long y739])) (jq qL_law_c5 20 rfl) rfl) ?_
            refine Eq.trans (jb_nx (i := .lcmp) (n := 1) (q := (512, [some (.ref p0), some (.ref p1), some (.ref p2), some (.ref p3), some (.int i4), some (.int x728), some (.int x733), o7, o8], [.int (lg_cmp y739 x733.toInt64)])) (jq qL_law_c5 21 rfl) rfl) ?_
            by_cases c741 : (lg_cmp y739 x733.toInt64) = 0
            · rw [if_pos c741] at H
              refine Eq.trans (jb_nx (i := .ifCond .eq 5) (n := 3) (q := (517, [some (.ref p0), some (.ref p1), some (.ref p2), some (.ref p3), some (.int i4), some (.int x728), some (.int x733), o7, o8], [])) (jq qL_law_c5 22 rfl) (jo_ifT (jz_eqT c741) rfl)) ?_
              refine Eq.trans (jb_nx (i := .goto 1465) (n := 3) (q := (1982, [some (.ref p0), some (.ref p1), some (.ref p2), some (.ref p3), some (.int i4), some (.int x728), some (.int x733), o7, o8], [])) (jq qL_law_c5 25 rfl) rfl) ?_
              exact H
            · rw [if_neg c741] at H
              refine Eq.trans (jb_nx (i := .ifCond .eq 5) (n := 3) (q := (515, [some (.ref p0), some (.ref p1), some (.ref p2), some (.ref p3), some (.int i4), some (.int x728), some (.int x733), o7, o8], [])) (jq qL_law_c5 22 rfl) (jo_ifF (jz_eqF c741))) ?_
              refine Eq.trans (jb_nx (i := .iconst 0) (n := 1) (q := (516, [some (.ref p0), some (.ref p1), some (.ref p2), some (.ref p3), some (.int i4), some (.int x728), some (.int x733), o7, o8], [.int 0])) (jq qL_law_c5 23 rfl) rfl) ?_
              exact Eq.trans (jb_rt (i := .ireturn) (n := 1) (jq qL_law_c5 24 rfl) (jo_iret rfl (by decide))) H
          · rw [if_neg c738] at H
            refine Eq.trans (jb_nx (i := .ifCond .ne 15) (n := 3) (q := (517, [some (.ref p0), some (.ref p1), some (.ref p2), some (.ref p3), some (.int i4), some (.int x728), some (.int x733), o7, o8], [])) (jq qL_law_c5 15 rfl) (jo_ifT (jz_neT c738) rfl)) ?_
            refine Eq.trans (jb_nx (i := .goto 1465) (n := 3) (q := (1982, [some (.ref p0), some (.ref p1), some (.ref p2), some (.ref p3), some (.int i4), some (.int x728), some (.int x733), o7, o8], [])) (jq qL_law_c5 25 rfl) rfl) ?_
            exact H
        · rw [if_neg c737] at H
          refine Eq.trans (jb_nx (i := .if_icmp .eq 5) (n := 3) (q := (498, [some (.ref p0), some (.ref p1), some (.ref p2), some (.ref p3), some (.int i4), some (.int x728), some (.int x733), o7, o8], [])) (jq qL_law_c5 11 rfl) (jo_icF (jz_eqF c737))) ?_
          refine Eq.trans (jb_nx (i := .iconst 0) (n := 1) (q := (499, [some (.ref p0), some (.ref p1), some (.ref p2), some (.ref p3), some (.int i4), some (.int x728), some (.int x733), o7, o8], [.int 0])) (jq qL_law_c5 12 rfl) rfl) ?_
          exact Eq.trans (jb_rt (i := .ireturn) (n := 1) (jq qL_law_c5 13 rfl) (jo_iret rfl (by decide))) H
      · exact Eq.trans (jb_rt (i := .invokevirtual 108) (n := 3) (jq qL_law_c5 9 rfl) (jo_cv (y := mX13_thrown) rfl (Nat.le_of_ble_eq_true rfl) rfl (Nat.le_of_ble_eq_true rfl) b742 rfl r735 (jo_exn rfl))) H
    · exact Eq.trans (jb_rt (i := .invokevirtual 150) (n := 3) (jq qL_law_c5 6 rfl) (jo_cv (y := mX13_sizeOf) rfl (Nat.le_of_ble_eq_true rfl) rfl (Nat.le_of_ble_eq_true rfl) b745 rfl r732 (jo_exn rfl))) H
  · exact Eq.trans (jb_rt (i := .invokestatic 148) (n := 3) (jq qL_law_c4 38 rfl) (jo_cs (y := mL_sizeOf) (w := 4) (by decide) rfl (Nat.le_of_ble_eq_true rfl) rfl (Nat.le_of_ble_eq_true rfl) rfl r727 (jo_exn rfl))) H
theorem gL_law_451 {d : Nat} {p0 : Nat} {p1 : Nat} {p2 : Nat} {p3 : Nat} {i4 : Int32} {o5 : Option Value} {o6 : Option Value} {o7 : Option Value} {o8 : Option Value} {h : jm_H} {r : jm_R} (H : (jm_O h p1 11 (jc_I (jm_D d mX11_tapeBytes [.ref p1] h) (fun x752 h750 => jm_O h750 p2 13 (jc_I (jm_D d mX13_tapeBytes [.ref p2] h750) (fun x755 h753 => (if x752 = x755 then kL_law_1982 d p0 p1 p2 p3 i4 o5 o6 o7 o8 h753 else some (.inl (some (.int 0)), h753))) jx)) jx)) = some r) : kL_law_451 d p0 p1 p2 p3 i4 o5 o6 o7 o8 h = some r := by
  show jm_B d mL_law (451, [some (.ref p0), some (.ref p1), some (.ref p2), some (.ref p3), some (.int i4), o5, o6, o7, o8], []) h = some r
  refine Eq.trans (jb_nx (i := .aload_n 1) (n := 1) (q := (452, [some (.ref p0), some (.ref p1), some (.ref p2), some (.ref p3), some (.int i4), o5, o6, o7, o8], [.ref p1])) (jq qL_law_c4 24 rfl) rfl) ?_
  obtain ⟨b760, H⟩ := jm_O_inv H
  rcases jcI H with ⟨x752, h750, r751, H⟩ | ⟨w761, h762, r751, H⟩
  · refine Eq.trans (jb_nx (i := .invokevirtual 144) (n := 3) (q := (455, [some (.ref p0), some (.ref p1), some (.ref p2), some (.ref p3), some (.int i4), o5, o6, o7, o8], [.int x752])) (jq qL_law_c4 25 rfl) (jo_cv (y := mX11_tapeBytes) rfl (Nat.le_of_ble_eq_true rfl) rfl (Nat.le_of_ble_eq_true rfl) b760 rfl r751 jo_ret)) ?_
    refine Eq.trans (jb_nx (i := .aload_n 2) (n := 1) (q := (456, [some (.ref p0), some (.ref p1), some (.ref p2), some (.ref p3), some (.int i4), o5, o6, o7, o8], [.ref p2, .int x752])) (jq qL_law_c4 26 rfl) rfl) ?_
    obtain ⟨b757, H⟩ := jm_O_inv H
    rcases jcI H with ⟨x755, h753, r754, H⟩ | ⟨w758, h759, r754, H⟩
    · refine Eq.trans (jb_nx (i := .invokevirtual 147) (n := 3) (q := (459, [some (.ref p0), some (.ref p1), some (.ref p2), some (.ref p3), some (.int i4), o5, o6, o7, o8], [.int x755, .int x752])) (jq qL_law_c4 27 rfl) (jo_cv (y := mX13_tapeBytes) rfl (Nat.le_of_ble_eq_true rfl) rfl (Nat.le_of_ble_eq_true rfl) b757 rfl r754 jo_ret)) ?_
      by_cases c756 : x752 = x755
      · rw [if_pos c756] at H
        refine Eq.trans (jb_nx (i := .if_icmp .eq 1523) (n := 3) (q := (1982, [some (.ref p0), some (.ref p1), some (.ref p2), some (.ref p3), some (.int i4), o5, o6, o7, o8], [])) (jq qL_law_c4 28 rfl) (jo_icT (jz_eqT c756) rfl)) ?_
        exact H
      · rw [if_neg c756] at H
        refine Eq.trans (jb_nx (i := .if_icmp .eq 1523) (n := 3) (q := (462, [some (.ref p0), some (.ref p1), some (.ref p2), some (.ref p3), some (.int i4), o5, o6, o7, o8], [])) (jq qL_law_c4 28 rfl) (jo_icF (jz_eqF c756))) ?_
        refine Eq.trans (jb_nx (i := .iconst 0) (n := 1) (q := (463, [some (.ref p0), some (.ref p1), some (.ref p2), some (.ref p3), some (.int i4), o5, o6, o7, o8], [.int 0])) (jq qL_law_c4 29 rfl) rfl) ?_
        exact Eq.trans (jb_rt (i := .ireturn) (n := 1) (jq qL_law_c4 30 rfl) (jo_iret rfl (by decide))) H
    · exact Eq.trans (jb_rt (i := .invokevirtual 147) (n := 3) (jq qL_law_c4 27 rfl) (jo_cv (y := mX13_tapeBytes) rfl (Nat.le_of_ble_eq_true rfl) rfl (Nat.le_of_ble_eq_true rfl) b757 rfl r754 (jo_exn rfl))) H
  · exact Eq.trans (jb_rt (i := .invokevirtual 144) (n := 3) (jq qL_law_c4 25 rfl) (jo_cv (y := mX11_tapeBytes) rfl (Nat.le_of_ble_eq_true rfl) rfl (Nat.le_of_ble_eq_true rfl) b760 rfl r751 (jo_exn rfl))) H
theorem gL_law_438 {d : Nat} {p0 : Nat} {p1 : Nat} {p2 : Nat} {p3 : Nat} {i4 : Int32} {o5 : Option Value} {o6 : Option Value} {o7 : Option Value} {o8 : Option Value} {h : jm_H} {r : jm_R} (H : (jm_O h p1 11 (jc_I (jm_D d mX11_notesCarriedOut [.ref p1] h) (fun x765 h763 => jm_O h763 p2 13 (jc_I (jm_D d mX13_notesCarriedOut [.ref p2] h763) (fun x768 h766 => (if x765 = x768 then kL_law_1982 d p0 p1 p2 p3 i4 o5 o6 o7 o8 h766 else some (.inl (some (.int 0)), h766))) jx)) jx)) = some r) : kL_law_438 d p0 p1 p2 p3 i4 o5 o6 o7 o8 h = some r := by
  show jm_B d mL_law (438, [some (.ref p0), some (.ref p1), some (.ref p2), some (.ref p3), some (.int i4), o5, o6, o7, o8], []) h = some r
  refine Eq.trans (jb_nx (i := .aload_n 1) (n := 1) (q := (439, [some (.ref p0), some (.ref p1), some (.ref p2), some (.ref p3), some (.int i4), o5, o6, o7, o8], [.ref p1])) (jq qL_law_c4 17 rfl) rfl) ?_
  obtain ⟨b773, H⟩ := jm_O_inv H
  rcases jcI H with ⟨x765, h763, r764, H⟩ | ⟨w774, h775, r764, H⟩
  · refine Eq.trans (jb_nx (i := .invokevirtual 140) (n := 3) (q := (442, [some (.ref p0), some (.ref p1), some (.ref p2), some (.ref p3), some (.int i4), o5, o6, o7, o8], [.int x765])) (jq qL_law_c4 18 rfl) (jo_cv (y := mX11_notesCarriedOut) rfl (Nat.le_of_ble_eq_true rfl) rfl (Nat.le_of_ble_eq_true rfl) b773 rfl r764 jo_ret)) ?_
    refine Eq.trans (jb_nx (i := .aload_n 2) (n := 1) (q := (443, [some (.ref p0), some (.ref p1), some (.ref p2), some (.ref p3), some (.int i4), o5, o6, o7, o8], [.ref p2, .int x765])) (jq qL_law_c4 19 rfl) rfl) ?_
    obtain ⟨b770, H⟩ := jm_O_inv H
    rcases jcI H with ⟨x768, h766, r767, H⟩ | ⟨w771, h772, r767, H⟩
    · refine Eq.trans (jb_nx (i := .invokevirtual 143) (n := 3) (q := (446, [some (.ref p0), some (.ref p1), some (.ref p2), some (.ref p3), some (.int i4), o5, o6, o7, o8], [.int x768, .int x765])) (jq qL_law_c4 20 rfl) (jo_cv (y := mX13_notesCarriedOut) rfl (Nat.le_of_ble_eq_true rfl) rfl (Nat.le_of_ble_eq_true rfl) b770 rfl r767 jo_ret)) ?_
      by_cases c769 : x765 = x768
      · rw [if_pos c769] at H
        refine Eq.trans (jb_nx (i := .if_icmp .eq 1536) (n := 3) (q := (1982, [some (.ref p0), some (.ref p1), some (.ref p2), some (.ref p3), some (.int i4), o5, o6, o7, o8], [])) (jq qL_law_c4 21 rfl) (jo_icT (jz_eqT c769) rfl)) ?_
        exact H
      · rw [if_neg c769] at H
        refine Eq.trans (jb_nx (i := .if_icmp .eq 1536) (n := 3) (q := (449, [some (.ref p0), some (.ref p1), some (.ref p2), some (.ref p3), some (.int i4), o5, o6, o7, o8], [])) (jq qL_law_c4 21 rfl) (jo_icF (jz_eqF c769))) ?_
        refine Eq.trans (jb_nx (i := .iconst 0) (n := 1) (q := (450, [some (.ref p0), some (.ref p1), some (.ref p2), some (.ref p3), some (.int i4), o5, o6, o7, o8], [.int 0])) (jq qL_law_c4 22 rfl) rfl) ?_
        exact Eq.trans (jb_rt (i := .ireturn) (n := 1) (jq qL_law_c4 23 rfl) (jo_iret rfl (by decide))) H
    · exact Eq.trans (jb_rt (i := .invokevirtual 143) (n := 3) (jq qL_law_c4 20 rfl) (jo_cv (y := mX13_notesCarriedOut) rfl (Nat.le_of_ble_eq_true rfl) rfl (Nat.le_of_ble_eq_true rfl) b770 rfl r767 (jo_exn rfl))) H
  · exact Eq.trans (jb_rt (i := .invokevirtual 140) (n := 3) (jq qL_law_c4 18 rfl) (jo_cv (y := mX11_notesCarriedOut) rfl (Nat.le_of_ble_eq_true rfl) rfl (Nat.le_of_ble_eq_true rfl) b773 rfl r764 (jo_exn rfl))) H
theorem gL_law_425 {d : Nat} {p0 : Nat} {p1 : Nat} {p2 : Nat} {p3 : Nat} {i4 : Int32} {o5 : Option Value} {o6 : Option Value} {o7 : Option Value} {o8 : Option Value} {h : jm_H} {r : jm_R} (H : (jm_O h p1 11 (jc_I (jm_D d mX11_evenings [.ref p1] h) (fun x778 h776 => jm_O h776 p2 13 (jc_I (jm_D d mX13_evenings [.ref p2] h776) (fun x781 h779 => (if x778 = x781 then kL_law_1982 d p0 p1 p2 p3 i4 o5 o6 o7 o8 h779 else some (.inl (some (.int 0)), h779))) jx)) jx)) = some r) : kL_law_425 d p0 p1 p2 p3 i4 o5 o6 o7 o8 h = some r := by
  show jm_B d mL_law (425, [some (.ref p0), some (.ref p1), some (.ref p2), some (.ref p3), some (.int i4), o5, o6, o7, o8], []) h = some r
  refine Eq.trans (jb_nx (i := .aload_n 1) (n := 1) (q := (426, [some (.ref p0), some (.ref p1), some (.ref p2), some (.ref p3), some (.int i4), o5, o6, o7, o8], [.ref p1])) (jq qL_law_c4 10 rfl) rfl) ?_
  obtain ⟨b786, H⟩ := jm_O_inv H
  rcases jcI H with ⟨x778, h776, r777, H⟩ | ⟨w787, h788, r777, H⟩
  · refine Eq.trans (jb_nx (i := .invokevirtual 136) (n := 3) (q := (429, [some (.ref p0), some (.ref p1), some (.ref p2), some (.ref p3), some (.int i4), o5, o6, o7, o8], [.int x778])) (jq qL_law_c4 11 rfl) (jo_cv (y := mX11_evenings) rfl (Nat.le_of_ble_eq_true rfl) rfl (Nat.le_of_ble_eq_true rfl) b786 rfl r777 jo_ret)) ?_
    refine Eq.trans (jb_nx (i := .aload_n 2) (n := 1) (q := (430, [some (.ref p0), some (.ref p1), some (.ref p2), some (.ref p3), some (.int i4), o5, o6, o7, o8], [.ref p2, .int x778])) (jq qL_law_c4 12 rfl) rfl) ?_
    obtain ⟨b783, H⟩ := jm_O_inv H
    rcases jcI H with ⟨x781, h779, r780, H⟩ | ⟨w784, h785, r780, H⟩
    · refine Eq.trans (jb_nx (i := .invokevirtual 139) (n := 3) (q := (433, [some (.ref p0), some (.ref p1), some (.ref p2), some (.ref p3), some (.int i4), o5, o6, o7, o8], [.int x781, .int x778])) (jq qL_law_c4 13 rfl) (jo_cv (y := mX13_evenings) rfl (Nat.le_of_ble_eq_true rfl) rfl (Nat.le_of_ble_eq_true rfl) b783 rfl r780 jo_ret)) ?_
      by_cases c782 : x778 = x781
      · rw [if_pos c782] at H
        refine Eq.trans (jb_nx (i := .if_icmp .eq 1549) (n := 3) (q := (1982, [some (.ref p0), some (.ref p1), some (.ref p2), some (.ref p3), some (.int i4), o5, o6, o7, o8], [])) (jq qL_law_c4 14 rfl) (jo_icT (jz_eqT c782) rfl)) ?_
        exact H
      · rw [if_neg c782] at H
        refine Eq.trans (jb_nx (i := .if_icmp .eq 1549) (n := 3) (q := (436, [some (.ref p0), some (.ref p1), some (.ref p2), some (.ref p3), some (.int i4), o5, o6, o7, o8], [])) (jq qL_law_c4 14 rfl) (jo_icF (jz_eqF c782))) ?_
        refine Eq.trans (jb_nx (i := .iconst 0) (n := 1) (q := (437, [some (.ref p0), some (.ref p1), some (.ref p2), some (.ref p3), some (.int i4), o5, o6, o7, o8], [.int 0])) (jq qL_law_c4 15 rfl) rfl) ?_
        exact Eq.trans (jb_rt (i := .ireturn) (n := 1) (jq qL_law_c4 16 rfl) (jo_iret rfl (by decide))) H
    · exact Eq.trans (jb_rt (i := .invokevirtual 139) (n := 3) (jq qL_law_c4 13 rfl) (jo_cv (y := mX13_evenings) rfl (Nat.le_of_ble_eq_true rfl) rfl (Nat.le_of_ble_eq_true rfl) b783 rfl r780 (jo_exn rfl))) H
  · exact Eq.trans (jb_rt (i := .invokevirtual 136) (n := 3) (jq qL_law_c4 11 rfl) (jo_cv (y := mX11_evenings) rfl (Nat.le_of_ble_eq_true rfl) rfl (Nat.le_of_ble_eq_true rfl) b786 rfl r777 (jo_exn rfl))) H
theorem gL_law_412 {d : Nat} {p0 : Nat} {p1 : Nat} {p2 : Nat} {p3 : Nat} {i4 : Int32} {o5 : Option Value} {o6 : Option Value} {o7 : Option Value} {o8 : Option Value} {h : jm_H} {r : jm_R} (H : (jm_O h p1 11 (jc_I (jm_D d mX11_notes [.ref p1] h) (fun x791 h789 => jm_O h789 p2 13 (jc_I (jm_D d mX13_notes [.ref p2] h789) (fun x794 h792 => (if x791 = x794 then kL_law_1982 d p0 p1 p2 p3 i4 o5 o6 o7 o8 h792 else some (.inl (some (.int 0)), h792))) jx)) jx)) = some r) : kL_law_412 d p0 p1 p2 p3 i4 o5 o6 o7 o8 h = some r := by
  show jm_B d mL_law (412, [some (.ref p0), some (.ref p1), some (.ref p2), some (.ref p3), some (.int i4), o5, o6, o7, o8], []) h = some r
  refine Eq.trans (jb_nx (i := .aload_n 1) (n := 1) (q := (413, [some (.ref p0), some (.ref p1), some (.ref p2), some (.ref p3), some (.int i4), o5, o6, o7, o8], [.ref p1])) (jq qL_law_c4 3 rfl) rfl) ?_
  obtain ⟨b799, H⟩ := jm_O_inv H
  rcases jcI H with ⟨x791, h789, r790, H⟩ | ⟨w800, h801, r790, H⟩
  · refine Eq.trans (jb_nx (i := .invokevirtual 132) (n := 3) (q := (416, [some (.ref p0), some (.ref p1), some (.ref p2), some (.ref p3), some (.int i4), o5, o6, o7, o8], [.int x791])) (jq qL_law_c4 4 rfl) (jo_cv (y := mX11_notes) rfl (Nat.le_of_ble_eq_true rfl) rfl (Nat.le_of_ble_eq_true rfl) b799 rfl r790 jo_ret)) ?_
    refine Eq.trans (jb_nx (i := .aload_n 2) (n := 1) (q := (417, [some (.ref p0), some (.ref p1), some (.ref p2), some (.ref p3), some (.int i4), o5, o6, o7, o8], [.ref p2, .int x791])) (jq qL_law_c4 5 rfl) rfl) ?_
    obtain ⟨b796, H⟩ := jm_O_inv H
    rcases jcI H with ⟨x794, h792, r793, H⟩ | ⟨w797, h798, r793, H⟩
    · refine Eq.trans (jb_nx (i := .invokevirtual 135) (n := 3) (q := (420, [some (.ref p0), some (.ref p1), some (.ref p2), some (.ref p3), some (.int i4), o5, o6, o7, o8], [.int x794, .int x791])) (jq qL_law_c4 6 rfl) (jo_cv (y := mX13_notes) rfl (Nat.le_of_ble_eq_true rfl) rfl (Nat.le_of_ble_eq_true rfl) b796 rfl r793 jo_ret)) ?_
      by_cases c795 : x791 = x794
      · rw [if_pos c795] at H
        refine Eq.trans (jb_nx (i := .if_icmp .eq 1562) (n := 3) (q := (1982, [some (.ref p0), some (.ref p1), some (.ref p2), some (.ref p3), some (.int i4), o5, o6, o7, o8], [])) (jq qL_law_c4 7 rfl) (jo_icT (jz_eqT c795) rfl)) ?_
        exact H
      · rw [if_neg c795] at H
        refine Eq.trans (jb_nx (i := .if_icmp .eq 1562) (n := 3) (q := (423, [some (.ref p0), some (.ref p1), some (.ref p2), some (.ref p3), some (.int i4), o5, o6, o7, o8], [])) (jq qL_law_c4 7 rfl) (jo_icF (jz_eqF c795))) ?_
        refine Eq.trans (jb_nx (i := .iconst 0) (n := 1) (q := (424, [some (.ref p0), some (.ref p1), some (.ref p2), some (.ref p3), some (.int i4), o5, o6, o7, o8], [.int 0])) (jq qL_law_c4 8 rfl) rfl) ?_
        exact Eq.trans (jb_rt (i := .ireturn) (n := 1) (jq qL_law_c4 9 rfl) (jo_iret rfl (by decide))) H
    · exact Eq.trans (jb_rt (i := .invokevirtual 135) (n := 3) (jq qL_law_c4 6 rfl) (jo_cv (y := mX13_notes) rfl (Nat.le_of_ble_eq_true rfl) rfl (Nat.le_of_ble_eq_true rfl) b796 rfl r793 (jo_exn rfl))) H
  · exact Eq.trans (jb_rt (i := .invokevirtual 132) (n := 3) (jq qL_law_c4 4 rfl) (jo_cv (y := mX11_notes) rfl (Nat.le_of_ble_eq_true rfl) rfl (Nat.le_of_ble_eq_true rfl) b799 rfl r790 (jo_exn rfl))) H
theorem gL_law_399 {d : Nat} {p0 : Nat} {p1 : Nat} {p2 : Nat} {p3 : Nat} {i4 : Int32} {o5 : Option Value} {o6 : Option Value} {o7 : Option Value} {o8 : Option Value} {h : jm_H} {r : jm_R} (H : (jm_O h p1 11 (jc_I (jm_D d mX11_plays [.ref p1] h) (fun x804 h802 => jm_O h802 p2 13 (jc_I (jm_D d mX13_plays [.ref p2] h802) (fun x807 h805 => (if x804 = x807 then kL_law_1982 d p0 p1 p2 p3 i4 o5 o6 o7 o8 h805 else some (.inl (some (.int 0)), h805))) jx)) jx)) = some r) : kL_law_399 d p0 p1 p2 p3 i4 o5 o6 o7 o8 h = some r := by
  show jm_B d mL_law (399, [some (.ref p0), some (.ref p1), some (.ref p2), some (.ref p3), some (.int i4), o5, o6, o7, o8], []) h = some r
  refine Eq.trans (jb_nx (i := .aload_n 1) (n := 1) (q := (400, [some (.ref p0), some (.ref p1), some (.ref p2), some (.ref p3), some (.int i4), o5, o6, o7, o8], [.ref p1])) (jq qL_law_c3 36 rfl) rfl) ?_
  obtain ⟨b812, H⟩ := jm_O_inv H
  rcases jcI H with ⟨x804, h802, r803, H⟩ | ⟨w813, h814, r803, H⟩
  · refine Eq.trans (jb_nx (i := .invokevirtual 128) (n := 3) (q := (403, [some (.ref p0), some (.ref p1), some (.ref p2), some (.ref p3), some (.int i4), o5, o6, o7, o8], [.int x804])) (jq qL_law_c3 37 rfl) (jo_cv (y := mX11_plays) rfl (Nat.le_of_ble_eq_true rfl) rfl (Nat.le_of_ble_eq_true rfl) b812 rfl r803 jo_ret)) ?_
    refine Eq.trans (jb_nx (i := .aload_n 2) (n := 1) (q := (404, [some (.ref p0), some (.ref p1), some (.ref p2), some (.ref p3), some (.int i4), o5, o6, o7, o8], [.ref p2, .int x804])) (jq qL_law_c3 38 rfl) rfl) ?_
    obtain ⟨b809, H⟩ := jm_O_inv H
    rcases jcI H with ⟨x807, h805, r806, H⟩ | ⟨w810, h811, r806, H⟩
    · refine Eq.trans (jb_nx (i := .invokevirtual 131) (n := 3) (q := (407, [some (.ref p0), some (.ref p1), some (.ref p2), some (.ref p3), some (.int i4), o5, o6, o7, o8], [.int x807, .int x804])) (jq qL_law_c3 39 rfl) (jo_cv (y := mX13_plays) rfl (Nat.le_of_ble_eq_true rfl) rfl (Nat.le_of_ble_eq_true rfl) b809 rfl r806 jo_ret)) ?_
      by_cases c808 : x804 = x807
      · rw [if_pos c808] at H
        refine Eq.trans (jb_nx (i := .if_icmp .eq 1575) (n := 3) (q := (1982, [some (.ref p0), some (.ref p1), some (.ref p2), some (.ref p3), some (.int i4), o5, o6, o7, o8], [])) (jq qL_law_c4 0 rfl) (jo_icT (jz_eqT c808) rfl)) ?_
        exact H
      · rw [if_neg c808] at H
        refine Eq.trans (jb_nx (i := .if_icmp .eq 1575) (n := 3) (q := (410, [some (.ref p0), some (.ref p1), some (.ref p2), some (.ref p3), some (.int i4), o5, o6, o7, o8], [])) (jq qL_law_c4 0 rfl) (jo_icF (jz_eqF c808))) ?_
        refine Eq.trans (jb_nx (i := .iconst 0) (n := 1) (q := (411, [some (.ref p0), some (.ref p1), some (.ref p2), some (.ref p3), some (.int i4), o5, o6, o7, o8], [.int 0])) (jq qL_law_c4 1 rfl) rfl) ?_
        exact Eq.trans (jb_rt (i := .ireturn) (n := 1) (jq qL_law_c4 2 rfl) (jo_iret rfl (by decide))) H
    · exact Eq.trans (jb_rt (i := .invokevirtual 131) (n := 3) (jq qL_law_c3 39 rfl) (jo_cv (y := mX13_plays) rfl (Nat.le_of_ble_eq_true rfl) rfl (Nat.le_of_ble_eq_true rfl) b809 rfl r806 (jo_exn rfl))) H
  · exact Eq.trans (jb_rt (i := .invokevirtual 128) (n := 3) (jq qL_law_c3 37 rfl) (jo_cv (y := mX11_plays) rfl (Nat.le_of_ble_eq_true rfl) rfl (Nat.le_of_ble_eq_true rfl) b812 rfl r803 (jo_exn rfl))) H
theorem gL_law_386 {d : Nat} {p0 : Nat} {p1 : Nat} {p2 : Nat} {p3 : Nat} {i4 : Int32} {o5 : Option Value} {o6 : Option Value} {o7 : Option Value} {o8 : Option Value} {h : jm_H} {r : jm_R} (H : (jm_O h p1 11 (jc_I (jm_D d mX11_actors [.ref p1] h) (fun x817 h815 => jm_O h815 p2 13 (jc_I (jm_D d mX13_actors [.ref p2] h815) (fun x820 h818 => (if x817 = x820 then kL_law_1982 d p0 p1 p2 p3 i4 o5 o6 o7 o8 h818 else some (.inl (some (.int 0)), h818))) jx)) jx)) = some r) : kL_law_386 d p0 p1 p2 p3 i4 o5 o6 o7 o8 h = some r := by
  show jm_B d mL_law (386, [some (.ref p0), some (.ref p1), some (.ref p2), some (.ref p3), some (.int i4), o5, o6, o7, o8], []) h = some r
  refine Eq.trans (jb_nx (i := .aload_n 1) (n := 1) (q := (387, [some (.ref p0), some (.ref p1), some (.ref p2), some (.ref p3), some (.int i4), o5, o6, o7, o8], [.ref p1])) (jq qL_law_c3 29 rfl) rfl) ?_
  obtain ⟨b825, H⟩ := jm_O_inv H
  rcases jcI H with ⟨x817, h815, r816, H⟩ | ⟨w826, h827, r816, H⟩
  · refine Eq.trans (jb_nx (i := .invokevirtual 124) (n := 3) (q := (390, [some (.ref p0), some (.ref p1), some (.ref p2), some (.ref p3), some (.int i4), o5, o6, o7, o8], [.int x817])) (jq qL_law_c3 30 rfl) (jo_cv (y := mX11_actors) rfl (Nat.le_of_ble_eq_true rfl) rfl (Nat.le_of_ble_eq_true rfl) b825 rfl r816 jo_ret)) ?_
    refine Eq.trans (jb_nx (i := .aload_n 2) (n := 1) (q := (391, [some (.ref p0), some (.ref p1), some (.ref p2), some (.ref p3), some (.int i4), o5, o6, o7, o8], [.ref p2, .int x817])) (jq qL_law_c3 31 rfl) rfl) ?_
    obtain ⟨b822, H⟩ := jm_O_inv H
    rcases jcI H with ⟨x820, h818, r819, H⟩ | ⟨w823, h824, r819, H⟩
    · refine Eq.trans (jb_nx (i := .invokevirtual 127) (n := 3) (q := (394, [some (.ref p0), some (.ref p1), some (.ref p2), some (.ref p3), some (.int i4), o5, o6, o7, o8], [.int x820, .int x817])) (jq qL_law_c3 32 rfl) (jo_cv (y := mX13_actors) rfl (Nat.le_of_ble_eq_true rfl) rfl (Nat.le_of_ble_eq_true rfl) b822 rfl r819 jo_ret)) ?_
      by_cases c821 : x817 = x820
      · rw [if_pos c821] at H
        refine Eq.trans (jb_nx (i := .if_icmp .eq 1588) (n := 3) (q := (1982, [some (.ref p0), some (.ref p1), some (.ref p2), some (.ref p3), some (.int i4), o5, o6, o7, o8], [])) (jq qL_law_c3 33 rfl) (jo_icT (jz_eqT c821) rfl)) ?_
        exact H
      · rw [if_neg c821] at H
        refine Eq.trans (jb_nx (i := .if_icmp .eq 1588) (n := 3) (q := (397, [some (.ref p0), some (.ref p1), some (.ref p2), some (.ref p3), some (.int i4), o5, o6, o7, o8], [])) (jq qL_law_c3 33 rfl) (jo_icF (jz_eqF c821))) ?_
        refine Eq.trans (jb_nx (i := .iconst 0) (n := 1) (q := (398, [some (.ref p0), some (.ref p1), some (.ref p2), some (.ref p3), some (.int i4), o5, o6, o7, o8], [.int 0])) (jq qL_law_c3 34 rfl) rfl) ?_
        exact Eq.trans (jb_rt (i := .ireturn) (n := 1) (jq qL_law_c3 35 rfl) (jo_iret rfl (by decide))) H
    · exact Eq.trans (jb_rt (i := .invokevirtual 127) (n := 3) (jq qL_law_c3 32 rfl) (jo_cv (y := mX13_actors) rfl (Nat.le_of_ble_eq_true rfl) rfl (Nat.le_of_ble_eq_true rfl) b822 rfl r819 (jo_exn rfl))) H
  · exact Eq.trans (jb_rt (i := .invokevirtual 124) (n := 3) (jq qL_law_c3 30 rfl) (jo_cv (y := mX11_actors) rfl (Nat.le_of_ble_eq_true rfl) rfl (Nat.le_of_ble_eq_true rfl) b825 rfl r816 (jo_exn rfl))) H
theorem gL_law_373 {d : Nat} {p0 : Nat} {p1 : Nat} {p2 : Nat} {p3 : Nat} {i4 : Int32} {o5 : Option Value} {o6 : Option Value} {o7 : Option Value} {o8 : Option Value} {h : jm_H} {r : jm_R} (H : (jm_O h p1 11 (jc_I (jm_D d mX11_errorAt [.ref p1] h) (fun x830 h828 => jm_O h828 p2 13 (jc_I (jm_D d mX13_errorAt [.ref p2] h828) (fun x833 h831 => (if x830 = x833 then kL_law_1982 d p0 p1 p2 p3 i4 o5 o6 o7 o8 h831 else some (.inl (some (.int 0)), h831))) jx)) jx)) = some r) : kL_law_373 d p0 p1 p2 p3 i4 o5 o6 o7 o8 h = some r := by
  show jm_B d mL_law (373, [some (.ref p0), some (.ref p1), some (.ref p2), some (.ref p3), some (.int i4), o5, o6, o7, o8], []) h = some r
  refine Eq.trans (jb_nx (i := .aload_n 1) (n := 1) (q := (374, [some (.ref p0), some (.ref p1), some (.ref p2), some (.ref p3), some (.int i4), o5, o6, o7, o8], [.ref p1])) (jq qL_law_c3 22 rfl) rfl) ?_
  obtain ⟨b838, H⟩ := jm_O_inv H
  rcases jcI H with ⟨x830, h828, r829, H⟩ | ⟨w839, h840, r829, H⟩
  · refine Eq.trans (jb_nx (i := .invokevirtual 120) (n := 3) (q := (377, [some (.ref p0), some (.ref p1), some (.ref p2), some (.ref p3), some (.int i4), o5, o6, o7, o8], [.int x830])) (jq qL_law_c3 23 rfl) (jo_cv (y := mX11_errorAt) rfl (Nat.le_of_ble_eq_true rfl) rfl (Nat.le_of_ble_eq_true rfl) b838 rfl r829 jo_ret)) ?_
    refine Eq.trans (jb_nx (i := .aload_n 2) (n := 1) (q := (378, [some (.ref p0), some (.ref p1), some (.ref p2), some (.ref p3), some (.int i4), o5, o6, o7, o8], [.ref p2, .int x830])) (jq qL_law_c3 24 rfl) rfl) ?_
    obtain ⟨b835, H⟩ := jm_O_inv H
    rcases jcI H with ⟨x833, h831, r832, H⟩ | ⟨w836, h837, r832, H⟩
    · refine Eq.trans (jb_nx (i := .invokevirtual 123) (n := 3) (q := (381, [some (.ref p0), some (.ref p1), some (.ref p2), some (.ref p3), some (.int i4), o5, o6, o7, o8], [.int x833, .int x830])) (jq qL_law_c3 25 rfl) (jo_cv (y := mX13_errorAt) rfl (Nat.le_of_ble_eq_true rfl) rfl (Nat.le_of_ble_eq_true rfl) b835 rfl r832 jo_ret)) ?_
      by_cases c834 : x830 = x833
      · rw [if_pos c834] at H
        refine Eq.trans (jb_nx (i := .if_icmp .eq 1601) (n := 3) (q := (1982, [some (.ref p0), some (.ref p1), some (.ref p2), some (.ref p3), some (.int i4), o5, o6, o7, o8], [])) (jq qL_law_c3 26 rfl) (jo_icT (jz_eqT c834) rfl)) ?_
        exact H
      · rw [if_neg c834] at H
        refine Eq.trans (jb_nx (i := .if_icmp .eq 1601) (n := 3) (q := (384, [some (.ref p0), some (.ref p1), some (.ref p2), some (.ref p3), some (.int i4), o5, o6, o7, o8], [])) (jq qL_law_c3 26 rfl) (jo_icF (jz_eqF c834))) ?_
        refine Eq.trans (jb_nx (i := .iconst 0) (n := 1) (q := (385, [some (.ref p0), some (.ref p1), some (.ref p2), some (.ref p3), some (.int i4), o5, o6, o7, o8], [.int 0])) (jq qL_law_c3 27 rfl) rfl) ?_
        exact Eq.trans (jb_rt (i := .ireturn) (n := 1) (jq qL_law_c3 28 rfl) (jo_iret rfl (by decide))) H
    · exact Eq.trans (jb_rt (i := .invokevirtual 123) (n := 3) (jq qL_law_c3 25 rfl) (jo_cv (y := mX13_errorAt) rfl (Nat.le_of_ble_eq_true rfl) rfl (Nat.le_of_ble_eq_true rfl) b835 rfl r832 (jo_exn rfl))) H
  · exact Eq.trans (jb_rt (i := .invokevirtual 120) (n := 3) (jq qL_law_c3 23 rfl) (jo_cv (y := mX11_errorAt) rfl (Nat.le_of_ble_eq_true rfl) rfl (Nat.le_of_ble_eq_true rfl) b838 rfl r829 (jo_exn rfl))) H
theorem gL_law_360 {d : Nat} {p0 : Nat} {p1 : Nat} {p2 : Nat} {p3 : Nat} {i4 : Int32} {o5 : Option Value} {o6 : Option Value} {o7 : Option Value} {o8 : Option Value} {h : jm_H} {r : jm_R} (H : (jm_O h p1 11 (jc_I (jm_D d mX11_teach [.ref p1] h) (fun x843 h841 => jm_O h841 p2 13 (jc_I (jm_D d mX13_teach [.ref p2] h841) (fun x846 h844 => (if x843 = x846 then kL_law_1982 d p0 p1 p2 p3 i4 o5 o6 o7 o8 h844 else some (.inl (some (.int 0)), h844))) jx)) jx)) = some r) : kL_law_360 d p0 p1 p2 p3 i4 o5 o6 o7 o8 h = some r := by
  show jm_B d mL_law (360, [some (.ref p0), some (.ref p1), some (.ref p2), some (.ref p3), some (.int i4), o5, o6, o7, o8], []) h = some r
  refine Eq.trans (jb_nx (i := .aload_n 1) (n := 1) (q := (361, [some (.ref p0), some (.ref p1), some (.ref p2), some (.ref p3), some (.int i4), o5, o6, o7, o8], [.ref p1])) (jq qL_law_c3 15 rfl) rfl) ?_
  obtain ⟨b851, H⟩ := jm_O_inv H
  rcases jcI H with ⟨x843, h841, r842, H⟩ | ⟨w852, h853, r842, H⟩
  · refine Eq.trans (jb_nx (i := .invokevirtual 116) (n := 3) (q := (364, [some (.ref p0), some (.ref p1), some (.ref p2), some (.ref p3), some (.int i4), o5, o6, o7, o8], [.int x843])) (jq qL_law_c3 16 rfl) (jo_cv (y := mX11_teach) rfl (Nat.le_of_ble_eq_true rfl) rfl (Nat.le_of_ble_eq_true rfl) b851 rfl r842 jo_ret)) ?_
    refine Eq.trans (jb_nx (i := .aload_n 2) (n := 1) (q := (365, [some (.ref p0), some (.ref p1), some (.ref p2), some (.ref p3), some (.int i4), o5, o6, o7, o8], [.ref p2, .int x843])) (jq qL_law_c3 17 rfl) rfl) ?_
    obtain ⟨b848, H⟩ := jm_O_inv H
    rcases jcI H with ⟨x846, h844, r845, H⟩ | ⟨w849, h850, r845, H⟩
    · refine Eq.trans (jb_nx (i := .invokevirtual 119) (n := 3) (q := (368, [some (.ref p0), some (.ref p1), some (.ref p2), some (.ref p3), some (.int i4), o5, o6, o7, o8], [.int x846, .int x843])) (jq qL_law_c3 18 rfl) (jo_cv (y := mX13_teach) rfl (Nat.le_of_ble_eq_true rfl) rfl (Nat.le_of_ble_eq_true rfl) b848 rfl r845 jo_ret)) ?_
      by_cases c847 : x843 = x846
      · rw [if_pos c847] at H
        refine Eq.trans (jb_nx (i := .if_icmp .eq 1614) (n := 3) (q := (1982, [some (.ref p0), some (.ref p1), some (.ref p2), some (.ref p3), some (.int i4), o5, o6, o7, o8], [])) (jq qL_law_c3 19 rfl) (jo_icT (jz_eqT c847) rfl)) ?_
        exact H
      · rw [if_neg c847] at H
        refine Eq.trans (jb_nx (i := .if_icmp .eq 1614) (n := 3) (q := (371, [some (.ref p0), some (.ref p1), some (.ref p2), some (.ref p3), some (.int i4), o5, o6, o7, o8], [])) (jq qL_law_c3 19 rfl) (jo_icF (jz_eqF c847))) ?_
        refine Eq.trans (jb_nx (i := .iconst 0) (n := 1) (q := (372, [some (.ref p0), some (.ref p1), some (.ref p2), some (.ref p3), some (.int i4), o5, o6, o7, o8], [.int 0])) (jq qL_law_c3 20 rfl) rfl) ?_
        exact Eq.trans (jb_rt (i := .ireturn) (n := 1) (jq qL_law_c3 21 rfl) (jo_iret rfl (by decide))) H
    · exact Eq.trans (jb_rt (i := .invokevirtual 119) (n := 3) (jq qL_law_c3 18 rfl) (jo_cv (y := mX13_teach) rfl (Nat.le_of_ble_eq_true rfl) rfl (Nat.le_of_ble_eq_true rfl) b848 rfl r845 (jo_exn rfl))) H
  · exact Eq.trans (jb_rt (i := .invokevirtual 116) (n := 3) (jq qL_law_c3 16 rfl) (jo_cv (y := mX11_teach) rfl (Nat.le_of_ble_eq_true rfl) rfl (Nat.le_of_ble_eq_true rfl) b851 rfl r842 (jo_exn rfl))) H
theorem gL_law_304 {d : Nat} {p0 : Nat} {p1 : Nat} {p2 : Nat} {p3 : Nat} {i4 : Int32} {o5 : Option Value} {o6 : Option Value} {o7 : Option Value} {o8 : Option Value} {h : jm_H} {r : jm_R} (H : ((jm_ali h p0 0 (i4 + 1)).bind fun x854 => jc_I (jm_D d mL_trim [.ref p1, .int x854, .ref p3] h) (fun x858 h856 => (jm_ali h856 p0 0 (i4 + 1)).bind fun x859 => jm_O h856 p2 13 (jc_I (jm_D d mX13_trim [.ref p2, .int x859] h856) (fun x863 h861 => jm_O h861 p2 13 (jc_I (jm_D d mX13_thrown [.ref p2] h861) (fun x866 h864 => (if x866 = x858 then (if x858 = 0 then (jm_all h864 p3 0).bind fun y869 => (if (lg_cmp y869 x863.toInt64) = 0 then kL_law_1982 d p0 p1 p2 p3 i4 (some (.int x858)) (some (.int x863)) o7 o8 h864 else some (.inl (some (.int 0)), h864)) else kL_law_1982 d p0 p1 p2 p3 i4 (some (.int x858)) (some (.int x863)) o7 o8 h864) else some (.inl (some (.int 0)), h864))) jx)) jx)) jx) = some r) : kL_law_304 d p0 p1 p2 p3 i4 o5 o6 o7 o8 h = some r := by
  show jm_B d mL_law (304, [some (.ref p0), some (.ref p1), some (.ref p2), some (.ref p3), some (.int i4), o5, o6, o7, o8], []) h = some r
  refine Eq.trans (jb_nx (i := .aload_n 1) (n := 1) (q := (305, [some (.ref p0), some (.ref p1), some (.ref p2), some (.ref p3), some (.int i4), o5, o6, o7, o8], [.ref p1])) (jq qL_law_c2 20 rfl) rfl) ?_
  refine Eq.trans (jb_nx (i := .aload_n 0) (n := 1) (q := (306, [some (.ref p0), some (.ref p1), some (.ref p2), some (.ref p3), some (.int i4), o5, o6, o7, o8], [.ref p0, .ref p1])) (jq qL_law_c2 21 rfl) rfl) ?_
  refine Eq.trans (jb_nx (i := .iload 4) (n := 2) (q := (308, [some (.ref p0), some (.ref p1), some (.ref p2), some (.ref p3), some (.int i4), o5, o6, o7, o8], [.int i4, .ref p0, .ref p1])) (jq qL_law_c2 22 rfl) rfl) ?_
  refine Eq.trans (jb_nx (i := .iconst 1) (n := 1) (q := (309, [some (.ref p0), some (.ref p1), some (.ref p2), some (.ref p3), some (.int i4), o5, o6, o7, o8], [.int 1, .int i4, .ref p0, .ref p1])) (jq qL_law_c2 23 rfl) rfl) ?_
  refine Eq.trans (jb_nx (i := .iadd) (n := 1) (q := (310, [some (.ref p0), some (.ref p1), some (.ref p2), some (.ref p3), some (.int i4), o5, o6, o7, o8], [.int (i4 + 1), .ref p0, .ref p1])) (jq qL_law_c2 24 rfl) rfl) ?_
  obtain ⟨x854, e855, H⟩ := jbd H
  refine Eq.trans (jb_nx (i := .iaload) (n := 1) (q := (311, [some (.ref p0), some (.ref p1), some (.ref p2), some (.ref p3), some (.int i4), o5, o6, o7, o8], [.int x854, .ref p1])) (jq qL_law_c2 25 rfl) (jo_ial e855)) ?_
  refine Eq.trans (jb_nx (i := .aload_n 3) (n := 1) (q := (312, [some (.ref p0), some (.ref p1), some (.ref p2), some (.ref p3), some (.int i4), o5, o6, o7, o8], [.ref p3, .int x854, .ref p1])) (jq qL_law_c2 26 rfl) rfl) ?_
  rcases jcI H with ⟨x858, h856, r857, H⟩ | ⟨w878, h879, r857, H⟩
  · refine Eq.trans (jb_nx (i := .invokestatic 112) (n := 3) (q := (315, [some (.ref p0), some (.ref p1), some (.ref p2), some (.ref p3), some (.int i4), o5, o6, o7, o8], [.int x858])) (jq qL_law_c2 27 rfl) (jo_cs (y := mL_trim) (w := 4) (by decide) rfl (Nat.le_of_ble_eq_true rfl) rfl (Nat.le_of_ble_eq_true rfl) rfl r857 jo_ret)) ?_
    refine Eq.trans (jb_nx (i := .istore 5) (n := 2) (q := (317, [some (.ref p0), some (.ref p1), some (.ref p2), some (.ref p3), some (.int i4), some (.int x858), o6, o7, o8], [])) (jq qL_law_c2 28 rfl) rfl) ?_
    refine Eq.trans (jb_nx (i := .aload_n 2) (n := 1) (q := (318, [some (.ref p0), some (.ref p1), some (.ref p2), some (.ref p3), some (.int i4), some (.int x858), o6, o7, o8], [.ref p2])) (jq qL_law_c2 29 rfl) rfl) ?_
    refine Eq.trans (jb_nx (i := .aload_n 0) (n := 1) (q := (319, [some (.ref p0), some (.ref p1), some (.ref p2), some (.ref p3), some (.int i4), some (.int x858), o6, o7, o8], [.ref p0, .ref p2])) (jq qL_law_c2 30 rfl) rfl) ?_
    refine Eq.trans (jb_nx (i := .iload 4) (n := 2) (q := (321, [some (.ref p0), some (.ref p1), some (.ref p2), some (.ref p3), some (.int i4), some (.int x858), o6, o7, o8], [.int i4, .ref p0, .ref p2])) (jq qL_law_c2 31 rfl) rfl) ?_
    refine Eq.trans (jb_nx (i := .iconst 1) (n := 1) (q := (322, [some (.ref p0), some (.ref p1), some (.ref p2), some (.ref p3), some (.int i4), some (.int x858), o6, o7, o8], [.int 1, .int i4, .ref p0, .ref p2])) (jq qL_law_c2 32 rfl) rfl) ?_
    refine Eq.trans (jb_nx (i := .iadd) (n := 1) (q := (323, [some (.ref p0), some (.ref p1), some (.ref p2), some (.ref p3), some (.int i4), some (.int x858), o6, o7, o8], [.int (i4 + 1), .ref p0, .ref p2])) (jq qL_law_c2 33 rfl) rfl) ?_
    obtain ⟨x859, e860, H⟩ := jbd H
    refine Eq.trans (jb_nx (i := .iaload) (n := 1) (q := (324, [some (.ref p0), some (.ref p1), some (.ref p2), some (.ref p3), some (.int i4), some (.int x858), o6, o7, o8], [.int x859, .ref p2])) (jq qL_law_c2 34 rfl) (jo_ial e860)) ?_
    obtain ⟨b875, H⟩ := jm_O_inv H
    rcases jcI H with ⟨x863, h861, r862, H⟩ | ⟨w876, h877, r862, H⟩
    · refine Eq.trans (jb_nx (i := .invokevirtual 115) (n := 3) (q := (327, [some (.ref p0), some (.ref p1), some (.ref p2), some (.ref p3), some (.int i4), some (.int x858), o6, o7, o8], [.int x863])) (jq qL_law_c2 35 rfl) (jo_cv (y := mX13_trim) rfl (Nat.le_of_ble_eq_true rfl) rfl (Nat.le_of_ble_eq_true rfl) b875 rfl r862 jo_ret)) ?_
      refine Eq.trans (jb_nx (i := .istore 6) (n := 2) (q := (329, [some (.ref p0), some (.ref p1), some (.ref p2), some (.ref p3), some (.int i4), some (.int x858), some (.int x863), o7, o8], [])) (jq qL_law_c2 36 rfl) rfl) ?_
      refine Eq.trans (jb_nx (i := .aload_n 2) (n := 1) (q := (330, [some (.ref p0), some (.ref p1), some (.ref p2), some (.ref p3), some (.int i4), some (.int x858), some (.int x863), o7, o8], [.ref p2])) (jq qL_law_c2 37 rfl) rfl) ?_
      obtain ⟨b872, H⟩ := jm_O_inv H
      rcases jcI H with ⟨x866, h864, r865, H⟩ | ⟨w873, h874, r865, H⟩
      · refine Eq.trans (jb_nx (i := .invokevirtual 108) (n := 3) (q := (333, [some (.ref p0), some (.ref p1), some (.ref p2), some (.ref p3), some (.int i4), some (.int x858), some (.int x863), o7, o8], [.int x866])) (jq qL_law_c2 38 rfl) (jo_cv (y := mX13_thrown) rfl (Nat.le_of_ble_eq_true rfl) rfl (Nat.le_of_ble_eq_true rfl) b872 rfl r865 jo_ret)) ?_
        refine Eq.trans (jb_nx (i := .iload 5) (n := 2) (q := (335, [some (.ref p0), some (.ref p1), some (.ref p2), some (.ref p3), some (.int i4), some (.int x858), some (.int x863), o7, o8], [.int x858, .int x866])) (jq qL_law_c2 39 rfl) rfl) ?_
        by_cases c867 : x866 = x858
        · rw [if_pos c867] at H
          refine Eq.trans (jb_nx (i := .if_icmp .eq 5) (n := 3) (q := (340, [some (.ref p0), some (.ref p1), some (.ref p2), some (.ref p3), some (.int i4), some (.int x858), some (.int x863), o7, o8], [])) (jq qL_law_c3 0 rfl) (jo_icT (jz_eqT c867) rfl)) ?_
          refine Eq.trans (jb_nx (i := .iload 5) (n := 2) (q := (342, [some (.ref p0), some (.ref p1), some (.ref p2), some (.ref p3), some (.int i4), some (.int x858), some (.int x863), o7, o8], [.int x858])) (jq qL_law_c3 3 rfl) rfl) ?_
          by_cases c868 : x858 = 0
          · rw [if_pos c868] at H
            refine Eq.trans (jb_nx (i := .ifCond .ne 15) (n := 3) (q := (345, [some (.ref p0), some (.ref p1), some (.ref p2), some (.ref p3), some (.int i4), some (.int x858), some (.int x863), o7, o8], [])) (jq qL_law_c3 4 rfl) (jo_ifF (jz_neF c868))) ?_
            refine Eq.trans (jb_nx (i := .aload_n 3) (n := 1) (q := (346, [some (.ref p0), some (.ref p1), some (.ref p2), some (.ref p3), some (.int i4), some (.int x858), some (.int x863), o7, o8], [.ref p3])) (jq qL_law_c3 5 rfl) rfl) ?_
            refine Eq.trans (jb_nx (i := .iconst 0) (n := 1) (q := (347, [some (.ref p0), some (.ref p1), some (.ref p2), some (.ref p3), some (.int i4), some (.int x858), some (.int x863), o7, o8], [.int 0, .ref p3])) (jq qL_law_c3 6 rfl) rfl) ?_
            obtain ⟨y869, e870, H⟩ := jbd H
            refine Eq.trans (jb_nx (i := .laload) (n := 1) (q := (348, [some (.ref p0), some (.ref p1), some (.ref p2), some (.ref p3), some (.int i4), some (.int x858), some (.int x863), o7, o8], [.long y869])) (jq qL_law_c3 7 rfl) (jo_lal e870)) ?_
            refine Eq.trans (jb_nx (i := .iload 6) (n := 2) (q := (350, [some (.ref p0), some (.ref p1), some (.ref p2), some (.ref p3), some (.int i4), some (.int x858), some (.int x863), o7, o8], [.int x863, .long y869])) (jq qL_law_c3 8 rfl) rfl) ?_
            refine Eq.trans (jb_nx (i := .i2l) (n := 1) (q := (351, [some (.ref p0), some (.ref p1), some (.ref p2), some (.ref p3), some (.int i4), some (.int x858), some (.int x863), o7, o8], [.long x863.toInt64, .long y869])) (jq qL_law_c3 9 rfl) rfl) ?_
            refine Eq.trans (jb_nx (i := .lcmp) (n := 1) (q := (352, [some (.ref p0), some (.ref p1), some (.ref p2), some (.ref p3), some (.int i4), some (.int x858), some (.int x863), o7, o8], [.int (lg_cmp y869 x863.toInt64)])) (jq qL_law_c3 10 rfl) rfl) ?_
            by_cases c871 : (lg_cmp y869 x863.toInt64) = 0
            · rw [if_pos c871] at H
              refine Eq.trans (jb_nx (i := .ifCond .eq 5) (n := 3) (q := (357, [some (.ref p0), some (.ref p1), some (.ref p2), some (.ref p3), some (.int i4), some (.int x858), some (.int x863), o7, o8], [])) (jq qL_law_c3 11 rfl) (jo_ifT (jz_eqT c871) rfl)) ?_
              refine Eq.trans (jb_nx (i := .goto 1625) (n := 3) (q := (1982, [some (.ref p0), some (.ref p1), some (.ref p2), some (.ref p3), some (.int i4), some (.int x858), some (.int x863), o7, o8], [])) (jq qL_law_c3 14 rfl) rfl) ?_
              exact H
            · rw [if_neg c871] at H
              refine Eq.trans (jb_nx (i := .ifCond .eq 5) (n := 3) (q := (355, [some (.ref p0), some (.ref p1), some (.ref p2), some (.ref p3), some (.int i4), some (.int x858), some (.int x863), o7, o8], [])) (jq qL_law_c3 11 rfl) (jo_ifF (jz_eqF c871))) ?_
              refine Eq.trans (jb_nx (i := .iconst 0) (n := 1) (q := (356, [some (.ref p0), some (.ref p1), some (.ref p2), some (.ref p3), some (.int i4), some (.int x858), some (.int x863), o7, o8], [.int 0])) (jq qL_law_c3 12 rfl) rfl) ?_
              exact Eq.trans (jb_rt (i := .ireturn) (n := 1) (jq qL_law_c3 13 rfl) (jo_iret rfl (by decide))) H
          · rw [if_neg c868] at H
            refine Eq.trans (jb_nx (i := .ifCond .ne 15) (n := 3) (q := (357, [some (.ref p0), some (.ref p1), some (.ref p2), some (.ref p3), some (.int i4), some (.int x858), some (.int x863), o7, o8], [])) (jq qL_law_c3 4 rfl) (jo_ifT (jz_neT c868) rfl)) ?_
            refine Eq.trans (jb_nx (i := .goto 1625) (n := 3) (q := (1982, [some (.ref p0), some (.ref p1), some (.ref p2), some (.ref p3), some (.int i4), some (.int x858), some (.int x863), o7, o8], [])) (jq qL_law_c3 14 rfl) rfl) ?_
            exact H
        · rw [if_neg c867] at H
          refine Eq.trans (jb_nx (i := .if_icmp .eq 5) (n := 3) (q := (338, [some (.ref p0), some (.ref p1), some (.ref p2), some (.ref p3), some (.int i4), some (.int x858), some (.int x863), o7, o8], [])) (jq qL_law_c3 0 rfl) (jo_icF (jz_eqF c867))) ?_
          refine Eq.trans (jb_nx (i := .iconst 0) (n := 1) (q := (339, [some (.ref p0), some (.ref p1), some (.ref p2), some (.ref p3), some (.int i4), some (.int x858), some (.int x863), o7, o8], [.int 0])) (jq qL_law_c3 1 rfl) rfl) ?_
          exact Eq.trans (jb_rt (i := .ireturn) (n := 1) (jq qL_law_c3 2 rfl) (jo_iret rfl (by decide))) H
      · exact Eq.trans (jb_rt (i := .invokevirtual 108) (n := 3) (jq qL_law_c2 38 rfl) (jo_cv (y := mX13_thrown) rfl (Nat.le_of_ble_eq_true rfl) rfl (Nat.le_of_ble_eq_true rfl) b872 rfl r865 (jo_exn rfl))) H
    · exact Eq.trans (jb_rt (i := .invokevirtual 115) (n := 3) (jq qL_law_c2 35 rfl) (jo_cv (y := mX13_trim) rfl (Nat.le_of_ble_eq_true rfl) rfl (Nat.le_of_ble_eq_true rfl) b875 rfl r862 (jo_exn rfl))) H
  · exact Eq.trans (jb_rt (i := .invokestatic 112) (n := 3) (jq qL_law_c2 27 rfl) (jo_cs (y := mL_trim) (w := 4) (by decide) rfl (Nat.le_of_ble_eq_true rfl) rfl (Nat.le_of_ble_eq_true rfl) rfl r857 (jo_exn rfl))) H
theorem gL_law_200 {d : Nat} {p0 : Nat} {p1 : Nat} {p2 : Nat} {p3 : Nat} {i4 : Int32} {o5 : Option Value} {o6 : Option Value} {o7 : Option Value} {o8 : Option Value} {h : jm_H} {r : jm_R} (H : ((jm_ali h p0 0 (i4 + 1)).bind fun x880 => (jm_ali h p0 0 (i4 + 2)).bind fun x882 => (jm_ali h p0 0 (i4 + 3)).bind fun x884 => (jm_ali h p0 0 (i4 + 4)).bind fun x886 => (jm_ali h p0 0 (i4 + 5)).bind fun x888 => jc_I (jm_D d mL_feed [.ref p1, .int x880, .int x882, .int x884, .int x886, .int x888, .ref p3] h) (fun x892 h890 => (jm_ali h890 p0 0 (i4 + 1)).bind fun x893 => (jm_ali h890 p0 0 (i4 + 2)).bind fun x895 => (jm_ali h890 p0 0 (i4 + 3)).bind fun x897 => (jm_ali h890 p0 0 (i4 + 4)).bind fun x899 => (jm_ali h890 p0 0 (i4 + 5)).bind fun x901 => jm_O h890 p2 13 (jc_I (jm_D d mX13_feed [.ref p2, .int x893, .int x895, .int x897, .int x899, .int x901] h890) (fun x905 h903 => jm_O h903 p2 13 (jc_I (jm_D d mX13_thrown [.ref p2] h903) (fun x908 h906 => (if x908 = x892 then (if x892 = 0 then (jm_all h906 p3 0).bind fun y911 => (if (lg_cmp y911 x905.toInt64) = 0 then kL_law_1982 d p0 p1 p2 p3 i4 (some (.int x892)) (some (.int x905)) o7 o8 h906 else some (.inl (some (.int 0)), h906)) else kL_law_1982 d p0 p1 p2 p3 i4 (some (.int x892)) (some (.int x905)) o7 o8 h906) else some (.inl (some (.int 0)), h906))) jx)) jx)) jx) = some r) : kL_law_200 d p0 p1 p2 p3 i4 o5 o6 o7 o8 h = some r := by
  show jm_B d mL_law (200, [some (.ref p0), some (.ref p1), some (.ref p2), some (.ref p3), some (.int i4), o5, o6, o7, o8], []) h = some r
  refine Eq.trans (jb_nx (i := .aload_n 1) (n := 1) (q := (201, [some (.ref p0), some (.ref p1), some (.ref p2), some (.ref p3), some (.int i4), o5, o6, o7, o8], [.ref p1])) (jq qL_law_c0 25 rfl) rfl) ?_
  refine Eq.trans (jb_nx (i := .aload_n 0) (n := 1) (q := (202, [some (.ref p0), some (.ref p1), some (.ref p2), some (.ref p3), some (.int i4), o5, o6, o7, o8], [.ref p0, .ref p1])) (jq qL_law_c0 26 rfl) rfl) ?_
  refine Eq.trans (jb_nx (i := .iload 4) (n := 2) (q := (204, [some (.ref p0), some (.ref p1), some (.ref p2), some (.ref p3), some (.int i4), o5, o6, o7, o8], [.int i4, .ref p0, .ref p1])) (jq qL_law_c0 27 rfl) rfl) ?_
  refine Eq.trans (jb_nx (i := .iconst 1) (n := 1) (q := (205, [some (.ref p0), some (.ref p1), some (.ref p2), some (.ref p3), some (.int i4), o5, o6, o7, o8], [.int 1, .int i4, .ref p0, .ref p1])) (jq qL_law_c0 28 rfl) rfl) ?_
  refine Eq.trans (jb_nx (i := .iadd) (n := 1) (q := (206, [some (.ref p0), some (.ref p1), some (.ref p2), some (.ref p3), some (.int i4), o5, o6, o7, o8], [.int (i4 + 1), .ref p0, .ref p1])) (jq qL_law_c0 29 rfl) rfl) ?_
  obtain ⟨x880, e881, H⟩ := jbd H
  refine Eq.trans (jb_nx (i := .iaload) (n := 1) (q := (207, [some (.ref p0), some (.ref p1), some (.ref p2), some (.ref p3), some (.int i4), o5, o6, o7, o8], [.int x880, .ref p1])) (jq qL_law_c0 30 rfl) (jo_ial e881)) ?_
  refine Eq.trans (jb_nx (i := .aload_n 0) (n := 1) (q := (208, [some (.ref p0), some (.ref p1), some (.ref p2), some (.ref p3), some (.int i4), o5, o6, o7, o8], [.ref p0, .int x880, .ref p1])) (jq qL_law_c0 31 rfl) rfl) ?_
  refine Eq.trans (jb_nx (i := .iload 4) (n := 2) (q := (210, [some (.ref p0), some (.ref p1), some (.ref p2), some (.ref p3), some (.int i4), o5, o6, o7, o8], [.int i4, .ref p0, .int x880, .ref p1])) (jq qL_law_c0 32 rfl) rfl) ?_
  refine Eq.trans (jb_nx (i := .iconst 2) (n := 1) (q := (211, [some (.ref p0), some (.ref p1), some (.ref p2), some (.ref p3), some (.int i4), o5, o6, o7, o8], [.int 2, .int i4, .ref p0, .int x880, .ref p1])) (jq qL_law_c0 33 rfl) rfl) ?_
  refine Eq.trans (jb_nx (i := .iadd) (n := 1) (q := (212, [some (.ref p0), some (.ref p1), some (.ref p2), some (.ref p3), some (.int i4), o5, o6, o7, o8], [.int (i4 + 2), .ref p0, .int x880, .ref p1])) (jq qL_law_c0 34 rfl) rfl) ?_
  obtain ⟨x882, e883, H⟩ := jbd H
  refine Eq.trans (jb_nx (i := .iaload) (n := 1) (q := (213, [some (.ref p0), some (.ref p1), some (.ref p2), some (.ref p3), some (.int i4), o5, o6, o7, o8], [.int x882, .int x880, .ref p1])) (jq qL_law_c0 35 rfl) (jo_ial e883)) ?_
  refine Eq.trans (jb_nx (i := .aload_n 0) (n := 1) (q := (214, [some (.ref p0), some (.ref p1), some (.ref p2), some (.ref p3), some (.int i4), o5, o6, o7, o8], [.ref p0, .int x882, .int x880, .ref p1])) (jq qL_law_c0 36 rfl) rfl) ?_
  refine Eq.trans (jb_nx (i := .iload 4) (n := 2) (q := (216, [some (.ref p0), some (.ref p1), some (.ref p2), some (.ref p3), some (.int i4), o5, o6, o7, o8], [.int i4, .ref p0, .int x882, .int x880, .ref p1])) (jq qL_law_c0 37 rfl) rfl) ?_
  refine Eq.trans (jb_nx (i := .iconst 3) (n := 1) (q := (217, [some (.ref p0), some (.ref p1), some (.ref p2), some (.ref p3), some (.int i4), o5, o6, o7, o8], [.int 3, .int i4, .ref p0, .int x882, .int x880, .ref p1])) (jq qL_law_c0 38 rfl) rfl) ?_
  refine Eq.trans (jb_nx (i := .iadd) (n := 1) (q := (218, [some (.ref p0), some (.ref p1), some (.ref p2), some (.ref p3), some (.int i4), o5, o6, o7, o8], [.int (i4 + 3), .ref p0, .int x882, .int x880, .ref p1])) (jq qL_law_c0 39 rfl) rfl) ?_
  obtain ⟨x884, e885, H⟩ := jbd H
  refine Eq.trans (jb_nx (i := .iaload) (n := 1) (q := (219, [some (.ref p0), some (.ref p1), some (.ref p2), some (.ref p3), some (.int i4), o5, o6, o7, o8], [.int x884, .int x882, .int x880, .ref p1])) (jq qL_law_c1 0 rfl) (jo_ial e885)) ?_
  refine Eq.trans (jb_nx (i := .aload_n 0) (n := 1) (q := (220, [some (.ref p0), some (.ref p1), some (.ref p2), some (.ref p3), some (.int i4), o5, o6, o7, o8], [.ref p0, .int x884, .int x882, .int x880, .ref p1])) (jq qL_law_c1 1 rfl) rfl) ?_
  refine Eq.trans (jb_nx (i := .iload 4) (n := 2) (q := (222, [some (.ref p0), some (.ref p1), some (.ref p2), some (.ref p3), some (.int i4), o5, o6, o7, o8], [.int i4, .ref p0, .int x884, .int x882, .int x880, .ref p1])) (jq qL_law_c1 2 rfl) rfl) ?_
  refine Eq.trans (jb_nx (i := .iconst 4) (n := 1) (q := (223, [some (.ref p0), some (.ref p1), some (.ref p2), some (.ref p3), some (.int i4), o5, o6, o7, o8], [.int 4, .int i4, .ref p0, .int x884, .int x882, .int x880, .ref p1])) (jq qL_law_c1 3 rfl) rfl) ?_
  refine Eq.trans (jb_nx (i := .iadd) (n := 1) (q := (224, [some (.ref p0), some (.ref p1), some (.ref p2), some (.ref p3), some (.int i4), o5, o6, o7, o8], [.int (i4 + 4), .ref p0, .int x884, .int x882, .int x880, .ref p1])) (jq qL_law_c1 4 rfl) rfl) ?_
  obtain ⟨x886, e887, H⟩ := jbd H
  refine Eq.trans (jb_nx (i := .iaload) (n := 1) (q := (225, [some (.ref p0), some (.ref p1), some (.ref p2), some (.ref p3), some (.int i4), o5, o6, o7, o8], [.int x886, .int x884, .int x882, .int x880, .ref p1])) (jq qL_law_c1 5 rfl) (jo_ial e887)) ?_
  refine Eq.trans (jb_nx (i := .aload_n 0) (n := 1) (q := (226, [some (.ref p0), some (.ref p1), some (.ref p2), some (.ref p3), some (.int i4), o5, o6, o7, o8], [.ref p0, .int x886, .int x884, .int x882, .int x880, .ref p1])) (jq qL_law_c1 6 rfl) rfl) ?_
  refine Eq.trans (jb_nx (i := .iload 4) (n := 2) (q := (228, [some (.ref p0), some (.ref p1), some (.ref p2), some (.ref p3), some (.int i4), o5, o6, o7, o8], [.int i4, .ref p0, .int x886, .int x884, .int x882, .int x880, .ref p1])) (jq qL_law_c1 7 rfl) rfl) ?_
  refine Eq.trans (jb_nx (i := .iconst 5) (n := 1) (q := (229, [some (.ref p0), some (.ref p1), some (.ref p2), some (.ref p3), some (.int i4), o5, o6, o7, o8], [.int 5, .int i4, .ref p0, .int x886, .int x884, .int x882, .int x880, .ref p1])) (jq qL_law_c1 8 rfl) rfl) ?_
  refine Eq.trans (jb_nx (i := .iadd) (n := 1) (q := (230, [some (.ref p0), some (.ref p1), some (.ref p2), some (.ref p3), some (.int i4), o5, o6, o7, o8], [.int (i4 + 5), .ref p0, .int x886, .int x884, .int x882, .int x880, .ref p1])) (jq qL_law_c1 9 rfl) rfl) ?_
  obtain ⟨x888, e889, H⟩ := jbd H
  refine Eq.trans (jb_nx (i := .iaload) (n := 1) (q := (231, [some (.ref p0), some (.ref p1), some (.ref p2), some (.ref p3), some (.int i4), o5, o6, o7, o8], [.int x888, .int x886, .int x884, .int x882, .int x880, .ref p1])) (jq qL_law_c1 10 rfl) (jo_ial e889)) ?_
  refine Eq.trans (jb_nx (i := .aload_n 3) (n := 1) (q := (232, [some (.ref p0), some (.ref p1), some (.ref p2), some (.ref p3), some (.int i4), o5, o6, o7, o8], [.ref p3, .int x888, .int x886, .int x884, .int x882, .int x880, .ref p1])) (jq qL_law_c1 11 rfl) rfl) ?_
  rcases jcI H with ⟨x892, h890, r891, H⟩ | ⟨w920, h921, r891, H⟩
  · refine Eq.trans (jb_nx (i := .invokestatic 102) (n := 3) (q := (235, [some (.ref p0), some (.ref p1), some (.ref p2), some (.ref p3), some (.int i4), o5, o6, o7, o8], [.int x892])) (jq qL_law_c1 12 rfl) (jo_cs (y := mL_feed) (w := 4) (by decide) rfl (Nat.le_of_ble_eq_true rfl) rfl (Nat.le_of_ble_eq_true rfl) rfl r891 jo_ret)) ?_
    refine Eq.trans (jb_nx (i := .istore 5) (n := 2) (q := (237, [some (.ref p0), some (.ref p1), some (.ref p2), some (.ref p3), some (.int i4), some (.int x892), o6, o7, o8], [])) (jq qL_law_c1 13 rfl) rfl) ?_
    refine Eq.trans (jb_nx (i := .aload_n 2) (n := 1) (q := (238, [some (.ref p0), some (.ref p1), some (.ref p2), some (.ref p3), some (.int i4), some (.int x892), o6, o7, o8], [.ref p2])) (jq qL_law_c1 14 rfl) rfl) ?_
    refine Eq.trans (jb_nx (i := .aload_n 0) (n := 1) (q := (239, [some (.ref p0), some (.ref p1), some (.ref p2), some (.ref p3), some (.int i4), some (.int x892), o6, o7, o8], [.ref p0, .ref p2])) (jq qL_law_c1 15 rfl) rfl) ?_
    refine Eq.trans (jb_nx (i := .iload 4) (n := 2) (q := (241, [some (.ref p0), some (.ref p1), some (.ref p2), some (.ref p3), some (.int i4), some (.int x892), o6, o7, o8], [.int i4, .ref p0, .ref p2])) (jq qL_law_c1 16 rfl) rfl) ?_
    refine Eq.trans (jb_nx (i := .iconst 1) (n := 1) (q := (242, [some (.ref p0), some (.ref p1), some (.ref p2), some (.ref p3), some (.int i4), some (.int x892), o6, o7, o8], [.int 1, .int i4, .ref p0, .ref p2])) (jq qL_law_c1 17 rfl) rfl) ?_
    refine Eq.trans (jb_nx (i := .iadd) (n := 1) (q := (243, [some (.ref p0), some (.ref p1), some (.ref p2), some (.ref p3), some (.int i4), some (.int x892), o6, o7, o8], [.int (i4 + 1), .ref p0, .ref p2])) (jq qL_law_c1 18 rfl) rfl) ?_
    obtain ⟨x893, e894, H⟩ := jbd H
    refine Eq.trans (jb_nx (i := .iaload) (n := 1) (q := (244, [some (.ref p0), some (.ref p1), some (.ref p2), some (.ref p3), some (.int i4), some (.int x892), o6, o7, o8], [.int x893, .ref p2])) (jq qL_law_c1 19 rfl) (jo_ial e894)) ?_
    refine Eq.trans (jb_nx (i := .aload_n 0) (n := 1) (q := (245, [some (.ref p0), some (.ref p1), some (.ref p2), some (.ref p3), some (.int i4), some (.int x892), o6, o7, o8], [.ref p0, .int x893, .ref p2])) (jq qL_law_c1 20 rfl) rfl) ?_
    refine Eq.trans (jb_nx (i := .iload 4) (n := 2) (q := (247, [some (.ref p0), some (.ref p1), some (.ref p2), some (.ref p3), some (.int i4), some (.int x892), o6, o7, o8], [.int i4, .ref p0, .int x893, .ref p2])) (jq qL_law_c1 21 rfl) rfl) ?_
    refine Eq.trans (jb_nx (i := .iconst 2) (n := 1) (q := (248, [some (.ref p0), some (.ref p1), some (.ref p2), some (.ref p3), some (.int i4), some (.int x892), o6, o7, o8], [.int 2, .int i4, .ref p0, .int x893, .ref p2])) (jq qL_law_c1 22 rfl) rfl) ?_
    refine Eq.trans (jb_nx (i := .iadd) (n := 1) (q := (249, [some (.ref p0), some (.ref p1), some (.ref p2), some (.ref p3), some (.int i4), some (.int x892), o6, o7, o8], [.int (i4 + 2), .ref p0, .int x893, .ref p2])) (jq qL_law_c1 23 rfl) rfl) ?_
    obtain ⟨x895, e896, H⟩ := jbd H
    refine Eq.trans (jb_nx (i := .iaload) (n := 1) (q := (250, [some (.ref p0), some (.ref p1), some (.ref p2), some (.ref p3), some (.int i4), some (.int x892), o6, o7, o8], [.int x895, .int x893, .ref p2])) (jq qL_law_c1 24 rfl) (jo_ial e896)) ?_
    refine Eq.trans (jb_nx (i := .aload_n 0) (n := 1) (q := (251, [some (.ref p0), some (.ref p1), some (.ref p2), some (.ref p3), some (.int i4), some (.int x892), o6, o7, o8], [.ref p0, .int x895, .int x893, .ref p2])) (jq qL_law_c1 25 rfl) rfl) ?_
    refine Eq.trans (jb_nx (i := .iload 4) (n := 2) (q := (253, [some (.ref p0), some (.ref p1), some (.ref p2), some (.ref p3), some (.int i4), some (.int x892), o6, o7, o8], [.int i4, .ref p0, .int x895, .int x893, .ref p2])) (jq qL_law_c1 26 rfl) rfl) ?_
    refine Eq.trans (jb_nx (i := .iconst 3) (n := 1) (q := (254, [some (.ref p0), some (.ref p1), some (.ref p2), some (.ref p3), some (.int i4), some (.int x892), o6, o7, o8], [.int 3, .int i4, .ref p0, .int x895, .int x893, .ref p2])) (jq qL_law_c1 27 rfl) rfl) ?_
    refine Eq.trans (jb_nx (i := .iadd) (n := 1) (q := (255, [some (.ref p0), some (.ref p1), some (.ref p2), some (.ref p3), some (.int i4), some (.int x892), o6, o7, o8], [.int (i4 + 3), .ref p0, .int x895, .int x893, .ref p2])) (jq qL_law_c1 28 rfl) rfl) ?_
    obtain ⟨x897, e898, H⟩ := jbd H
    refine Eq.trans (jb_nx (i := .iaload) (n := 1) (q := (256, [some (.ref p0), some (.ref p1), some (.ref p2), some (.ref p3), some (.int i4), some (.int x892), o6, o7, o8], [.int x897, .int x895, .int x893, .ref p2])) (jq qL_law_c1 29 rfl) (jo_ial e898)) ?_
    refine Eq.trans (jb_nx (i := .aload_n 0) (n := 1) (q := (257, [some (.ref p0), some (.ref p1), some (.ref p2), some (.ref p3), some (.int i4), some (.int x892), o6, o7, o8], [.ref p0, .int x897, .int x895, .int x893, .ref p2])) (jq qL_law_c1 30 rfl) rfl) ?_
    refine Eq.trans (jb_nx (i := .iload 4) (n := 2) (q := (259, [some (.ref p0), some (.ref p1), some (.ref p2), some (.ref p3), some (.int i4), some (.int x892), o6, o7, o8], [.int i4, .ref p0, .int x897, .int x895, .int x893, .ref p2])) (jq qL_law_c1 31 rfl) rfl) ?_
    refine Eq.trans (jb_nx (i := .iconst 4) (n := 1) (q := (260, [some (.ref p0), some (.ref p1), some (.ref p2), some (.ref p3), some (.int i4), some (.int x892), o6, o7, o8], [.int 4, .int i4, .ref p0, .int x897, .int x895, .int x893, .ref p2])) (jq qL_law_c1 32 rfl) rfl) ?_
    refine Eq.trans (jb_nx (i := .iadd) (n := 1) (q := (261, [some (.ref p0), some (.ref p1), some (.ref p2), some (.ref p3), some (.int i4), some (.int x892), o6, o7, o8], [.int (i4 + 4), .ref p0, .int x897, .int x895, .int x893, .ref p2])) (jq qL_law_c1 33 rfl) rfl) ?_
    obtain ⟨x899, e900, H⟩ := jbd H
    refine Eq.trans (jb_nx (i := .iaload) (n := 1) (q := (262, [some (.ref p0), some (.ref p1), some (.ref p2), some (.ref p3), some (.int i4), some (.int x892), o6, o7, o8], [.int x899, .int x897, .int x895, .int x893, .ref p2])) (jq qL_law_c1 34 rfl) (jo_ial e900)) ?_
    refine Eq.trans (jb_nx (i := .aload_n 0) (n := 1) (q := (263, [some (.ref p0), some (.ref p1), some (.ref p2), some (.ref p3), some (.int i4), some (.int x892), o6, o7, o8], [.ref p0, .int x899, .int x897, .int x895, .int x893, .ref p2])) (jq qL_law_c1 35 rfl) rfl) ?_
    refine Eq.trans (jb_nx (i := .iload 4) (n := 2) (q := (265, [some (.ref p0), some (.ref p1), some (.ref p2), some (.ref p3), some (.int i4), some (.int x892), o6, o7, o8], [.int i4, .ref p0, .int x899, .int x897, .int x895, .int x893, .ref p2])) (jq qL_law_c1 36 rfl) rfl) ?_
    refine Eq.trans (jb_nx (i := .iconst 5) (n := 1) (q := (266, [some (.ref p0), some (.ref p1), some (.ref p2), some (.ref p3), some (.int i4), some (.int x892), o6, o7, o8], [.int 5, .int i4, .ref p0, .int x899, .int x897, .int x895, .int x893, .ref p2])) (jq qL_law_c1 37 rfl) rfl) ?_
    refine Eq.trans (jb_nx (i := .iadd) (n := 1) (q := (267, [some (.ref p0), some (.ref p1), some (.ref p2), some (.ref p3), some (.int i4), some (.int x892), o6, o7, o8], [.int (i4 + 5), .ref p0, .int x899, .int x897, .int x895, .int x893, .ref p2])) (jq qL_law_c1 38 rfl) rfl) ?_
    obtain ⟨x901, e902, H⟩ := jbd H
    refine Eq.trans (jb_nx (i := .iaload) (n := 1) (q := (268, [some (.ref p0), some (.ref p1), some (.ref p2), some (.ref p3), some (.int i4), some (.int x892), o6, o7, o8], [.int x901, .int x899, .int x897, .int x895, .int x893, .ref p2])) (jq qL_law_c1 39 rfl) (jo_ial e902)) ?_
    obtain ⟨b917, H⟩ := jm_O_inv H
    rcases jcI H with ⟨x905, h903, r904, H⟩ | ⟨w918, h919, r904, H⟩
    · refine Eq.trans (jb_nx (i := .invokevirtual 107) (n := 3) (q := (271, [some (.ref p0), some (.ref p1), some (.ref p2), some (.ref p3), some (.int i4), some (.int x892), o6, o7, o8], [.int x905])) (jq qL_law_c2 0 rfl) (jo_cv (y := mX13_feed) rfl (Nat.le_of_ble_eq_true rfl) rfl (Nat.le_of_ble_eq_true rfl) b917 rfl r904 jo_ret)) ?_
      refine Eq.trans (jb_nx (i := .istore 6) (n := 2) (q := (273, [some (.ref p0), some (.ref p1), some (.ref p2), some (.ref p3), some (.int i4), some (.int x892), some (.int x905), o7, o8], [])) (jq qL_law_c2 1 rfl) rfl) ?_
      refine Eq.trans (jb_nx (i := .aload_n 2) (n := 1) (q := (274, [some (.ref p0), some (.ref p1), some (.ref p2), some (.ref p3), some (.int i4), some (.int x892), some (.int x905), o7, o8], [.ref p2])) (jq qL_law_c2 2 rfl) rfl) ?_
      obtain ⟨b914, H⟩ := jm_O_inv H
      rcases jcI H with ⟨x908, h906, r907, H⟩ | ⟨w915, h916, r907, H⟩
      · refine Eq.trans (jb_nx (i := .invokevirtual 108) (n := 3) (q := (277, [some (.ref p0), some (.ref p1), some (.ref p2), some (.ref p3), some (.int i4), some (.int x892), some (.int x905), o7, o8], [.int x908])) (jq qL_law_c2 3 rfl) (jo_cv (y := mX13_thrown) rfl (Nat.le_of_ble_eq_true rfl) rfl (Nat.le_of_ble_eq_true rfl) b914 rfl r907 jo_ret)) ?_
        refine Eq.trans (jb_nx (i := .iload 5) (n := 2) (q := (279, [some (.ref p0), some (.ref p1), some (.ref p2), some (.ref p3), some (.int i4), some (.int x892), some (.int x905), o7, o8], [.int x892, .int x908])) (jq qL_law_c2 4 rfl) rfl) ?_
        by_cases c909 : x908 = x892
        · rw [if_pos c909] at H
          refine Eq.trans (jb_nx (i := .if_icmp .eq 5) (n := 3) (q := (284, [some (.ref p0), some (.ref p1), some (.ref p2), some (.ref p3), some (.int i4), some (.int x892), some (.int x905), o7, o8], [])) (jq qL_law_c2 5 rfl) (jo_icT (jz_eqT c909) rfl)) ?_
          refine Eq.trans (jb_nx (i := .iload 5) (n := 2) (q := (286, [some (.ref p0), some (.ref p1), some (.ref p2), some (.ref p3), some (.int i4), some (.int x892), some (.int x905), o7, o8], [.int x892])) (jq qL_law_c2 8 rfl) rfl) ?_
          by_cases c910 : x892 = 0
          · rw [if_pos c910] at H
            refine Eq.trans (jb_nx (i := .ifCond .ne 15) (n := 3) (q := (289, [some (.ref p0), some (.ref p1), some (.ref p2), some (.ref p3), some (.int i4), some (.int x892), some (.int x905), o7, o8], [])) (jq qL_law_c2 9 rfl) (jo_ifF (jz_neF c910))) ?_
            refine Eq.trans (jb_nx (i := .aload_n 3) (n := 1) (q := (290, [some (.ref p0), some (.ref p1), some (.ref p2), some (.ref p3), some (.int i4), some (.int x892), some (.int x905), o7, o8], [.ref p3])) (jq qL_law_c2 10 rfl) rfl) ?_
            refine Eq.trans (jb_nx (i := .iconst 0) (n := 1) (q := (291, [some (.ref p0), some (.ref p1), some (.ref p2), some (.ref p3), some (.int i4), some (.int x892), some (.int x905), o7, o8], [.int 0, .ref p3])) (jq qL_law_c2 11 rfl) rfl) ?_
            obtain ⟨y911, e912, H⟩ := jbd H
            refine Eq.trans (jb_nx (i := .laload) (n := 1) (q := (292, [some (.ref p0), some (.ref p1), some (.ref p2), some (.ref p3), some (.int i4), some (.int x892), some (.int x905), o7, o8], [.long y911])) (jq qL_law_c2 12 rfl) (jo_lal e912)) ?_
            refine Eq.trans (jb_nx (i := .iload 6) (n := 2) (q := (294, [some (.ref p0), some (.ref p1), some (.ref p2), some (.ref p3), some (.int i4), some (.int x892), some (.int x905), o7, o8], [.int x905, .long y911])) (jq qL_law_c2 13 rfl) rfl) ?_
            refine Eq.trans (jb_nx (i := .i2l) (n := 1) (q := (295, [some (.ref p0), some (.ref p1), some (.ref p2), some (.ref p3), some (.int i4), some (.int x892), some (.int x905), o7, o8], [.long x905.toInt64, .long y911])) (jq qL_law_c2 14 rfl) rfl) ?_
            refine Eq.trans (jb_nx (i := .lcmp) (n := 1) (q := (296, [some (.ref p0), some (.ref p1), some (.ref p2), some (.ref p3), some (.int i4), some (.int x892), some (.int x905), o7, o8], [.int (lg_cmp y911 x905.toInt64)])) (jq qL_law_c2 15 rfl) rfl) ?_
            by_cases c913 : (lg_cmp y911 x905.toInt64) = 0
            · rw [if_pos c913] at H
              refine Eq.trans (jb_nx (i := .ifCond .eq 5) (n := 3) (q := (301, [some (.ref p0), some (.ref p1), some (.ref p2), some (.ref p3), some (.int i4), some (.int x892), some (.int x905), o7, o8], [])) (jq qL_law_c2 16 rfl) (jo_ifT (jz_eqT c913) rfl)) ?_
              refine Eq.trans (jb_nx (i := .goto 1681) (n := 3) (q := (1982, [some (.ref p0), some (.ref p1), some (.ref p2), some (.ref p3), some (.int i4), some (.int x892), some (.int x905), o7, o8], [])) (jq qL_law_c2 19 rfl) rfl) ?_
              exact H
            · rw [if_neg c913] at H
              refine Eq.trans (jb_nx (i := .ifCond .eq 5) (n := 3) (q := (299, [some (.ref p0), some (.ref p1), some (.ref p2), some (.ref p3), some (.int i4), some (.int x892), some (.int x905), o7, o8], [])) (jq qL_law_c2 16 rfl) (jo_ifF (jz_eqF c913))) ?_
              refine Eq.trans (jb_nx (i := .iconst 0) (n := 1) (q := (300, [some (.ref p0), some (.ref p1), some (.ref p2), some (.ref p3), some (.int i4), some (.int x892), some (.int x905), o7, o8], [.int 0])) (jq qL_law_c2 17 rfl) rfl) ?_
              exact Eq.trans (jb_rt (i := .ireturn) (n := 1) (jq qL_law_c2 18 rfl) (jo_iret rfl (by decide))) H
          · rw [if_neg c910] at H
            refine Eq.trans (jb_nx (i := .ifCond .ne 15) (n := 3) (q := (301, [some (.ref p0), some (.ref p1), some (.ref p2), some (.ref p3), some (.int i4), some (.int x892), some (.int x905), o7, o8], [])) (jq qL_law_c2 9 rfl) (jo_ifT (jz_neT c910) rfl)) ?_
            refine Eq.trans (jb_nx (i := .goto 1681) (n := 3) (q := (1982, [some (.ref p0), some (.ref p1), some (.ref p2), some (.ref p3), some (.int i4), some (.int x892), some (.int x905), o7, o8], [])) (jq qL_law_c2 19 rfl) rfl) ?_
            exact H
        · rw [if_neg c909] at H
          refine Eq.trans (jb_nx (i := .if_icmp .eq 5) (n := 3) (q := (282, [some (.ref p0), some (.ref p1), some (.ref p2), some (.ref p3), some (.int i4), some (.int x892), some (.int x905), o7, o8], [])) (jq qL_law_c2 5 rfl) (jo_icF (jz_eqF c909))) ?_
          refine Eq.trans (jb_nx (i := .iconst 0) (n := 1) (q := (283, [some (.ref p0), some (.ref p1), some (.ref p2), some (.ref p3), some (.int i4), some (.int x892), some (.int x905), o7, o8], [.int 0])) (jq qL_law_c2 6 rfl) rfl) ?_
          exact Eq.trans (jb_rt (i := .ireturn) (n := 1) (jq qL_law_c2 7 rfl) (jo_iret rfl (by decide))) H
      · exact Eq.trans (jb_rt (i := .invokevirtual 108) (n := 3) (jq qL_law_c2 3 rfl) (jo_cv (y := mX13_thrown) rfl (Nat.le_of_ble_eq_true rfl) rfl (Nat.le_of_ble_eq_true rfl) b914 rfl r907 (jo_exn rfl))) H
    · exact Eq.trans (jb_rt (i := .invokevirtual 107) (n := 3) (jq qL_law_c2 0 rfl) (jo_cv (y := mX13_feed) rfl (Nat.le_of_ble_eq_true rfl) rfl (Nat.le_of_ble_eq_true rfl) b917 rfl r904 (jo_exn rfl))) H
  · exact Eq.trans (jb_rt (i := .invokestatic 102) (n := 3) (jq qL_law_c1 12 rfl) (jo_cs (y := mL_feed) (w := 4) (by decide) rfl (Nat.le_of_ble_eq_true rfl) rfl (Nat.le_of_ble_eq_true rfl) rfl r891 (jo_exn rfl))) H
theorem gL_law {d : Nat} {p0 : Nat} {h : jm_H} {r : jm_R} (H : (jl_new h 10 [.null, .int 0, .int 0, .null, .null, .null, .null, .null, .null, .null, .null, .null, .null, .null] 14 fun a1 h2 => jm_U a1 (jc_V (jm_D d mX11_init [.ref a1] h2) (fun h5 => jl_new h5 12 [.int 0, .null, .int 0, .int 0, .null, .int 0, .int 0, .int 0, .null, .null, .null, .null, .null, .null, .int 0, .int 0, .int 0, .int 0, .null, .int 0, .null, .null, .null, .null, .int 0, .null, .null, .null, .int 0, .int 0, .long 0] 31 fun a7 h8 => jm_U a7 (jc_V (jm_D d mX13_init [.ref a7] h8) (fun h11 => jl_newa h11 1 1 fun a13 h14 => kL_law_23 d p0 a1 a7 a13 0 none none none none h14) (fun _ _ => none))) (fun _ _ => none))) = some r) : jm_D (d + 1) mL_law [.ref p0] h = some r := by
  rw [jm_D_body (Nat.le_of_ble_eq_true rfl)]
  show jm_B d mL_law (0, [some (.ref p0), none, none, none, none, none, none, none, none], []) h = some r
  obtain ⟨a1, h2, e3, e4, H⟩ := jl_new_inv H
  refine Eq.trans (jb_nx (i := .new 8) (n := 3) (q := (3, [some (.ref p0), none, none, none, none, none, none, none, none], [.ref a1])) (jq qL_law_c0 0 rfl) (jo_newo rfl (by decide) rfl rfl e3 e4)) ?_
  refine Eq.trans (jb_nx (i := .dup) (n := 1) (q := (4, [some (.ref p0), none, none, none, none, none, none, none, none], [.ref a1, .ref a1])) (jq qL_law_c0 1 rfl) rfl) ?_
  obtain ⟨u18, H⟩ := jm_U_inv H
  rcases jcV H with ⟨h5, r6, H⟩ | ⟨_, _, _, H⟩
  · refine Eq.trans (jb_nx (i := .invokespecial 98) (n := 3) (q := (7, [some (.ref p0), none, none, none, none, none, none, none, none], [.ref a1])) (jq qL_law_c0 2 rfl) (jo_ci (y := mX11_init) (w := 2) (by decide) rfl (Nat.le_of_ble_eq_true rfl) rfl (Nat.le_of_ble_eq_true rfl) u18 rfl r6)) ?_
    refine Eq.trans (jb_nx (i := .astore_n 1) (n := 1) (q := (8, [some (.ref p0), some (.ref a1), none, none, none, none, none, none, none], [])) (jq qL_law_c0 3 rfl) rfl) ?_
    obtain ⟨a7, h8, e9, e10, H⟩ := jl_new_inv H
    refine Eq.trans (jb_nx (i := .new 99) (n := 3) (q := (11, [some (.ref p0), some (.ref a1), none, none, none, none, none, none, none], [.ref a7])) (jq qL_law_c0 4 rfl) (jo_newo rfl (by decide) rfl rfl e9 e10)) ?_
    refine Eq.trans (jb_nx (i := .dup) (n := 1) (q := (12, [some (.ref p0), some (.ref a1), none, none, none, none, none, none, none], [.ref a7, .ref a7])) (jq qL_law_c0 5 rfl) rfl) ?_
    obtain ⟨u17, H⟩ := jm_U_inv H
    rcases jcV H with ⟨h11, r12, H⟩ | ⟨_, _, _, H⟩
    · refine Eq.trans (jb_nx (i := .invokespecial 101) (n := 3) (q := (15, [some (.ref p0), some (.ref a1), none, none, none, none, none, none, none], [.ref a7])) (jq qL_law_c0 6 rfl) (jo_ci (y := mX13_init) (w := 2) (by decide) rfl (Nat.le_of_ble_eq_true rfl) rfl (Nat.le_of_ble_eq_true rfl) u17 rfl r12)) ?_
      refine Eq.trans (jb_nx (i := .astore_n 2) (n := 1) (q := (16, [some (.ref p0), some (.ref a1), some (.ref a7), none, none, none, none, none, none], [])) (jq qL_law_c0 7 rfl) rfl) ?_
      refine Eq.trans (jb_nx (i := .iconst 1) (n := 1) (q := (17, [some (.ref p0), some (.ref a1), some (.ref a7), none, none, none, none, none, none], [.int 1])) (jq qL_law_c0 8 rfl) rfl) ?_
      obtain ⟨a13, h14, e15, e16, H⟩ := jl_newa_inv H
      refine Eq.trans (jb_nx (i := .newarray .long) (n := 2) (q := (19, [some (.ref p0), some (.ref a1), some (.ref a7), none, none, none, none, none, none], [.ref a13])) (jq qL_law_c0 9 rfl) (jo_newb rfl e15 e16)) ?_
      refine Eq.trans (jb_nx (i := .astore_n 3) (n := 1) (q := (20, [some (.ref p0), some (.ref a1), some (.ref a7), some (.ref a13), none, none, none, none, none], [])) (jq qL_law_c0 10 rfl) rfl) ?_
      refine Eq.trans (jb_nx (i := .iconst 0) (n := 1) (q := (21, [some (.ref p0), some (.ref a1), some (.ref a7), some (.ref a13), none, none, none, none, none], [.int 0])) (jq qL_law_c0 11 rfl) rfl) ?_
      refine Eq.trans (jb_nx (i := .istore 4) (n := 2) (q := (23, [some (.ref p0), some (.ref a1), some (.ref a7), some (.ref a13), some (.int 0), none, none, none, none], [])) (jq qL_law_c0 12 rfl) rfl) ?_
      exact H
    · cases H
  · cases H
