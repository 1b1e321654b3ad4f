/-! ===== LEVEL 2: X2 ===== -/
/-! MaskPlays$Note <init> ()V -/
def tX2_init : List (Nat × Instr × Nat) := [(0, .aload_n 0, 1), (1, .invokespecial 1, 3), (4, .aload_n 0, 1), (5, .iconst (-1), 1), (6, .putfield 9, 3), (9, .return_, 1)]
set_option maxRecDepth 100000 in
theorem qX2_init : ∀ q ∈ tX2_init, decode cX2_init q.1 = .ok (q.2.1, q.2.2) := by decide +kernel
theorem gX2_init {d : Nat} {p0 : Nat} {h : jm_H} {r : jm_R} (H : (jm_U p0 ((jm_pf h p0 2 3 0 (.int (-1))).bind fun h2 => some (.inl none, h2))) = some r) : jm_D (d + 1) mX2_init [.ref p0] h = some r := by
  rw [jm_D_body (Nat.le_of_ble_eq_true rfl)]
  show jm_B d mX2_init (0, [some (.ref p0)], []) h = some r
  refine Eq.trans (jb_nx (i := .aload_n 0) (n := 1) (q := (1, [some (.ref p0)], [.ref p0])) (jq qX2_init 0 rfl) rfl) ?_
  obtain ⟨u1, H⟩ := jm_U_inv H
  refine Eq.trans (jb_nx (i := .invokespecial 1) (n := 3) (q := (4, [some (.ref p0)], [])) (jq qX2_init 1 rfl) (jo_oi (z := mX3_clear) rfl (Nat.le_of_ble_eq_true rfl) u1)) ?_
  refine Eq.trans (jb_nx (i := .aload_n 0) (n := 1) (q := (5, [some (.ref p0)], [.ref p0])) (jq qX2_init 2 rfl) rfl) ?_
  refine Eq.trans (jb_nx (i := .iconst (-1)) (n := 1) (q := (6, [some (.ref p0)], [.int (-1), .ref p0])) (jq qX2_init 3 rfl) rfl) ?_
  obtain ⟨h2, e3, H⟩ := jbd H
  refine Eq.trans (jb_nx (i := .putfield 9) (n := 3) (q := (9, [some (.ref p0)], [])) (jq qX2_init 4 rfl) (jo_pf rfl (Or.inl rfl) e3)) ?_
  exact Eq.trans (jb_rt (i := .return_) (n := 1) (jq qX2_init 5 rfl) rfl) H
