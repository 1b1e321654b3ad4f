/-! ===== LEVEL 3: the law: its start ===== -/
section ZL
variable {h h' : jm_H} {x n k d p0 : Nat} {sc : Nat × (Nat → Int32)} {Q : (Option Value ⊕ Nat) → jm_H → Prop}
def aG0 : aG := ((aB0.2.2.1, fun _ => 0), 0, 0)
theorem l_start (n0 : h.1 = x) (hx : 128 ≤ x) (K : kO h sc) (g : ∀ h', jA (fun _ => False) 405 64525 h h' → CI h' x aB0 aG0 [] (-1) sc → zI h' (x + 369) (x + 369 + 2) aB0 aG0 [] (-1) → lC h' (x + 404) 1 (fun _ => 0) → jE (kL_law_23 (d + 6) p0 x (x + 369) (x + 404) 0 none none none none h') Q) : jE (jm_D (d + 7) mL_law [.ref p0] h) Q := by
  refine jE_of (fun r => gL_law) ?_
  refine jE_new (by omega) fun h2 F2 O2 => ?_
  rw [n0] at O2 ⊢
  have n2 : h2.1 = x + 1 := by rw [F2.1, n0]
  rw [jm_U_q hx]
  refine jE_V (i_X11 (d := d) O2 n2 (kO_A K F2 (fun a z => z.elim) (by omega))) ?_
  rintro h5 ⟨F5, C5⟩
  have n5 : h5.1 = x + 369 := by rw [F5.1, n2]
  have J5 : jA (fun _ => False) 369 45499 h h5 := jA_tr2 F2 F5 (fun c c1 c2 => by omega)
  refine jE_new (by omega) fun h8 F8 O8 => ?_
  rw [n5] at O8 ⊢
  have n8 : h8.1 = x + 369 + 1 := by rw [F8.1, n5]
  rw [jm_U_q (show 128 ≤ x + 369 by omega)]
  have C8 : CI h8 x aB0 aG0 [] (-1) sc := CI_A C5 F8 (by omega) (fun y z => z.elim)
  refine jE_V (i_X13 (d := d + 4) n8 O8) ?_
  rintro h11 ⟨F11, I11, -⟩
  have n11 : h11.1 = x + 404 := by rw [F11.1, n8]
  have J8 : jA (fun _ => False) 370 45530 h h8 := jA_tr J5 F8
  have J11 : jA (fun _ => False) 404 64524 h h11 := jA_tr2 J8 F11 (fun c c1 c2 => by omega)
  have C11 : CI h11 x aB0 aG0 [] (-1) sc := CI_A C8 F11 (by omega) (fun y z => by omega)
  refine jE_newa (m := 1) (by decide) rfl fun h14 F14 A14 => ?_
  rw [n11] at A14 ⊢
  refine g h14 (jA_tr J11 F14) (CI_A C11 F14 (by omega) (fun y z => z.elim)) (zI_eq I11 fun c z => F14.2.2 c (by unfold zAt jn at z; omega) id) ⟨A14, by omega⟩
end ZL
