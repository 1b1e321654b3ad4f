/-! ===== LEVEL 3: the law: a MaskPlays stands where others work ===== -/
section ZL
variable {h h' : jm_H} {x n k : Nat} {U S : Nat → Prop} {B : aB} {G : aG} {tp : List Nat} {er : Int} {sc : Nat × (Nat → Int32)}
theorem CB_far (H : CB h x B tp er sc) (F : jS U h h') (hx : 128 ≤ x) (D : ∀ y, U y → x + 369 ≤ y) : CB h' x B tp er sc := by
  obtain ⟨bk, sp, TP, a1, a2, a3, a4, a5, a6, a7, a8⟩ := H
  have e : ∀ y, U y → ¬ (y = x ∨ jn (x + 1) 89 y ∨ y = x + 104 ∨ jn (x + 105) 7 y ∨ jn (x + 112) 89 y ∨ jn (x + 216) 3 y ∨ y < 128) := fun y z1 z2 => by
    have := D y z1
    have h8 := a2.2
    unfold jn at z2
    omega
  refine ⟨bk, sp, TP, a1, oC_tr a2 F fun z => e _ z (Or.inl rfl), aC_tr a3 F fun z => e _ z (by unfold jn; omega), a4, bA_tr a5 F fun y z1 z2 => e y z1 ?_, bZ_tr a6 F fun y z1 z2 => e y z1 ?_, kZ_tr a7 F fun y z1 z2 => e y z1 ?_, kO_tr a8 F fun y z1 => by have := e y z1; omega⟩
  · rcases a1 with ⟨rfl, rfl⟩ | ⟨rfl, rfl⟩
    · exact Or.inr (Or.inl z2)
    · exact Or.inr (Or.inr (Or.inr (Or.inr (Or.inl z2))))
  · rcases a1 with ⟨rfl, rfl⟩ | ⟨rfl, rfl⟩
    · exact Or.inr (Or.inr (Or.inr (Or.inr (Or.inl z2))))
    · exact Or.inr (Or.inl z2)
  · rcases z2 with z2 | z2
    · exact Or.inr (Or.inr (Or.inr (Or.inl z2)))
    · exact Or.inr (Or.inr (Or.inr (Or.inr (Or.inr (Or.inl z2)))))
theorem CI_far (C : CI h x B G tp er sc) (F : jS U h h') (D : ∀ y, U y → x + 369 ≤ y) : CI h' x B G tp er sc := by
  have hx := CB_x C.1
  obtain ⟨c1, c2, ⟨s1, ⟨S0, e0, d0, s2⟩, ⟨l1, s3⟩, ⟨l2, s4⟩, s5⟩, c4⟩ := C
  refine ⟨CB_far c1 F hx D, sA_tr c2 F (fun y z w => by have := D y z; unfold jn at w; omega), ⟨tI_tr s1 F (fun y z w => by have := D y z; unfold jn at w; omega), ⟨S0, e0, d0, sA_tr s2 F (fun y z w => by have := D y z; unfold jn at w; omega)⟩, ⟨l1, pU_tr s3 F (fun y z w => by have := D y z; unfold jn at w; omega)⟩, ⟨l2, pU_tr s4 F (fun y z w => by have := D y z; unfold jn at w; omega)⟩, eI_tr s5 F (fun y z w => by have := D y z; unfold jn at w; omega)⟩, c4⟩
theorem CI_A (C : CI h x B G tp er sc) (F : jA S n k h h') (hx : x + 369 ≤ h.1) (D : ∀ y, S y → x + 369 ≤ y) : CI h' x B G tp er sc := by
  have := CI_far C (jA_jS F) (fun y z => z.elim (D y) (fun w => by omega))
  exact this
end ZL
