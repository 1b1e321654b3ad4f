/-! ===== LEVEL 3: the reference, telling: names that are told ===== -/
section ZT
variable {h h' h1 h2 : jm_H} {d D m b i q k n a e p j E c29 : Nat} {T : List aK4} {A : zA3} {nt oc : Nat} {as ps : List Nat} {W : Nat → List Int} {r : List Int} {M : Nat → Nat} {s s' : aQ}
theorem zTe_f {F : Nat → Prop} (H : zTe h m b T A nt oc as ps W r) (hb : b = m + 2 ∨ m + 36 ≤ b) (F1 : zS m (fun _ => False) F h h') (q : ∀ k, F k → zr k = 0) : zTe h' m b T A nt oc as ps W r := by
  obtain ⟨a1, a2, ⟨KD, FR, VL, k1, k2, k3, k4⟩, a4, a5, a6, ⟨AN, b1, b2⟩, ⟨PN, c1, c2⟩, ⟨TD, t1, t2⟩, ⟨SZ, d1, d2⟩⟩ := H
  exact ⟨zB_tr a1 F1 q, oC_z a2 F1 (by omega) id, ⟨KD, FR, VL, aC_z k1 F1 (by omega) id, aC_z k2 F1 (by omega) id, lC_z k3 F1 (by omega) id, k4⟩, aC_z a4 F1 (by omega) id, aC_z a5 F1 (by omega) id, aC_z a6 F1 (by omega) id, ⟨AN, lC_z b1 F1 (by omega) id, b2⟩, ⟨PN, lC_z c1 F1 (by omega) id, c2⟩, ⟨TD, lC_z t1 F1 (by omega) id, t2⟩, ⟨SZ, aC_z d1 F1 (by omega) id, d2⟩⟩
theorem gDN_ap {l : List Nat} {x : Nat} {i : Nat} (hi : i < (l ++ [x]).length) : (l ++ [x]).getD i 0 = if i = l.length then x else l.getD i 0 := by
  by_cases e : i = l.length
  · subst e
    rw [if_pos rfl, List.getD_eq_getElem?_getD, List.getElem?_append_right (Nat.le_refl _), Nat.sub_self]
    rfl
  · rw [List.length_append, List.length_singleton] at hi
    rw [if_neg e, List.getD_eq_getElem?_getD, List.getElem?_append_left (by omega), ← List.getD_eq_getElem?_getD]
/-- an actor more -/
theorem zTe_a {w : Nat} (hb : b = m + 2 ∨ m + 36 ≤ b) (hl : as.length < 8) (H : zTe h m b T A nt oc as ps W r) : ∃ h1 h2, jm_asl h (b + 7) (Int32.ofNat as.length) (Int64.ofNat w) = some h1 ∧ jr_I h1 b 11 6 0 = some (Int32.ofNat as.length) ∧ jm_pf h1 b 11 6 0 (.int (Int32.ofNat (as.length + 1))) = some h2 ∧ zS m (zTU b) zTF h h2 ∧ zS m (zTU b) (fun _ => False) h h2 ∧ zTe h2 m b T A nt oc (as ++ [w]) ps W r := by
  obtain ⟨a1, a2, ⟨KD, FR, VL, k1, k2, k3, k4⟩, a4, a5, a6, ⟨AN, b1, b2⟩, ⟨PN, c1, c2⟩, ⟨TD, t1, t2⟩, ⟨SZ, d1, d2⟩⟩ := H
  obtain ⟨h1, e1, F1, L1⟩ := z_asl (m := m) (i := as.length) (x := Int64.ofNat w) b1 (by omega) hl (by omega)
  have o1 := oC_z a2 F1 (by omega) (by omega)
  obtain ⟨h2, e2, F2, o2⟩ := z_bf (m := m) (k := 6) (t := 0) (v := .int (Int32.ofNat (as.length + 1))) o1 (by show 6 < 22; omega) rfl (by omega)
  have FA : zS m (fun c => c = b ∨ c = b + 7) (fun _ => False) h h2 := zS_2 F1 F2 (fun c z => Or.inr z) (fun c z => Or.inl z) (fun k z => z) (fun k z => z)
  have FB : zS m (zTU b) (fun _ => False) h h2 := zS_mn FA (fun c z => by unfold zTU; omega) (fun k z => z)
  refine ⟨h1, h2, e1, oC_I o1 rfl, e2, zS_mn FB (fun c z => z) (fun k z => z.elim), FB, zB_tr a1 FA (fun k z => z.elim), ?_, ⟨KD, FR, VL, aC_z k1 FA (by omega) (by omega), aC_z k2 FA (by omega) (by omega), lC_z k3 FA (by omega) (by omega), k4⟩, aC_z a4 FA (by omega) (by omega), aC_z a5 FA (by omega) (by omega), aC_z a6 FA (by omega) (by omega), ⟨_, lC_z L1 F2 (by omega) (by omega), fun i hi => ?_⟩, ⟨PN, lC_z c1 FA (by omega) (by omega), c2⟩, ⟨TD, lC_z t1 FA (by omega) (by omega), t2⟩, ⟨SZ, aC_z d1 FA (by omega) (by omega), d2⟩⟩
  · rw [List.length_append, List.length_singleton]
    exact o2
  · rw [gDN_ap hi]
    rw [List.length_append, List.length_singleton] at hi
    by_cases c : i = as.length
    · rw [if_pos c]
      exact if_pos c
    · rw [if_neg c]
      exact (if_neg c).trans (b2 i (by omega))
/-- a play more -/
theorem zTe_p {w : Nat} (hb : b = m + 2 ∨ m + 36 ≤ b) (hl : ps.length < 12) (hw : jr_L h m 12 30 1 = some (Int64.ofNat w)) (H : zTe h m b T A nt oc as ps W r) : ∃ h1 h2 h3, jm_asi h (b + 10) 0 (Int32.ofNat ps.length) (Int32.ofNat r.length) = some h1 ∧ zbR h1 b ∧ jr_R h1 b 11 9 2 = some (b + 8) ∧ jr_L h1 m 12 30 1 = some (Int64.ofNat w) ∧ jm_asl h1 (b + 8) (Int32.ofNat ps.length) (Int64.ofNat w) = some h2 ∧ jr_I h2 b 11 8 0 = some (Int32.ofNat ps.length) ∧ jm_pf h2 b 11 8 0 (.int (Int32.ofNat (ps.length + 1))) = some h3 ∧ zS m (zTU b) (fun _ => False) h h3 ∧ zTe h3 m b T A nt oc as (ps ++ [w]) (aup W ps.length r) [] := by
  obtain ⟨a1, a2, ⟨KD, FR, VL, k1, k2, k3, k4⟩, a4, a5, a6, ⟨AN, b1, b2⟩, ⟨PN, c1, c2⟩, ⟨TD, t1, t2, t3⟩, ⟨SZ, d1, d2⟩⟩ := H
  obtain ⟨h1, e1, F1, L1⟩ := z_asi (m := m) (i := ps.length) (x := Int32.ofNat r.length) d1 (by omega) hl (by omega)
  rw [nar0] at L1
  have o1 := oC_z a2 F1 (by omega) (by omega)
  have w1 : jr_L h1 m 12 30 1 = some (Int64.ofNat w) := (zS_L F1 id).trans hw
  obtain ⟨h2, e2, F2, L2⟩ := z_asl (m := m) (i := ps.length) (x := Int64.ofNat w) (lC_z c1 F1 (by omega) (by omega)) (by omega) hl (by omega)
  have o2 := oC_z o1 F2 (by omega) (by omega)
  obtain ⟨h3, e3, F3, o3⟩ := z_bf (m := m) (k := 8) (t := 0) (v := .int (Int32.ofNat (ps.length + 1))) o2 (by show 8 < 22; omega) rfl (by omega)
  have FA : zS m (fun c => c = b ∨ c = b + 8 ∨ c = b + 10) (fun _ => False) h h3 := zS_2 F1 (zS_2 F2 F3 (W := fun c => c = b ∨ c = b + 8) (K := fun _ => False) (fun c z => Or.inr z) (fun c z => Or.inl z) (fun k z => z) (fun k z => z)) (fun c z => Or.inr (Or.inr z)) (fun c z => by omega) (fun k z => z) (fun k z => z)
  refine ⟨h1, h2, h3, e1, ⟨_, _, _, _, o1⟩, oC_R o1 rfl, w1, e2, oC_I o2 rfl, e3, zS_mn FA (fun c z => by unfold zTU; omega) (fun k z => z), zB_tr a1 FA (fun k z => z.elim), ?_, ⟨KD, FR, VL, aC_z k1 FA (by omega) (by omega), aC_z k2 FA (by omega) (by omega), lC_z k3 FA (by omega) (by omega), k4⟩, aC_z a4 FA (by omega) (by omega), aC_z a5 FA (by omega) (by omega), aC_z a6 FA (by omega) (by omega), ⟨AN, lC_z b1 FA (by omega) (by omega), b2⟩, ⟨_, lC_z L2 F3 (by omega) (by omega), fun i hi => ?_⟩, ⟨TD, lC_z t1 FA (by omega) (by omega), fun p hp i hi => ?_, fun i hi => by cases hi⟩, ⟨_, aC_z (aC_z L1 F2 (by omega) (by omega)) F3 (by omega) (by omega), fun p hp => ?_⟩⟩
  · rw [List.length_append, List.length_singleton]
    exact o3
  · rw [gDN_ap hi]
    rw [List.length_append, List.length_singleton] at hi
    by_cases c : i = ps.length
    · rw [if_pos c]
      exact if_pos c
    · rw [if_neg c]
      exact (if_neg c).trans (c2 i (by omega))
  · rw [List.length_append, List.length_singleton] at hp
    by_cases c : p = ps.length
    · subst c
      have ea : aup W ps.length r ps.length = r := if_pos rfl
      rw [ea] at hi ⊢
      exact t3 i hi
    · have ea : aup W ps.length r p = W p := if_neg c
      rw [ea] at hi ⊢
      exact t2 p (by omega) i hi
  · rw [List.length_append, List.length_singleton] at hp
    by_cases c : p = ps.length
    · subst c
      have ea : aup W ps.length r ps.length = r := if_pos rfl
      rw [ea]
      exact if_pos rfl
    · have ea : aup W ps.length r p = W p := if_neg c
      rw [ea]
      exact (if_neg c).trans (d2 p (by omega))
end ZT
