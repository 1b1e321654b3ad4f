/-! ===== LEVEL 3: the reference, telling: rows ===== -/
section ZT
variable {h h' h1 h2 : jm_H} {d D m b i q k n a e p j E c29 : Nat} {T : List aK4} {A : zA3} {nt oc : Nat} {as ps : List Nat} {W : Nat → List Int} {r : List Int} {M : Nat → Nat} {s s' : aQ}
theorem zTe_mk {TD' : Nat → Int64} {r' : List Int} (hb : b = m + 2 ∨ m + 36 ≤ b) (H : zTe h m b T A nt oc as ps W r) (F : zS m (fun c => c = b + 9) (fun _ => False) h h') (L : lC h' (b + 9) 1800 TD') (p1 : ∀ p, p < ps.length → ∀ i, i < (W p).length → TD' (150 * p + i) = Int64.ofInt ((W p).getD i 0)) (p2 : ∀ i, i < r'.length → TD' (150 * ps.length + i) = Int64.ofInt (r'.getD i 0)) : zTe h' m b T A nt oc as ps W r' := by
  obtain ⟨a1, a2, ⟨KD, FR, VL, k1, k2, k3, k4⟩, a4, a5, a6, ⟨AN, b1, b2⟩, ⟨PN, c1, c2⟩, -, ⟨SZ, d1, d2⟩⟩ := H
  exact ⟨zB_tr a1 F (fun k z => z.elim), oC_z a2 F (by omega) (by omega), ⟨KD, FR, VL, aC_z k1 F (by omega) (by omega), aC_z k2 F (by omega) (by omega), lC_z k3 F (by omega) (by omega), k4⟩, aC_z a4 F (by omega) (by omega), aC_z a5 F (by omega) (by omega), aC_z a6 F (by omega) (by omega), ⟨AN, lC_z b1 F (by omega) (by omega), b2⟩, ⟨PN, lC_z c1 F (by omega) (by omega), c2⟩, ⟨TD', L, p1, p2⟩, ⟨SZ, aC_z d1 F (by omega) (by omega), d2⟩⟩
theorem gD_i {l : List Int} {x : Int} {i : Nat} (hi : i < (l ++ [x]).length) : (l ++ [x]).getD i 0 = if i = l.length then x else l.getD i 0 := by
  by_cases e : i = l.length
  · subst e
    rw [if_pos rfl, List.getD_eq_getElem?_getD, List.getElem?_append_right (Nat.le_refl _), Nat.sub_self]
    rfl
  · rw [List.length_append, List.length_singleton] at hi
    rw [if_neg e, List.getD_eq_getElem?_getD, List.getElem?_append_left (by omega), ← List.getD_eq_getElem?_getD]
/-- one element more -/
theorem zTe_w {x : Int} (hb : b = m + 2 ∨ m + 36 ≤ b) (P : zQp as ps W) (hps : ps.length < 12) (hr : r.length < 150) (H : zTe h m b T A nt oc as ps W r) : ∃ h', jm_asl h (b + 9) (Int32.ofNat (150 * ps.length + r.length)) (Int64.ofInt x) = some h' ∧ zS m (fun c => c = b + 9) (fun _ => False) h h' ∧ zTe h' m b T A nt oc as ps W (r ++ [x]) := by
  have H' := H
  obtain ⟨-, -, -, -, -, -, -, -, ⟨TD, t1, t2, t3⟩, -⟩ := H'
  obtain ⟨h1, e1, F1, L1⟩ := z_asl (m := m) (i := 150 * ps.length + r.length) (x := Int64.ofInt x) t1 (by omega) (by omega) (by omega)
  refine ⟨h1, e1, F1, zTe_mk hb H F1 L1 (fun p hp i hi => ?_) (fun i hi => ?_)⟩
  · have := P.2.2.2.2.1 p hp
    exact (if_neg (by omega)).trans (t2 p hp i hi)
  · rw [gD_i hi]
    rw [List.length_append, List.length_singleton] at hi
    by_cases c : i = r.length
    · rw [if_pos c]
      exact if_pos (by omega)
    · rw [if_neg c]
      exact (if_neg (by omega)).trans (t3 i (by omega))
theorem gD_ap2 {l t : List Int} {i : Nat} : (l ++ t).getD i 0 = if i < l.length then l.getD i 0 else t.getD (i - l.length) 0 := by
  by_cases c : i < l.length
  · rw [if_pos c, List.getD_eq_getElem?_getD, List.getElem?_append_left c, ← List.getD_eq_getElem?_getD]
  · rw [if_neg c, List.getD_eq_getElem?_getD, List.getElem?_append_right (by omega), ← List.getD_eq_getElem?_getD]
/-- a play's row more -/
theorem zTe_c (hb : b = m + 2 ∨ m + 36 ≤ b) (P : zQp as ps W) (hps : ps.length < 12) (hk : k < ps.length) (hr : r.length + (W k).length ≤ 150) (H : zTe h m b T A nt oc as ps W r) : ∃ h', jm_cpy h (b + 9) (Int32.ofNat (150 * k)) (b + 9) (Int32.ofNat (150 * ps.length + r.length)) (Int32.ofNat (W k).length) = some h' ∧ zS m (fun c => c = b + 9) (fun _ => False) h h' ∧ zTe h' m b T A nt oc as ps W (r ++ W k) := by
  have H' := H
  obtain ⟨-, -, -, -, -, -, -, -, ⟨TD, t1, t2, t3⟩, -⟩ := H'
  have hk150 := P.2.2.2.2.1 k hk
  obtain ⟨h1, e1, F1, L1⟩ := z_cpL (m := m) (s := 150 * k) (e := 150 * ps.length + r.length) (k := (W k).length) t1 t1 (by omega) (by omega) (by omega) (by omega) (by omega)
  refine ⟨h1, e1, F1, zTe_mk hb H F1 L1 (fun p hp i hi => ?_) (fun i hi => ?_)⟩
  · have := P.2.2.2.2.1 p hp
    exact (if_neg (by omega)).trans (t2 p hp i hi)
  · rw [gD_ap2]
    rw [List.length_append] at hi
    by_cases c : i < r.length
    · rw [if_pos c]
      exact (if_neg (by omega)).trans (t3 i c)
    · rw [if_neg c]
      refine (if_pos (by omega)).trans ?_
      rw [show 150 * k + (150 * ps.length + i - (150 * ps.length + r.length)) = 150 * k + (i - r.length) by omega]
      exact t2 k hk _ (by omega)
/-- zeros more -/
theorem z_lay0 {o1 : Option Value} (hb : b = m + 2 ∨ m + 36 ≤ b) (P : zQp as ps W) (hps : ps.length < 12) {z : Nat} {r0 : List Int} (hr : r0.length + z ≤ 150) : ∀ f i h o4, i + f = z → zTe h m b T A nt oc as ps W (r0 ++ List.replicate i 0) → jF (kX13_layOut_104 d b o1 (Int32.ofNat (150 * ps.length + r0.length)) (Int32.ofNat z) o4 (Int32.ofNat i) h) (.inl none) fun h' => zS m (fun c => c = b + 9) (fun _ => False) h h' ∧ zTe h' m b T A nt oc as ps W (r0 ++ List.replicate z 0) := by
  intro f
  induction f with
  | zero =>
    intro i h o4 hi H
    refine jE_of (fun r => gX13_layOut_104) ?_
    rw [if_neg (by rw [jw_lt (by omega) (by omega)]; omega)]
    rw [show i = z by omega] at H
    exact jF_end ⟨zS_rf, H⟩
  | succ f ih =>
    intro i h o4 hi H
    refine jE_of (fun r => gX13_layOut_104) ?_
    have hl : (r0 ++ List.replicate i (0 : Int)).length = r0.length + i := by rw [List.length_append, List.length_replicate]
    obtain ⟨h1, e1, F1, H1⟩ := zTe_w (x := 0) hb P hps (by rw [hl]; omega) H
    rw [hl, ← Nat.add_assoc] at e1
    rw [if_pos (by rw [jw_lt (by omega) (by omega)]; omega), zTe_R (k := 10) (x := b + 9) H rfl, Option.bind_some, jw_add, show (0 : Int64) = Int64.ofInt 0 from rfl, e1, Option.bind_some, jw_add1]
    rw [List.append_assoc, ← List.replicate_succ'] at H1
    obtain ⟨v, h2, e2, e3, F2, H2⟩ := ih (i + 1) h1 _ (by omega) H1
    exact ⟨v, h2, e2, e3, zS_tr F1 F2, H2⟩
end ZT
