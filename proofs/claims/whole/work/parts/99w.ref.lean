/-! ===== LEVEL 3: the reference, teach: rows taken up ===== -/
section ZT
variable {h h' h1 h2 : jm_H} {d m a b n t k p q pc i : Nat} {U V W F G K : Nat → Prop} {l u : List Int} {S : aS} {B : aB}
theorem z_put1 (hp : i < 12) (hl : (S.1 i).length ≤ 150) (B0 : zB h m) (K : zK h m (S.1 i)) (hS : S.2 i = 0) (H : zG h (m + 21) i S) : ∃ h1 h2, jm_D (d + 1) mX13_putDown [.ref m, .int (Int32.ofNat i)] h = some (.inl none, h1) ∧ zB h1 m ∧ jm_asi h1 (m + 23) 0 (Int32.ofNat i) 0 = some h2 ∧ zS m (fun c => jn (m + 21) 3 c) (fun _ => False) h h2 ∧ zG h2 (m + 21) (i + 1) S := by
  obtain ⟨a1, a2, ⟨NW, n1, n2⟩, ⟨MN, m1, m2⟩, ST, s1, s2⟩ := H
  obtain ⟨h1, e1, F1, A1⟩ := z_asi (m := m) (i := i) (x := Int32.ofNat (S.1 i).length) m1 (by omega) (by omega) (by omega)
  rw [nar0] at A1
  have e1' : jm_asi h (m + 22) 0 (Int32.ofNat i) (Int32.ofNat (S.1 i).length) = some h1 := e1
  have K1 := zK_0 K F1 (by omega)
  have n1' := lC_z n1 F1 (by omega) (by omega)
  obtain ⟨V, L, v1, v2⟩ := K1.2.2
  obtain ⟨h2, e2, F2, L2⟩ := z_cpL (m := m) (s := 0) (e := 150 * i) (k := (S.1 i).length) L n1' (by omega) (by omega) (by omega) (by omega) (by omega)
  have e2' : jm_cpy h1 (m + 27) 0 (m + 21) (Int32.ofNat (150 * i)) (Int32.ofNat (S.1 i).length) = some h2 := e2
  have s1' := aC_z (aC_z s1 F1 (by omega) (by omega)) F2 (by omega) (by omega)
  obtain ⟨h3, e3, F3, A3⟩ := z_asi (m := m) (i := i) (x := 0) s1' (by omega) (by omega) (by omega)
  rw [nar0] at A3
  have e3' : jm_asi h2 (m + 23) 0 (Int32.ofNat i) 0 = some h3 := e3
  have FF : zS m (fun c => jn (m + 21) 3 c) (fun _ => False) h h3 := zS_tr (zS_mn F1 (fun c z => by unfold jn; omega) (fun k z => z)) (zS_tr (zS_mn F2 (fun c z => by unfold jn; omega) (fun k z => z)) (zS_mn F3 (fun c z => by unfold jn; omega) (fun k z => z)))
  refine ⟨h2, h3, ?_, zB_tr (zB_tr B0 F1 (fun k z => z.elim)) F2 (fun k z => z.elim), e3', FF, by omega, fun r hr => ?_, ⟨_, lC_z L2 F3 (by omega) (by omega), fun r hr j hj => ?_⟩, ⟨_, aC_z (aC_z A1 F2 (by omega) (by omega)) F3 (by omega) (by omega), fun r hr => ?_⟩, _, A3, fun r hr => ?_⟩
  · apply gX13_putDown
    simp only [zB_9 B0, K.2.1, Option.bind_some, e1', zB_18 K1.1, zB_8 K1.1, K1.2.1, jw_150m, e2']
  · by_cases c : r = i
    · rw [c]; exact hl
    · exact a2 r (by omega)
  · by_cases c : r = i
    · subst c
      rw [va_cpyT (by omega) (by omega), show 0 + (150 * r + j - 150 * r) = j by omega]
      exact v2 j hj
    · have := a2 r (by omega)
      rw [va_cpyF (by omega)]
      exact n2 r (by omega) j hj
  · by_cases c : r = i
    · rw [c]; exact if_pos rfl
    · exact (if_neg c).trans (m2 r (by omega))
  · by_cases c : r = i
    · rw [c, hS]; exact if_pos rfl
    · exact (if_neg c).trans (s2 r (by omega))
def zTW (m c : Nat) : Prop := jn (m + 21) 3 c ∨ c = m + 27
def zTV (k : Nat) : Prop := k = 14 ∨ k = 15 ∨ k = 19
theorem z_t42 {o1 : Option Value} (hb : b = m + 2 ∨ m + 36 ≤ b) (hS : ∀ p, S.1 p = B.2.2.1 p ∧ S.2 p = 0) : ∀ f i h o2, i + f = B.2.1.length → zB h m → jr_R h m 12 4 2 = some b → zD h b B → zG h (m + 21) i S → jF (kX13_teach_42 (d + 1) m o1 o2 (Int32.ofNat i) h) (.inl (some (.int 0))) fun h' => zS m (zTW m) zTV h h' ∧ zB h' m ∧ jr_R h' m 12 4 2 = some b ∧ zD h' b B ∧ zG h' (m + 21) B.2.1.length S ∧ jr_I h' m 12 14 0 = some 0 ∧ jr_I h' m 12 15 0 = some 0 := by
  intro f
  induction f with
  | zero =>
    intro i h o2 hi B0 e4 D Gz
    obtain ⟨⟨oc, d1⟩, d2⟩ := id D
    have gB := d2.2.2.2.2
    have h12 : B.2.1.length ≤ 12 := gB.2.1
    refine jE_of (fun r => gX13_teach_42) ?_
    have ei : jr_I h b 11 8 0 = some (Int32.ofNat B.2.1.length) := oC_I d1 rfl
    rw [e4, Option.bind_some, ei, Option.bind_some, if_neg (by rw [jw_lt (by omega) (by omega)]; omega)]
    obtain ⟨h1, e1, F1, q1⟩ := z_pfI (k := 14) 0 B0 (by omega)
    have B1 := zB_tr B0 F1 (fun k z => by rw [z]; rfl)
    obtain ⟨h2, e2, F2, q2⟩ := z_pfI (k := 15) 0 B1 (by omega)
    have B2 := zB_tr B1 F2 (fun k z => by rw [z]; rfl)
    rw [e1, Option.bind_some, e2, Option.bind_some]
    have FF : zS m (fun _ => False) (fun k => k = 14 ∨ k = 15) h h2 := zS_2 F1 F2 (fun c z => z) (fun c z => z) (fun k z => Or.inl z) (fun k z => Or.inr z)
    rw [show i = B.2.1.length by omega] at Gz
    exact jF_end ⟨zS_mn FF (fun c z => z.elim) (fun k z => by unfold zTV; omega), B2, (zS_R FF (by omega)).trans e4, zD_eq D (fun c p1 p2 => zS_at FF (by omega) id), zG_zm Gz FF (fun c z => z.elim), (zS_I F2 (by omega)).trans q1, q2⟩
  | succ f ih =>
    intro i h o2 hi B0 e4 D Gz
    obtain ⟨⟨oc, d1⟩, d2⟩ := id D
    have gB := d2.2.2.2.2
    have h12 : B.2.1.length ≤ 12 := gB.2.1
    have hR := gB.2.2.2.2.2.1 i (by omega)
    refine jE_of (fun r => gX13_teach_42) ?_
    have ei : jr_I h b 11 8 0 = some (Int32.ofNat B.2.1.length) := oC_I d1 rfl
    rw [e4, Option.bind_some, ei, Option.bind_some, if_pos (by rw [jw_lt (by omega) (by omega)]; omega), jm_O_eq (zB_ob B0)]
    refine jE_V (z_told (d := d) (p := i) (by omega) B0 e4 hb D) ?_
    rintro h1 ⟨F1, K1⟩
    have B1 := K1.1
    have G1 := zG_zm Gz F1 (fun c z => by omega)
    have eS := (hS i).1
    rw [← eS] at K1
    obtain ⟨h2, h3, e2, B2, e3, F3, G3⟩ := z_put1 (d := d) (S := S) (by omega) (by rw [eS]; exact hR.2.2) B1 K1 (hS i).2 G1
    rw [jm_O_eq (zB_ob B1), e2]
    have FF : zS m (zTW m) zTV h h3 := zS_2 F1 F3 (fun c z => Or.inr z) (fun c z => Or.inl z) (fun k z => by unfold zTV; omega) (fun k z => z.elim)
    have B3 := zB_tr B0 FF (fun k z => by
      rcases z with z | z | z <;> rw [z] <;> rfl)
    show jE (jc_V (some (.inl none, h2)) _ jx) _
    have eV : ∀ (kk : jm_H → Option jm_R), jc_V (some (.inl none, h2)) kk jx = kk h2 := fun kk => rfl
    rw [eV, zB_10 B2, Option.bind_some, e3, Option.bind_some, jw_add1]
    obtain ⟨v, h4, e5, rfl, F5, R5⟩ := ih (i + 1) h3 (jm_dm o2) (by omega) B3 ((zS_R FF (by unfold zTV; omega)).trans e4) (zD_eq D (fun c p1 p2 => zS_at FF (by omega) (by unfold zTW jn; omega))) G3
    exact ⟨_, h4, e5, rfl, zS_tr FF F5, R5⟩
end ZT
