/-! ===== LEVEL 3: the reference, evenings ===== -/
/-- what evenings write -/
def zEU (m c : Nat) : Prop := jn (m + 21) 3 c ∨ jn (m + 27) 4 c ∨ c = m + 34
def zEF (k : Nat) : Prop := k = 14 ∨ k = 15 ∨ k = 19
section ZV
variable {h h' h1 h2 : jm_H} {d m a b n t k p q pc : Nat} {U V W F G K : Nat → Prop} {l u : List Int} {S S' : aS} {B : aB} {sc : Nat × (Nat → Int32)} {ev dn x y : Int32} {st : List Int32}
theorem zEF_r {k : Nat} (h : zEF k) : zr k = 0 := by
  rcases h with rfl | rfl | rfl <;> rfl
/-- other rows -/
theorem zE_S (H : zE h m b B S ev dn) (A : zS m U F h h') (p : ∀ c, U c → jn (m + 21) 14 c) (q : ∀ k, F k → zsF k) (g : zG h' (m + 21) B.2.1.length S') : zE h' m b B S' ev dn := by
  obtain ⟨a1, a2, a3, a4, a5, a6, a7⟩ := H
  have q4 : ¬ F 4 := fun z => by have := q 4 z; unfold zsF at this; omega
  have q14 : ¬ F 14 := fun z => by have := q 14 z; unfold zsF at this; omega
  have q15 : ¬ F 15 := fun z => by have := q 15 z; unfold zsF at this; omega
  exact ⟨zB_tr a1 A (fun k z => zsF_r (q k z)), (zS_R A q4).trans a2, zD_eq a3 (fun c c1 c2 => zS_at A (by omega) fun z => by have := p c z; unfold jn at this; omega), g, (zS_I A q14).trans a5, (zS_I A q15).trans a6, a7⟩
theorem z_stepWork (hp : p < pc) (hR : gR l) (hk : ry_r l = some k) (hz : ry_sz l k ≤ 150) (H : zK h m l) (Gp : zG h (m + 21) pc S) : jF (jm_D (d + 7) mX13_stepWork [.ref m, .int (Int32.ofNat p)] h) (.inl none) fun h' => zS m (fun c => zU m c ∨ c = m + 23) (fun k => k = 19) h h' ∧ zK h' m (ry_st l k) ∧ zG h' (m + 21) pc (S.1, aup S.2 p (S.2 p + 1)) := by
  refine jE_of (fun r => gX13_stepWork) ?_
  simp only [jm_O_eq (zB_ob H.1)]
  refine jE_I (z_take (d := d) hR hk hz H) ?_
  rintro h1 ⟨F1, H1⟩
  have G1 := zG_zm Gp F1 fun c z => by unfold zU at z; omega
  simp only [zB_10 H1.1, Option.bind_some, zG_steps0 G1 hp]
  obtain ⟨a1, a2, a3, a4, ST, s1, s2⟩ := G1
  obtain ⟨h2, e2, F2, A2⟩ := z_asi (m := m) (i := p) (x := S.2 p + 1) s1 (by omega) (by omega) (by omega)
  rw [nar0] at A2
  have e2' : jm_asi h1 (m + 23) 0 (Int32.ofNat p) (S.2 p + 1) = some h2 := e2
  rw [e2', Option.bind_some]
  obtain ⟨NW, n1, n2⟩ := a3
  obtain ⟨MN, m1, m2⟩ := a4
  refine jF_end ⟨zS_2 F1 F2 (fun c z => Or.inl z) (fun c z => Or.inr z) (fun k z => z) (fun k z => z.elim), zK_0 H1 F2 (by omega), a1, a2, ⟨NW, lC_z n1 F2 (by omega) (by omega), n2⟩, ⟨MN, aC_z m1 F2 (by omega) (by omega), m2⟩, _, A2, fun r hr => ?_⟩
  show upd ST p (S.2 p + 1) r = if r = p then S.2 p + 1 else S.2 r
  by_cases c : r = p
  · rw [if_pos c, c]; exact if_pos rfl
  · rw [if_neg c, ← s2 r hr]; exact if_neg c
theorem z_other_loop (hg : gN l) (hg2 : gN (S.1 p)) (hl : l.length = (S.1 p).length) (hp : p < pc) (H : zK h m l) (Gp : zG h (m + 21) pc S) : ∀ (f i : Nat), i + f = l.length → kX13_isOther_17 d m (Int32.ofNat p) (Int32.ofNat i) h = some (.inl (some (.int (jp (zx (fun j => l.getD j 0 ≠ (S.1 p).getD j 0) i l.length)))), h) := by
  have h1 := Gp.2.1 p hp
  have hpc := Gp.1
  intro f
  induction f with
  | zero =>
    intro i hi
    apply gX13_isOther_17
    simp only [H.2.1, Option.bind_some]
    rw [if_neg (by rw [jw_lt (by omega) (by omega)]; omega), jp_F (zx_0 (by omega))]
  | succ f ih =>
    intro i hi
    have nx := ih (i + 1) (by omega)
    apply gX13_isOther_17
    simp only [H.2.1, Option.bind_some]
    rw [if_pos (by rw [jw_lt (by omega) (by omega)]; omega)]
    simp only [zB_18 H.1, zB_8 H.1, Option.bind_some, zW_at H.2 (show i < l.length by omega), jw_150m, jw_add, zG_at Gp hp (show i < (S.1 p).length by omega), ln_eq (hg i) (hg2 i), jw_add1]
    by_cases c : l.getD i 0 = (S.1 p).getD i 0
    · rw [if_pos c]
      exact zx_g nx (fun z => z c)
    · rw [if_neg c, jp_T (zx_T c (by omega))]
theorem zx_ne (hl : l.length = u.length) : zx (fun j => l.getD j 0 ≠ u.getD j 0) 0 l.length ↔ ¬ l = u := by
  constructor
  · rintro ⟨j, -, -, h3⟩ e
    exact h3 (by rw [e])
  · intro z
    by_cases c : ∃ j, j < l.length ∧ l.getD j 0 ≠ u.getD j 0
    · obtain ⟨j, c1, c2⟩ := c
      exact ⟨j, Nat.zero_le _, c1, c2⟩
    · exfalso
      apply z
      apply List.ext_getElem hl
      intro i i1 i2
      have : l.getD i 0 = u.getD i 0 := Classical.byContradiction fun y => c ⟨i, i1, y⟩
      rw [List.getD_eq_getElem?_getD, List.getD_eq_getElem?_getD, List.getElem?_eq_getElem i1, List.getElem?_eq_getElem i2] at this
      exact this
theorem z_other (hl : l.length ≤ 150) (hg : gN l) (hg2 : gN (S.1 p)) (hp : p < pc) (H : zK h m l) (Gp : zG h (m + 21) pc S) : jm_D (d + 1) mX13_isOther [.ref m, .int (Int32.ofNat p)] h = some (.inl (some (.int (jp (¬ l = S.1 p)))), h) := by
  have h1 := Gp.2.1 p hp
  apply gX13_isOther
  simp only [H.2.1, zB_9 H.1, zG_many0 Gp hp, Option.bind_some, jw_eq (show l.length < 2147483648 by omega) (show (S.1 p).length < 2147483648 by omega)]
  by_cases c : l.length = (S.1 p).length
  · rw [if_pos c]
    exact jp_g (z_other_loop (d := d) hg hg2 c hp H Gp l.length 0 (by omega)) (zx_ne c)
  · rw [if_neg c, jp_T (fun z => c (by rw [z]))]
theorem z_told (hp : p < B.2.1.length) (B0 : zB h m) (e4 : jr_R h m 12 4 2 = some b) (hb : b = m + 2 ∨ m + 36 ≤ b) (H : zD h b B) : jF (jm_D (d + 1) mX13_takeUpTold [.ref m, .int (Int32.ofNat p)] h) (.inl none) fun h' => zS m (fun c => c = m + 27) (fun k => k = 19) h h' ∧ zK h' m (B.2.2.1 p) := by
  have g := zD_g H
  have hpc := g.2.1
  have hl := (g.2.2.2.2.2.1 p hp).2.2
  obtain ⟨SZ, s1, s2⟩ := H.2.2.2.1
  obtain ⟨TD, t1, t2⟩ := H.2.2.1
  refine jE_of (fun r => gX13_takeUpTold) ?_
  simp only [e4, Option.bind_some, zD_R H (k := 11) (x := b + 10) (fun _ => rfl), aC_at s1 (show p < 12 by omega) (by omega), s2 p hp]
  obtain ⟨h1, e1, F1, q1⟩ := z_pfI (Int32.ofNat (B.2.2.1 p).length) B0 (show 19 < 31 by omega)
  have B1 := zB_tr B0 F1 (fun k z => by rw [z]; rfl)
  have e41 := (zS_R (t := 2) F1 (show ¬ (4 = 19) by omega)).trans e4
  have D1 := zD_eq H (h' := h1) (fun c c1 c2 => zS_at F1 (by omega) id)
  have t1' := lC_z t1 F1 (by omega) id
  simp only [e1, Option.bind_some, e41, zD_R D1 (k := 10) (x := b + 9) (fun _ => rfl), zB_18 B1, q1, jw_150m]
  obtain ⟨g2, L⟩ := zB_l (o := 27) (n := 301) B1 (Or.inr ⟨by omega, by omega⟩) rfl
  obtain ⟨h3, e3, F3, V3⟩ := vR_cat (m := m) (s := 150 * p) (u := B.2.2.1 p) (vR_nil L) t1' (fun i hi => t2 p hp i hi) (by omega) (by omega) (by simp only [List.length_nil]; omega) (by omega) (by omega)
  have e3' : jm_cpy h1 (b + 9) (Int32.ofNat (150 * p)) (m + 27) 0 (Int32.ofNat (B.2.2.1 p).length) = some h3 := e3
  rw [e3', Option.bind_some]
  exact jF_end ⟨zS_2 F1 F3 (fun c z => z.elim) (fun c z => z) (fun k z => z) (fun k z => z.elim), zB_tr B1 F3 (fun k z => z.elim), (zS_I F3 id).trans q1, V3⟩
theorem if_jp {P : Prop} {Q : Bool} (e : P ↔ Q = true) : jp P = if Q = true then 1 else 0 := by
  by_cases c : P
  · rw [jp_T c, if_pos (e.mp c)]
  · rw [jp_F c, if_neg (fun z => c (e.mpr z))]
/-- a note -/
theorem z_carry (hn : n < B.2.2.2.length) (hS : gS B S) (E : zE h m b B S ev dn) : jF (jm_D (d + 8) mX13_carryOut [.ref m, .int (Int32.ofNat n)] h) (.inl (some (.int (jI (aH S ev (B.2.2.2.getD n n0).2.2.2) (if (aco B (B.2.2.2.getD n n0) S).1 = true then 1 else 0) 0)))) fun h' => zS m (zEU m) zEF h h' ∧ zE h' m b B (jI (aH S ev (B.2.2.2.getD n n0).2.2.2) (aco B (B.2.2.2.getD n n0) S).2 S) ev dn := by
  have g := zD_g E.2.2.1
  have hb7 := E.2.2.2.2.2.2
  have hn16 : n < 16 := by have := g.2.2.1; omega
  obtain ⟨NK, WH, TO, BG, EN, OR, WI, b1, b2, b3, b4, b5, b6, b7, b8⟩ := E.2.2.1.2.2.2.2.1
  obtain ⟨n1, n2, n3, -⟩ := b8 n hn
  have hmem : B.2.2.2.getD n n0 ∈ B.2.2.2 := getD_n hn
  have g8 := g.2.2.2.2.2.2 _ hmem
  have hold := z_holds (d := d + 1) hn hS E
  generalize B.2.2.2.getD n n0 = nt at *
  obtain ⟨kd, pp, gi, tt⟩ := nt
  simp only [] at *
  obtain ⟨gk, gp, gg, -⟩ := g8
  refine jE_of (fun r => gX13_carryOut) ?_
  simp only [E.2.1, Option.bind_some, zD_R E.2.2.1 (k := 14) (x := b + 12) (fun _ => rfl), aC_at b2 hn16 (by omega), jm_O_eq (zB_ob E.1)]
  refine jE_I hold ?_
  intro h1 F1
  have E1 := zE_z E F1 zHV_s fun k z => by unfold zsF; omega
  have b1' := aC_z b1 F1 (by omega) (by unfold zHV; omega)
  have b3' := aC_z b3 F1 (by omega) (by unfold zHV; omega)
  have F1' : zS m (zEU m) zEF h h1 := zS_mn F1 (fun c z => by unfold zHV at z; unfold zEU jn; omega) (fun k z => Or.inr (Or.inr z))
  by_cases ch : aH S ev tt
  · rw [jp_T ch, if_neg (by decide), jI_T ch, jI_T ch]
    have e5 : (Int32.ofNat kd = 5) ↔ kd = 5 := jw_eqL (b := 5) (by omega) (by omega)
    have e7 : (Int32.ofNat kd = 7) ↔ kd = 7 := jw_eqL (b := 7) (by omega) (by omega)
    simp only [E1.2.1, Option.bind_some, zD_R E1.2.2.1 (k := 13) (x := b + 11) (fun _ => rfl), aC_at b1' hn16 (by omega), n1]
    by_cases k5 : kd = 5
    · -- give
      rw [if_pos (e5.mpr k5)]
      obtain ⟨w1, w2⟩ := n2 k5
      have hq := gg k5
      have hpl := (hS pp gp).2.2
      have hql := (hS gi hq).2.2
      simp only [E1.2.1, Option.bind_some, zD_R E1.2.2.1 (k := 15) (x := b + 13) (fun _ => rfl), aC_at b3' hn16 (by omega), w1, w2, jm_O_eq (zB_ob E1.1), z_canGive (d := d + 6) hq gp E1.1 E1.2.2.2.1, jc_I_eq]
      have ea : aco B (kd, pp, gi, tt) S = if 1 + (S.1 pp).length + (S.1 gi).length ≤ 150 then (true, aup S.1 pp (0 :: S.1 pp ++ S.1 gi), S.2) else (false, S) := by
        subst k5; rfl
      rw [ea]
      by_cases c : 1 + (S.1 pp).length + (S.1 gi).length ≤ 150
      · rw [if_pos c, if_neg (by decide), if_pos c]
        simp only [if_true]
        refine jE_V (z_gift (d := d + 6) hq gp c E1.1 E1.2.2.2.1) ?_
        rintro h2 ⟨F2, K2⟩
        have E2 := zE_z E1 F2 (fun c z => by unfold zsU jn; omega) (fun k z => by unfold zsF; omega)
        simp only [jm_O_eq (zB_ob K2.1)]
        have hl2 : (0 :: S.1 pp ++ S.1 gi).length ≤ 150 := by
          rw [List.length_append, List.length_cons]; omega
        refine jE_V (zG_put (d := d + 6) gp hl2 K2.1 K2 E2.2.2.2.1) ?_
        rintro h3 ⟨F3, K3, G3⟩
        refine jF_end ⟨zS_tr F1' (zS_2 F2 F3 (fun c z => by unfold zEU jn; omega) (fun c z => by unfold jn at z; unfold zEU jn; omega) (fun k z => Or.inr (Or.inr z)) (fun k z => z.elim)), zE_S E2 F3 (fun c z => by unfold jn at *; omega) (fun k z => z.elim) G3⟩
      · rw [if_neg c, if_pos rfl, if_neg c]
        simp only [Bool.false_eq_true, if_false]
        exact jF_end ⟨F1', E1⟩
    · rw [if_neg (fun z => k5 (e5.mp z))]
      have w1 := n3 k5
      have hpR := hS pp gp
      have hpl := hpR.2.2
      simp only [jm_O_eq (zB_ob E1.1), w1]
      refine jE_V (z_takeUp (d := d + 6) gp E1.1 E1.2.2.2.1) ?_
      rintro h2 ⟨F2, K2⟩
      have E2 := zE_z E1 F2 (fun c z => by unfold zsU jn; omega) (fun k z => by unfold zsF; omega)
      have b1'' := aC_z b1' F2 (by omega) (by omega)
      have F2' : zS m (zEU m) zEF h h2 := zS_2 F1' F2 (fun c z => z) (fun c z => by unfold zEU jn; omega) (fun k z => z) (fun k z => Or.inr (Or.inr z))
      simp only [E2.2.1, Option.bind_some, zD_R E2.2.2.1 (k := 13) (x := b + 11) (fun _ => rfl), aC_at b1'' hn16 (by omega), n1, jm_O_eq (zB_ob E2.1)]
      by_cases k7 : kd = 7
      · -- renew
        rw [if_pos (e7.mpr k7)]
        have hT := g.2.2.2.2.2.1 pp gp
        refine jE_V (z_told (d := d + 6) gp E2.1 E2.2.1 hb7 E2.2.2.1) ?_
        rintro h3 ⟨F3, K3⟩
        have E3 := zE_z E2 F3 (fun c z => by unfold zsU jn; omega) (fun k z => by unfold zsF; omega)
        simp only [jm_O_eq (zB_ob K3.1), z_other (d := d + 6) hT.2.2 (gW_gN hT.2.1) (gW_gN hpR.2.1) gp K3 E3.2.2.2.1, jc_I_eq]
        refine jE_V (zG_put (d := d + 6) gp hT.2.2 K3.1 K3 E3.2.2.2.1) ?_
        rintro h4 ⟨F4, K4, G4⟩
        rw [jp_Y]
        have ea : aco B (kd, pp, gi, tt) S = (!decide (S.1 pp = B.2.2.1 pp), aup S.1 pp (B.2.2.1 pp), S.2) := by
          subst k7; rfl
        rw [ea, if_jp (P := ¬ B.2.2.1 pp = S.1 pp) (Q := !decide (S.1 pp = B.2.2.1 pp)) (by
          rw [Bool.not_eq_true', decide_eq_false_iff_not]
          exact ⟨fun z y => z y.symm, fun z y => z y.symm⟩)]
        exact jF_end ⟨zS_tr F2' (zS_2 F3 F4 (fun c z => by unfold zEU jn; omega) (fun c z => by unfold jn at z; unfold zEU jn; omega) (fun k z => Or.inr (Or.inr z)) (fun k z => z.elim)), zE_S E3 F4 (fun c z => by unfold jn at *; omega) (fun k z => z.elim) G4⟩
      · rw [if_neg (fun z => k7 (e7.mp z))]
        have k4 : kd = 4 := by omega
        have ea : aco B (kd, pp, gi, tt) S = (match ry_r (S.1 pp) with
          | none => (false, S)
          | some k => if ry_sz (S.1 pp) k ≤ 150 then (!decide (ry_st (S.1 pp) k = S.1 pp), aup S.1 pp (ry_st (S.1 pp) k), aup S.2 pp (S.2 pp + 1)) else (false, S)) := by
          subst k4; rfl
        rw [ea]
        refine jE_I (z_can (d := d + 2) hpR K2) ?_
        intro h3 F3
        have K3 := zK_0 K2 F3 (by omega)
        have E3 := zE_z E2 F3 (fun c z => by unfold zsU jn; omega) (fun k z => z.elim)
        have F3' : zS m (zEU m) zEF h h3 := zS_2 F2' F3 (fun c z => z) (fun c z => by unfold zEU jn; omega) (fun k z => z) (fun k z => z.elim)
        cases q : ry_r (S.1 pp) with
        | none =>
          rw [jp_F (fun z => by obtain ⟨k, z1, -⟩ := z; rw [q] at z1; cases z1), if_pos rfl]
          simp only [Bool.false_eq_true, if_false]
          exact jF_end ⟨F3', E3⟩
        | some k =>
          simp only []
          by_cases c : ry_sz (S.1 pp) k ≤ 150
          · rw [jp_T ⟨k, q, c⟩, if_neg (by decide)]
            simp only [if_pos c]
            have hR2 := gR_st hpR q c
            simp only [jm_O_eq (zB_ob K3.1)]
            refine jE_V (z_stepWork (d := d) gp hpR q c K3 E3.2.2.2.1) ?_
            rintro h4 ⟨F4, K4, G4⟩
            have E4 : zE h4 m b B (S.1, aup S.2 pp (S.2 pp + 1)) ev dn := zE_S E3 F4 (fun c z => by unfold zU at z; unfold jn; omega) (fun k z => by unfold zsF; omega) G4
            simp only [jm_O_eq (zB_ob K4.1), z_other (d := d + 6) (S := (S.1, aup S.2 pp (S.2 pp + 1))) hR2.2.2 (gW_gN hR2.2.1) (gW_gN hpR.2.1) gp K4 E4.2.2.2.1, jc_I_eq]
            refine jE_V (zG_put (d := d + 6) gp hR2.2.2 K4.1 K4 E4.2.2.2.1) ?_
            rintro h5 ⟨F5, K5, G5⟩
            rw [jp_Y, if_jp (P := ¬ ry_st (S.1 pp) k = S.1 pp) (Q := !decide (ry_st (S.1 pp) k = S.1 pp)) (by
              rw [Bool.not_eq_true', decide_eq_false_iff_not])]
            exact jF_end ⟨zS_tr F3' (zS_2 F4 F5 (fun c z => by unfold zU at z; unfold zEU jn; omega) (fun c z => by unfold jn at z; unfold zEU jn; omega) (fun k z => Or.inr (Or.inr z)) (fun k z => z.elim)), zE_S E4 F5 (fun c z => by unfold jn at *; omega) (fun k z => z.elim) G5⟩
          · rw [jp_F (fun z => by obtain ⟨k', z1, z2⟩ := z; rw [q] at z1; cases z1; exact c z2), if_pos rfl]
            simp only [if_neg c, Bool.false_eq_true, if_false]
            exact jF_end ⟨F3', E3⟩
  · rw [jp_F ch, if_pos rfl, jI_F ch, jI_F ch]
    exact jF_end ⟨F1', E1⟩
theorem z_evening_loop : ∀ (f i : Nat) (S : aS) (c : Int32) (h : jm_H), i + f = B.2.2.2.length → gS B S → zE h m b B S ev dn → jF (kX13_evening_4 (d + 8) m c (Int32.ofNat i) h) (.inl (some (.int (ans B ev (B.2.2.2.drop i) S c).2))) fun h' => zS m (zEU m) zEF h h' ∧ zE h' m b B (ans B ev (B.2.2.2.drop i) S c).1 (ev + 1) (dn + (ans B ev (B.2.2.2.drop i) S c).2) := by
  intro f
  induction f with
  | zero =>
    intro i S c h hi hS E
    have g := zD_g E.2.2.1
    have hl := g.2.2.1
    refine jE_of (fun r => gX13_evening_4) ?_
    simp only [E.2.1, Option.bind_some, zD_12 E.2.2.1]
    rw [if_neg (by rw [jw_lt (by omega) (by omega)]; omega), List.drop_eq_nil_of_le (by omega)]
    obtain ⟨a1, a2, a3, a4, a5, a6, a7⟩ := E
    simp only [a5, Option.bind_some]
    obtain ⟨h1, e1, F1, q1⟩ := z_pfI (ev + 1) a1 (show 14 < 31 by omega)
    have B1 := zB_tr a1 F1 (fun k z => by rw [z]; rfl)
    simp only [e1, Option.bind_some, (zS_I F1 (show ¬ (15 = 14) by omega)).trans a6]
    obtain ⟨h2, e2, F2, q2⟩ := z_pfI (dn + c) B1 (show 15 < 31 by omega)
    rw [e2, Option.bind_some]
    have F12 : zS m (zEU m) zEF h h2 := zS_2 F1 F2 (fun c z => z.elim) (fun c z => z.elim) (fun k z => Or.inl z) (fun k z => Or.inr (Or.inl z))
    refine jF_end ⟨F12, zB_tr B1 F2 (fun k z => by rw [z]; rfl), ?_, zD_eq a3 (fun c c1 c2 => ?_), zG_zm (zG_zm a4 F1 fun c z => z.elim) F2 (fun c z => z.elim), ?_, q2, a7⟩
    · exact (zS_R F2 (show ¬ (4 = 15) by omega)).trans ((zS_R F1 (show ¬ (4 = 14) by omega)).trans a2)
    · exact (zS_at F2 (by omega) id).trans (zS_at F1 (by omega) id)
    · exact (zS_I F2 (show ¬ (14 = 15) by omega)).trans q1
  | succ f ih =>
    intro i S c h hi hS E
    have g := zD_g E.2.2.1
    have hl := g.2.2.1
    have hil : i < B.2.2.2.length := by omega
    refine jE_of (fun r => gX13_evening_4) ?_
    simp only [E.2.1, Option.bind_some, zD_12 E.2.2.1]
    rw [if_pos (by rw [jw_lt (by omega) (by omega)]; omega), drop_n hil]
    simp only [jm_O_eq (zB_ob E.1), jw_add1]
    refine jE_I (z_carry (d := d) hil hS E) ?_
    rintro h1 ⟨F1, E1⟩
    have hmem : B.2.2.2.getD i n0 ∈ B.2.2.2 := getD_n hil
    have nx : ∀ S2 c2, gS B S2 → zE h1 m b B S2 ev dn → ans B ev (B.2.2.2.getD i n0 :: B.2.2.2.drop (i + 1)) S c = ans B ev (B.2.2.2.drop (i + 1)) S2 c2 → jF (kX13_evening_4 (d + 8) m c2 (Int32.ofNat (i + 1)) h1) (.inl (some (.int (ans B ev (B.2.2.2.getD i n0 :: B.2.2.2.drop (i + 1)) S c).2))) fun h' => zS m (zEU m) zEF h h' ∧ zE h' m b B (ans B ev (B.2.2.2.getD i n0 :: B.2.2.2.drop (i + 1)) S c).1 (ev + 1) (dn + (ans B ev (B.2.2.2.getD i n0 :: B.2.2.2.drop (i + 1)) S c).2) := by
      intro S2 c2 g2 e2 ea
      rw [ea]
      exact jF_mono (ih (i + 1) S2 c2 h1 (by omega) g2 e2) fun h3 ⟨F3, q⟩ => ⟨zS_tr F1 F3, q⟩
    have ea : ans B ev (B.2.2.2.getD i n0 :: B.2.2.2.drop (i + 1)) S c = jI (aH S ev (B.2.2.2.getD i n0).2.2.2) (ans B ev (B.2.2.2.drop (i + 1)) (aco B (B.2.2.2.getD i n0) S).2 (if (aco B (B.2.2.2.getD i n0) S).1 = true then c + 1 else c)) (ans B ev (B.2.2.2.drop (i + 1)) S c) := rfl
    by_cases ch : aH S ev (B.2.2.2.getD i n0).2.2.2
    · rw [jI_T ch] at E1 ea ⊢
      by_cases c2 : (aco B (B.2.2.2.getD i n0) S).1 = true
      · rw [if_pos c2] at ea ⊢
        rw [if_neg (by decide)]
        exact nx _ _ (gS_aco g hmem hS) E1 ea
      · rw [if_neg c2] at ea ⊢
        rw [if_pos rfl, Int32.add_zero]
        exact nx _ _ (gS_aco g hmem hS) E1 ea
    · rw [jI_F ch] at E1 ea ⊢
      rw [if_pos rfl, Int32.add_zero]
      exact nx _ _ hS E1 ea
theorem z_evening (hS : gS B S) (E : zE h m b B S ev dn) : jF (jm_D (d + 9) mX13_evening [.ref m] h) (.inl (some (.int (aev B (S, ev, dn)).2))) fun h' => zS m (zEU m) zEF h h' ∧ zE h' m b B (aev B (S, ev, dn)).1.1 (aev B (S, ev, dn)).1.2.1 (aev B (S, ev, dn)).1.2.2 := by
  refine jE_of (fun r => gX13_evening) ?_
  exact z_evening_loop (d := d) B.2.2.2.length 0 S 0 h (by omega) hS E
end ZV
