/-! ===== LEVEL 3: the reference, notes and evenings ===== -/
/-- the stack of a test, its top first -/
def zH (h : jm_H) (m : Nat) (st : List Int32) : Prop := st.length ≤ 800 ∧ ∃ SK, aC h (m + 34) 0 800 SK ∧ ∀ i, i < st.length → SK i = st.getD (st.length - 1 - i) 0
def zQ (h : jm_H) (b : Nat) (EN OR WI : Nat → Int32) : Prop := aC h (b + 15) 0 16 EN ∧ aC h (b + 16) 0 800 OR ∧ aC h (b + 17) 0 800 WI
theorem av_as {S : aS} {ev : Int32} {o : aI} {st : List Int32} (ho : zoa o) : av S ev o st = zas S ev o :: st := by
  unfold zoa at ho
  unfold av zas
  by_cases c1 : o.1 = 36
  · rw [if_pos c1, if_pos c1]
  · rw [if_neg c1, if_neg c1]
    by_cases c2 : o.1 = 9
    · rw [if_pos c2, if_pos c2]
    · rw [if_neg c2, if_neg c2]
      by_cases c3 : o.1 = 14
      · rw [if_neg (by omega), if_pos c3, if_pos c3]
      · rw [if_pos (by omega), if_neg c3]
section ZH
variable {h h' h1 h2 : jm_H} {d m a b n t k p q pc : Nat} {U V W F G K : Nat → Prop} {l u : List Int} {S : aS} {B : aB} {sc : Nat × (Nat → Int32)} {ev dn x y : Int32} {st : List Int32}
theorem zH_z (H : zH h m st) (A : zS m U F h h') (p : ¬ U (m + 34)) : zH h' m st := by
  obtain ⟨a1, SK, a2, a3⟩ := H
  exact ⟨a1, SK, aC_z a2 A (by omega) p, a3⟩
theorem zH_top (H : zH h m (x :: st)) : jm_ali h (m + 34) 0 (Int32.ofNat st.length) = some x := by
  obtain ⟨a1, SK, a2, a3⟩ := H
  rw [List.length_cons] at a1
  rw [aC_at a2 (by omega) (by omega), a3 st.length (by rw [List.length_cons]; omega)]
  simp
theorem zH_pop (H : zH h m (x :: st)) : zH h m st := by
  obtain ⟨a1, SK, a2, a3⟩ := H
  rw [List.length_cons] at a1
  refine ⟨by omega, SK, a2, fun i hi => ?_⟩
  rw [a3 i (by rw [List.length_cons]; omega), List.length_cons, show st.length + 1 - 1 - i = (st.length - 1 - i) + 1 by omega]
  rfl
theorem zH_push (y : Int32) (H : zH h m st) (hl : st.length < 800) : ∃ h', jm_asi h (m + 34) 0 (Int32.ofNat st.length) y = some h' ∧ zS m (fun b => b = m + 34) (fun _ => False) h h' ∧ zH h' m (y :: st) := by
  obtain ⟨a1, SK, a2, a3⟩ := H
  obtain ⟨h1, e1, F1, A1⟩ := z_asi (m := m) (i := st.length) (x := y) a2 (by omega) (by omega) (by omega)
  rw [nar0] at A1
  refine ⟨h1, e1, F1, by rw [List.length_cons]; omega, _, A1, fun i hi => ?_⟩
  rw [List.length_cons] at hi ⊢
  by_cases e : i = st.length
  · subst e
    rw [show upd SK st.length y st.length = y from if_pos rfl, Nat.add_sub_cancel, Nat.sub_self]
    rfl
  · rw [show upd SK st.length y i = SK i from if_neg e, a3 i (by omega), show st.length + 1 - 1 - i = (st.length - 1 - i) + 1 by omega]
    rfl
theorem zQ_z {EN OR WI : Nat → Int32} (H : zQ h b EN OR WI) (A : zS m U F h h') (p : ∀ c, U c → zsU m c) (hb : b = m + 2 ∨ m + 36 ≤ b) : zQ h' b EN OR WI := by
  obtain ⟨a1, a2, a3⟩ := H
  exact ⟨aC_z a1 A (by omega) fun z => by have := p _ z; unfold zsU jn at this; omega, aC_z a2 A (by omega) fun z => by have := p _ z; unfold zsU jn at this; omega, aC_z a3 A (by omega) fun z => by have := p _ z; unfold zsU jn at this; omega⟩
def zHV (m c : Nat) : Prop := c = m + 27 ∨ c = m + 29 ∨ c = m + 34
theorem zHV_s : ∀ c, zHV m c → zsU m c := fun c z => by unfold zHV at z; unfold zsU jn; omega
theorem z_holds_loop {t : List aI} {EN OR WI : Nat → Int32} {k0 : Nat} (hnn : n < 16) (hS : gS B S) (hk0 : k0 + t.length ≤ 800) (ht : ∀ o ∈ t, o.1 ≤ 39 ∧ (10 ≤ o.1 ∧ o.1 ≤ 14 → o.2.1 < B.2.1.length) ∧ (o.1 = 14 → o.2.2 < B.2.1.length)) (hE : EN n = Int32.ofNat (k0 + t.length)) (hO : ∀ i, i < t.length → OR (k0 + i) = Int32.ofNat (zo (t.getD i oI0)).1 ∧ WI (k0 + i) = Int32.ofNat (zo (t.getD i oI0)).2) (h0 : t ≠ []) : ∀ (f j : Nat) (st : List Int32) (ks : List Bool) (h : jm_H) (o4 : Option Value), j + f = t.length → aks (t.drop j) ks = some [true] → aK ks st → st.length ≤ j → zE h m b B S ev dn → zQ h b EN OR WI → zH h m st → jF (kX13_holds_12 (d + 5) m (Int32.ofNat n) (Int32.ofNat st.length) (Int32.ofNat (k0 + j)) o4 h) (.inl (some (.int (jp (avs S ev (t.drop j) st = [1]))))) fun h' => zS m (zHV m) (fun k => k = 19) h h' := by
  intro f
  induction f with
  | zero =>
    intro j st ks h o4 hj hks hst hsl E Q H
    have : j = t.length := by omega
    subst this
    rw [List.drop_eq_nil_of_le (Nat.le_refl _)] at hks ⊢
    have hks' : ks = [true] := Option.some.inj hks
    subst hks'
    obtain ⟨x, rfl, hx⟩ : ∃ x, st = [x] ∧ (x = 0 ∨ x = 1) := by
      match st, hst with
      | [x], hst => exact ⟨x, rfl, hst.1 rfl⟩
      | _ :: _ :: _, hst => exact hst.2.elim
    obtain ⟨q1, q2, q3⟩ := Q
    refine jE_of (fun r => gX13_holds_12) ?_
    simp only [E.2.1, Option.bind_some, zD_R E.2.2.1 (k := 17) (x := b + 15) (fun _ => rfl), aC_at q1 hnn (by omega), hE]
    rw [if_neg (by rw [jw_lt (by omega) (by omega)]; omega), if_neg (show ¬ Int32.ofNat [x].length = 0 from by show ¬ Int32.ofNat 1 = 0; decide)]
    have h0' : jm_ali h (m + 34) 0 0 = some x := zH_top H
    simp only [zB_27 E.1, Option.bind_some, h0']
    show jF _ (.inl (some (.int (jp ([x] = [1]))))) _
    by_cases c : x = 1
    · rw [if_pos c, jp_T (by rw [c])]
      exact jF_end zS_rf
    · rw [if_neg c, jp_F (fun z => c (by injection z))]
      exact jF_end zS_rf
  | succ f ih =>
    intro j st ks h o4 hj hks hst hsl E Q H
    have hjt : j < t.length := by omega
    have hdr : t.drop j = t.getD j oI0 :: t.drop (j + 1) := by
      rw [List.drop_eq_getElem_cons hjt, List.getD_eq_getElem?_getD, List.getElem?_eq_getElem hjt]
      rfl
    have hmem : t.getD j oI0 ∈ t := by
      rw [List.getD_eq_getElem?_getD, List.getElem?_eq_getElem hjt]
      exact List.getElem_mem hjt
    obtain ⟨o1, o2⟩ := hO j hjt
    rw [hdr] at hks ⊢
    generalize t.getD j oI0 = o at *
    obtain ⟨c39, c10, c14⟩ := ht o hmem
    have hks2 : (ak o ks).bind (fun q => aks (t.drop (j + 1)) q) = some [true] := hks
    obtain ⟨k', hk', hks3⟩ : ∃ k', ak o ks = some k' ∧ aks (t.drop (j + 1)) k' = some [true] := by
      cases e : ak o ks with
      | none => rw [e] at hks2; cases hks2
      | some k' => rw [e] at hks2; exact ⟨k', rfl, hks2⟩
    have hst' := aK_av (S := S) (ev := ev) hk' hst
    have hb7 := E.2.2.2.2.2.2
    have nx : ∀ (h2 : jm_H) (o4 : Option Value), zS m (zHV m) (fun k => k = 19) h h2 → (av S ev o st).length ≤ j + 1 → zH h2 m (av S ev o st) → jF (kX13_holds_12 (d + 5) m (Int32.ofNat n) (Int32.ofNat (av S ev o st).length) (Int32.ofNat (k0 + (j + 1))) o4 h2) (.inl (some (.int (jp (avs S ev (o :: t.drop (j + 1)) st = [1]))))) fun h' => zS m (zHV m) (fun k => k = 19) h h' := by
      intro h2 o4 F2 l2 H2
      exact jF_mono (ih (j + 1) (av S ev o st) k' h2 o4 (by omega) hks3 hst' l2 (zE_z E F2 zHV_s fun k z => by unfold zsF; omega) (zQ_z Q F2 zHV_s hb7) H2) fun h3 F3 => zS_tr F2 F3
    have q1 := Q.1
    have q2 := Q.2.1
    have q3 := Q.2.2
    refine jE_of (fun r => gX13_holds_12) ?_
    simp only [E.2.1, Option.bind_some, zD_R E.2.2.1 (k := 17) (x := b + 15) (fun _ => rfl), zD_R E.2.2.1 (k := 18) (x := b + 16) (fun _ => rfl), zD_R E.2.2.1 (k := 19) (x := b + 17) (fun _ => rfl), aC_at q1 hnn (by omega), hE]
    rw [if_pos (by rw [jw_lt (by omega) (by omega)]; omega)]
    simp only [aC_at q2 (show k0 + j < 800 by omega) (by omega), aC_at q3 (show k0 + j < 800 by omega) (by omega), o1, o2, Option.bind_some, z_isAsked (d := d + 3) c39, jc_I_eq, zB_27 E.1, jw_add1]
    have hzb := zo_b c39
    have e105 : (Int32.ofNat (zo o).1 = 105) ↔ (zo o).1 = 105 := jw_eqL (b := 105) (by omega) (by omega)
    have e15 : (Int32.ofNat (zo o).1 = 15) ↔ (zo o).1 = 15 := jw_eqL (b := 15) (by omega) (by omega)
    by_cases ca : zoa o
    · rw [jp_T ca, if_neg (by decide)]
      simp only [E.2.1, Option.bind_some, zD_R E.2.2.1 (k := 19) (x := b + 17) (fun _ => rfl), aC_at q3 (show k0 + j < 800 by omega) (by omega), o2, jm_O_eq (zB_ob E.1)]
      refine jE_I (z_ask (d := d) ca c10 c14 hS E) ?_
      intro h2 F2
      have H2 := zH_z H F2 (by unfold zHU; omega)
      obtain ⟨h3, e3, F3, H3⟩ := zH_push (zas S ev o) H2 (by omega)
      rw [e3, Option.bind_some]
      rw [av_as ca] at nx
      have := nx h3 (some (.int (Int32.ofNat (zo o).1))) (zS_2 F2 F3 (fun c z => by unfold zHU at z; unfold zHV; omega) (fun c z => by unfold zHV; omega) (fun k z => z) (fun k z => z.elim)) (by rw [List.length_cons]; omega) H3
      rw [List.length_cons] at this
      exact this
    · rw [jp_F ca, if_pos rfl]
      unfold zoa at ca
      have nak := hk'
      unfold ak at nak
      rw [if_neg (by omega), if_neg (by omega), if_neg (by omega), if_neg (by omega)] at nak
      by_cases c15 : o.1 = 15
      · -- not
        rw [if_pos c15] at nak
        obtain ⟨r, rfl⟩ : ∃ r, ks = true :: r := by
          match ks, nak with
          | true :: r, _ => exact ⟨r, rfl⟩
        obtain ⟨x, s, rfl⟩ : ∃ x s, st = x :: s := by
          match st, hst with
          | x :: s, _ => exact ⟨x, s, rfl⟩
        have hx := hst.1 rfl
        have ez : (zo o).1 = 15 := by
          unfold zo
          rw [if_neg (by omega), if_neg (by omega), if_neg (by omega), if_neg (by omega), if_neg (by omega), if_neg (by omega)]
          exact c15
        have eav : av S ev o (x :: s) = (if x = 0 then 1 else 0) :: s := by
          unfold av
          rw [if_neg (by omega), if_neg (by omega), if_neg (by omega), if_neg (by omega), if_pos c15]
        rw [if_neg (by rw [e105, ez]; decide), if_pos (by rw [e15, ez])]
        rw [List.length_cons] at hsl ⊢
        simp only [jw_sub1, zH_top H, Option.bind_some]
        obtain ⟨h3, e3, F3, H3⟩ := zH_push (1 - x) (zH_pop H) (by omega)
        rw [e3, Option.bind_some]
        have e1x : 1 - x = if x = 0 then 1 else 0 := by
          rcases hx with rfl | rfl
          · rw [if_pos rfl]; rfl
          · rw [if_neg (by decide)]; rfl
        rw [e1x] at H3
        rw [eav] at nx
        have := nx h3 (some (.int (Int32.ofNat (zo o).1))) (zS_mn F3 (fun c z => by unfold zHV; omega) (fun k z => z.elim)) (by rw [List.length_cons]; omega) H3
        rw [List.length_cons] at this
        exact this
      · rw [if_neg c15] at nak
        by_cases c39' : o.1 = 39
        · rw [if_pos c39'] at nak
          obtain ⟨x, s, rfl⟩ : ∃ x s, st = x :: s := by
            match ks, nak with
            | false :: r, _ =>
              match st, hst with
              | x :: s, _ => exact ⟨x, s, rfl⟩
          have ez : (zo o).1 = 105 := by
            unfold zo
            rw [if_neg (by omega), if_neg (by omega), if_neg (by omega), if_pos c39']
          have eav : av S ev o (x :: s) = (-x) :: s := by
            unfold av
            rw [if_neg (by omega), if_neg (by omega), if_neg (by omega), if_neg (by omega), if_neg c15, if_pos c39']
          rw [if_pos (by rw [e105, ez])]
          rw [List.length_cons] at hsl ⊢
          simp only [jw_sub1, zH_top H, Option.bind_some]
          obtain ⟨h3, e3, F3, H3⟩ := zH_push (-x) (zH_pop H) (by omega)
          rw [e3, Option.bind_some]
          rw [eav] at nx
          have := nx h3 (some (.int (Int32.ofNat (zo o).1))) (zS_mn F3 (fun c z => by unfold zHV; omega) (fun k z => z.elim)) (by rw [List.length_cons]; omega) H3
          rw [List.length_cons] at this
          exact this
        · rw [if_neg c39'] at nak
          have hop : o.1 = 16 ∨ o.1 = 17 ∨ o.1 = 18 ∨ o.1 = 19 ∨ (26 ≤ o.1 ∧ o.1 ≤ 34) := by
            by_cases g1 : o.1 = 16 ∨ o.1 = 17
            · omega
            · rw [if_neg g1] at nak
              by_cases g2 : o.1 = 18 ∨ o.1 = 19 ∨ (26 ≤ o.1 ∧ o.1 ≤ 29)
              · omega
              · rw [if_neg g2] at nak
                by_cases g3 : 30 ≤ o.1 ∧ o.1 ≤ 34
                · omega
                · rw [if_neg g3] at nak; cases nak
          obtain ⟨x, y, s, rfl⟩ : ∃ x y s, st = y :: x :: s := by
            have two : ∃ b1 b2 r, ks = b1 :: b2 :: r := by
              by_cases g1 : o.1 = 16 ∨ o.1 = 17
              · rw [if_pos g1] at nak
                match ks, nak with
                | true :: true :: r, _ => exact ⟨_, _, r, rfl⟩
              · rw [if_neg g1] at nak
                by_cases g2 : o.1 = 18 ∨ o.1 = 19 ∨ (26 ≤ o.1 ∧ o.1 ≤ 29)
                · rw [if_pos g2] at nak
                  match ks, nak with
                  | false :: false :: r, _ => exact ⟨_, _, r, rfl⟩
                · rw [if_neg g2, if_pos (by omega)] at nak
                  match ks, nak with
                  | false :: false :: r, _ => exact ⟨_, _, r, rfl⟩
            obtain ⟨b1, b2, r, rfl⟩ := two
            match st, hst with
            | y :: x :: s, _ => exact ⟨x, y, s, rfl⟩
            | [_], hst => exact hst.2.elim
          have ez : (zo o).1 ≠ 105 ∧ (zo o).1 ≠ 15 := by
            unfold zo
            rw [if_neg (by omega), if_neg (by omega), if_neg (by omega), if_neg (by omega)]
            split
            · simp only []; omega
            · split
              · simp only []; omega
              · simp only []; omega
          have eav : av S ev o (y :: x :: s) = ab o.1 x y :: s := by
            unfold av
            rw [if_neg (by omega), if_neg (by omega), if_neg (by omega), if_neg (by omega), if_neg c15, if_neg c39']
          rw [if_neg (by rw [e105]; exact ez.1), if_neg (by rw [e15]; exact ez.2)]
          rw [List.length_cons, List.length_cons] at hsl ⊢
          have H1 := zH_pop H
          have htop := zH_top H
          rw [List.length_cons] at htop
          simp only [show Int32.ofNat (s.length + 1 + 1) + (-1) = Int32.ofNat (s.length + 1) from jw_m1, jw_sub1, htop, zH_top H1, Option.bind_some, z_reckon (d := d + 3) hop, jc_I_eq]
          obtain ⟨h3, e3, F3, H3⟩ := zH_push (ab o.1 x y) (zH_pop H1) (by omega)
          rw [e3, Option.bind_some]
          rw [eav] at nx
          have := nx h3 (some (.int (Int32.ofNat (zo o).1))) (zS_mn F3 (fun c z => by unfold zHV; omega) (fun k z => z.elim)) (by rw [List.length_cons]; omega) H3
          rw [List.length_cons] at this
          exact this
theorem z_holds (hn : n < B.2.2.2.length) (hS : gS B S) (E : zE h m b B S ev dn) : jF (jm_D (d + 6) mX13_holds [.ref m, .int (Int32.ofNat n)] h) (.inl (some (.int (jp (aH S ev (B.2.2.2.getD n n0).2.2.2))))) fun h' => zS m (zHV m) (fun k => k = 19) h h' := by
  have g := zD_g E.2.2.1
  have hn16 : n < 16 := by have := g.2.2.1; omega
  obtain ⟨NK, WH, TO, BG, EN, OR, WI, b1, b2, b3, b4, b5, b6, b7, b8⟩ := E.2.2.1.2.2.2.2.1
  obtain ⟨n1, n2, n3, k0, n4, n5, n6, n7⟩ := b8 n hn
  have hmem : B.2.2.2.getD n n0 ∈ B.2.2.2 := getD_n hn
  obtain ⟨SK, L⟩ := zB_a (o := 34) (t := 0) (n := 800) E.1 (Or.inr ⟨by omega, by omega⟩) rfl (by omega)
  have H0 : zH h m [] := ⟨by simp, SK, L, fun i hi => absurd hi (Nat.not_lt_zero _)⟩
  refine jE_of (fun r => gX13_holds) ?_
  simp only [E.2.1, Option.bind_some, zD_R E.2.2.1 (k := 16) (x := b + 14) (fun _ => rfl), aC_at b4 hn16 (by omega), n4]
  have g8 := g.2.2.2.2.2.2 _ hmem
  generalize B.2.2.2.getD n n0 = nt at *
  obtain ⟨q1, q2, q3, tt⟩ := nt
  cases tt with
  | none =>
    have e : (zts (q1, q2, q3, (none : Option (List aI))).2.2.2).length = 0 := rfl
    rw [e, Nat.add_zero] at n5
    refine jE_of (fun r => gX13_holds_12) ?_
    simp only [E.2.1, Option.bind_some, zD_R E.2.2.1 (k := 17) (x := b + 15) (fun _ => rfl), aC_at b5 hn16 (by omega), n5]
    rw [if_neg (by rw [jw_lt (by omega) (by omega)]; omega), if_pos trivial, jp_T (show aH S ev none from trivial)]
    exact jF_end zS_rf
  | some tl =>
    have g9 := g8.2.2.2 tl rfl
    have hk := aks_kind g9.1
    have hne : tl ≠ [] := fun z => by
      have := g9.1
      rw [z] at this
      cases this
    have := z_holds_loop (d := d) (m := m) (b := b) (dn := dn) (ev := ev) (n := n) (t := tl) (EN := EN) (OR := OR) (WI := WI) (k0 := k0) hn16 hS n6 (fun o ho => ⟨hk o ho, (g9.2 o ho).1, (g9.2 o ho).2⟩) n5 n7 hne tl.length 0 [] [] h none (by omega) g9.1 trivial (Nat.le_refl _) E ⟨b5, b6, b7⟩ H0
    exact this
end ZH
