/-! ===== LEVEL 3: the reference, values and sums ===== -/
theorem ub_as {R : uR} {f g : Nat → uR} : ub (ub R f) g = ub R (fun a => ub (f a) g) := by
  obtain ⟨r1, r2, r3, r4⟩ := R
  cases r1 with
  | false => rfl
  | true =>
    unfold ub
    simp only [if_true]
    generalize f r2 = Q
    obtain ⟨q1, q2, q3, q4⟩ := Q
    cases q1 with
    | false => rfl
    | true =>
      simp only [if_true, List.append_assoc]
/-- how far something reads -/
def zle (i : Nat) (R : uR) : Prop := R.2.1 ≤ 400 ∧ (R.1 = true → i ≤ R.2.1)
theorem zle_ub {i : Nat} {R : uR} {f : Nat → uR} (h : zle i R) (g : ∀ a, a ≤ 400 → zle a (f a)) : zle i (ub R f) := by
  by_cases c : R.1 = true
  · rw [ub_T c]
    have g1 := g R.2.1 h.1
    exact ⟨g1.1, fun z => Nat.le_trans (h.2 c) (g1.2 z)⟩
  · rw [ub_F c]
    exact h
theorem zle_t {T : List aK4} {i k : Nat} (hT : gT T) (hk : k ≤ 36) (hi : i ≤ 400) : zle i (ut T k i) := by
  unfold ut
  by_cases c : uK T i = k
  · rw [if_pos c]
    have := hT.2 i (by omega) (by omega)
    exact ⟨by show i + 1 ≤ 400; omega, fun _ => Nat.le_succ _⟩
  · rw [if_neg c]
    exact ⟨hi, fun z => (by cases z)⟩
theorem zle_gp {c i : Nat} {R : uR} (h : gp c i R) : zle i R := ⟨h.2.1, fun _ => h.1⟩
theorem zle_ue {o : aI} {i : Nat} (hi : i ≤ 400) : zle i (ue o i) := ⟨hi, fun _ => Nat.le_refl _⟩
theorem zle_up {i j : Nat} {R : uR} (h : zle j R) (hj : i ≤ j) : zle i R := ⟨h.1, fun z => Nat.le_trans hj (h.2 z)⟩
section ZG
variable {h h' h1 h2 : jm_H} {d D m b i q k : Nat} {T : List aK4} {mu al : Nat → Int32} {s s1 : zSt} {o : Option jm_R} {R : uR} {f : Nat → uR} {kk : jm_H → Option jm_R} {mk : Int}
/-- a level deeper, and back -/
theorem z_nest (hi : uK T i ≠ 35) (gR : R.1 = true → i + 1 ≤ R.2.1) (hs : s.1 = 8 - q) (F1 : zS m (zRU b) zRF h h1) (H : zQr o h1 m b T mu al (i + 1) (8 - (q - 1), s.2) R) (g : ∀ h2 s2, R.1 = true → s2.2.1 = s.2.2.1 ++ R.2.2.1 → zRd h2 m b T R.2.1 (8 - (q - 1), s2) → ((f R.2.1).1 = true → R.2.1 ≤ (f R.2.1).2.1) ∧ zQr (kk h2) h2 m b T mu al R.2.1 (8 - q, s2) (f R.2.1)) : zQr (jc_I o (fun y h1 => if y = 0 then some (.inl (some (.int 0)), h1) else kk h1) jx) h m b T mu al i s (ub R f) := by
  obtain ⟨v, h2, rfl, rfl, F2, s2, X2, n2⟩ := H
  rw [jc_I_eq]
  by_cases c : R.1 = true
  · rw [if_pos c, if_neg (by decide)]
    obtain ⟨p1, p2, p3, p4, p5, p6, p7⟩ := n2 c
    have es : s2 = (8 - (q - 1), s2.2) := Prod.ext p1 rfl
    rw [es] at X2
    obtain ⟨g1, v, h3, e3, rfl, F3, s3, X3, n3⟩ := g h2 s2.2 c p3 X2
    rw [ub_T c, e3]
    refine jE_end ⟨rfl, zS_tr F1 (zS_tr F2 F3), s3, X3, fun z => ?_⟩
    have N1 : zNx T (i + 1) R.2.1 mu al R.2.2.1 R.2.2.2 s (8 - q, s2.2) := ⟨hs.symm, p2, p3, p4, p5, p6, p7⟩
    have N0 : zNx T i R.2.1 mu al ([] ++ R.2.2.1) ([] ++ R.2.2.2) s (8 - q, s2.2) := zNx_tr (zNx_s hi) N1 (by omega) (gR c)
    exact zNx_tr N0 (n3 z) (by have := gR c; omega) (g1 z)
  · rw [if_neg c, if_pos rfl, ub_F c]
    exact jE_end ⟨by rw [if_neg c], zS_tr F1 F2, s2, X2, fun z => absurd z c⟩
theorem ut_le {k i : Nat} : (ut T k i).1 = true → i ≤ (ut T k i).2.1 := fun z => by
  unfold ut at z ⊢
  split
  · exact Nat.le_succ _
  · exact Nat.le_refl _
/-- an order that asks, and its name -/
theorem z_askN {k : Nat} {c : Int32} (hk : 10 ≤ k ∧ k ≤ 13) (hc : c = Int32.ofNat k) (Y : zHy m b T) (hm : s.2.1 = mk) (hl : s.2.2.1.length < 800) (H : zRd h m b T i s) : zQr (jc_V (jm_D (d + 2) mX13_order [.ref m, .ref b, .int c, .int 0, .int (Int32.ofNat i)] h) (fun h112 => jm_O h112 m 13 (jc_I (jm_D (d + 2) mX13_name [.ref m, .ref b, .int 5] h112) (fun x116 h114 => jm_Y .boolean x116 (some (.inl (some (.int x116)), h114))) jx)) jx) h m b T mu5 (alc mk) i s (ub (ut T 35 i) fun a => ue (k, a - 1, 0) a) := by
  have ez : zo (k, i, 0) = (k, i) := by
    unfold zo
    rw [if_neg (by simp only []; omega), if_pos (by simp only []; omega)]
  refine jE_V (z_order (d := d + 1) (o := (k, i, 0)) (by rw [ez]; exact hc) (by unfold zow; rw [if_neg (by simp only []; omega)]; rfl) (by unfold zoq; rw [if_pos (by simp only []; omega)]; exact jw_in.symm) H Y.1 Y.2.1 hl) ?_
  rintro h1 ⟨F1, H1⟩
  rw [jm_O_eq (zRd_ob H1)]
  obtain ⟨v, h2, e2, rfl, F2, s2, X2, n2⟩ := z_name (d := d) (s := (s.1, s.2.1, s.2.2.1 ++ [(k, i, 0)], s.2.2.2)) (mu := mu5) (al := alc mk) (x := 5) Y rfl (show alc mk i = Int32.ofInt s.2.1 by rw [hm]; rfl) H1
  rw [e2, jc_I_eq, if_Y]
  by_cases c : uK T i = 35
  · have e : ut T 35 i = ug (i + 1) := if_pos c
    rw [e] at X2 n2 ⊢
    obtain ⟨p1, p2, p3, p4, p5, p6, p7⟩ := n2 rfl
    refine jE_end ⟨rfl, zS_tr F1 F2, s2, X2, fun _ => ⟨p1, p2, ?_, p4, p5, p6, p7⟩⟩
    rw [p3]
    show (s.2.2.1 ++ [(k, i, 0)]) ++ [] = s.2.2.1 ++ ([] ++ [(k, i + 1 - 1, 0)])
    rw [List.append_nil]
    rfl
  · have e : ut T 35 i = uf i := if_neg c
    rw [e] at X2 n2 ⊢
    exact jE_end ⟨rfl, zS_tr F1 F2, s2, X2, fun z => (by cases z)⟩
theorem if_K {k : Nat} {α : Type} {x y : α} (hK : ∀ j, uK T j < 39) (hk : k < 39) : (if Int32.ofNat (zki (uK T i)) = Int32.ofNat (zki k) then x else y) = if uK T i = k then x else y := by
  by_cases c : uK T i = k
  · rw [if_pos ((zki_eq (hK i) hk).mpr c), if_pos c]
  · rw [if_neg (fun z => c ((zki_eq (hK i) hk).mp z)), if_neg c]
theorem uVal_36 {V Sf : Nat → uR} (c : uK T i = 36) : uVal T q V Sf i = (true, i + 1, [(36, uV T i, 0)], []) := if_pos c
theorem uVal_9 {V Sf : Nat → uR} (c : uK T i = 9) : uVal T q V Sf i = ue (9, 0, 0) (i + 1) := by
  unfold uVal
  rw [if_neg (show ¬ uK T i = 36 by omega), if_pos c]
theorem uVal_10 {V Sf : Nat → uR} (c : uK T i = 10 ∨ uK T i = 11 ∨ uK T i = 12) : uVal T q V Sf i = ub (ut T 35 (i + 1)) fun a => ue (uK T i, a - 1, 0) a := by
  unfold uVal
  rw [if_neg (show ¬ uK T i = 36 by omega), if_neg (show ¬ uK T i = 9 by omega), if_pos c]
theorem uVal_27 {V Sf : Nat → uR} (c : uK T i = 27) : uVal T q V Sf i = if q = 0 then uf i else ub (V (i + 1)) (ue (39, 0, 0)) := by
  unfold uVal
  rw [if_neg (show ¬ uK T i = 36 by omega), if_neg (show ¬ uK T i = 9 by omega), if_neg (show ¬ (uK T i = 10 ∨ uK T i = 11 ∨ uK T i = 12) by omega), if_pos c]
theorem uVal_20 {V Sf : Nat → uR} (c : uK T i = 20) : uVal T q V Sf i = if q = 0 then uf i else ub (Sf (i + 1)) (ut T 21) := by
  unfold uVal
  rw [if_neg (show ¬ uK T i = 36 by omega), if_neg (show ¬ uK T i = 9 by omega), if_neg (show ¬ (uK T i = 10 ∨ uK T i = 11 ∨ uK T i = 12) by omega), if_neg (show ¬ uK T i = 27 by omega), if_pos c]
def uTwo (T : List aK4) (q : Nat) (Sf : Nat → uR) (k i : Nat) : uR := if q = 0 then uf (i + 1) else ub (ut T 20 (i + 1)) fun a => ub (Sf a) fun a => ub (ut T 25 a) fun a => ub (Sf a) fun a => ub (ut T 21 a) (ue (k, 0, 0))
theorem uVal_18 {V Sf : Nat → uR} (c : uK T i = 18 ∨ uK T i = 19) : uVal T q V Sf i = uTwo T q Sf (uK T i) i := by
  unfold uVal uTwo
  rw [if_neg (show ¬ uK T i = 36 by omega), if_neg (show ¬ uK T i = 9 by omega), if_neg (show ¬ (uK T i = 10 ∨ uK T i = 11 ∨ uK T i = 12) by omega), if_neg (show ¬ uK T i = 27 by omega), if_neg (show ¬ uK T i = 20 by omega), if_pos c]
theorem uVal_o {V Sf : Nat → uR} (c : uK T i ≠ 36 ∧ uK T i ≠ 9 ∧ ¬ (uK T i = 10 ∨ uK T i = 11 ∨ uK T i = 12) ∧ uK T i ≠ 27 ∧ uK T i ≠ 20 ∧ ¬ (uK T i = 18 ∨ uK T i = 19)) : uVal T q V Sf i = uf i := by
  unfold uVal
  rw [if_neg c.1, if_neg c.2.1, if_neg c.2.2.1, if_neg c.2.2.2.1, if_neg c.2.2.2.2.1, if_neg c.2.2.2.2.2]
/-- deeper, at a sign that is not there -/
theorem z_deepN {k : Nat} (Y : zHy m b T) (hk : k ≤ 36) (hq : q ≤ 8) (hs : s.1 = 8 - q) (hi : uK T i ≠ k) (H : zRd h m b T i s) : jm_D (d + 2) mX13_deeper [.ref m, .ref b, .int (Int32.ofNat (zki k))] h = some (.inl (some (.int 0)), h) := by
  apply gX13_deeper
  have hl := zRd_lt H
  have e : jm_D (d + 1) mX13_eat [.ref m, .ref b, .int (Int32.ofNat (zki k))] h = some (.inl (some (.int 0)), h) := by
    apply gX13_eat
    simp only [zbR_0 (zRd_bR H), H.2.1, Option.bind_some, zRd_kind H hl.1, zki_eq (Y.2.2.2 i) (show k < 39 by omega)]
    rw [if_neg hi]
  simp only [H.2.2.1, Option.bind_some, jm_O_eq (zRd_ob H), e, jc_I_eq, if_true]
  split <;> rfl
/-- on, deeper -/
theorem z_dn {s2 : Int × List aI × Nat × (Nat → Int32) × (Nat → Int32) × (Nat → Int32)} (gR : R.1 = true → i ≤ R.2.1) (H : zQr o h m b T mu al i (8 - (q - 1), s2) R) (g : ∀ h1 s3, R.1 = true → s3.1 = s2.1 → s3.2.1 = s2.2.1 ++ R.2.2.1 → zRd h1 m b T R.2.1 (8 - (q - 1), s3) → ((f R.2.1).1 = true → R.2.1 ≤ (f R.2.1).2.1) ∧ zQr (kk h1) h1 m b T mu al R.2.1 (8 - q, s3) (f R.2.1)) : zQr (jc_I o (fun y h1 => if y = 0 then some (.inl (some (.int 0)), h1) else kk h1) jx) h m b T mu al i (8 - q, s2) (ub R f) := by
  obtain ⟨v, h2, rfl, rfl, F2, s3, X2, n2⟩ := H
  rw [jc_I_eq]
  by_cases c : R.1 = true
  · rw [if_pos c, if_neg (by decide)]
    obtain ⟨p1, p2, p3, p4, p5, p6, p7⟩ := n2 c
    have es : s3 = (8 - (q - 1), s3.2) := Prod.ext p1 rfl
    rw [es] at X2
    obtain ⟨g1, v, h3, e3, rfl, F3, s4, X3, n3⟩ := g h2 s3.2 c p2 p3 X2
    rw [ub_T c, e3]
    refine jE_end ⟨rfl, zS_tr F2 F3, s4, X3, fun z => ?_⟩
    have N1 : zNx T i R.2.1 mu al R.2.2.1 R.2.2.2 (8 - q, s2) (8 - q, s3.2) := ⟨rfl, p2, p3, p4, p5, p6, p7⟩
    exact zNx_tr N1 (n3 z) (gR c) (g1 z)
  · rw [if_neg c, if_pos rfl, ub_F c]
    exact jE_end ⟨by rw [if_neg c], F2, s3, X2, fun z => absurd z c⟩
theorem z_sign {o : aI} {k : Nat} (hk : k = 15 ∨ k = 16 ∨ k = 17 ∨ k = 18 ∨ k = 19) (ho : o = (k, 0, 0)) : Int32.ofNat k = Int32.ofNat (zo o).1 ∧ zow o = 0 ∧ zoq o = if k = 14 then 0 else -1 := by
  subst ho
  rcases hk with rfl | rfl | rfl | rfl | rfl <;> exact ⟨rfl, rfl, rfl⟩
/-- of two -/
theorem z_two {Sf : Nat → uR} {k : Nat} (Y : zHy m b T) (hq : q ≤ 8) (hk : k = 18 ∨ k = 19) (hS : q ≠ 0 → zLv m b T mk D mX13_isSum (q - 1) Sf) (gS : ∀ a, a ≤ 400 → gp 0 a (Sf a)) (hD : D ≤ d + 2) (hs : s.1 = 8 - q) (hmk : s.2.1 = mk) (hos : s.2.2.1.length ≤ i) (hu : uK T i = k) (H : zRd h m b T i s) : zQr (jm_D (d + 3) mX13_isOfTwo [.ref m, .ref b, .int (Int32.ofNat k)] h) h m b T mu5 (alc mk) i s (uTwo T q Sf k i) := by
  refine zQr_of (fun r => gX13_isOfTwo) ?_
  obtain ⟨h1, e1, F1, H1, hi⟩ := z_skip Y (show k ≤ 36 by omega) hu H
  simp only [H.2.1, Option.bind_some, jw_add1, e1, jm_O_eq (zRd_ob H1), show (40 : Int32) = Int32.ofNat (zki 20) from rfl]
  have tl : zle (i + 1) (uTwo T q Sf k i) := by
    unfold uTwo
    split
    · exact ⟨by show i + 1 ≤ 400; omega, fun z => (by cases z)⟩
    · exact zle_ub (zle_t Y.2.2.1 (by omega) (by omega)) fun a ha => zle_ub (zle_gp (gS a ha)) fun a ha => zle_ub (zle_t Y.2.2.1 (by omega) ha) fun a ha => zle_ub (zle_gp (gS a ha)) fun a ha => zle_ub (zle_t Y.2.2.1 (by omega) ha) fun a ha => zle_ue ha
  refine zQr_fr F1 (zQr_sk (by omega) tl.2 ?_)
  by_cases c2 : uK T (i + 1) = 20
  · rcases z_deep (d := d) (k := 20) Y (by omega) (by omega) hq hs c2 H1 with ⟨q0, e⟩ | ⟨q0, h2, e, F2, H2⟩
    · rw [e, jc_I_eq, if_pos rfl]
      unfold uTwo
      rw [if_pos q0]
      exact zQr_F (R := uf (i + 1)) H1 zS_rf rfl
    · rw [e, jc_I_eq, if_neg (by decide), jm_O_eq (zRd_ob H2)]
      unfold uTwo
      rw [if_neg q0, ub_ts c2]
      have hi2 := zHy_n Y (i := i + 1) (by omega)
      have g1 := gS (i + 1 + 1) (by omega)
      have tk : ∀ k a, k ≤ 36 → a ≤ 400 → zle a (ut T k a) := fun k a p z => zle_t Y.2.2.1 p z
      obtain ⟨a0, a1⟩ := s
      have hs' : a0 = 8 - q := hs
      subst hs'
      have hmk' : a1.1 = mk := hmk
      have hos' : a1.2.1.length ≤ i := hos
      refine zQr_fr F2 (zQr_sk (by omega) (zle_ub (zle_gp g1) fun a ha => zle_ub (tk 25 a (by omega) ha) fun a ha => zle_ub (zle_gp (gS a ha)) fun a ha => zle_ub (tk 21 a (by omega) ha) fun a ha => zle_ue ha).2 ?_)
      refine z_dn (gp_le g1) (hS q0 (d + 2) (by omega) h2 (i + 1 + 1) _ H2 rfl hmk' (by show a1.2.1.length ≤ i + 1 + 1; omega) (by omega)) fun h3 s3 z1 z0 z2 H3 => ⟨(zle_ub (tk 25 _ (by omega) g1.2.1) fun a ha => zle_ub (zle_gp (gS a ha)) fun a ha => zle_ub (tk 21 a (by omega) ha) fun a ha => zle_ue ha).2, ?_⟩
      have l3 : s3.2.1.length ≤ (Sf (i + 1 + 1)).2.1 := by
        have := gp_os g1 z1
        rw [z2, List.length_append]
        omega
      rw [jm_O_eq (zRd_ob H3)]
      refine z_dn (ut_le) (z_eat (d := d + 1) (k := 25) Y (by omega) (by omega) H3) fun h4 s4 w1 w0 w2 H4 => ?_
      have c3 : uK T (Sf (i + 1 + 1)).2.1 = 25 := by
        unfold ut at w1
        by_cases c : uK T (Sf (i + 1 + 1)).2.1 = 25
        · exact c
        · rw [if_neg c] at w1; cases w1
      have e3 : ut T 25 (Sf (i + 1 + 1)).2.1 = ug ((Sf (i + 1 + 1)).2.1 + 1) := if_pos c3
      rw [e3] at w2 H4 ⊢
      have hi3 := zHy_n Y (i := (Sf (i + 1 + 1)).2.1) (by omega)
      have w3 : s4.2.1 = s3.2.1 := by rw [w2]; exact List.append_nil _
      have g2 := gS ((Sf (i + 1 + 1)).2.1 + 1) (by omega)
      refine ⟨(zle_ub (zle_gp g2) fun a ha => zle_ub (tk 21 a (by omega) ha) fun a ha => zle_ue ha).2, ?_⟩
      rw [jm_O_eq (zRd_ob H4)]
      refine z_dn (gp_le g2) (hS q0 (d + 2) (by omega) h4 ((Sf (i + 1 + 1)).2.1 + 1) _ H4 rfl (w0.trans (z0.trans hmk')) (by show s4.2.1.length ≤ _; rw [w3]; show _ ≤ (Sf (i + 1 + 1)).2.1 + 1; omega) (by show (Sf (i + 1 + 1)).2.1 + 1 ≤ 400; omega)) fun h5 s5 v1 v0 v2 H5 => ⟨(zle_ub (tk 21 _ (by omega) g2.2.1) fun a ha => zle_ue ha).2, ?_⟩
      have l5 : s5.2.1.length ≤ 400 := by
        have v1' : (Sf ((Sf (i + 1 + 1)).2.1 + 1)).1 = true := v1
        have v2' : s5.2.1 = s4.2.1 ++ (Sf ((Sf (i + 1 + 1)).2.1 + 1)).2.2.1 := v2
        have := gp_os g2 v1'
        have := g2.2.1
        rw [v2', List.length_append, w3]
        omega
      rw [jm_O_eq (zRd_ob H5)]
      refine zQr_seq ut_le (z_shut (d := d) (k := 21) Y (by omega) (by omega) ⟨hq, q0⟩ rfl H5) fun h6 s6 x1 x2 H6 => ⟨ue_b, ?_⟩
      have l6 : s6.2.2.1.length ≤ 400 := by
        have e6 : (ut T 21 (Sf ((Sf (i + 1 + 1)).2.1 + 1)).2.1).2.2.1 = [] := by unfold ut; split <;> rfl
        rw [x2.2.2.1]
        show (s5.2.1 ++ (ut T 21 (Sf ((Sf (i + 1 + 1)).2.1 + 1)).2.1).2.2.1).length ≤ 400
        rw [e6, List.append_nil]
        exact l5
      rw [jm_O_eq (zRd_ob H6)]
      obtain ⟨y1, y2, y3⟩ := z_sign (o := (k, 0, 0)) (k := k) (by omega) rfl
      rw [if_neg (by omega)] at y3
      exact z_ordE (d := d + 1) (o := (k, 0, 0)) y1 (by rw [y2]; rfl) (by rw [y3]; rfl) Y (by omega) H6
  · rw [z_deepN (d := d) (k := 20) Y (by omega) hq hs c2 H1, jc_I_eq, if_pos rfl]
    rw [show uTwo T q Sf k i = uf (i + 1) from by
      unfold uTwo
      split
      · rfl
      · rw [show ut T 20 (i + 1) = uf (i + 1) from if_neg c2]
        exact ub_F (fun z => by cases z)]
    exact zQr_F (R := uf (i + 1)) H1 zS_rf rfl
theorem z_value {V Sf : Nat → uR} (Y : zHy m b T) (hq : q ≤ 8) (hV : q ≠ 0 → zLv m b T mk D mX13_isValue (q - 1) V) (hS : q ≠ 0 → zLv m b T mk D mX13_isSum (q - 1) Sf) (gV : ∀ a, a ≤ 400 → gp 0 a (V a)) (gS : ∀ a, a ≤ 400 → gp 0 a (Sf a)) : zLv m b T mk (D + 4) mX13_isValue q (uVal T q V Sf) := by
  intro d hd h i s H hs hmk hos hi4
  obtain ⟨d, rfl⟩ : ∃ e, d = e + 4 := ⟨d - 4, by omega⟩
  have hl := zRd_lt H
  have hK := Y.2.2.2
  refine zQr_of (fun r => gX13_isValue) ?_
  simp only [zbR_0 (zRd_bR H), H.2.1, Option.bind_some, zRd_kind H hl.1]
  have n : ∀ k, k < 39 → uK T i ≠ k → ¬ Int32.ofNat (zki (uK T i)) = Int32.ofNat (zki k) := fun k hk c z => c ((zki_eq (hK i) hk).mp z)
  by_cases c27 : uK T i = 27
  · rw [uVal_27 c27, if_pos (show Int32.ofNat (zki (uK T i)) = 45 by rw [c27]; rfl), jm_O_eq (zRd_ob H)]
    rcases z_deep (d := d + 1) (k := 27) Y (by omega) (by omega) hq hs c27 H with ⟨q0, e⟩ | ⟨q0, h1, e, F1, H1⟩
    · have e' : jm_D (d + 1 + 2) mX13_deeper [.ref m, .ref b, .int 45] h = some (.inl (some (.int 0)), h) := e
      rw [e', jc_I_eq, if_pos rfl, if_pos q0]
      exact zQr_F (R := uf i) H zS_rf rfl
    · have e' : jm_D (d + 1 + 2) mX13_deeper [.ref m, .ref b, .int 45] h = some (.inl (some (.int 1)), h1) := e
      rw [e', jc_I_eq, if_neg (by decide), if_neg q0, jm_O_eq (zRd_ob H1)]
      have hi := zHy_n Y (i := i) (by omega)
      have g1 := gV (i + 1) (by omega)
      refine z_nest (q := q) (f := ue (39, 0, 0)) (by omega) (gp_le g1) hs F1 (hV q0 (d + 3) (by omega) h1 (i + 1) _ H1 rfl hmk (by show s.2.2.1.length ≤ i + 1; omega) (by omega)) fun h2 s2 z1 z2 H2 => ⟨ue_b, ?_⟩
      have g2 := gp_os g1 z1
      have g3 := g1.2.1
      exact z_backO (d := d + 2) (o := (39, 0, 0)) rfl rfl rfl Y ⟨hq, q0⟩ (s := (8 - q, s2)) rfl (by show s2.2.1.length < 800; rw [z2, List.length_append]; omega) H2
  rw [if_neg (show ¬ Int32.ofNat (zki (uK T i)) = 45 from n 27 (by omega) c27)]
  by_cases c20 : uK T i = 20
  · rw [uVal_20 c20, if_pos (show Int32.ofNat (zki (uK T i)) = 40 by rw [c20]; rfl), jm_O_eq (zRd_ob H)]
    rcases z_deep (d := d + 1) (k := 20) Y (by omega) (by omega) hq hs c20 H with ⟨q0, e⟩ | ⟨q0, h1, e, F1, H1⟩
    · have e' : jm_D (d + 1 + 2) mX13_deeper [.ref m, .ref b, .int 40] h = some (.inl (some (.int 0)), h) := e
      rw [e', jc_I_eq, if_pos rfl, if_pos q0]
      exact zQr_F (R := uf i) H zS_rf rfl
    · have e' : jm_D (d + 1 + 2) mX13_deeper [.ref m, .ref b, .int 40] h = some (.inl (some (.int 1)), h1) := e
      rw [e', jc_I_eq, if_neg (by decide), if_neg q0, jm_O_eq (zRd_ob H1)]
      have hi := zHy_n Y (i := i) (by omega)
      have g1 := gS (i + 1) (by omega)
      refine z_nest (q := q) (by omega) (gp_le g1) hs F1 (hS q0 (d + 3) (by omega) h1 (i + 1) _ H1 rfl hmk (by show s.2.2.1.length ≤ i + 1; omega) (by omega)) fun h2 s2 z1 z2 H2 => ⟨ut_le, ?_⟩
      rw [jm_O_eq (zRd_ob H2)]
      exact zQr_last (z_shut (d := d + 1) (k := 21) Y (by omega) (by omega) ⟨hq, q0⟩ (s := (8 - q, s2)) rfl H2)
  rw [if_neg (show ¬ Int32.ofNat (zki (uK T i)) = 40 from n 20 (by omega) c20)]
  by_cases c18 : uK T i = 18
  · rw [uVal_18 (Or.inl c18), if_pos (show Int32.ofNat (zki (uK T i)) = 18 by rw [c18]; rfl), jm_O_eq (zRd_ob H), c18, show Int32.ofNat (zki 18) = Int32.ofNat 18 from rfl]
    exact zQr_Y (z_two (d := d) (D := D) Y hq (Or.inl rfl) hS gS (by omega) hs hmk hos c18 H)
  rw [if_neg (show ¬ Int32.ofNat (zki (uK T i)) = 18 from n 18 (by omega) c18)]
  by_cases c19 : uK T i = 19
  · rw [uVal_18 (Or.inr c19), if_pos (show Int32.ofNat (zki (uK T i)) = 19 by rw [c19]; rfl), jm_O_eq (zRd_ob H), c19, show Int32.ofNat (zki 19) = Int32.ofNat 19 from rfl]
    exact zQr_Y (z_two (d := d) (D := D) Y hq (Or.inr rfl) hS gS (by omega) hs hmk hos c19 H)
  rw [if_neg (show ¬ Int32.ofNat (zki (uK T i)) = 19 from n 19 (by omega) c19)]
  have go : uK T i = 10 ∨ uK T i = 11 ∨ uK T i = 12 → zQr (kX13_isValue_134 (d + 3) m b (Int32.ofNat (zki (uK T i))) h) h m b T mu5 (alc mk) i s (uVal T q V Sf i) := by
    intro c10
    rw [uVal_10 c10]
    refine zQr_of (fun r => gX13_isValue_134) ?_
    obtain ⟨h1, e1, F1, H1, hi⟩ := z_skip Y (show uK T i ≤ 36 by omega) rfl H
    have ez : zki (uK T i) = uK T i := by unfold zki; rw [if_pos (by omega)]
    simp only [H.2.1, Option.bind_some, jw_add1, e1, H1.2.1, jm_O_eq (zRd_ob H1), ez]
    refine zQr_fr F1 (zQr_sk (by omega) (zle_ub (zle_t Y.2.2.1 (by omega) (by omega)) (fun a ha => zle_ue ha)).2 ?_)
    exact z_askN (d := d + 1) (by omega) rfl Y hmk (by omega) H1
  by_cases c10 : uK T i = 10
  · rw [if_pos (show Int32.ofNat (zki (uK T i)) = 10 by rw [c10]; rfl)]
    exact go (Or.inl c10)
  rw [if_neg (show ¬ Int32.ofNat (zki (uK T i)) = 10 from n 10 (by omega) c10)]
  by_cases c11 : uK T i = 11
  · rw [if_pos (show Int32.ofNat (zki (uK T i)) = 11 by rw [c11]; rfl)]
    exact go (Or.inr (Or.inl c11))
  rw [if_neg (show ¬ Int32.ofNat (zki (uK T i)) = 11 from n 11 (by omega) c11)]
  by_cases c12 : uK T i = 12
  · rw [if_pos (show Int32.ofNat (zki (uK T i)) = 12 by rw [c12]; rfl)]
    exact go (Or.inr (Or.inr c12))
  rw [if_neg (show ¬ Int32.ofNat (zki (uK T i)) = 12 from n 12 (by omega) c12)]
  by_cases c36 : uK T i = 36
  · rw [uVal_36 c36, if_pos (show Int32.ofNat (zki (uK T i)) = 31 by rw [c36]; rfl)]
    simp only [zbR_3 (zRd_bR H), Option.bind_some, zRd_val H hl.1 c36, jm_O_eq (zRd_ob H), Int64.toInt32_ofNat', if_neg (show ¬ Int32.ofNat (zki (uK T i)) = 9 from n 9 (by omega) (by omega))]
    refine jE_V (z_order (d := d + 2) (o := (36, uV T i, 0)) rfl rfl rfl H Y.1 Y.2.1 (by omega)) ?_
    rintro h1 ⟨F1, H1⟩
    obtain ⟨h2, e2, F2, H2, hi⟩ := z_skip Y (by omega) c36 H1
    refine zQr_fr F1 (zQr_of (fun r => gX13_isValue_201) ?_)
    rw [c36, if_pos (show Int32.ofNat (zki 36) = 31 from rfl), H1.2.1, Option.bind_some, jw_add1, e2, Option.bind_some]
    exact zQr_T (R := (true, i + 1, [(36, uV T i, 0)], [])) H2 F2 rfl ⟨rfl, rfl, rfl, rfl, zMA_s (by omega), zMA_s (by omega), rfl⟩
  rw [if_neg (show ¬ Int32.ofNat (zki (uK T i)) = 31 from n 36 (by omega) c36)]
  by_cases c9 : uK T i = 9
  · rw [uVal_9 c9, if_pos (show Int32.ofNat (zki (uK T i)) = 9 by rw [c9]; rfl), jm_O_eq (zRd_ob H)]
    refine jE_V (z_order (d := d + 2) (o := (9, 0, 0)) rfl rfl rfl H Y.1 Y.2.1 (by omega)) ?_
    rintro h1 ⟨F1, H1⟩
    obtain ⟨h2, e2, F2, H2, hi⟩ := z_skip Y (by omega) c9 H1
    refine zQr_fr F1 (zQr_of (fun r => gX13_isValue_201) ?_)
    rw [c9, if_neg (show ¬ Int32.ofNat (zki 9) = 31 by decide), if_pos (show Int32.ofNat (zki 9) = 9 from rfl), H1.2.1, Option.bind_some, jw_add1, e2, Option.bind_some]
    exact zQr_T (R := ue (9, 0, 0) (i + 1)) H2 F2 rfl ⟨rfl, rfl, rfl, rfl, zMA_s (by omega), zMA_s (by omega), rfl⟩
  rw [if_neg (show ¬ Int32.ofNat (zki (uK T i)) = 9 from n 9 (by omega) c9)]
  refine zQr_of (fun r => gX13_isValue_201) ?_
  rw [if_neg (show ¬ Int32.ofNat (zki (uK T i)) = 31 from n 36 (by omega) c36), if_neg (show ¬ Int32.ofNat (zki (uK T i)) = 9 from n 9 (by omega) c9), uVal_o (by omega)]
  exact zQr_F (R := uf i) H zS_rf rfl
end ZG
