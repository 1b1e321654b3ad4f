/-! ===== LEVEL 3: the reference, reading parts ===== -/
section ZP
variable {h h' h1 h2 : jm_H} {d D m b i q k : Nat} {T : List aK4} {mu al : Nat → Int32} {s s1 : zSt} {o : Option jm_R} {R : uR} {f : Nat → uR} {kk : jm_H → Option jm_R} {mk : Int}
def mu4 (T : List aK4) : Nat → Int32 := fun j => if uK T (j - 1) = 3 then 3 else 4
def al4 (T : List aK4) : Nat → Int32 := fun j => Int32.ofInt (zhd (zmk T j))
def zLp (m b : Nat) (T : List aK4) (D q : Nat) (P : Nat → uR) : Prop := ∀ d, D ≤ d → ∀ h i s, zRd h m b T i s → s.1 = 8 - q → s.2.1 = zhd (zmk T i) → i ≤ 400 → uK T (i - 1) ≠ 3 → zQr (jm_D d mX13_isPart [.ref m, .ref b] h) h m b T (mu4 T) (al4 T) i s (P i)
theorem z_pmark {n own : Nat} {T : List aK4} (Y : zHy m b T) (hq : q ≤ 8 ∧ q ≠ 0) (hs : s.1 = 8 - q) (ho : own < 401) (H : zRd h m b T i (8 - (q - 1), s.2)) : zQr ((jr_R h b 11 5 2).bind fun a25 => (jm_asi h a25 0 (Int32.ofNat own) (Int32.ofNat n)).bind fun h27 => jm_O h27 m 13 (jc_I (jm_D (d + 2) mX13_closes [.ref m, .ref b, .int 93] h27) (fun x31 h29 => jm_Y .boolean x31 (some (.inl (some (.int x31)), h29))) jx)) h m b T mu al i s (ub (true, i, [], [(own, n)]) (ut T 23)) := by
  obtain ⟨h1, e1, F1, H1⟩ := zRd_w6 (Int32.ofNat n) H Y.1 Y.2.1 ho
  simp only [zRd_R (k := 5) (x := b + 6) H rfl, Option.bind_some, e1, jm_O_eq (zRd_ob H1)]
  refine zQr_Y ?_
  obtain ⟨v, h2, e2, rfl, F2, s2, X2, n2⟩ := z_shut (d := d) (mu := mu) (al := al) (k := 23) (s := (s.1, s.2.1, s.2.2.1, s.2.2.2.1, s.2.2.2.2.1, s.2.2.2.2.2.1, upd s.2.2.2.2.2.2 own (Int32.ofNat n))) Y (by omega) (by omega) hq hs H1
  have e2' : jm_D (d + 2) mX13_closes [.ref m, .ref b, .int 93] h1 = _ := e2
  rw [e2', ub_T rfl]
  refine jE_end ⟨rfl, zS_tr F1 F2, s2, X2, fun z => ?_⟩
  have n3 := n2 z
  have n0 : zNx T i i mu al [] [(own, n)] s (s.1, s.2.1, s.2.2.1, s.2.2.2.1, s.2.2.2.2.1, s.2.2.2.2.2.1, upd s.2.2.2.2.2.2 own (Int32.ofNat n)) := ⟨rfl, rfl, (List.append_nil _).symm, rfl, zMA_0, zMA_0, rfl⟩
  exact zNx_tr n0 n3 (Nat.le_refl _) (ut_le z)
theorem z_scene {P : Nat → uR} {own : Nat} (Y : zHy m b T) (hq : q ≤ 8 ∧ q ≠ 0) (hP : zLp m b T D (q - 1) P) (gP : ∀ a, a ≤ 400 → gp 0 a (P a)) (pP : ∀ a, (P a).1 = true → zpe T a (P a).2.1) (pN : ∀ a, 400 ≤ a → uK T a ≠ 22 → uK T a ≠ 3 → uK T a ≠ 35 → P a = uf a) (hD : D ≤ d + 2) (ho : own < 401) : ∀ (f n i : Nat) (s : zSt) (h : jm_H), 400 ≤ f + i → n + f = 400 → zRd h m b T i (8 - (q - 1), s.2) → s.1 = 8 - q → s.2.1 = zhd (zmk T i) → i ≤ 400 → uK T (i - 1) ≠ 3 → zQr (kX13_isScene_19 (d + 2) m b (Int32.ofNat own) (Int32.ofNat n) h) h m b T (mu4 T) (al4 T) i s (uSc T own P f n i) := by
  intro f
  induction f with
  | zero =>
    intro n i s h hf hn H hs hmk hi hp
    have c : ∀ k, k ≤ 36 → uK T i ≠ k := fun k hk z => by
      have := zHy_n Y (i := i) (by omega)
      omega
    have hl := zRd_lt H
    refine zQr_of (fun r => gX13_isScene_19) ?_
    rw [if_neg (by rw [show (2 : Int32) = Int32.ofNat 2 from rfl, jw_lt (by omega) (by omega)]; omega)]
    simp only [zbR_0 (zRd_bR H), H.2.1, Option.bind_some, zRd_kind H hl.1]
    rw [if_neg (show ¬ Int32.ofNat (zki (uK T i)) = 93 from fun z => c 23 (by omega) ((zki_eq (Y.2.2.2 i) (show 23 < 39 by omega)).mp z)), jm_O_eq (zRd_ob H)]
    obtain ⟨v, h1, e1, rfl, F1, s1, X1, n1⟩ := hP (d + 2) hD h i _ H rfl hmk hi hp
    have ep := pN i (by omega) (c 22 (by omega)) (c 3 (by omega)) (c 35 (by omega))
    rw [ep] at e1 X1
    have eu : uSc T own P 0 n i = (false, i, [] ++ [], [(own, n)] ++ []) := by
      unfold uSc
      rw [ub_T rfl, show ut T 23 (true, i, ([] : List aI), [(own, n)]).2.1 = uf i from if_neg (c 23 (by omega))]
      rfl
    rw [e1, jc_I_eq, if_pos (show (if (uf i).1 = true then (1 : Int32) else 0) = 0 from rfl), eu]
    exact zQr_F (R := (false, i, [] ++ [], [(own, n)] ++ [])) X1 F1 rfl
  | succ f ih =>
    intro n i s h hf hn H hs hmk hi hp
    have hl := zRd_lt H
    have go : zQr (jm_O h m 13 (jc_I (jm_D (d + 2) mX13_isPart [.ref m, .ref b] h) (fun x13 h11 => (if x13 = 0 then some (.inl (some (.int 0)), h11) else kX13_isScene_19 (d + 2) m b (Int32.ofNat own) (Int32.ofNat n + 1) h11)) jx)) h m b T (mu4 T) (al4 T) i s (ub (P i) (uSc T own P f (n + 1))) := by
      rw [jm_O_eq (zRd_ob H)]
      have g1 := gP i hi
      have gs := gp_sc (T := T) (own := own) Y.2.2.1 gP f (n + 1) _ g1.2.1
      obtain ⟨a0, a1⟩ := s
      have hs' : a0 = 8 - q := hs
      subst hs'
      have hmk' : a1.1 = zhd (zmk T i) := hmk
      refine z_dn (q := q) (gp_le g1) (hP (d + 2) hD h i _ H rfl hmk hi hp) fun h1 s3 c1 c2 c3 H1 => ⟨gp_le gs, ?_⟩
      obtain ⟨p1, p2, p3⟩ := pP i c1
      rw [jw_add1]
      exact ih (n + 1) _ (8 - q, s3) h1 (by omega) (by omega) H1 rfl (by show s3.1 = _; rw [c2, hmk', p1]) g1.2.1 p2
    refine zQr_of (fun r => gX13_isScene_19) ?_
    unfold uSc
    by_cases c2 : n < 2
    · rw [if_pos (by rw [show (2 : Int32) = Int32.ofNat 2 from rfl, jw_lt (by omega) (by omega)]; exact c2), if_pos (Or.inl c2)]
      exact go
    rw [if_neg (by rw [show (2 : Int32) = Int32.ofNat 2 from rfl, jw_lt (by omega) (by omega)]; exact c2)]
    simp only [zbR_0 (zRd_bR H), H.2.1, Option.bind_some, zRd_kind H hl.1]
    by_cases c : uK T i = 23
    · rw [if_pos (show Int32.ofNat (zki (uK T i)) = 93 by rw [c]; rfl), if_neg (by omega)]
      exact z_pmark (d := d) (q := q) Y hq hs ho H
    · rw [if_neg (show ¬ Int32.ofNat (zki (uK T i)) = 93 from fun z => c ((zki_eq (Y.2.2.2 i) (show 23 < 39 by omega)).mp z)), if_pos (Or.inr c)]
      exact go
/-- on, deeper and under another mask -/
theorem z_dm {x y : Int} {s2 : List aI × Nat × (Nat → Int32) × (Nat → Int32) × (Nat → Int32)} (gR : R.1 = true → i ≤ R.2.1) (H : zQr o h m b T mu al i (8 - (q - 1), x, s2) R) (g : ∀ h1 s3, R.1 = true → zRd h1 m b T R.2.1 (8 - (q - 1), x, s3) → ((f R.2.1).1 = true → R.2.1 ≤ (f R.2.1).2.1) ∧ zQr (kk h1) h1 m b T mu al R.2.1 (8 - q, y, s3) (f R.2.1)) : zQr (jc_I o (fun y h1 => if y = 0 then some (.inl (some (.int 0)), h1) else kk h1) jx) h m b T mu al i (8 - q, y, s2) (ub R f) := by
  obtain ⟨v, h2, rfl, rfl, F2, s3, X2, n2⟩ := H
  rw [jc_I_eq]
  by_cases c : R.1 = true
  · rw [if_pos c, if_neg (by decide)]
    obtain ⟨p1, p2, p3, p4, p5, p6, p7⟩ := n2 c
    have es : s3 = (8 - (q - 1), x, s3.2.2) := Prod.ext p1 (Prod.ext p2 rfl)
    rw [es] at X2
    obtain ⟨g1, v, h3, e3, rfl, F3, s4, X3, n3⟩ := g h2 s3.2.2 c X2
    rw [ub_T c, e3]
    refine jE_end ⟨rfl, zS_tr F2 F3, s4, X3, fun z => ?_⟩
    have N1 : zNx T i R.2.1 mu al R.2.2.1 R.2.2.2 (8 - q, y, s2) (8 - q, y, s3.2.2) := ⟨rfl, rfl, p3, p4, p5, p6, p7⟩
    exact zNx_tr N1 (n3 z) (gR c) (g1 z)
  · rw [if_neg c, if_pos rfl, ub_F c]
    exact jE_end ⟨by rw [if_neg c], F2, s3, X2, fun z => absurd z c⟩
theorem uPart_f {q i : Nat} (c1 : uK T i ≠ 22) (c2 : uK T i ≠ 3) : uPart T q i = ut T 35 i := by
  cases q with
  | zero => unfold uPart; rw [if_neg c1, if_neg c2]
  | succ q => unfold uPart; rw [if_neg c1, if_neg c2]
theorem z_parts (Y : zHy m b T) : ∀ q, q ≤ 8 → zLp m b T (5 + 2 * q) q (uPart T q) := by
  have hT := Y.2.2.1
  have up : ∀ (q D : Nat) (P : Nat → uR), q ≤ 8 → 3 ≤ D → (q ≠ 0 → zLp m b T D (q - 1) P ∧ P = uPart T (q - 1)) → zLp m b T (D + 2) q (uPart T q) := by
    intro q D P hq hD3 hP d hd h i s H hs hmk hi hp
    obtain ⟨d, rfl⟩ : ∃ e, d = e + 5 := ⟨d - 5, by omega⟩
    have hl := zRd_lt H
    refine zQr_of (fun r => gX13_isPart) ?_
    simp only [zbR_0 (zRd_bR H), H.2.1, Option.bind_some, zRd_kind H hl.1]
    have n : ∀ k, k < 39 → uK T i ≠ k → ¬ Int32.ofNat (zki (uK T i)) = Int32.ofNat (zki k) := fun k hk c z => c ((zki_eq (Y.2.2.2 i) hk).mp z)
    by_cases c3 : uK T i = 3
    · rw [if_pos (show Int32.ofNat (zki (uK T i)) = 3 by rw [c3]; rfl), jm_O_eq (zRd_ob H)]
      have e : uPart T q i = ub (ut T 35 (i + 1)) fun a => if q = 0 then uf a else ub (ut T 20 a) fun a => ub (uPart T (q - 1) a) (ut T 21) := by
        cases q with
        | zero => unfold uPart; rw [if_neg (by omega), if_pos c3]; rfl
        | succ q =>
          simp only [Nat.succ_ne_zero, if_false, Nat.add_sub_cancel]
          show (if _ then _ else if _ then _ else _) = _
          rw [if_neg (show ¬ uK T i = 22 by omega), if_pos c3]
      rw [e]
      have hi4 := zHy_n Y (i := i) (by omega)
      refine zQr_Y (zQr_of (fun r => gX13_isMaskPart) ?_)
      obtain ⟨h1, e1, F1, H1, -⟩ := z_skip Y (by omega) c3 H
      simp only [H.2.1, Option.bind_some, jw_add1, e1, H1.2.2.2.1, H1.2.1, jm_O_eq (zRd_ob H1)]
      have gq : ∀ a, a ≤ 400 → zle a (if q = 0 then uf a else ub (ut T 20 a) fun a => ub (uPart T (q - 1) a) (ut T 21)) := by
        intro a ha
        split
        · exact ⟨ha, fun z => (by cases z)⟩
        · exact zle_ub (zle_t hT (by omega) ha) fun a ha => zle_ub (zle_gp (gp_part hT (q - 1) a ha)) fun a ha => zle_t hT (by omega) ha
      refine zQr_fr F1 (zQr_sk (by omega) (zle_ub (zle_t hT (by omega) (by omega)) gq).2 ?_)
      have em : zmk T (i + 1) = zmk T i := zmk_s (by omega)
      refine zQr_seq ut_le (z_name (d := d + 1) Y (show mu4 T (i + 1) = 3 from if_pos (by rw [Nat.add_sub_cancel]; exact c3)) (show al4 T (i + 1) = _ by rw [hmk, ← em]; rfl) H1) fun h2 s2 k2 n2 H2 => ?_
      obtain ⟨k2', e2⟩ := ut_s k2
      rw [e2] at H2 n2 ⊢
      have H2' : zRd h2 m b T (i + 1 + 1) s2 := H2
      have n2' : s2.1 = s.1 ∧ s2.2.1 = s.2.1 := ⟨n2.1, n2.2.1⟩
      have hi5 := zHy_n Y (i := i + 1) (by omega)
      clear H2 n2
      refine ⟨(gq (i + 1 + 1) (by omega)).2, ?_⟩
      show zQr _ h2 m b T (mu4 T) (al4 T) (i + 1 + 1) s2 (if q = 0 then uf (i + 1 + 1) else ub (ut T 20 (i + 1 + 1)) fun a => ub (uPart T (q - 1) a) (ut T 21))
      have em2 : zmk T (i + 1 + 1) = zmk T i := (zmk_s (by omega)).trans em
      rw [jm_O_eq (zRd_ob H2')]
      by_cases c20 : uK T (i + 1 + 1) = 20
      · rcases z_deep (d := d + 1) (k := 20) Y (by omega) (by omega) hq (n2'.1.trans hs) c20 H2' with ⟨q0, e⟩ | ⟨q0, h3, e, F3, H3⟩
        · have e' : jm_D (d + 3) mX13_deeper [.ref m, .ref b, .int 40] h2 = some (.inl (some (.int 0)), h2) := e
          rw [e', jc_I_eq, if_pos rfl, if_pos q0]
          exact zQr_F (R := uf (i + 1 + 1)) H2' zS_rf rfl
        · have e' : jm_D (d + 3) mX13_deeper [.ref m, .ref b, .int 40] h2 = some (.inl (some (.int 1)), h3) := e
          obtain ⟨hP1, hP2⟩ := hP q0
          have hi6 := zHy_n Y (i := i + 1 + 1) (by omega)
          obtain ⟨h4, e4, F4, H4⟩ := zRd_7 ((i + 1 : Nat) : Int) H3 Y.2.1
          have e4' : jm_pf h3 m 12 7 0 (.int (Int32.ofNat (i + 1))) = some h4 := by rw [← e4]; exact congrArg (fun x => jm_pf h3 m 12 7 0 (.int x)) jw_in.symm
          rw [e', jc_I_eq, if_neg (by decide), e4', Option.bind_some, if_neg q0, ub_ts c20, jm_O_eq (zRd_ob H4)]
          have g1 := gp_part hT (q - 1) (i + 1 + 1 + 1) (by omega)
          rw [← hP2] at g1 ⊢
          refine zQr_fr (zS_tr F3 F4) (zQr_sk (by omega) (zle_ub (zle_gp g1) fun a ha => zle_t hT (by omega) ha).2 ?_)
          obtain ⟨a0, a1, a2⟩ := s2
          have hs' : a0 = 8 - q := n2'.1.trans hs
          have ha1 : a1 = s.2.1 := n2'.2
          subst hs' ha1
          refine z_dm (q := q) (gp_le g1) (hP1 (d + 3) (by omega) h4 (i + 1 + 1 + 1) _ H4 rfl ?_ (by omega) (by rw [Nat.add_sub_cancel]; omega)) fun h5 s3 k5 H5 => ⟨ut_le, ?_⟩
          · rw [zmk_20 c20]
            rfl
          · obtain ⟨h6, e6, F6, H6⟩ := zRd_7 s.2.1 H5 Y.2.1
            rw [e6, Option.bind_some, jm_O_eq (zRd_ob H6)]
            exact zQr_fr F6 (zQr_Y (z_shut (d := d + 1) (k := 21) (q := q) (s := (8 - q, s.2.1, s3)) Y (by omega) (by omega) ⟨hq, q0⟩ rfl H6))
      · have e := z_deepN (d := d + 1) (k := 20) Y (by omega) hq (n2'.1.trans hs) c20 H2'
        have e' : jm_D (d + 3) mX13_deeper [.ref m, .ref b, .int 40] h2 = some (.inl (some (.int 0)), h2) := e
        have eu : (if q = 0 then uf (i + 1 + 1) else ub (ut T 20 (i + 1 + 1)) fun a => ub (uPart T (q - 1) a) (ut T 21)) = uf (i + 1 + 1) := by
          split
          · rfl
          · rw [show ut T 20 (i + 1 + 1) = uf (i + 1 + 1) from if_neg c20]
            exact ub_F (fun z => by cases z)
        rw [e', jc_I_eq, if_pos rfl, eu]
        exact zQr_F (R := uf (i + 1 + 1)) H2' zS_rf rfl
    rw [if_neg (show ¬ Int32.ofNat (zki (uK T i)) = 3 from n 3 (by omega) c3)]
    by_cases c22 : uK T i = 22
    · rw [if_pos (show Int32.ofNat (zki (uK T i)) = 91 by rw [c22]; rfl), jm_O_eq (zRd_ob H)]
      have hi4 := zHy_n Y (i := i) (by omega)
      refine zQr_Y (zQr_of (fun r => gX13_isScene) ?_)
      simp only [H.2.1, Option.bind_some, jm_O_eq (zRd_ob H)]
      rcases z_deep (d := d + 1) (k := 22) Y (by omega) (by omega) hq hs c22 H with ⟨q0, e⟩ | ⟨q0, h1, e, F1, H1⟩
      · have e' : jm_D (d + 3) mX13_deeper [.ref m, .ref b, .int 91] h = some (.inl (some (.int 0)), h) := e
        have eu : uPart T q i = uf i := by
          subst q0
          unfold uPart
          rw [if_pos c22]
        rw [e', jc_I_eq, if_pos rfl, eu]
        exact zQr_F (R := uf i) H zS_rf rfl
      · have e' : jm_D (d + 3) mX13_deeper [.ref m, .ref b, .int 91] h = some (.inl (some (.int 1)), h1) := e
        obtain ⟨hP1, hP2⟩ := hP q0
        have eu : uPart T q i = uSc T i P 400 0 (i + 1) := by
          rw [hP2]
          obtain ⟨q', rfl⟩ : ∃ e, q = e + 1 := ⟨q - 1, by omega⟩
          rw [Nat.add_sub_cancel]
          show (if _ then _ else _) = _
          rw [if_pos c22]
        have gP : ∀ a, a ≤ 400 → gp 0 a (P a) := fun a ha => by rw [hP2]; exact gp_part hT (q - 1) a ha
        have gs := gp_sc (T := T) (own := i) hT gP 400 0 (i + 1) (by omega)
        rw [e', jc_I_eq, if_neg (by decide), eu]
        refine zQr_fr F1 (zQr_sk (by omega) (gp_le gs) ?_)
        exact z_scene (d := d + 1) (q := q) Y ⟨hq, q0⟩ hP1 gP (fun a z => by rw [hP2] at z ⊢; exact zpe_part _ a z) (fun a _ d1 d2 d3 => by rw [hP2, uPart_f d1 d2]; exact if_neg d3) (by omega) (by omega) 400 0 (i + 1) s h1 (by omega) rfl H1 hs (by rw [hmk, zmk_s (by omega)]) (by omega) (by rw [Nat.add_sub_cancel]; omega)
    rw [if_neg (show ¬ Int32.ofNat (zki (uK T i)) = 91 from n 22 (by omega) c22), jm_O_eq (zRd_ob H), uPart_f c22 c3]
    refine zQr_Y ?_
    exact z_name (d := d + 2) Y (show mu4 T i = 4 from if_neg hp) (show al4 T i = _ by rw [hmk]; rfl) H
  intro q
  induction q with
  | zero => exact fun hq => up 0 3 uf hq (by omega) (fun z => absurd rfl z)
  | succ q ih => exact fun hq => (fun d hd => up (q + 1) (5 + 2 * q) (uPart T q) hq (by omega) (fun _ => ⟨ih (by omega), rfl⟩) d (by omega))
end ZP
