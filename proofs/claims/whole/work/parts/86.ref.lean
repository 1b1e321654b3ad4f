/-! ===== LEVEL 3: the reference, tests by the grammar ===== -/
theorem zMA_one {T : List aK4} {i : Nat} {f X X' : Nat → Int32} (H : zMA T i (i + 1) f X X') (h : uK T i ≠ 35) : X' = X := by
  funext j
  rw [H j]
  refine if_neg fun z => ?_
  have e : j = i := by omega
  rw [e] at z
  exact h z.2.2
section ZG
variable {h h' h1 h2 : jm_H} {d D m b i q k : Nat} {T : List aK4} {mu al : Nat → Int32} {s s1 : zSt} {o : Option jm_R} {R : uR} {f : Nat → uR} {kk : jm_H → Option jm_R}
/-- what all of it rests on -/
def zHy (m b : Nat) (T : List aK4) : Prop := 128 ≤ m ∧ (b = m + 2 ∨ m + 36 ≤ b) ∧ gT T ∧ ∀ j, uK T j < 39
theorem zHy_n (Y : zHy m b T) (h1 : uK T i ≤ 36) : i < 400 ∧ i + 1 < T.length := Y.2.2.1.2 i (by omega) (by omega)
/-- a token is eaten -/
theorem z_eat {k : Nat} (Y : zHy m b T) (hk : k ≤ 36) (hn : k ≠ 35) (H : zRd h m b T i s) : zQr (jm_D (d + 1) mX13_eat [.ref m, .ref b, .int (Int32.ofNat (zki k))] h) h m b T mu al i s (ut T k i) := by
  have hl := zRd_lt H
  refine zQr_of (fun r => gX13_eat) ?_
  simp only [zbR_0 (zRd_bR H), H.2.1, Option.bind_some, zRd_kind H hl.1, zki_eq (Y.2.2.2 i) (show k < 39 by omega)]
  unfold ut
  by_cases c : uK T i = k
  · rw [if_pos c, if_pos c]
    have hi := zHy_n Y (i := i) (by omega)
    obtain ⟨h1, e1, F1, H1⟩ := zRd_5 (i + 1) H Y.2.1 hi.2
    rw [jw_add1, e1, Option.bind_some]
    exact zQr_T (R := ug (i + 1)) H1 F1 rfl (zNx_s (by omega))
  · rw [if_neg c, if_neg c]
    exact zQr_F (R := uf i) H zS_rf rfl
/-- a name is eaten -/
theorem z_name {x : Int32} (Y : zHy m b T) (hx : mu i = x) (ha : al i = Int32.ofInt s.2.1) (H : zRd h m b T i s) : zQr (jm_D (d + 2) mX13_name [.ref m, .ref b, .int x] h) h m b T mu al i s (ut T 35 i) := by
  have hl := zRd_lt H
  refine zQr_of (fun r => gX13_name) ?_
  simp only [zbR_2 (zRd_bR H), H.2.1, Option.bind_some]
  obtain ⟨h1, e1, F1, H1⟩ := zRd_w3 x H Y.1 Y.2.1 (show i < 401 by omega)
  simp only [e1, Option.bind_some, zRd_R (k := 4) (x := b + 5) H1 rfl, H1.2.1, H1.2.2.2.1]
  obtain ⟨h2, e2, F2, H2⟩ := zRd_w5 (Int32.ofInt s.2.1) H1 Y.1 Y.2.1 (show i < 401 by omega)
  simp only [e2, Option.bind_some, jm_O_eq (zRd_ob H2)]
  refine zQr_fr (zS_tr F1 F2) ?_
  refine zQr_Y (R := ut T 35 i) ?_
  refine zQr_of (fun r => gX13_eat) ?_
  simp only [zbR_0 (zRd_bR H2), H2.2.1, Option.bind_some, zRd_kind H2 hl.1, show (30 : Int32) = Int32.ofNat (zki 35) from rfl, zki_eq (Y.2.2.2 i) (show 35 < 39 by omega)]
  unfold ut
  by_cases c : uK T i = 35
  · rw [if_pos c, if_pos c]
    have hi := zHy_n Y (i := i) (by omega)
    obtain ⟨h3, e3, F3, H3⟩ := zRd_5 (i + 1) H2 Y.2.1 hi.2
    rw [jw_add1, e3, Option.bind_some]
    exact zQr_T (R := ug (i + 1)) H3 F3 rfl ⟨rfl, rfl, by rw [show (ug (i + 1)).2.2.1 = [] from rfl, List.append_nil], rfl, zMA_n c hx, zMA_n c ha, rfl⟩
  · rw [if_neg c, if_neg c]
    exact zQr_F (R := uf i) H2 zS_rf rfl
/-- deeper, at a sign that is there -/
theorem z_deep {k : Nat} (Y : zHy m b T) (hk : k ≤ 36) (hn : k ≠ 35) (hq : q ≤ 8) (hs : s.1 = 8 - q) (hi : uK T i = k) (H : zRd h m b T i s) : (q = 0 ∧ jm_D (d + 2) mX13_deeper [.ref m, .ref b, .int (Int32.ofNat (zki k))] h = some (.inl (some (.int 0)), h)) ∨ (q ≠ 0 ∧ ∃ h1, jm_D (d + 2) mX13_deeper [.ref m, .ref b, .int (Int32.ofNat (zki k))] h = some (.inl (some (.int 1)), h1) ∧ zS m (zRU b) zRF h h1 ∧ zRd h1 m b T (i + 1) (8 - (q - 1), s.2)) := by
  by_cases c : q = 0
  · refine Or.inl ⟨c, ?_⟩
    apply gX13_deeper
    simp only [H.2.2.1, Option.bind_some, hs, c]
    rfl
  · refine Or.inr ⟨c, ?_⟩
    obtain ⟨v, h1, e1, rfl, F1, s1, X1, n1⟩ := z_eat (d := d) (mu := fun _ => 0) (al := fun _ => 0) Y hk hn H
    have eu : ut T k i = ug (i + 1) := if_pos hi
    rw [eu] at e1 X1 n1
    have n2 := n1 rfl
    have es : s1.1 = s.1 := n2.1
    obtain ⟨h2, e2, F2, H2⟩ := zRd_6 (8 - (q - 1)) X1 Y.2.1
    refine ⟨h2, ?_, zS_tr F1 F2, ?_⟩
    · apply gX13_deeper
      simp only [H.2.2.1, Option.bind_some, hs, jm_O_eq (zRd_ob H), e1]
      rw [if_neg (by rw [show (8 : Int32) = Int32.ofNat 8 from rfl, jw_eq (by omega) (by omega)]; omega), jc_I_eq, if_pos (show (ug (i + 1)).1 = true from rfl), if_neg (show ¬ (1 : Int32) = 0 from by decide), X1.2.2.1, Option.bind_some, es, hs, jw_add1, show 8 - q + 1 = 8 - (q - 1) by omega, e2, Option.bind_some]
    · have e3 : s1.2 = s.2 := by
        obtain ⟨p1, p2, p3, p4, p5, p6, p7⟩ := n2
        have q5 : s1.2.2.2.2.1 = s.2.2.2.2.1 := zMA_one p5 (by omega)
        have q6 : s1.2.2.2.2.2.1 = s.2.2.2.2.2.1 := zMA_one p6 (by omega)
        have q3 : s1.2.2.1 = s.2.2.1 := by rw [p3]; exact List.append_nil _
        exact Prod.ext p2 (Prod.ext q3 (Prod.ext p4 (Prod.ext q5 (Prod.ext q6 p7))))
      rw [← e3]
      exact H2
/-- back from deeper: the sign that closes -/
theorem z_shut {k : Nat} (Y : zHy m b T) (hk : k ≤ 36) (hn : k ≠ 35) (hq : q ≤ 8 ∧ q ≠ 0) (hs : s.1 = 8 - q) (H : zRd h m b T i (8 - (q - 1), s.2)) : zQr (jm_D (d + 2) mX13_closes [.ref m, .ref b, .int (Int32.ofNat (zki k))] h) h m b T mu al i s (ut T k i) := by
  obtain ⟨v, h1, e1, rfl, F1, s1, X1, n1⟩ := z_eat (d := d) (mu := mu) (al := al) Y hk hn H
  refine zQr_of (fun r => gX13_closes) ?_
  rw [jm_O_eq (zRd_ob H), e1, jc_I_eq]
  by_cases c : (ut T k i).1 = true
  · rw [if_pos c, if_neg (by decide)]
    have n2 := n1 c
    obtain ⟨h2, e2, F2, H2⟩ := zRd_6 (8 - q) X1 Y.2.1
    have es : s1.1 = 8 - (q - 1) := n2.1
    rw [X1.2.2.1, Option.bind_some, es, show Int32.ofNat (8 - (q - 1)) - 1 = Int32.ofNat (8 - q) from by
      rw [show 8 - (q - 1) = 8 - q + 1 by omega]; exact jw_sub1, e2, Option.bind_some]
    obtain ⟨p1, p2, p3, p4, p5, p6, p7⟩ := n2
    exact zQr_T H2 (zS_tr F1 F2) c ⟨by rw [hs], p2, p3, p4, p5, p6, p7⟩
  · rw [if_neg c, if_pos rfl]
    exact zQr_F X1 F1 (by
      cases e : (ut T k i).1 with
      | true => exact absurd e c
      | false => rfl)
/-- back from deeper, with an order -/
theorem z_backO {o : aI} {c : Int32} (hc : c = Int32.ofNat (zo o).1) (hw : zow o = 0) (hz : zoq o = -1) (Y : zHy m b T) (hq : q ≤ 8 ∧ q ≠ 0) (hs : s.1 = 8 - q) (hl : s.2.2.1.length < 800) (H : zRd h m b T i (8 - (q - 1), s.2)) : zQr ((jr_I h m 12 6 0).bind fun x61 => (jm_pf h m 12 6 0 (.int (x61 - 1))).bind fun h63 => jm_O h63 m 13 (jc_V (jm_D (d + 1) mX13_order [.ref m, .ref b, .int c, .int 0, .int (-1)] h63) (fun h65 => some (.inl (some (.int 1)), h65)) jx)) h m b T mu al i s (ue o i) := by
  obtain ⟨h2, e2, F2, H2⟩ := zRd_6 (8 - q) H Y.2.1
  rw [H.2.2.1, Option.bind_some, show Int32.ofNat (8 - (q - 1)) - 1 = Int32.ofNat (8 - q) from by
    rw [show 8 - (q - 1) = 8 - q + 1 by omega]; exact jw_sub1, e2, Option.bind_some, jm_O_eq (zRd_ob H2)]
  refine jE_V (z_order (d := d) (o := o) hc (by rw [hw]; rfl) (by rw [hz]; rfl) H2 Y.1 Y.2.1 hl) ?_
  rintro h3 ⟨F3, H3⟩
  exact zQr_T (R := ue o i) H3 (zS_tr F2 F3) rfl ⟨hs.symm, rfl, rfl, rfl, zMA_0, zMA_0, rfl⟩
/-- an order behind what was read -/
theorem z_putO {o : aI} {c w z : Int32} (hc : c = Int32.ofNat (zo o).1) (hw : w = Int32.ofNat (zow o)) (hz : z = Int32.ofInt (zoq o)) (Y : zHy m b T) (hl : s.2.2.1.length < 800) (H : zRd h m b T i s) (g : ∀ h1, zRd h1 m b T i (s.1, s.2.1, s.2.2.1 ++ [o], s.2.2.2) → zQr (kk h1) h1 m b T mu al i (s.1, s.2.1, s.2.2.1 ++ [o], s.2.2.2) (f i)) (hf : (f i).1 = true → i ≤ (f i).2.1) : zQr (jc_V (jm_D (d + 1) mX13_order [.ref m, .ref b, .int c, .int w, .int z] h) (fun h1 => kk h1) jx) h m b T mu al i s (ub (ue o i) f) := by
  refine jE_V (z_order (d := d) (o := o) hc hw hz H Y.1 Y.2.1 hl) ?_
  rintro h3 ⟨F3, H3⟩
  obtain ⟨v, h4, e4, rfl, F4, s4, X4, n4⟩ := g h3 H3
  rw [e4]
  refine jE_end ⟨rfl, zS_tr F3 F4, s4, X4, fun z => ?_⟩
  have n5 : zNx T i i mu al [o] [] s (s.1, s.2.1, s.2.2.1 ++ [o], s.2.2.2) := ⟨rfl, rfl, rfl, rfl, zMA_0, zMA_0, rfl⟩
  exact zNx_tr n5 (n4 z) (Nat.le_refl _) (hf z)
theorem z_ordE {o : aI} {c w z : Int32} (hc : c = Int32.ofNat (zo o).1) (hw : w = Int32.ofNat (zow o)) (hz : z = Int32.ofInt (zoq o)) (Y : zHy m b T) (hl : s.2.2.1.length < 800) (H : zRd h m b T i s) : zQr (jc_V (jm_D (d + 1) mX13_order [.ref m, .ref b, .int c, .int w, .int z] h) (fun h1 => some (.inl (some (.int 1)), h1)) jx) h m b T mu al i s (ue o i) := by
  refine jE_V (z_order (d := d) (o := o) hc hw hz H Y.1 Y.2.1 hl) ?_
  rintro h3 ⟨F3, H3⟩
  exact zQr_T (R := ue o i) H3 F3 rfl ⟨rfl, rfl, rfl, rfl, zMA_0, zMA_0, rfl⟩
/-- what a method of the tests reads -/
def mu5 : Nat → Int32 := fun _ => 5
def alc (mk : Int) : Nat → Int32 := fun _ => Int32.ofInt mk
def zLv (m b : Nat) (T : List aK4) (mk : Int) (D : Nat) (y : jm_M) (q : Nat) (P : Nat → uR) : Prop := ∀ d, D ≤ d → ∀ h i s, zRd h m b T i s → s.1 = 8 - q → s.2.1 = mk → s.2.2.1.length ≤ i → i ≤ 400 → zQr (jm_D d y [.ref m, .ref b] h) h m b T mu5 (alc mk) i s (P i)
theorem zLv_up {mk : Int} {D' : Nat} {y : jm_M} {P : Nat → uR} (H : zLv m b T mk D y q P) (h : D ≤ D') : zLv m b T mk D' y q P := fun d hd => H d (by omega)
/-- the token behind one that is there -/
theorem z_skip {k : Nat} (Y : zHy m b T) (hk : k ≤ 36) (hi : uK T i = k) (H : zRd h m b T i s) : ∃ h1, jm_pf h m 12 5 0 (.int (Int32.ofNat (i + 1))) = some h1 ∧ zS m (zRU b) zRF h h1 ∧ zRd h1 m b T (i + 1) s ∧ i < 400 := by
  have hn := zHy_n Y (i := i) (by omega)
  obtain ⟨h1, e1, F1, H1⟩ := zRd_5 (i + 1) H Y.2.1 hn.2
  exact ⟨h1, e1, F1, H1, hn.1⟩
/-- a result of a token more -/
theorem zQr_sk (hi : uK T i ≠ 35) (hR : R.1 = true → i + 1 ≤ R.2.1) (H : zQr o h m b T mu al (i + 1) s R) : zQr o h m b T mu al i s R := by
  obtain ⟨v, h1, rfl, e, F, s1, X1, n1⟩ := H
  refine ⟨v, h1, rfl, e, F, s1, X1, fun z => ?_⟩
  have := zNx_tr (zNx_s (mu := mu) (al := al) (s := s) hi) (n1 z) (by omega) (hR z)
  exact this
theorem ue_b {o : aI} {i : Nat} : (ue o i).1 = true → i ≤ (ue o i).2.1 := fun _ => Nat.le_refl _
theorem gp_le {c i : Nat} {R : uR} (h : gp c i R) : R.1 = true → i ≤ R.2.1 := fun _ => h.1
theorem gp_os {c i : Nat} {R : uR} (h : gp c i R) (z : R.1 = true) : R.2.2.1.length + i + c ≤ R.2.1 := by
  have := h.2.2 z
  have l : ∀ ops : List aI, ops.length ≤ (cF ops).length := by
    intro ops
    induction ops with
    | nil => exact Nat.le_refl _
    | cons x xs ih =>
      show xs.length + 1 ≤ (cI x ++ cF xs).length
      rw [List.length_append]
      have : 1 ≤ (cI x).length := by unfold cI; split; · simp
                                     split; · simp
                                     split <;> simp
      omega
  have := l R.2.2.1
  omega
end ZG
