/-! ===== LEVEL 3: the reference, lines: what reading leaves ===== -/
/-- where the line of a token begins -/
def zls (T : List aK4) : Nat → Nat
  | 0 => 0
  | j + 1 => if uK T j = 24 then j + 1 else zls T j
theorem zls_24 {T : List aK4} {j : Nat} (h : uK T j = 24) : zls T (j + 1) = j + 1 := if_pos h
theorem zls_n {T : List aK4} {j : Nat} (h : uK T j ≠ 24) : zls T (j + 1) = zls T j := if_neg h
theorem zls_in {T : List aK4} {i e : Nat} (h : zls T i = i) (q : ∀ u, i ≤ u → u < e → uK T u ≠ 24) : ∀ j, i ≤ j → j ≤ e → zls T j = i := by
  intro j
  induction j with
  | zero => intro h1 _; rw [show i = 0 by omega]; rfl
  | succ j ih =>
    intro h1 h2
    by_cases c : i = j + 1
    · rw [← c]; exact h
    · rw [zls_n (q j (by omega) (by omega))]
      exact ih (by omega) (by omega)
/-- what a token means -/
def zme (T : List aK4) (j : Nat) : Int32 :=
  if uK T (zls T j) = 0 then (if uK T j = 35 then 1 else 0)
  else if uK T (zls T j) = 1 then (if uK T j = 35 then (if j = zls T j + 1 then 2 else mu4 T j) else if uK T j = 24 then 7 else 0)
  else if uK T j = 35 then 5 else if j = zls T j then 6 else 0
/-- the mask around a name -/
def zar (T : List aK4) (j : Nat) : Int32 := if uK T (zls T j) = 1 then al4 T j else -1
/-- notes: kind, who, to, begin, end -/
abbrev zNl : Type := Nat × Nat × Nat × Nat × Nat
def zn0 : zNl := (0, 0, 0, 0, 0)
def zRn (h : jm_H) (b : Nat) (NL : List zNl) : Prop := ∃ NK WH TO BG EN, aC h (b + 11) 0 16 NK ∧ aC h (b + 12) 0 16 WH ∧ aC h (b + 13) 0 16 TO ∧ aC h (b + 14) 0 16 BG ∧ aC h (b + 15) 0 16 EN ∧ (NL.length ≤ 16 → ∀ n, n < NL.length → NK n = Int32.ofNat (NL.getD n zn0).1 ∧ WH n = Int32.ofNat (NL.getD n zn0).2.1 ∧ ((NL.getD n zn0).1 = 5 → TO n = Int32.ofNat (NL.getD n zn0).2.2.1) ∧ BG n = Int32.ofNat (NL.getD n zn0).2.2.2.1 ∧ EN n = Int32.ofNat (NL.getD n zn0).2.2.2.2)
def zLU (b c : Nat) : Prop := zRU b c ∨ c = b + 11 ∨ c = b + 12 ∨ c = b + 13 ∨ c = b + 14 ∨ c = b + 15
/-- a test's orders, without the end -/
def zop (ops : List aI) : List aI := if ops = [] then [] else ops.dropLast
/-- what a line adds -/
def zLx (T : List aK4) (i : Nat) (R : uR) (s s' : zSt) (NL NL' : List zNl) : Prop :=
  s'.1 = 0 ∧ s'.2.1 = -1 ∧ s'.2.2.1 = s.2.2.1 ++ zop R.2.2.1 ∧ (∀ j, s'.2.2.2.2.1 j = if i ≤ j ∧ j < R.2.1 then zme T j else s.2.2.2.2.1 j) ∧ (∀ j, uK T j = 35 → s'.2.2.2.2.2.1 j = if i ≤ j ∧ j < R.2.1 then zar T j else s.2.2.2.2.2.1 j) ∧ (∀ j, uK T j ≠ 8 → s'.2.2.2.2.2.2 j = um s.2.2.2.2.2.2 R.2.2.2 j) ∧
  NL' = if uK T i = 0 ∨ uK T i = 1 then NL else NL ++ [(uK T i, i + 1, i + 3, s.2.2.1.length, s'.2.2.1.length)]
section ZL
variable {h h' h1 h2 : jm_H} {d D m b i q k n : Nat} {T : List aK4} {mu al : Nat → Int32} {s s1 : zSt} {o : Option jm_R} {R : uR} {f : Nat → uR} {kk : jm_H → Option jm_R} {mk : Int} {NL : List zNl}
def zLq (o : Option jm_R) (h : jm_H) (m b : Nat) (T : List aK4) (i : Nat) (s : zSt) (NL : List zNl) (R : uR) : Prop := jE o fun v h' => v = .inl (some (.int (if R.1 = true then 1 else 0))) ∧ zS m (zLU b) zRF h h' ∧ ∃ s', zRd h' m b T R.2.1 s' ∧ (R.1 = true → ∃ NL', zRn h' b NL' ∧ s'.2.2.2.1 = NL'.length ∧ zLx T i R s s' NL NL')
theorem zLq_of {o' : Option jm_R} (g : ∀ r, o = some r → o' = some r) (H : zLq o h m b T i s NL R) : zLq o' h m b T i s NL R := jE_of g H
theorem zLq_F (H : zRd h' m b T R.2.1 s1) (F : zS m (zLU b) zRF h h') (c : R.1 = false) : zLq (some (.inl (some (.int 0)), h')) h m b T i s NL R := jE_end ⟨by rw [if_neg (by rw [c]; decide)], F, s1, H, fun z => by rw [c] at z; cases z⟩
theorem zQr_el (H : zQr o h m b T mu al i s R) : (R.1 = false ∧ ∃ h1 s1, o = some (.inl (some (.int 0)), h1) ∧ zS m (zRU b) zRF h h1 ∧ zRd h1 m b T R.2.1 s1) ∨ (R.1 = true ∧ ∃ h1 s1, o = some (.inl (some (.int 1)), h1) ∧ zS m (zRU b) zRF h h1 ∧ zRd h1 m b T R.2.1 s1 ∧ zNx T i R.2.1 mu al R.2.2.1 R.2.2.2 s s1) := by
  obtain ⟨v, h1, e, rfl, F, s1, X1, n1⟩ := H
  cases c : R.1 with
  | false =>
    rw [c] at e
    exact Or.inl ⟨rfl, h1, s1, e, F, X1⟩
  | true =>
    rw [c] at e
    exact Or.inr ⟨rfl, h1, s1, e, F, X1, n1 c⟩
theorem zLU_of (F : zS m (zRU b) zRF h h') : zS m (zLU b) zRF h h' := zS_mn F (fun c z => Or.inl z) (fun k z => z)
theorem zRn_z {U F : Nat → Prop} (H : zRn h b NL) (A : zS m U F h h') (p : ∀ c, 11 ≤ c → c ≤ 15 → b + c ≠ m ∧ ¬ U (b + c)) : zRn h' b NL := by
  obtain ⟨NK, WH, TO, BG, EN, a1, a2, a3, a4, a5, a6⟩ := H
  exact ⟨NK, WH, TO, BG, EN, aC_z a1 A (p 11 (by omega) (by omega)).1 (p 11 (by omega) (by omega)).2, aC_z a2 A (p 12 (by omega) (by omega)).1 (p 12 (by omega) (by omega)).2, aC_z a3 A (p 13 (by omega) (by omega)).1 (p 13 (by omega) (by omega)).2, aC_z a4 A (p 14 (by omega) (by omega)).1 (p 14 (by omega) (by omega)).2, aC_z a5 A (p 15 (by omega) (by omega)).1 (p 15 (by omega) (by omega)).2, a6⟩
theorem zRn_r (Y : zHy m b T) (H : zRn h b NL) (A : zS m (zRU b) zRF h h') : zRn h' b NL := zRn_z H A fun c c1 c2 => ⟨by have := Y.2.1; omega, by unfold zRU; omega⟩
/-- names of one line -/
theorem zMA_line {T : List aK4} {i e : Nat} {f X X' : Nat → Int32} (H : zMA T i e f X X') (hX : ∀ j, i ≤ j → X j = 0) {g : Nat → Int32} (hg : ∀ j, i ≤ j → j < e → g j = if uK T j = 35 then f j else 0) : ∀ j, X' j = if i ≤ j ∧ j < e then g j else X j := fun j => by
  rw [H j]
  by_cases c : i ≤ j ∧ j < e
  · rw [if_pos c, hg j c.1 c.2]
    by_cases k : uK T j = 35
    · rw [if_pos ⟨c.1, c.2, k⟩, if_pos k]
    · rw [if_neg (fun z => k z.2.2), if_neg k, hX j c.1]
  · rw [if_neg c, if_neg (fun z => c ⟨z.1, z.2.1⟩)]
theorem zMA_al {T : List aK4} {i e : Nat} {f g X X' : Nat → Int32} (H : zMA T i e f X X') (hg : ∀ j, i ≤ j → j < e → uK T j = 35 → g j = f j) : ∀ j, uK T j = 35 → X' j = if i ≤ j ∧ j < e then g j else X j := fun j k => by
  rw [H j]
  by_cases c : i ≤ j ∧ j < e
  · rw [if_pos c, if_pos ⟨c.1, c.2, k⟩, hg j c.1 c.2 k]
  · rw [if_neg c, if_neg (fun z => c ⟨z.1, z.2.1⟩)]
/-- an actor's line -/
theorem z_lineA (Y : zHy m b T) (hz : zls T i = i) (hk : uK T i = 0) (hs : s.1 = 0) (hm : s.2.1 = -1) (hX : ∀ j, i ≤ j → s.2.2.2.2.1 j = 0) (hn : s.2.2.2.1 = NL.length) (HN : zRn h b NL) (H : zRd h m b T i s) : zLq ((jr_I h m 12 5 0).bind fun x52 => (jm_pf h m 12 5 0 (.int (x52 + 1))).bind fun h54 => jm_O h54 m 13 (jc_I (jm_D (d + 2) mX13_name [.ref m, .ref b, .int 1] h54) (fun x58 h56 => (if x58 = 0 then some (.inl (some (.int 0)), h56) else jm_O h56 m 13 (jc_I (jm_D (d + 2) mX13_eat [.ref m, .ref b, .int 59] h56) (fun x62 h60 => (if x62 = 0 then some (.inl (some (.int 0)), h60) else some (.inl (some (.int 1)), h60))) jx))) jx)) h m b T i s NL (uLine T n i) := by
  have eu : uLine T n i = ub (ut T 35 (i + 1)) (ut T 24) := if_pos hk
  obtain ⟨h1, e1, F1, H1, hi⟩ := z_skip Y (by omega) hk H
  simp only [H.2.1, Option.bind_some, jw_add1, e1, jm_O_eq (zRd_ob H1)]
  rw [eu]
  have B := zQr_sk (i := i) (by omega) (zle_ub (i := i + 1) (zle_t Y.2.2.1 (by omega) (by omega)) fun a ha => zle_t Y.2.2.1 (by omega) ha).2 (zQr_seq (f := ut T 24) (kk := fun h56 => jm_O h56 m 13 (jc_I (jm_D (d + 2) mX13_eat [.ref m, .ref b, .int 59] h56) (fun x62 h60 => (if x62 = 0 then some (.inl (some (.int 0)), h60) else some (.inl (some (.int 1)), h60))) jx)) ut_le (z_name (d := d) (mu := fun _ => 1) (al := fun _ => -1) (x := 1) Y rfl (by rw [hm]; rfl) H1) fun h2 s2 c2 n2 H2 => ⟨ut_le, by
    rw [jm_O_eq (zRd_ob H2)]
    exact zQr_last (z_eat (d := d + 1) (k := 24) Y (by omega) (by omega) H2)⟩)
  rcases zQr_el B with ⟨c, h2, s2, e2, F2, H2⟩ | ⟨c, h2, s2, e2, F2, H2, N2⟩
  · rw [e2]
    exact zLq_F H2 (zLU_of (zS_tr F1 F2)) c
  · rw [e2]
    refine jE_end ⟨by rw [if_pos c], zLU_of (zS_tr F1 F2), s2, H2, fun _ => ⟨NL, zRn_r Y HN (zS_tr F1 F2), N2.2.2.2.1.trans hn, ?_⟩⟩
    obtain ⟨z1, z2, z3⟩ := ub_s c
    obtain ⟨k1, e3⟩ := ut_s z1
    rw [e3] at z2
    obtain ⟨k2, e4⟩ := ut_s z2
    have eR : ub (ut T 35 (i + 1)) (ut T 24) = ug (i + 1 + 1 + 1) := by rw [e3]; exact e4
    rw [eR] at N2 ⊢
    have k2' : uK T (i + 1 + 1) = 24 := k2
    have hl : ∀ j, i ≤ j → j < i + 1 + 1 + 1 → zls T j = i := fun j a1 a2 => zls_in hz (e := i + 1 + 1) (fun u b1 b2 => by
      rcases (by omega : u = i ∨ u = i + 1) with rfl | rfl <;> omega) j a1 (by omega)
    obtain ⟨p1, p2, p3, p4, p5, p6, p7⟩ := N2
    refine ⟨p1.trans hs, p2.trans hm, p3, zMA_line p5 hX fun j a1 a2 => ?_, zMA_al p6 fun j a1 a2 a3 => ?_, fun j _ => by rw [p7], by rw [if_pos (Or.inl hk)]⟩
    · unfold zme
      rw [hl j a1 a2, if_pos hk]
    · unfold zar
      rw [hl j a1 a2, if_neg (by omega)]
end ZL
