/-! ===== LEVEL 3: what the tape reads as ===== -/
/-- a token: its kind, its place, its name, its value -/
abbrev aK4 : Type := Nat × Nat × Nat × Nat
def bt (tp : List Nat) (i : Nat) : Int := if i < tp.length then (tp.getD i 0 : Int) else -1
def isL (b : Int) : Bool := decide (97 ≤ b ∧ b ≤ 122)
def isD (b : Int) : Bool := decide (48 ≤ b ∧ b ≤ 57)
/-- behind blanks -/
def kbl (tp : List Nat) : Nat → Nat → Nat
  | 0, i => i
  | f + 1, i => if bt tp i = 32 ∨ bt tp i = 10 then kbl tp f (i + 1) else i
/-- behind letters and digits; behind digits -/
def kwd (tp : List Nat) : Nat → Nat → Nat
  | 0, i => i
  | f + 1, i => if isL (bt tp i) = true ∨ isD (bt tp i) = true then kwd tp f (i + 1) else i
def kdg (tp : List Nat) : Nat → Nat → Nat
  | 0, i => i
  | f + 1, i => if isD (bt tp i) = true then kdg tp f (i + 1) else i
/-- the name, the number of so many bytes from a place -/
def kwv (tp : List Nat) (i : Nat) : Nat → Nat
  | 0 => 0
  | n + 1 => 37 * kwv tp i n + cd (tp.getD (i + n) 0)
def knv (tp : List Nat) (i : Nat) : Nat → Nat
  | 0 => 0
  | n + 1 => 10 * knv tp i n + (tp.getD (i + n) 0 - 48)
def sy : List Nat := [40, 41, 91, 93, 59, 44, 43, 45, 42, 47, 60, 62, 61]
def kws : List Nat := (List.range 20).map kwn
/-- the kind of a word -/
def kkw (w : Nat) : Nat := if 0 ≤ fd kws w then (fd kws w).toNat else 35
/-- the kind of a sign -/
def ksy (b b2 : Int) : Option Nat := if 0 ≤ b ∧ 0 ≤ fd sy b.toNat then some (if b2 = 61 ∧ b = 60 then 33 else if b2 = 61 ∧ b = 62 then 34 else 20 + (fd sy b.toNat).toNat) else none
/-- the token at a place, and what is behind it -/
def ktk (tp : List Nat) (i : Nat) : Option (aK4 × Nat) :=
  if isL (bt tp i) = true then (if kwd tp (tp.length - i) i - i ≤ 10 then some ((kkw (kwv tp i (kwd tp (tp.length - i) i - i)), i, kwv tp i (kwd tp (tp.length - i) i - i), 0), kwd tp (tp.length - i) i) else none)
  else if isD (bt tp i) = true then (if kdg tp (tp.length - i) i - i ≤ 6 then some ((36, i, 0, knv tp i (kdg tp (tp.length - i) i - i)), kdg tp (tp.length - i) i) else none)
  else match ksy (bt tp i) (bt tp (i + 1)) with
    | none => none
    | some k => some ((k, i, 0, 0), if k = 33 ∨ k = 34 then i + 2 else i + 1)
/-- the tokens from a place on -/
def ktks (tp : List Nat) : Nat → Nat → List aK4
  | 0, _ => []
  | r + 1, i => if tp.length ≤ kbl tp (tp.length - i) i then [(37, tp.length, 0, 0)]
    else if r = 0 then [(38, kbl tp (tp.length - i) i, 0, 0)]
    else match ktk tp (kbl tp (tp.length - i) i) with
      | none => [(38, kbl tp (tp.length - i) i, 0, 0)]
      | some q => q.1 :: ktks tp r q.2
theorem kbl_b {tp : List Nat} : ∀ f i, i ≤ kbl tp f i ∧ kbl tp f i ≤ i + f
  | 0, i => ⟨Nat.le_refl _, Nat.le_refl _⟩
  | f + 1, i => by
    have := kbl_b (tp := tp) f (i + 1)
    unfold kbl
    split <;> omega
theorem kwd_b {tp : List Nat} : ∀ f i, i ≤ kwd tp f i ∧ kwd tp f i ≤ i + f
  | 0, i => ⟨Nat.le_refl _, Nat.le_refl _⟩
  | f + 1, i => by
    have := kwd_b (tp := tp) f (i + 1)
    unfold kwd
    split <;> omega
theorem kdg_b {tp : List Nat} : ∀ f i, i ≤ kdg tp f i ∧ kdg tp f i ≤ i + f
  | 0, i => ⟨Nat.le_refl _, Nat.le_refl _⟩
  | f + 1, i => by
    have := kdg_b (tp := tp) f (i + 1)
    unfold kdg
    split <;> omega
theorem bt_end {tp : List Nat} {i : Nat} (h : tp.length ≤ i) : bt tp i = -1 := if_neg (by omega)
theorem bt_in {tp : List Nat} {i : Nat} (h : i < tp.length) : bt tp i = (tp.getD i 0 : Int) := if_pos h
theorem isLD_of {tp : List Nat} {i : Nat} (h : isL (bt tp i) = true ∨ isD (bt tp i) = true) : i < tp.length ∧ isLD (tp.getD i 0) := by
  have hi : i < tp.length := by
    by_cases q : i < tp.length
    · exact q
    · rw [bt_end (by omega)] at h
      rcases h with h | h <;> (have := of_decide_eq_true h; omega)
  refine ⟨hi, ?_⟩
  rw [bt_in hi] at h
  unfold isLD
  rcases h with h | h
  · have := of_decide_eq_true h; omega
  · have := of_decide_eq_true h; omega
theorem kwv_lt {tp : List Nat} {i : Nat} : ∀ n, (∀ k, k < n → isLD (tp.getD (i + k) 0)) → kwv tp i n < 37 ^ n
  | 0, _ => by simp [kwv]
  | n + 1, h => by
    have ih := kwv_lt n fun k hk => h k (by omega)
    have hc := (cd_lt (h n (by omega))).2.2
    show 37 * kwv tp i n + cd _ < _
    rw [Nat.pow_succ]
    omega
theorem kwv_vW {tp : List Nat} {i : Nat} : ∀ n, n ≤ 10 → (∀ k, k < n → isLD (tp.getD (i + k) 0)) → vW (kwv tp i n) ∧ (0 < n → 0 < kwv tp i n)
  | 0, _, _ => ⟨vW_0, fun h => by omega⟩
  | n + 1, hn, h => by
    have ih := kwv_vW n (by omega) fun k hk => h k (by omega)
    have hl := kwv_lt (n + 1) h
    have hc := cd_lt (h n (by omega))
    have hp : 37 ^ (n + 1) ≤ 37 ^ 10 := Nat.pow_le_pow_right (by omega) hn
    have e10 : 37 ^ 10 = 4808584372417849 := by decide
    have e : kwv tp i (n + 1) = 37 * kwv tp i n + cd (tp.getD (i + n) 0) := rfl
    rw [e] at hl ⊢
    exact ⟨vW_s ih.1 (by omega) hc.2.2 (by omega), fun _ => by omega⟩
theorem knv_lt {tp : List Nat} {i : Nat} : ∀ n, (∀ k, k < n → tp.getD (i + k) 0 ≤ 57) → knv tp i n < 10 ^ n
  | 0, _ => by simp [knv]
  | n + 1, h => by
    have ih := knv_lt n fun k hk => h k (by omega)
    have := h n (by omega)
    show 10 * knv tp i n + _ < _
    rw [Nat.pow_succ]
    omega
theorem kwd_mid {tp : List Nat} : ∀ {f i k : Nat}, i ≤ k → k < kwd tp f i → isL (bt tp k) = true ∨ isD (bt tp k) = true
  | 0, i, k, h1, h2 => by
    have : kwd tp 0 i = i := rfl
    omega
  | f + 1, i, k, h1, h2 => by
    unfold kwd at h2
    split at h2
    · rename_i q
      by_cases e : k = i
      · subst e; exact q
      · exact kwd_mid (f := f) (i := i + 1) (by omega) h2
    · omega
theorem kdg_mid {tp : List Nat} : ∀ {f i k : Nat}, i ≤ k → k < kdg tp f i → isD (bt tp k) = true
  | 0, i, k, h1, h2 => by
    have : kdg tp 0 i = i := rfl
    omega
  | f + 1, i, k, h1, h2 => by
    unfold kdg at h2
    split at h2
    · rename_i q
      by_cases e : k = i
      · subst e; exact q
      · exact kdg_mid (f := f) (i := i + 1) (by omega) h2
    · omega
/-- the tokens on the heap -/
def kR (h : jm_H) (x ln : Nat) (T : List aK4) (MK : Nat → Int32) : Prop := ∃ KD PL WD VL, kT h x (Int32.ofNat T.length) (Int32.ofNat ln) KD PL WD VL MK ∧ T.length ≤ 401 ∧ ∀ i, i < T.length → KD i = Int32.ofNat (T.getD i (0, 0, 0, 0)).1 ∧ PL i = Int32.ofNat (T.getD i (0, 0, 0, 0)).2.1 ∧ WD i = nm ((T.getD i (0, 0, 0, 0)).2.2.1 : Nat) ∧ VL i = Int32.ofNat (T.getD i (0, 0, 0, 0)).2.2.2
/-- the tape on the heap -/
def kA (h : jm_H) (x : Nat) (tp : List Nat) : Prop := ∃ TP, aC h (x + 104) 2 2000 TP ∧ tpR tp TP
section TO
variable {h h' : jm_H} {d x ln : Nat} {T : List aK4} {MK : Nat → Int32} {tp : List Nat} {U : Nat → Prop} {sc : Nat × (Nat → Int32)}
theorem kR_tr (H : kR h x ln T MK) (F : jS U h h') (D : ∀ y, U y → jn (x + 105) 7 y → False) : kR h' x ln T MK := by
  obtain ⟨KD, PL, WD, VL, a1, a2⟩ := H
  exact ⟨KD, PL, WD, VL, kT_tr a1 F D, a2⟩
theorem kA_tr (H : kA h x tp) (F : jS U h h') (D : ¬ U (x + 104)) : kA h' x tp := by
  obtain ⟨TP, a1, a2⟩ := H
  exact ⟨TP, aC_tr a1 F D, a2⟩
theorem kR_ob (H : kR h x ln T MK) : jm_ob h (x + 105) 9 = true := by
  obtain ⟨KD, PL, WD, VL, ⟨KW, a1, -⟩, -⟩ := H
  exact oC_ob a1 rfl
theorem kR_8 (H : kR h x ln T MK) : jr_I h (x + 105) 9 8 0 = some (Int32.ofNat ln) := by
  obtain ⟨KD, PL, WD, VL, ⟨KW, a1, -⟩, -⟩ := H
  exact oC_I a1 rfl
theorem kR_401 (H : kR h x ln T MK) : T.length ≤ 401 := by
  obtain ⟨KD, PL, WD, VL, a1, a2, -⟩ := H
  exact a2
theorem k_add {k p w v : Nat} (hl : T.length < 401) (H : kR h x ln T MK) : jF (jm_D (d + 1) mX9_add [.ref (x + 105), .int (Int32.ofNat k), .int (Int32.ofNat p), .long (nm (w : Nat)), .int (Int32.ofNat v)] h) (.inl none) fun h' => jS (jn (x + 105) 7) h h' ∧ kR h' x ln (T ++ [(k, p, w, v)]) (upd MK T.length 0) := by
  obtain ⟨KD, PL, WD, VL, ⟨KW, a1, a2, a3, a4, a5, a6, a7, a8⟩, b1, b2⟩ := H
  refine jE_of (fun r => gX9_add) ?_
  have c0 : ∀ {h1 : jm_H} {cn ln : Int32}, oC h1 (x + 105) 9 [.ref (x + 106), .ref (x + 107), .ref (x + 108), .ref (x + 109), .ref (x + 110), .ref (x + 111), .int cn, .ref (x + 104), .int ln] → jr_I h1 (x + 105) 9 6 0 = some cn := fun z => oC_I z rfl
  obtain ⟨h1, e1, F1, H1⟩ := aC_w (x := Int32.ofNat k) a4 hl (by omega)
  have o1 := oC_tr a1 F1 (by unfold jn; omega)
  obtain ⟨h2, e2, F2, H2⟩ := aC_w (x := Int32.ofNat p) (aC_tr a5 F1 (by unfold jn; omega)) hl (by omega)
  have o2 := oC_tr o1 F2 (by unfold jn; omega)
  obtain ⟨h3, e3, F3, H3⟩ := lC_w (x := nm (w : Nat)) (lC_tr (lC_tr a6 F1 (by unfold jn; omega)) F2 (by unfold jn; omega)) hl (by omega)
  have o3 := oC_tr o2 F3 (by unfold jn; omega)
  obtain ⟨h4, e4, F4, H4⟩ := aC_w (x := Int32.ofNat v) (aC_tr (aC_tr (aC_tr a7 F1 (by unfold jn; omega)) F2 (by unfold jn; omega)) F3 (by unfold jn; omega)) hl (by omega)
  have o4 := oC_tr o3 F4 (by unfold jn; omega)
  obtain ⟨h5, e5, F5, H5⟩ := aC_w (x := 0) (aC_tr (aC_tr (aC_tr (aC_tr a8 F1 (by unfold jn; omega)) F2 (by unfold jn; omega)) F3 (by unfold jn; omega)) F4 (by unfold jn; omega)) hl (by omega)
  have o5 := oC_tr o4 F5 (by unfold jn; omega)
  obtain ⟨h6, e6, F6, H6⟩ := oC_w (k := 6) (t := 0) (v := .int (Int32.ofNat (T.length + 1))) o5 (by simp) rfl
  rw [nar0] at H1 H2 H4 H5
  simp only [c0 a1, oC_R a1 (k := 1) rfl, aC_len a4, e1, oC_R o1 (k := 2) rfl, c0 o1, e2, oC_R o2 (k := 3) rfl, c0 o2, e3, oC_R o3 (k := 4) rfl, c0 o3, e4, oC_R o4 (k := 5) rfl, c0 o4, e5, c0 o5, jw_add1, e6, Option.bind_some]
  rw [if_neg (by rw [jw_neg (by omega)]; exact id), if_pos (by rw [jw_lt (by omega) (by omega)]; omega)]
  have ww : ∀ {a : Nat} {g1 g2 : jm_H}, jS (jn a 1) g1 g2 → x + 105 ≤ a → a < x + 112 → jS (jn (x + 105) 7) g1 g2 := fun F q1 q2 => jS_1 F ⟨q1, by omega⟩
  refine jF_end ⟨jS_tr (ww F1 (by omega) (by omega)) (jS_tr (ww F2 (by omega) (by omega)) (jS_tr (ww F3 (by omega) (by omega)) (jS_tr (ww F4 (by omega) (by omega)) (jS_tr (ww F5 (by omega) (by omega)) (ww F6 (by omega) (by omega)))))), upd KD T.length (Int32.ofNat k), upd PL T.length (Int32.ofNat p), vp_updL WD T.length (nm (w : Nat)), upd VL T.length (Int32.ofNat v), ⟨KW, by rw [List.length_append]; exact H6, ?_, a3, ?_, ?_, ?_, ?_, ?_⟩, by simp; omega, fun i hi => ?_⟩
  · exact lC_tr (lC_tr (lC_tr (lC_tr (lC_tr (lC_tr a2 F1 (by unfold jn; omega)) F2 (by unfold jn; omega)) F3 (by unfold jn; omega)) F4 (by unfold jn; omega)) F5 (by unfold jn; omega)) F6 (by unfold jn; omega)
  · exact aC_tr (aC_tr (aC_tr (aC_tr (aC_tr H1 F2 (by unfold jn; omega)) F3 (by unfold jn; omega)) F4 (by unfold jn; omega)) F5 (by unfold jn; omega)) F6 (by unfold jn; omega)
  · exact aC_tr (aC_tr (aC_tr (aC_tr H2 F3 (by unfold jn; omega)) F4 (by unfold jn; omega)) F5 (by unfold jn; omega)) F6 (by unfold jn; omega)
  · exact lC_tr (lC_tr (lC_tr H3 F4 (by unfold jn; omega)) F5 (by unfold jn; omega)) F6 (by unfold jn; omega)
  · exact aC_tr (aC_tr H4 F5 (by unfold jn; omega)) F6 (by unfold jn; omega)
  · exact aC_tr H5 F6 (by unfold jn; omega)
  · rw [List.length_append] at hi
    by_cases e : i = T.length
    · subst e
      have : (T ++ [(k, p, w, v)]).getD T.length (0, 0, 0, 0) = (k, p, w, v) := by simp
      rw [this]
      exact ⟨if_pos rfl, if_pos rfl, if_pos rfl, if_pos rfl⟩
    · have hi' : i < T.length := by simp at hi; omega
      have : (T ++ [(k, p, w, v)]).getD i (0, 0, 0, 0) = T.getD i (0, 0, 0, 0) := by simp [List.getElem?_append_left hi']
      rw [this]
      obtain ⟨z1, z2, z3, z4⟩ := b2 i hi'
      exact ⟨(if_neg e).trans z1, (if_neg e).trans z2, (if_neg e).trans z3, (if_neg e).trans z4⟩
theorem k_byteAt {i : Nat} (hi : i < 2147483648) (H : kR h x tp.length T MK) (A : kA h x tp) : jm_D (d + 1) mX9_byteAt [.ref (x + 105), .int (Int32.ofNat i)] h = some (.inl (some (.int (Int32.ofInt (bt tp i)))), h) := by
  have h8 := kR_8 H
  obtain ⟨KD, PL, WD, VL, ⟨KW, a1, -⟩, -⟩ := H
  obtain ⟨TP, A1, A2, A3⟩ := A
  apply gX9_byteAt
  simp only [h8, Option.bind_some]
  rw [if_neg (by rw [jw_neg hi]; exact id)]
  by_cases c : i < tp.length
  · rw [if_pos (by rw [jw_lt (by omega) (by omega)]; exact c)]
    simp only [oC_R a1 (k := 7) rfl, aC_len A1, aC_at A1 (show i < 2000 by omega) (by omega), (A3 i c).2, Option.bind_some, bt_in c, jw_in]
    rw [if_pos (by rw [jw_lt (by omega) (by omega)]; omega)]
  · rw [if_neg (by rw [jw_lt (by omega) (by omega)]; exact c), bt_end (by omega)]
    rfl
theorem bt_b (A : kA h x tp) (i : Nat) : -1 ≤ bt tp i ∧ bt tp i < 256 := by
  obtain ⟨TP, A1, A2, A3⟩ := A
  by_cases c : i < tp.length
  · rw [bt_in c]
    have := (A3 i c).1
    omega
  · rw [bt_end (by omega)]
    omega
theorem k_isLetter {b : Int} (h1 : -1 ≤ b) (h2 : b < 256) : jm_D (d + 1) mX9_isLetter [.int (Int32.ofInt b)] h = some (.inl (some (.int (if isL b = true then 1 else 0))), h) := by
  apply gX9_isLetter
  have e97 : (97 : Int32).toInt = 97 := rfl
  have e122 : (122 : Int32).toInt = 122 := rfl
  simp only [Int32.lt_iff_toInt_lt, jw_z (show -2147483648 ≤ b by omega) (show b < 2147483648 by omega), e97, e122]
  unfold isL
  by_cases c1 : b < 97
  · rw [if_pos c1, if_neg (fun z => by have := of_decide_eq_true z; omega)]
  · by_cases c2 : 122 < b
    · rw [if_neg c1, if_pos c2, if_neg (fun z => by have := of_decide_eq_true z; omega)]
    · rw [if_neg c1, if_neg c2, if_pos (decide_eq_true ⟨by omega, by omega⟩)]
theorem k_isDigit {b : Int} (h1 : -1 ≤ b) (h2 : b < 256) : jm_D (d + 1) mX9_isDigit [.int (Int32.ofInt b)] h = some (.inl (some (.int (if isD b = true then 1 else 0))), h) := by
  apply gX9_isDigit
  have e97 : (48 : Int32).toInt = 48 := rfl
  have e122 : (57 : Int32).toInt = 57 := rfl
  simp only [Int32.lt_iff_toInt_lt, jw_z (show -2147483648 ≤ b by omega) (show b < 2147483648 by omega), e97, e122]
  unfold isD
  by_cases c1 : b < 48
  · rw [if_pos c1, if_neg (fun z => by have := of_decide_eq_true z; omega)]
  · by_cases c2 : 57 < b
    · rw [if_neg c1, if_pos c2, if_neg (fun z => by have := of_decide_eq_true z; omega)]
    · rw [if_neg c1, if_neg c2, if_pos (decide_eq_true ⟨by omega, by omega⟩)]
theorem if_0 {c : Prop} [Decidable c] : ((if c then (1 : Int32) else 0) = 0) ↔ ¬ c := by
  by_cases h : c
  · rw [if_pos h]; exact ⟨fun z => absurd z (by decide), fun z => absurd h z⟩
  · rw [if_neg h]; exact ⟨fun _ => h, fun _ => rfl⟩
theorem jw_zL {b : Int} {k : Nat} (h1 : -1 ≤ b) (h2 : b < 256) (hk : k < 2147483648) : (Int32.ofInt b = Int32.ofNat k) ↔ b = (k : Int) := jw_zeq (by omega) (by omega) hk
/-- blanks -/
theorem k_blanks_loop (H : kR h x tp.length T MK) (A : kA h x tp) (hl : tp.length ≤ 2000) : ∀ (f i : Nat) (o1 : Option Value), i + f = tp.length → kX9_behindBlanks_2 (d + 1) (x + 105) o1 (Int32.ofNat i) h = some (.inl (some (.int (Int32.ofNat (kbl tp f i)))), h) := by
  intro f
  induction f with
  | zero =>
    intro i o1 hi
    apply gX9_behindBlanks_2
    simp only [kR_8 H, Option.bind_some]
    rw [if_neg (by rw [jw_lt (by omega) (by omega)]; omega)]
    rfl
  | succ f ih =>
    intro i o1 hi
    have hb := bt_b A i
    apply gX9_behindBlanks_2
    simp only [kR_8 H, Option.bind_some, jm_O_eq (kR_ob H), k_byteAt (show i < 2147483648 by omega) H A, jc_I_eq, show (32 : Int32) = Int32.ofNat 32 from rfl, show (10 : Int32) = Int32.ofNat 10 from rfl, jw_zL hb.1 hb.2 (show 32 < 2147483648 by omega), jw_zL hb.1 hb.2 (show 10 < 2147483648 by omega), jw_add1]
    rw [if_pos (by rw [jw_lt (by omega) (by omega)]; omega)]
    unfold kbl
    by_cases c1 : bt tp i = ((32 : Nat) : Int)
    · rw [if_pos c1, if_pos (show bt tp i = 32 ∨ bt tp i = 10 from Or.inl c1)]
      exact ih (i + 1) _ (by omega)
    · rw [if_neg c1]
      by_cases c2 : bt tp i = ((10 : Nat) : Int)
      · rw [if_pos c2, if_pos (show bt tp i = 32 ∨ bt tp i = 10 from Or.inr c2)]
        exact ih (i + 1) _ (by omega)
      · rw [if_neg c2, if_neg (show ¬ (bt tp i = 32 ∨ bt tp i = 10) from fun z => z.elim c1 c2)]
theorem k_blanks {i : Nat} (H : kR h x tp.length T MK) (A : kA h x tp) (hl : tp.length ≤ 2000) (hi : i ≤ tp.length) : jm_D (d + 2) mX9_behindBlanks [.ref (x + 105), .int (Int32.ofNat i)] h = some (.inl (some (.int (Int32.ofNat (kbl tp (tp.length - i) i)))), h) :=
  gX9_behindBlanks (k_blanks_loop (d := d) H A hl (tp.length - i) i _ (by omega))
/-- the kind of a word -/
theorem kws_at : ∀ i, i < 20 → kws.getD i 0 = kwn i := by decide +kernel
theorem kws_q : ∀ i, i < 20 → kws.getD i 0 < q10 := by decide +kernel
theorem k_kindOf_loop {w : Nat} (hw : w < q10) (H : kR h x ln T MK) : ∀ (f i : Nat), i + f = 20 → kX9_kindOf_2 d (x + 105) (nm (w : Nat)) (Int32.ofNat i) h = some (.inl (some (.int (if 0 ≤ fdx kws w f i then Int32.ofInt (fdx kws w f i) else 35))), h) := by
  obtain ⟨KD, PL, WD, VL, ⟨KW, a1, a2, a3, -⟩, -⟩ := H
  intro f
  induction f with
  | zero =>
    intro i hi
    apply gX9_kindOf_2
    simp only [oC_R a1 (k := 0) rfl, lC_len a2, Option.bind_some]
    rw [if_neg (by rw [jw_lt (by omega) (by omega)]; omega)]
    rfl
  | succ f ih =>
    intro i hi
    have hk := kws_q i (by omega)
    rw [kws_at i (by omega)] at hk
    apply gX9_kindOf_2
    simp only [oC_R a1 (k := 0) rfl, lC_len a2, lC_at a2 (show i < 20 by omega) (by omega), a3 i (by omega), Option.bind_some, lg_0, nm_eqN hk hw, jw_add1]
    rw [if_pos (by rw [jw_lt (by omega) (by omega)]; omega)]
    unfold fdx
    rw [kws_at i (by omega)]
    by_cases c : kwn i = w
    · rw [if_pos c, if_pos c, if_pos (by omega), jw_in]
    · rw [if_neg c, if_neg c]
      exact ih (i + 1) (by omega)
theorem k_kindOf {w : Nat} (hw : w < q10) (H : kR h x ln T MK) : jm_D (d + 1) mX9_kindOf [.ref (x + 105), .long (nm (w : Nat))] h = some (.inl (some (.int (Int32.ofNat (kkw w)))), h) := by
  apply gX9_kindOf
  rw [show (0 : Int32) = Int32.ofNat 0 from rfl, k_kindOf_loop hw H 20 0 (by omega)]
  have e : fdx kws w 20 0 = fd kws w := rfl
  rw [e]
  unfold kkw
  by_cases c : 0 ≤ fd kws w
  · rw [if_pos c, if_pos c, ← jw_in, Int.toNat_of_nonneg c]
  · rw [if_neg c, if_neg c]
    rfl
end TO
/-! ===== LEVEL 3: Tokens, words and numbers and signs ===== -/
section TO
variable {h h' : jm_H} {d x ln : Nat} {T : List aK4} {MK : Nat → Int32} {tp : List Nat} {U : Nat → Prop} {sc : Nat × (Nat → Int32)}
theorem sy_kB : ∀ i, i < 13 → (kB 1).getD i 0 = Int32.ofNat (sy.getD i 0) ∧ sy.getD i 0 < 128 := by decide +kernel
theorem j_ch : ∀ b, b < 256 → UInt32.toInt32 (Int32.toUInt32 (Int32.ofNat b) % 65536) = Int32.ofNat b := by decide +kernel
theorem j_b8 : ∀ b, b < 128 → Int8.toInt32 (Int32.toInt8 (Int32.ofNat b)) = Int32.ofNat b := by decide +kernel
theorem j_b8n : ∀ b, b < 256 → 128 ≤ b → Int8.toInt32 (Int32.toInt8 (Int32.ofNat b)) < 0 := by decide +kernel
theorem fdx_none {l : List Nat} {w : Nat} : ∀ {f i : Nat}, (∀ k, i ≤ k → k < i + f → l.getD k 0 ≠ w) → fdx l w f i = -1
  | 0, i, _ => rfl
  | f + 1, i, h => by
    unfold fdx
    rw [if_neg (h i (Nat.le_refl _) (by omega))]
    exact fdx_none fun k h1 h2 => h k (by omega) (by omega)
theorem j_find_loop {b : Nat} {o1 o2 : Option Value} (hb : b < 256) (hK : kO h sc) : ∀ (f i : Nat), i + f = 13 → kJ1_indexOfChar_4cfef_7 d 41 o1 o2 (Int32.ofNat 13) (Int8.toInt32 (Int32.toInt8 (Int32.ofNat b))) (Int32.ofNat i) h = some (.inl (some (.int (Int32.ofInt (fdx sy b f i)))), h) := by
  have h13 : (kB 1).length = 13 := by rw [kB_1]; rfl
  intro f
  induction f with
  | zero =>
    intro i hi
    apply gJ1_indexOfChar_4cfef_7
    rw [if_neg (by rw [jw_lt (by omega) (by omega)]; omega)]
    rfl
  | succ f ih =>
    intro i hi
    obtain ⟨s1, s2⟩ := sy_kB i (by omega)
    have ea : jm_ali h 41 2 (Int32.ofNat i) = some ((kB 1).getD i 0) := kO_at (k := 1) hK (by omega) (by omega)
    apply gJ1_indexOfChar_4cfef_7
    simp only [ea, Option.bind_some, s1, jw_add1]
    rw [if_pos (by rw [jw_lt (by omega) (by omega)]; omega)]
    unfold fdx
    by_cases c : b < 128
    · rw [j_b8 b c] at ih ⊢
      by_cases q : sy.getD i 0 = b
      · rw [if_pos (by rw [q]), if_pos q, jw_in]
      · rw [if_neg (by rw [jw_eq (by omega) (by omega)]; exact q), if_neg q]
        exact ih (i + 1) (by omega)
    · have := j_b8n b hb (by omega)
      rw [if_neg (fun z => by rw [← z, jw_neg (by omega)] at this; exact this), if_neg (by omega)]
      exact ih (i + 1) (by omega)
theorem j_indexOf {b : Nat} (hb : b < 256) (hK : kO h sc) : jm_D (d + 5) mJ0_indexOf_0f7a4 [.ref 1, .int (Int32.ofNat b)] h = some (.inl (some (.int (Int32.ofInt (fd sy b)))), h) := by
  have h13 : (kB 1).length = 13 := by rw [kB_1]; rfl
  have hl := j_length (d := d + 1) hK (k := 1) (by omega)
  rw [h13] at hl
  have e1 : jm_D (d + 1) mJ1_canEncode_9a6ad [.int (Int32.ofNat b)] h = some (.inl (some (.int 1)), h) := by
    apply gJ1_canEncode_9a6ad
    rw [if_neg (by rw [jw_neg (by omega)]; exact id), if_neg (by rw [show (255 : Int32) = Int32.ofNat 255 from rfl, jw_lt (by omega) (by omega)]; omega)]
  have e2 : jm_D (d + 1) mJ1_indexOfChar_4cfef [.ref 41, .int (Int32.ofNat b), .int (Int32.ofNat 0), .int (Int32.ofNat 13)] h = some (.inl (some (.int (Int32.ofInt (fd sy b)))), h) :=
    gJ1_indexOfChar_4cfef (j_find_loop (d := d) hb hK 13 0 (by omega))
  have hlen : jm_len h 41 = some 13 := by
    have := kO_len (k := 1) hK (by omega)
    rw [h13] at this
    exact this
  have e3 : jm_D (d + 2) mJ1_indexOf_4cfef [.ref 41, .int (Int32.ofNat b), .int 0, .int (Int32.ofNat 13)] h = some (.inl (some (.int (Int32.ofInt (fd sy b)))), h) := by
    apply gJ1_indexOf_4cfef
    rw [e1, jc_I_eq, if_neg (by decide)]
    simp only [hlen, Option.bind_some]
    have z1 : (if (0 : Int32) < 0 then (0 : Int32) else 0) = Int32.ofNat 0 := rfl
    have z2 : (if Int32.ofNat 13 < Int32.ofNat 13 then Int32.ofNat 13 else Int32.ofNat 13) = Int32.ofNat 13 := rfl
    rw [z1, z2, if_pos (by decide), e2, jc_I_eq]
  have e4 : jm_D (d + 4) mJ0_indexOf_7cf53 [.ref 1, .int (Int32.ofNat b), .int 0] h = some (.inl (some (.int (Int32.ofInt (fd sy b)))), h) := by
    have hl' := j_length (d := d + 1) hK (k := 1) (by omega)
    apply gJ0_indexOf_7cf53
    have e5 : jm_D (d + 3) mJ1_indexOf_4cfef [.ref (40 + 1), .int (Int32.ofNat b), .int 0, .int (Int32.ofNat 13)] h = some (.inl (some (.int (Int32.ofInt (fd sy b)))), h) := jm_D_up (d := d + 2) (e := d + 3) (by omega) e3
    simp only [jm_O_eq (kO_ob hK (show 1 < 34 by omega)), j_latin1 hK (show 1 < 34 by omega), jc_I_eq, kO_R hK (show 1 < 34 by omega), Option.bind_some, hl, e5]
    rw [if_neg (by decide)]
  apply gJ0_indexOf_0f7a4
  rw [jm_O_eq (kO_ob hK (show 1 < 34 by omega)), e4, jc_I_eq]
theorem nm0 : nm ((0 : Nat) : Int) = 0 := by decide +kernel
theorem fdx_at {l : List Nat} {x n : Nat} : ∀ {f i : Nat}, fdx l x f i = (n : Int) → l.getD n 0 = x
  | 0, i, h => by
    have : (-1 : Int) = n := h
    omega
  | f + 1, i, h => by
    unfold fdx at h
    split at h
    · rename_i q
      have : i = n := by omega
      rw [← this]; exact q
    · exact fdx_at h
theorem fd_at {l : List Nat} {x n : Nat} (h : fd l x = (n : Int)) : l.getD n 0 = x := fdx_at h
/-- a word -/
theorem k_word_loop {i0 : Nat} (H : kR h x tp.length T MK) (A : kA h x tp) (hl : tp.length ≤ 2000) : ∀ (f i : Nat) (j : Int64), i + f = tp.length → i0 ≤ i → (i - i0 ≤ 10 → j = nm (kwv tp i0 (i - i0) : Nat)) → (∀ k, i0 ≤ k → k < i → isL (bt tp k) = true ∨ isD (bt tp k) = true) →
    ∃ j', (kwd tp f i - i0 ≤ 10 → j' = nm (kwv tp i0 (kwd tp f i - i0) : Nat)) ∧ ∀ r, kX9_readWord_55 (d + 1) (x + 105) (Int32.ofNat i0) j' (Int32.ofNat (kwd tp f i)) h = some r → kX9_readWord_5 (d + 1) (x + 105) (Int32.ofNat i0) j (Int32.ofNat i) h = some r := by
  intro f
  induction f with
  | zero =>
    intro i j hi h0 hj hk
    refine ⟨j, hj, fun r hr => ?_⟩
    apply gX9_readWord_5
    simp only [kR_8 H, Option.bind_some]
    rw [if_neg (by rw [jw_lt (by omega) (by omega)]; omega)]
    exact hr
  | succ f ih =>
    intro i j hi h0 hj hk
    have hb := bt_b A i
    have hil : i < tp.length := by omega
    have ekw : kwd tp (f + 1) i = if isL (bt tp i) = true ∨ isD (bt tp i) = true then kwd tp f (i + 1) else i := rfl
    by_cases c : isL (bt tp i) = true ∨ isD (bt tp i) = true
    · rw [if_pos c] at ekw
      rw [ekw]
      obtain ⟨-, hLD⟩ := isLD_of c
      have go : ∃ j2, jm_D (d + 1) mX10_longer [.long j, .int (Int32.ofInt (bt tp i))] h = some (.inl (some (.long j2)), h) ∧ (i + 1 - i0 ≤ 10 → j2 = nm (kwv tp i0 (i + 1 - i0) : Nat)) := by
        by_cases q : i - i0 ≤ 9
        · have ej := hj (by omega)
          have hlt := kwv_lt (tp := tp) (i := i0) (i - i0) fun k hk2 => (isLD_of (hk (i0 + k) (by omega) (by omega))).2
          have hp : 37 ^ (i - i0) ≤ 37 ^ 9 := Nat.pow_le_pow_right (by omega) q
          have e := w_longer (d := d) (h := h) (n := kwv tp i0 (i - i0)) (b := tp.getD i 0) (by omega) hLD
          rw [← jw_in, ← bt_in hil, ← ej] at e
          refine ⟨_, e, fun _ => ?_⟩
          rw [show i + 1 - i0 = (i - i0) + 1 by omega]
          show _ = nm ((37 * kwv tp i0 (i - i0) + cd (tp.getD (i0 + (i - i0)) 0) : Nat) : Int)
          rw [show i0 + (i - i0) = i by omega]
        · obtain ⟨j2, e⟩ := w_longerAny (d := d) (h := h) (j := j) (x := Int32.ofInt (bt tp i))
          exact ⟨j2, e, fun z => by omega⟩
      obtain ⟨j2, e, hj2⟩ := go
      obtain ⟨j', hj', hr'⟩ := ih (i + 1) j2 (by omega) (by omega) hj2 (fun k h1 h2 => by
        by_cases e : k = i
        · subst e; exact c
        · exact hk k h1 (by omega))
      refine ⟨j', hj', fun r hr => ?_⟩
      apply gX9_readWord_5
      simp only [kR_8 H, Option.bind_some, jm_O_eq (kR_ob H), k_byteAt (show i < 2147483648 by omega) H A, jc_I_eq, k_isLetter hb.1 hb.2, k_isDigit hb.1 hb.2, if_0, jw_add1]
      rw [if_pos (by rw [jw_lt (by omega) (by omega)]; omega)]
      have fin : jc_L (jm_D (d + 1) mX10_longer [.long j, .int (Int32.ofInt (bt tp i))] h) (fun y16 h14 => kX9_readWord_5 (d + 1) (x + 105) (Int32.ofNat i0) y16 (Int32.ofNat (i + 1)) h14) jx = some r := by
        rw [e, jc_L_eq]
        exact hr' r hr
      by_cases c1 : isL (bt tp i) = true
      · rw [if_neg (fun z => z c1)]
        exact fin
      · rw [if_pos c1, if_neg (fun z => z (c.resolve_left c1))]
        exact fin
    · rw [if_neg c] at ekw
      rw [ekw]
      refine ⟨j, hj, fun r hr => ?_⟩
      apply gX9_readWord_5
      simp only [kR_8 H, Option.bind_some, jm_O_eq (kR_ob H), k_byteAt (show i < 2147483648 by omega) H A, jc_I_eq, k_isLetter hb.1 hb.2, k_isDigit hb.1 hb.2, if_0, jw_add1]
      rw [if_pos (by rw [jw_lt (by omega) (by omega)]; omega)]
      rw [if_pos (fun z => c (Or.inl z)), if_pos (fun z => c (Or.inr z))]
      exact hr
/-- what reading a token leaves -/
def kQ (tp : List Nat) (i : Nat) (q : Option (aK4 × Nat)) (x : Nat) (T : List aK4) (MK : Nat → Int32) (h : jm_H) (v : Option Value ⊕ Nat) (h' : jm_H) : Prop := match q with
  | none => v = .inl (some (.int (Int32.ofNat i))) ∧ h' = h
  | some q => v = .inl (some (.int (Int32.ofNat q.2))) ∧ jS (jn (x + 105) 7) h h' ∧ kR h' x tp.length (T ++ [q.1]) (upd MK T.length 0)
theorem k_word {i : Nat} (H : kR h x tp.length T MK) (A : kA h x tp) (hl : tp.length ≤ 2000) (hT : T.length < 401) (hi : i ≤ tp.length) :
    jE (jm_D (d + 2) mX9_readWord [.ref (x + 105), .int (Int32.ofNat i)] h) (kQ tp i (if kwd tp (tp.length - i) i - i ≤ 10 then some ((kkw (kwv tp i (kwd tp (tp.length - i) i - i)), i, kwv tp i (kwd tp (tp.length - i) i - i), 0), kwd tp (tp.length - i) i) else none) x T MK h) := by
  have hb := kwd_b (tp := tp) (tp.length - i) i
  refine jE_of (fun r => gX9_readWord) ?_
  have key : ∀ j', (kwd tp (tp.length - i) i - i ≤ 10 → j' = nm (kwv tp i (kwd tp (tp.length - i) i - i) : Nat)) → jE (kX9_readWord_55 (d + 1) (x + 105) (Int32.ofNat i) j' (Int32.ofNat (kwd tp (tp.length - i) i)) h) (kQ tp i (if kwd tp (tp.length - i) i - i ≤ 10 then some ((kkw (kwv tp i (kwd tp (tp.length - i) i - i)), i, kwv tp i (kwd tp (tp.length - i) i - i), 0), kwd tp (tp.length - i) i) else none) x T MK h) := by
    intro j' hj'
    refine jE_of (fun r => gX9_readWord_55) ?_
    rw [jw_sub (by omega), show (10 : Int32) = Int32.ofNat 10 from rfl]
    by_cases c : kwd tp (tp.length - i) i - i ≤ 10
    · have hv := kwv_vW (tp := tp) (i := i) (kwd tp (tp.length - i) i - i) c fun k hk => (isLD_of (kwd_mid (f := tp.length - i) (i := i) (k := i + k) (by omega) (by omega))).2
      rw [if_neg (by rw [jw_lt (by omega) (by omega)]; omega), if_pos c, hj' c]
      simp only [jm_O_eq (kR_ob H), k_kindOf hv.1.1 H, jc_I_eq]
      rw [show (0 : Int32) = Int32.ofNat 0 from rfl]
      refine jE_V (k_add hT H) ?_
      rintro h1 ⟨F1, H1⟩
      exact jE_end ⟨rfl, F1, H1⟩
    · rw [if_pos (by rw [jw_lt (by omega) (by omega)]; omega), if_neg c]
      exact jE_end ⟨rfl, rfl⟩
  obtain ⟨j1, hj1, hrun⟩ := k_word_loop (d := d) (i0 := i) H A hl (tp.length - i) i 0 (by omega) (Nat.le_refl _) (fun _ => by rw [Nat.sub_self, show kwv tp i 0 = 0 from rfl]; exact nm0.symm) (fun k h1 h2 => by omega)
  exact jE_of hrun (key j1 hj1)
/-- a number -/
theorem k_num_loop {i0 : Nat} (H : kR h x tp.length T MK) (A : kA h x tp) (hl : tp.length ≤ 2000) : ∀ (f i : Nat) (v : Int32), i + f = tp.length → i0 ≤ i → (i - i0 ≤ 6 → v = Int32.ofNat (knv tp i0 (i - i0))) → (∀ k, i0 ≤ k → k < i → isD (bt tp k) = true) →
    ∃ v', (kdg tp f i - i0 ≤ 6 → v' = Int32.ofNat (knv tp i0 (kdg tp f i - i0))) ∧ ∀ r, kX9_readNumber_43 (d + 1) (x + 105) (Int32.ofNat i0) v' (Int32.ofNat (kdg tp f i)) h = some r → kX9_readNumber_4 (d + 1) (x + 105) (Int32.ofNat i0) v (Int32.ofNat i) h = some r := by
  intro f
  induction f with
  | zero =>
    intro i v hi h0 hv hk
    refine ⟨v, hv, fun r hr => ?_⟩
    apply gX9_readNumber_4
    simp only [kR_8 H, Option.bind_some]
    rw [if_neg (by rw [jw_lt (by omega) (by omega)]; omega)]
    exact hr
  | succ f ih =>
    intro i v hi h0 hv hk
    have hb := bt_b A i
    have hil : i < tp.length := by omega
    have ekw : kdg tp (f + 1) i = if isD (bt tp i) = true then kdg tp f (i + 1) else i := rfl
    by_cases c : isD (bt tp i) = true
    · rw [if_pos c] at ekw
      rw [ekw]
      have hd := of_decide_eq_true c
      have hv2 : i + 1 - i0 ≤ 6 → v * 10 + Int32.ofInt (bt tp i) - 48 = Int32.ofNat (knv tp i0 (i + 1 - i0)) := by
        intro q
        have hlt := knv_lt (tp := tp) (i := i0) (i - i0) fun k hk2 => by
          have := of_decide_eq_true (hk (i0 + k) (by omega) (by omega))
          rw [bt_in (by omega)] at this
          omega
        have hp : 10 ^ (i - i0) ≤ 10 ^ 5 := Nat.pow_le_pow_right (by omega) (by omega)
        rw [hv (by omega), bt_in hil, jw_in, show i + 1 - i0 = (i - i0) + 1 by omega]
        rw [bt_in hil] at hd
        show _ = Int32.ofNat (10 * knv tp i0 (i - i0) + (tp.getD (i0 + (i - i0)) 0 - 48))
        rw [show i0 + (i - i0) = i by omega]
        have e1 : Int32.ofNat (knv tp i0 (i - i0)) * 10 + Int32.ofNat (tp.getD i 0) = Int32.ofNat (10 * knv tp i0 (i - i0) + tp.getD i 0) := by
          rw [show (10 : Int32) = Int32.ofNat 10 from rfl, ← Int32.ofNat_mul, ← Int32.ofNat_add, Nat.mul_comm]
        rw [e1, show (48 : Int32) = Int32.ofNat 48 from rfl, jw_sub (by omega)]
        congr 1
        omega
      obtain ⟨v', hv', hr'⟩ := ih (i + 1) (v * 10 + Int32.ofInt (bt tp i) - 48) (by omega) (by omega) hv2 (fun k h1 h2 => by
        by_cases e : k = i
        · subst e; exact c
        · exact hk k h1 (by omega))
      refine ⟨v', hv', fun r hr => ?_⟩
      apply gX9_readNumber_4
      simp only [kR_8 H, Option.bind_some, jm_O_eq (kR_ob H), k_byteAt (show i < 2147483648 by omega) H A, jc_I_eq, k_isDigit hb.1 hb.2, if_0, jw_add1]
      rw [if_pos (by rw [jw_lt (by omega) (by omega)]; omega), if_neg (fun z => z c)]
      exact hr' r hr
    · rw [if_neg c] at ekw
      rw [ekw]
      refine ⟨v, hv, fun r hr => ?_⟩
      apply gX9_readNumber_4
      simp only [kR_8 H, Option.bind_some, jm_O_eq (kR_ob H), k_byteAt (show i < 2147483648 by omega) H A, jc_I_eq, k_isDigit hb.1 hb.2, if_0, jw_add1]
      rw [if_pos (by rw [jw_lt (by omega) (by omega)]; omega), if_pos c]
      exact hr
theorem k_number {i : Nat} (H : kR h x tp.length T MK) (A : kA h x tp) (hl : tp.length ≤ 2000) (hT : T.length < 401) (hi : i ≤ tp.length) :
    jE (jm_D (d + 2) mX9_readNumber [.ref (x + 105), .int (Int32.ofNat i)] h) (kQ tp i (if kdg tp (tp.length - i) i - i ≤ 6 then some ((36, i, 0, knv tp i (kdg tp (tp.length - i) i - i)), kdg tp (tp.length - i) i) else none) x T MK h) := by
  have hb := kdg_b (tp := tp) (tp.length - i) i
  refine jE_of (fun r => gX9_readNumber) ?_
  obtain ⟨v', hv', hrun⟩ := k_num_loop (d := d) (i0 := i) H A hl (tp.length - i) i 0 (by omega) (Nat.le_refl _) (fun _ => by rw [Nat.sub_self]; rfl) (fun k h1 h2 => by omega)
  refine jE_of hrun (jE_of (fun r => gX9_readNumber_43) ?_)
  rw [jw_sub (by omega), show (6 : Int32) = Int32.ofNat 6 from rfl]
  by_cases c : kdg tp (tp.length - i) i - i ≤ 6
  · rw [if_neg (by rw [jw_lt (by omega) (by omega)]; omega), if_pos c, hv' c]
    simp only [jm_O_eq (kR_ob H)]
    rw [show (36 : Int32) = Int32.ofNat 36 from rfl, ← nm0]
    refine jE_V (k_add hT H) ?_
    rintro h1 ⟨F1, H1⟩
    exact jE_end ⟨rfl, F1, H1⟩
  · rw [if_pos (by rw [jw_lt (by omega) (by omega)]; omega), if_neg c]
    exact jE_end ⟨rfl, rfl⟩
/-- a sign -/
theorem k_symbol {i : Nat} (H : kR h x tp.length T MK) (A : kA h x tp) (hl : tp.length ≤ 2000) (hT : T.length < 401) (hi : i < tp.length) (hK : kO h sc) :
    jE (jm_D (d + 6) mX9_readSymbol [.ref (x + 105), .int (Int32.ofNat i)] h) (kQ tp i (match ksy (bt tp i) (bt tp (i + 1)) with
    | none => none
    | some k => some ((k, i, 0, 0), if k = 33 ∨ k = 34 then i + 2 else i + 1)) x T MK h) := by
  have hb := bt_b A i
  have hb1 := bt_b A (i + 1)
  have hbi := bt_in hi
  refine jE_of (fun r => gX9_readSymbol) ?_
  have ei := j_indexOf (d := d) (h := h) (sc := sc) (b := tp.getD i 0) (by omega) hK
  have hf := fd_b (l := sy) (x := tp.getD i 0)
  have hfl : sy.length = 13 := rfl
  have ht : (bt tp i).toNat = tp.getD i 0 := by rw [hbi]; rfl
  have e61 : Int32.ofInt (bt tp (i + 1)) = 61 ↔ bt tp (i + 1) = 61 := jw_zL hb1.1 hb1.2 (show 61 < 2147483648 by omega)
  simp only [jm_O_eq (kR_ob H), k_byteAt (show i < 2147483648 by omega) H A, jc_I_eq, hbi, jw_in, j_ch _ (show tp.getD i 0 < 256 by omega), jm_O_eq (kO_ob hK (show 1 < 34 by omega)), ei, jw_add1, k_byteAt (show i + 1 < 2147483648 by omega) H A]
  unfold ksy
  rw [Int.toNat_natCast]
  by_cases c : 0 ≤ fd sy (tp.getD i 0)
  · obtain ⟨n, hn⟩ : ∃ n : Nat, fd sy (tp.getD i 0) = (n : Int) := ⟨_, (Int.toNat_of_nonneg c).symm⟩
    have hn13 : n < 13 := by omega
    rw [hn, if_pos (show (0 : Int) ≤ (tp.getD i 0 : Int) ∧ (0 : Int) ≤ (n : Int) from ⟨by omega, by omega⟩), if_neg (show ¬ (Int32.ofInt (n : Int) < 0) by rw [jw_in, jw_neg (by omega)]; exact id), jw_in, Int.toNat_natCast]
    have e20 : (20 : Int32) + Int32.ofNat n = Int32.ofNat (20 + n) := by rw [show (20 : Int32) = Int32.ofNat 20 from rfl, ← Int32.ofNat_add]
    rw [e20]
    have hs : n = 10 ↔ tp.getD i 0 = 60 := by
      constructor
      · intro z
        subst z
        have := fd_at (l := sy) (x := tp.getD i 0) (n := 10) hn
        rw [← this]; rfl
      · intro z
        rw [z] at hn
        have : fd sy 60 = (10 : Nat) := by decide
        omega
    have hs2 : n = 11 ↔ tp.getD i 0 = 62 := by
      constructor
      · intro z
        subst z
        have := fd_at (l := sy) (x := tp.getD i 0) (n := 11) hn
        rw [← this]; rfl
      · intro z
        rw [z] at hn
        have : fd sy 62 = (11 : Nat) := by decide
        omega
    have two : ∀ k, k = 33 ∨ k = 34 → ((Int32.ofNat i + 2 : Int32) = Int32.ofNat (if k = 33 ∨ k = 34 then i + 2 else i + 1)) := fun k hk => by
      rw [if_pos hk, show (2 : Int32) = Int32.ofNat 2 from rfl, ← Int32.ofNat_add]
    have one : ∀ r : Option jm_R, jE (jc_V (jm_D (d + 5) mX9_add [.ref (x + 105), .int (Int32.ofNat (20 + n)), .int (Int32.ofNat i), .long 0, .int 0] h) (fun h12 => some (.inl (some (.int (Int32.ofNat (i + 1)))), h12)) jx) (kQ tp i (some ((20 + n, i, 0, 0), i + 1)) x T MK h) := by
      intro _
      rw [← nm0, show (0 : Int32) = Int32.ofNat 0 from rfl]
      refine jE_V (k_add hT H) ?_
      rintro h1 ⟨F1, H1⟩
      exact jE_end ⟨rfl, F1, H1⟩
    have lst : (20 + n) ≠ 33 → (20 + n) ≠ 34 → jE (jc_V (jm_D (d + 5) mX9_add [.ref (x + 105), .int (Int32.ofNat (20 + n)), .int (Int32.ofNat i), .long 0, .int 0] h) (fun h12 => some (.inl (some (.int (Int32.ofNat (i + 1)))), h12)) jx) (kQ tp i (some ((20 + n, i, 0, 0), if 20 + n = 33 ∨ 20 + n = 34 then i + 2 else i + 1)) x T MK h) := by
      intro q1 q2
      rw [if_neg (by omega)]
      exact one none
    by_cases c1 : bt tp (i + 1) = 61
    · rw [if_pos (e61.mpr c1)]
      by_cases c2 : n = 10
      · subst c2
        rw [if_pos (show (Int32.ofNat (20 + 10) = 30) from rfl), if_pos (show bt tp (i + 1) = 61 ∧ (tp.getD i 0 : Int) = 60 from ⟨c1, by omega⟩)]
        refine jE_of (fun r => gX9_readSymbol_47) ?_
        rw [if_pos (show (Int32.ofNat (20 + 10) = 30) from rfl)]
        simp only [jm_O_eq (kR_ob H), two 33 (Or.inl rfl)]
        rw [← nm0, show (0 : Int32) = Int32.ofNat 0 from rfl, show (33 : Int32) = Int32.ofNat 33 from rfl]
        refine jE_V (k_add hT H) ?_
        rintro h1 ⟨F1, H1⟩
        exact jE_end ⟨rfl, F1, H1⟩
      · rw [if_neg (show ¬ (Int32.ofNat (20 + n) = 30) by rw [show (30 : Int32) = Int32.ofNat 30 from rfl, jw_eq (by omega) (by omega)]; omega), if_neg (show ¬ (bt tp (i + 1) = 61 ∧ (tp.getD i 0 : Int) = 60) by omega)]
        by_cases c3 : n = 11
        · subst c3
          rw [if_pos (show (Int32.ofNat (20 + 11) = 31) from rfl), if_pos (show bt tp (i + 1) = 61 ∧ (tp.getD i 0 : Int) = 62 from ⟨c1, by omega⟩)]
          refine jE_of (fun r => gX9_readSymbol_47) ?_
          rw [if_neg (show ¬ (Int32.ofNat (20 + 11) = 30) by decide)]
          simp only [jm_O_eq (kR_ob H), two 34 (Or.inr rfl)]
          rw [← nm0, show (0 : Int32) = Int32.ofNat 0 from rfl, show (34 : Int32) = Int32.ofNat 34 from rfl]
          refine jE_V (k_add hT H) ?_
          rintro h1 ⟨F1, H1⟩
          exact jE_end ⟨rfl, F1, H1⟩
        · rw [if_neg (show ¬ (Int32.ofNat (20 + n) = 31) by rw [show (31 : Int32) = Int32.ofNat 31 from rfl, jw_eq (by omega) (by omega)]; omega), if_neg (show ¬ (bt tp (i + 1) = 61 ∧ (tp.getD i 0 : Int) = 62) by omega)]
          exact lst (by omega) (by omega)
    · rw [if_neg (fun z => c1 (e61.mp z)), if_neg (show ¬ (bt tp (i + 1) = 61 ∧ (tp.getD i 0 : Int) = 60) from fun z => c1 z.1), if_neg (show ¬ (bt tp (i + 1) = 61 ∧ (tp.getD i 0 : Int) = 62) from fun z => c1 z.1)]
      exact lst (by omega) (by omega)
  · rw [if_neg (show ¬ ((0 : Int) ≤ (tp.getD i 0 : Int) ∧ 0 ≤ fd sy (tp.getD i 0)) from fun z => c z.2), show fd sy (tp.getD i 0) = -1 by omega, if_pos (show Int32.ofInt (-1) < 0 by decide)]
    exact jE_end ⟨rfl, rfl⟩
theorem k_token {i : Nat} (H : kR h x tp.length T MK) (A : kA h x tp) (hl : tp.length ≤ 2000) (hT : T.length < 401) (hi : i < tp.length) (hK : kO h sc) :
    jE (jm_D (d + 7) mX9_readToken [.ref (x + 105), .int (Int32.ofNat i)] h) (kQ tp i (ktk tp i) x T MK h) := by
  have hb := bt_b A i
  refine jE_of (fun r => gX9_readToken) ?_
  simp only [jm_O_eq (kR_ob H), k_byteAt (show i < 2147483648 by omega) H A, jc_I_eq, k_isLetter hb.1 hb.2, k_isDigit hb.1 hb.2, if_0]
  unfold ktk
  have fin : ∀ {o : Option jm_R} {q : Option (aK4 × Nat)}, jE o (kQ tp i q x T MK h) → jE (jc_I o (fun x14 h12 => some (.inl (some (.int x14)), h12)) jx) (kQ tp i q x T MK h) := by
    intro o q z
    obtain ⟨v, h', e, z⟩ := z
    have ev : ∃ y, v = .inl (some (.int y)) := by
      unfold kQ at z
      cases q with
      | none => exact ⟨_, z.1⟩
      | some q => exact ⟨_, z.1⟩
    obtain ⟨y, rfl⟩ := ev
    rw [e, jc_I_eq]
    exact jE_end z
  by_cases c1 : isL (bt tp i) = true
  · rw [if_neg (fun z => z c1), if_pos c1]
    exact fin (by
      obtain ⟨v, h', e, z⟩ := k_word (d := d) H A hl hT (Nat.le_of_lt hi)
      exact ⟨v, h', jm_D_up (by omega) e, z⟩)
  · rw [if_pos c1, if_neg c1]
    by_cases c2 : isD (bt tp i) = true
    · rw [if_neg (fun z => z c2), if_pos c2]
      exact fin (by
        obtain ⟨v, h', e, z⟩ := k_number (d := d) H A hl hT (Nat.le_of_lt hi)
        exact ⟨v, h', jm_D_up (by omega) e, z⟩)
    · rw [if_pos c2, if_neg c2]
      exact fin (k_symbol (d := d) H A hl hT hi hK)
end TO
/-! ===== LEVEL 3: Tokens, as they are asked and read ===== -/
def uK (T : List aK4) (i : Nat) : Nat := (T.getD i (37, 0, 0, 0)).1
def uP (T : List aK4) (ln i : Nat) : Nat := if i < T.length then (T.getD i (37, 0, 0, 0)).2.1 else ln
def uW (T : List aK4) (i : Nat) : Nat := (T.getD i (37, 0, 0, 0)).2.2.1
def uV (T : List aK4) (i : Nat) : Nat := (T.getD i (37, 0, 0, 0)).2.2.2
theorem gD {α : Type} {l : List α} {i : Nat} (h : i < l.length) (a b : α) : l.getD i a = l.getD i b := by
  simp only [List.getD, List.getElem?_eq_getElem h, Option.getD_some]
theorem gDn {α : Type} {l : List α} {i : Nat} (h : ¬ i < l.length) (a : α) : l.getD i a = a := by
  simp only [List.getD, List.getElem?_eq_none (Nat.le_of_not_lt h), Option.getD_none]
section TR
variable {h h' : jm_H} {d x ln : Nat} {T : List aK4} {MK : Nat → Int32} {tp : List Nat} {U : Nat → Prop} {sc : Nat × (Nat → Int32)}
theorem k_kindAt {i : Nat} (hi : i < 2147483648) (H : kR h x ln T MK) : jm_D (d + 1) mX9_kindAt [.ref (x + 105), .int (Int32.ofNat i)] h = some (.inl (some (.int (Int32.ofNat (uK T i)))), h) := by
  obtain ⟨KD, PL, WD, VL, ⟨KW, a1, a2, a3, a4, a5, a6, a7, a8⟩, b1, b2⟩ := H
  apply gX9_kindAt
  have e6 : jr_I h (x + 105) 9 6 0 = some (Int32.ofNat T.length) := oC_I a1 rfl
  rw [if_neg (by rw [jw_neg hi]; exact id)]
  simp only [e6, oC_R a1 (k := 1) rfl, aC_len a4, Option.bind_some]
  unfold uK
  by_cases c : i < T.length
  · simp only [aC_at a4 (show i < 401 by omega) (by omega), (b2 i c).1, Option.bind_some]
    rw [if_pos (by rw [jw_lt hi (by omega)]; exact c), if_pos (by rw [jw_lt hi (by omega)]; omega), gD c (37, 0, 0, 0) (0, 0, 0, 0)]
  · rw [if_neg (by rw [jw_lt hi (by omega)]; exact c), gDn c]
    rfl
theorem k_wordAt {i : Nat} (hi : i < 2147483648) (H : kR h x ln T MK) : jm_D (d + 1) mX9_wordAt [.ref (x + 105), .int (Int32.ofNat i)] h = some (.inl (some (.long (nm (uW T i : Nat)))), h) := by
  obtain ⟨KD, PL, WD, VL, ⟨KW, a1, a2, a3, a4, a5, a6, a7, a8⟩, b1, b2⟩ := H
  apply gX9_wordAt
  have e6 : jr_I h (x + 105) 9 6 0 = some (Int32.ofNat T.length) := oC_I a1 rfl
  rw [if_neg (by rw [jw_neg hi]; exact id)]
  simp only [e6, oC_R a1 (k := 3) rfl, lC_len a6, Option.bind_some]
  unfold uW
  by_cases c : i < T.length
  · simp only [lC_at a6 (show i < 401 by omega) (by omega), (b2 i c).2.2.1, Option.bind_some]
    rw [if_pos (by rw [jw_lt hi (by omega)]; exact c), if_pos (by rw [jw_lt hi (by omega)]; omega), gD c (37, 0, 0, 0) (0, 0, 0, 0)]
  · rw [if_neg (by rw [jw_lt hi (by omega)]; exact c), gDn c]
    show some (Sum.inl (some (Value.long 0)), h) = some (Sum.inl (some (Value.long (nm ((0 : Nat) : Int)))), h)
    rw [nm0]
theorem k_valueAt {i : Nat} (hi : i < 2147483648) (H : kR h x ln T MK) : jm_D (d + 1) mX9_valueAt [.ref (x + 105), .int (Int32.ofNat i)] h = some (.inl (some (.int (Int32.ofNat (uV T i)))), h) := by
  obtain ⟨KD, PL, WD, VL, ⟨KW, a1, a2, a3, a4, a5, a6, a7, a8⟩, b1, b2⟩ := H
  apply gX9_valueAt
  have e6 : jr_I h (x + 105) 9 6 0 = some (Int32.ofNat T.length) := oC_I a1 rfl
  rw [if_neg (by rw [jw_neg hi]; exact id)]
  simp only [e6, oC_R a1 (k := 4) rfl, aC_len a7, Option.bind_some]
  unfold uV
  by_cases c : i < T.length
  · simp only [aC_at a7 (show i < 401 by omega) (by omega), (b2 i c).2.2.2, Option.bind_some]
    rw [if_pos (by rw [jw_lt hi (by omega)]; exact c), if_pos (by rw [jw_lt hi (by omega)]; omega), gD c (37, 0, 0, 0) (0, 0, 0, 0)]
  · rw [if_neg (by rw [jw_lt hi (by omega)]; exact c), gDn c]
    rfl
theorem k_placeAt {i : Nat} (hi : i < 2147483648) (H : kR h x ln T MK) : jm_D (d + 1) mX9_placeAt [.ref (x + 105), .int (Int32.ofNat i)] h = some (.inl (some (.int (Int32.ofNat (uP T ln i)))), h) := by
  have e8 := kR_8 H
  obtain ⟨KD, PL, WD, VL, ⟨KW, a1, a2, a3, a4, a5, a6, a7, a8⟩, b1, b2⟩ := H
  apply gX9_placeAt
  have e6 : jr_I h (x + 105) 9 6 0 = some (Int32.ofNat T.length) := oC_I a1 rfl
  rw [if_neg (by rw [jw_neg hi]; exact id)]
  simp only [e6, e8, oC_R a1 (k := 2) rfl, aC_len a5, Option.bind_some]
  unfold uP
  by_cases c : i < T.length
  · simp only [aC_at a5 (show i < 401 by omega) (by omega), (b2 i c).2.1, Option.bind_some]
    rw [if_pos (by rw [jw_lt hi (by omega)]; exact c), if_pos (by rw [jw_lt hi (by omega)]; omega), if_pos c, gD c (37, 0, 0, 0) (0, 0, 0, 0)]
  · rw [if_neg (by rw [jw_lt hi (by omega)]; exact c), if_neg c]
theorem k_markAt {i : Nat} (hi : i < T.length) (H : kR h x ln T MK) : jm_D (d + 1) mX9_markAt [.ref (x + 105), .int (Int32.ofNat i)] h = some (.inl (some (.int (MK i))), h) := by
  obtain ⟨KD, PL, WD, VL, ⟨KW, a1, a2, a3, a4, a5, a6, a7, a8⟩, b1, b2⟩ := H
  apply gX9_markAt
  have e6 : jr_I h (x + 105) 9 6 0 = some (Int32.ofNat T.length) := oC_I a1 rfl
  rw [if_neg (by rw [jw_neg (by omega)]; exact id)]
  simp only [e6, oC_R a1 (k := 5) rfl, aC_len a8, aC_at a8 (show i < 401 by omega) (by omega), Option.bind_some]
  rw [if_pos (by rw [jw_lt (by omega) (by omega)]; exact hi), if_pos (by rw [jw_lt (by omega) (by omega)]; omega)]
theorem k_mark {i : Nat} {v : Int32} (hi : i < T.length) (H : kR h x ln T MK) : jF (jm_D (d + 1) mX9_mark [.ref (x + 105), .int (Int32.ofNat i), .int v] h) (.inl none) fun h' => jS (jn (x + 105) 7) h h' ∧ kR h' x ln T (upd MK i v) := by
  obtain ⟨KD, PL, WD, VL, ⟨KW, a1, a2, a3, a4, a5, a6, a7, a8⟩, b1, b2⟩ := H
  refine jE_of (fun r => gX9_mark) ?_
  have e6 : jr_I h (x + 105) 9 6 0 = some (Int32.ofNat T.length) := oC_I a1 rfl
  obtain ⟨h1, e1, F1, H1⟩ := aC_w (x := v) a8 (show i < 401 by omega) (by omega)
  rw [nar0] at H1
  rw [if_neg (by rw [jw_neg (by omega)]; exact id)]
  simp only [e6, oC_R a1 (k := 5) rfl, aC_len a8, e1, Option.bind_some]
  rw [if_pos (by rw [jw_lt (by omega) (by omega)]; exact hi), if_pos (by rw [jw_lt (by omega) (by omega)]; omega)]
  exact jF_end ⟨jS_1 F1 ⟨by omega, by omega⟩, KD, PL, WD, VL, ⟨KW, oC_tr a1 F1 (by unfold jn; omega), lC_tr a2 F1 (by unfold jn; omega), a3, aC_tr a4 F1 (by unfold jn; omega), aC_tr a5 F1 (by unfold jn; omega), lC_tr a6 F1 (by unfold jn; omega), aC_tr a7 F1 (by unfold jn; omega), H1⟩, b1, b2⟩
/-- all tokens -/
theorem ktk_b {i : Nat} {q : aK4 × Nat} (hi : i < tp.length) (e : ktk tp i = some q) : i < q.2 ∧ q.2 ≤ tp.length := by
  unfold ktk at e
  have hn : tp.length - i = (tp.length - i - 1) + 1 := by omega
  by_cases c1 : isL (bt tp i) = true
  · rw [if_pos c1] at e
    have hw := kwd_b (tp := tp) (tp.length - i - 1) (i + 1)
    have ek : kwd tp (tp.length - i) i = kwd tp (tp.length - i - 1) (i + 1) := by
      rw [hn]
      show (if isL (bt tp i) = true ∨ isD (bt tp i) = true then _ else _) = _
      rw [if_pos (Or.inl c1)]
      rfl
    split at e
    · cases e
      show i < kwd tp (tp.length - i) i ∧ _
      constructor
      · omega
      · show kwd tp (tp.length - i) i ≤ _
        omega
    · cases e
  · rw [if_neg c1] at e
    by_cases c2 : isD (bt tp i) = true
    · rw [if_pos c2] at e
      have hw := kdg_b (tp := tp) (tp.length - i - 1) (i + 1)
      have ek : kdg tp (tp.length - i) i = kdg tp (tp.length - i - 1) (i + 1) := by
        rw [hn]
        show (if isD (bt tp i) = true then _ else _) = _
        rw [if_pos c2]
        rfl
      split at e
      · cases e
        constructor
        · show i < kdg tp (tp.length - i) i
          omega
        · show kdg tp (tp.length - i) i ≤ _
          omega
      · cases e
    · rw [if_neg c2] at e
      unfold ksy at e
      by_cases c : 0 ≤ bt tp i ∧ 0 ≤ fd sy (bt tp i).toNat
      · rw [if_pos c] at e
        have hf := fd_b (l := sy) (x := (bt tp i).toNat)
        have hfl : sy.length = 13 := rfl
        have h61 : bt tp (i + 1) = 61 → i + 1 < tp.length := fun z => by
          by_cases q : i + 1 < tp.length
          · exact q
          · rw [bt_end (by omega)] at z; omega
        by_cases d1 : bt tp (i + 1) = 61 ∧ bt tp i = 60
        · rw [if_pos d1] at e
          cases e
          have := h61 d1.1
          constructor
          · show i < i + 2
            omega
          · show i + 2 ≤ _
            omega
        · rw [if_neg d1] at e
          by_cases d2 : bt tp (i + 1) = 61 ∧ bt tp i = 62
          · rw [if_pos d2] at e
            cases e
            have := h61 d2.1
            constructor
            · show i < i + 2
              omega
            · show i + 2 ≤ _
              omega
          · rw [if_neg d2] at e
            cases e
            constructor
            · show i < if _ then _ else _
              rw [if_neg (by omega)]
              omega
            · show (if _ then _ else _) ≤ _
              rw [if_neg (by omega)]
              omega
      · rw [if_neg c] at e
        cases e
theorem k_read_loop (hK : kO h sc) (A : kA h x tp) (hl : tp.length ≤ 2000) (D1 : 128 ≤ x) : ∀ (r i : Nat) (T : List aK4) (MK : Nat → Int32) (o1 o4 : Option Value) (h : jm_H), kO h sc → kA h x tp → kR h x tp.length T MK → T.length + r = 401 → 0 < r → i ≤ tp.length → (∀ j, j < T.length → MK j = 0) →
    jE (kX9_read_14 (d + 8) (x + 105) o1 (Int32.ofNat i) (Int32.ofNat T.length) o4 h) fun w h' => w = .inl none ∧ jS (jn (x + 105) 7) h h' ∧ ∃ MK', kR h' x tp.length (T ++ ktks tp r i) MK' ∧ ∀ j, j < (T ++ ktks tp r i).length → MK' j = 0 := by
  intro r
  induction r with
  | zero => intro i T MK o1 o4 h _ _ _ _ hr; omega
  | succ r ih =>
    intro i T MK o1 o4 h hK A H hT _ hi hz
    refine jE_of (fun r => gX9_read_14) ?_
    have hb := kbl_b (tp := tp) (tp.length - i) i
    have add : ∀ (k p : Nat) (h1 : jm_H), kR h1 x tp.length T MK → jS (jn (x + 105) 7) h h1 → jE (jc_V (jm_D (d + 8) mX9_add [.ref (x + 105), .int (Int32.ofNat k), .int (Int32.ofNat p), .long 0, .int 0] h1) (fun h21 => some (.inl none, h21)) jx) fun w h' => w = .inl none ∧ jS (jn (x + 105) 7) h h' ∧ ∃ MK', kR h' x tp.length (T ++ [(k, p, 0, 0)]) MK' ∧ ∀ j, j < (T ++ [(k, p, 0, 0)]).length → MK' j = 0 := by
      intro k p h1 H1 F1
      rw [← nm0, show (0 : Int32) = Int32.ofNat 0 from rfl]
      refine jE_V (k_add (by omega) H1) ?_
      rintro h2 ⟨F2, H2⟩
      refine jE_end ⟨rfl, jS_tr F1 F2, _, H2, fun j hj => ?_⟩
      rw [List.length_append] at hj
      have hj' : j < T.length + 1 := hj
      by_cases e : j = T.length
      · exact if_pos e
      · exact (if_neg e).trans (hz j (by omega))
    rw [if_neg (by rw [show (400 : Int32) = Int32.ofNat 400 from rfl, jw_lt (by omega) (by omega)]; omega)]
    simp only [jm_O_eq (kR_ob H), k_blanks (d := d + 6) H A hl hi, jc_I_eq, kR_8 H, Option.bind_some]
    unfold ktks
    by_cases c1 : kbl tp (tp.length - i) i < tp.length
    · rw [if_pos (by rw [jw_lt (by omega) (by omega)]; exact c1), if_neg (show ¬ tp.length ≤ kbl tp (tp.length - i) i by omega)]
      by_cases c2 : r = 0
      · rw [if_pos c2, if_neg (by rw [show (400 : Int32) = Int32.ofNat 400 from rfl, jw_lt (by omega) (by omega)]; omega)]
        refine jE_of (fun r => gX9_read_64) ?_
        rw [if_neg (by rw [jw_lt (by omega) (by omega)]; omega)]
        simp only [jm_O_eq (kR_ob H)]
        exact add 38 _ h H jS_rf
      · rw [if_neg c2, if_pos (by rw [show (400 : Int32) = Int32.ofNat 400 from rfl, jw_lt (by omega) (by omega)]; omega)]
        obtain ⟨v, h1, e1, Q⟩ := k_token (d := d + 1) H A hl (by omega) c1 hK
        rw [e1]
        have hk := @ktk_b tp (kbl tp (tp.length - i) i)
        generalize ktk tp (kbl tp (tp.length - i) i) = q at Q hk ⊢
        cases q with
        | none =>
          obtain ⟨rfl, rfl⟩ := Q
          rw [jc_I_eq]
          refine jE_of (fun r => gX9_read_64) ?_
          rw [if_neg (by rw [jw_lt (by omega) (by omega)]; omega)]
          simp only [jm_O_eq (kR_ob H)]
          exact add 38 _ h1 H jS_rf
        | some q =>
          obtain ⟨rfl, F1, H1⟩ := Q
          rw [jc_I_eq]
          have hq := hk c1 rfl
          refine jE_of (fun r => gX9_read_64) ?_
          rw [if_pos (by rw [jw_lt (by omega) (by omega)]; exact hq.1), jw_add1]
          have el : (T ++ [q.1]).length = T.length + 1 := by simp
          have := ih q.2 (T ++ [q.1]) (upd MK T.length 0) (jm_dm (jm_dm o1)) (some (.int (Int32.ofNat q.2))) h1 (kO_tr hK F1 (fun y hy => by unfold jn at hy; omega)) (kA_tr A F1 (by unfold jn; omega)) H1 (by omega) (by omega) hq.2 (fun j hj => by
            rw [el] at hj
            by_cases e : j = T.length
            · exact if_pos e
            · exact (if_neg e).trans (hz j (by omega)))
          rw [el] at this
          refine jE_mono this ?_
          rintro w h2 ⟨e2, F2, MK2, H2⟩
          refine ⟨e2, jS_tr F1 F2, MK2, ?_⟩
          rw [List.append_assoc] at H2
          exact H2
    · rw [if_neg (by rw [jw_lt (by omega) (by omega)]; exact c1), if_pos (show tp.length ≤ kbl tp (tp.length - i) i by omega)]
      exact add 37 _ h H jS_rf
end TR
