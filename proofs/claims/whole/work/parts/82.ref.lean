/-! ===== LEVEL 3: the reference, tokens ===== -/
/-- the reference's kinds -/
def zki (k : Nat) : Nat := if k ≤ 19 then k else if k ≤ 32 then sy.getD (k - 20) 0 else if k = 33 then 316 else if k = 34 then 318 else if k = 35 then 30 else if k = 36 then 31 else if k = 37 then 33 else 32
theorem zki_inj : ∀ j, j < 39 → ∀ k, k < 39 → (zki j = zki k ↔ j = k) := by decide +kernel
theorem zki_b : ∀ j, j < 39 → zki j < 1000 := by decide +kernel
/-- the arrays of tokens, as far as they are read -/
def zTK (h : jm_H) (b : Nat) (T : List aK4) (KD FR : Nat → Int32) (VL : Nat → Int64) : Prop := aC h (b + 1) 0 401 KD ∧ aC h (b + 2) 0 401 FR ∧ lC h (b + 4) 401 VL ∧ T.length ≤ 401 ∧ ∀ i, i < T.length → KD i = Int32.ofNat (zki (T.getD i (0, 0, 0, 0)).1) ∧ FR i = Int32.ofNat (T.getD i (0, 0, 0, 0)).2.1 ∧ ((T.getD i (0, 0, 0, 0)).1 = 36 → VL i = Int64.ofNat (T.getD i (0, 0, 0, 0)).2.2.2) ∧ ((T.getD i (0, 0, 0, 0)).1 ≤ 19 ∨ (T.getD i (0, 0, 0, 0)).1 = 35 → VL i = Int64.ofNat (T.getD i (0, 0, 0, 0)).2.2.1)
/-- behind a token -/
def zend (tp : List Nat) (i : Nat) : Nat := if isL (bt tp i) = true then kwd tp (tp.length - (i + 1)) (i + 1) else if isD (bt tp i) = true then kdg tp (tp.length - (i + 1)) (i + 1) else if (bt tp i = 60 ∨ bt tp i = 62) ∧ bt tp (i + 1) = 61 then i + 2 else i + 1
/-- fields of the book -/
def zbR (h : jm_H) (b : Nat) : Prop := ∃ ac pc nc oc, oC h b 11 (zbF b ac pc nc oc)
section ZT
variable {h h' h1 h2 : jm_H} {d m a b n t k p q pc idx : Nat} {U V W F : Nat → Prop} {tp : List Nat} {sc : Nat × (Nat → Int32)} {KD FR : Nat → Int32} {VL : Nat → Int64} {T : List aK4}
theorem zbR_z (H : zbR h b) (A : zS m U F h h') (p : b ≠ m) (q : ¬ U b) : zbR h' b := by
  obtain ⟨ac, pc, nc, oc, H⟩ := H
  exact ⟨ac, pc, nc, oc, oC_z H A p q⟩
theorem zbR_0 (H : zbR h b) : jr_R h b 11 0 2 = some (b + 1) := by
  obtain ⟨ac, pc, nc, oc, H⟩ := H
  exact oC_R H rfl
theorem zbR_1 (H : zbR h b) : jr_R h b 11 1 2 = some (b + 2) := by
  obtain ⟨ac, pc, nc, oc, H⟩ := H
  exact oC_R H rfl
theorem zbR_2 (H : zbR h b) : jr_R h b 11 2 2 = some (b + 3) := by
  obtain ⟨ac, pc, nc, oc, H⟩ := H
  exact oC_R H rfl
theorem zbR_3 (H : zbR h b) : jr_R h b 11 3 2 = some (b + 4) := by
  obtain ⟨ac, pc, nc, oc, H⟩ := H
  exact oC_R H rfl
theorem z_byteOf {i : Nat} (hi : i < 2147483648) (hl : tp.length ≤ 2000) (B0 : zB h m) (e2 : jr_I h m 12 2 0 = some (Int32.ofNat tp.length)) (Tq : zTq h m tp) : jm_D (d + 1) mX13_byteOf [.ref m, .int (Int32.ofNat i)] h = some (.inl (some (.int (Int32.ofInt (bt tp i)))), h) := by
  obtain ⟨TP, t1, t2⟩ := Tq
  apply gX13_byteOf
  simp only [e2, Option.bind_some, jw_lt hi (show tp.length < 2147483648 by omega)]
  by_cases c : i < tp.length
  · rw [if_pos c, bt_in c, jw_in]
    simp only [zB_1 B0, Option.bind_some, aC_at t1 (show i < 2000 by omega) (by omega), (t2 i c).1]
  · rw [if_neg c, bt_end (by omega)]
    rfl
theorem bt_bz (Tq : zTq h m tp) (i : Nat) : -1 ≤ bt tp i ∧ bt tp i < 256 := by
  obtain ⟨TP, t1, t2⟩ := Tq
  by_cases c : i < tp.length
  · rw [bt_in c]
    have := (t2 i c).2
    omega
  · rw [bt_end (by omega)]
    omega
theorem z_isSmall {b : Int} (h1 : -1 ≤ b) (h2 : b < 256) : jm_D (d + 1) mX13_isSmall [.int (Int32.ofInt b)] h = some (.inl (some (.int (if isL b = true then 1 else 0))), h) := by
  apply gX13_isSmall
  have e1 : (Int32.ofInt b < 97) ↔ b < 97 := jw_zlt (b := 97) (by omega) (by omega) (by omega)
  have e2 : ((122 : Int32) < Int32.ofInt b) ↔ 122 < b := jw_ltz (b := 122) (by omega) (by omega) (by omega)
  unfold isL
  by_cases c1 : b < 97
  · rw [if_pos (e1.mpr c1), if_neg (fun z => by have := of_decide_eq_true z; omega)]
  · rw [if_neg (fun z => c1 (e1.mp z))]
    by_cases c2 : 122 < b
    · rw [if_pos (e2.mpr c2), if_neg (fun z => by have := of_decide_eq_true z; omega)]
    · rw [if_neg (fun z => c2 (e2.mp z)), if_pos (decide_eq_true (by omega))]
theorem z_isDigit {b : Int} (h1 : -1 ≤ b) (h2 : b < 256) : jm_D (d + 1) mX13_isDigit [.int (Int32.ofInt b)] h = some (.inl (some (.int (if isD b = true then 1 else 0))), h) := by
  apply gX13_isDigit
  have e1 : (Int32.ofInt b < 48) ↔ b < 48 := jw_zlt (b := 48) (by omega) (by omega) (by omega)
  have e2 : ((57 : Int32) < Int32.ofInt b) ↔ 57 < b := jw_ltz (b := 57) (by omega) (by omega) (by omega)
  unfold isD
  by_cases c1 : b < 48
  · rw [if_pos (e1.mpr c1), if_neg (fun z => by have := of_decide_eq_true z; omega)]
  · rw [if_neg (fun z => c1 (e1.mp z))]
    by_cases c2 : 57 < b
    · rw [if_pos (e2.mpr c2), if_neg (fun z => by have := of_decide_eq_true z; omega)]
    · rw [if_neg (fun z => c2 (e2.mp z)), if_pos (decide_eq_true (by omega))]
theorem jw_zL2 {b : Int} {k : Nat} (h1 : -1 ≤ b) (h2 : b < 256) (hk : k < 2147483648) : (Int32.ofInt b = (OfNat.ofNat k : Int32)) ↔ b = (k : Int) := jw_zL h1 h2 hk
theorem isL_b {b : Int} (h : isL b = true) : 97 ≤ b ∧ b ≤ 122 := of_decide_eq_true h
theorem isD_b {b : Int} (h : isD b = true) : 48 ≤ b ∧ b ≤ 57 := of_decide_eq_true h
/-- the last look: a sign of two bytes -/
theorem z_end69 {b0 : Int} {j : Nat} {o1 : Option Value} (h1 : -1 ≤ b0) (h2 : b0 < 256) (hj : j < 1000000) (hl : tp.length ≤ 2000) (B0 : zB h m) (e2 : jr_I h m 12 2 0 = some (Int32.ofNat tp.length)) (Tq : zTq h m tp) : kX13_endOf_69 (d + 1) m o1 (Int32.ofInt b0) (Int32.ofNat j) h = some (.inl (some (.int (Int32.ofNat (if (b0 = 60 ∨ b0 = 62) ∧ bt tp j = 61 then j + 1 else j)))), h) := by
  have hb := bt_bz Tq j
  apply gX13_endOf_69
  have q60 : (Int32.ofInt b0 = 60) ↔ b0 = 60 := jw_zL2 (k := 60) h1 h2 (by omega)
  have q62 : (Int32.ofInt b0 = 62) ↔ b0 = 62 := jw_zL2 (k := 62) h1 h2 (by omega)
  have q61 : (Int32.ofInt (bt tp j) = 61) ↔ bt tp j = 61 := jw_zL2 (k := 61) hb.1 hb.2 (by omega)
  simp only [jm_O_eq (zB_ob B0), z_byteOf (d := d) (i := j) (by omega) hl B0 e2 Tq, jc_I_eq, q60, q62, q61, jw_add1]
  by_cases c1 : b0 = 60
  · rw [if_pos c1]
    by_cases c3 : bt tp j = 61
    · rw [if_pos c3, if_pos ⟨Or.inl c1, c3⟩]
    · rw [if_neg c3, if_neg (fun z => c3 z.2)]
  · rw [if_neg c1]
    by_cases c2 : b0 = 62
    · rw [if_pos c2]
      by_cases c3 : bt tp j = 61
      · rw [if_pos c3, if_pos ⟨Or.inr c2, c3⟩]
      · rw [if_neg c3, if_neg (fun z => c3 z.2)]
    · rw [if_neg c2, if_neg (fun z => z.1.elim c1 c2)]
theorem z_end52 {b0 : Int} {o1 : Option Value} (hb0 : isD b0 = true) (hl : tp.length ≤ 2000) (B0 : zB h m) (e2 : jr_I h m 12 2 0 = some (Int32.ofNat tp.length)) (Tq : zTq h m tp) : ∀ (f j : Nat), j + f = tp.length → kX13_endOf_52 (d + 1) m o1 (Int32.ofInt b0) (Int32.ofNat j) h = some (.inl (some (.int (Int32.ofNat (kdg tp f j)))), h) := by
  have h0 := isD_b hb0
  intro f
  induction f with
  | zero =>
    intro j hj
    have hb := bt_bz Tq j
    apply gX13_endOf_52
    simp only [jm_O_eq (zB_ob B0), z_byteOf (d := d) (i := j) (by omega) hl B0 e2 Tq, jc_I_eq, z_isDigit (d := d) hb.1 hb.2]
    rw [if_neg (show ¬ isD (bt tp j) = true from by rw [bt_end (by omega)]; decide), if_pos rfl, z_end69 (by omega) (by omega) (by omega) hl B0 e2 Tq, if_neg (by omega)]
    rfl
  | succ f ih =>
    intro j hj
    have hb := bt_bz Tq j
    have er : kdg tp (f + 1) j = if isD (bt tp j) = true then kdg tp f (j + 1) else j := rfl
    apply gX13_endOf_52
    simp only [jm_O_eq (zB_ob B0), z_byteOf (d := d) (i := j) (by omega) hl B0 e2 Tq, jc_I_eq, z_isDigit (d := d) hb.1 hb.2, jw_add1]
    rw [er]
    by_cases c : isD (bt tp j) = true
    · rw [if_pos c, if_pos c, if_neg (by decide)]
      exact ih (j + 1) (by omega)
    · rw [if_neg c, if_neg c, if_pos rfl, z_end69 (by omega) (by omega) (by omega) hl B0 e2 Tq, if_neg (by omega)]
theorem z_end17 {b0 : Int} {o1 : Option Value} (hb0 : isL b0 = true) (hl : tp.length ≤ 2000) (B0 : zB h m) (e2 : jr_I h m 12 2 0 = some (Int32.ofNat tp.length)) (Tq : zTq h m tp) : ∀ (f j : Nat), j + f = tp.length → kX13_endOf_17 (d + 1) m o1 (Int32.ofInt b0) (Int32.ofNat j) h = some (.inl (some (.int (Int32.ofNat (kwd tp f j)))), h) := by
  have h0 := isL_b hb0
  have hd0 : ¬ isD b0 = true := fun z => by have := isD_b z; omega
  intro f
  induction f with
  | zero =>
    intro j hj
    have hb := bt_bz Tq j
    apply gX13_endOf_17
    simp only [jm_O_eq (zB_ob B0), z_byteOf (d := d) (i := j) (by omega) hl B0 e2 Tq, jc_I_eq, z_isSmall (d := d) hb.1 hb.2, z_isDigit (d := d) hb.1 hb.2, z_isDigit (d := d) (b := b0) (by omega) (by omega)]
    rw [if_neg (show ¬ isL (bt tp j) = true from by rw [bt_end (by omega)]; decide), if_pos rfl, if_neg (show ¬ isD (bt tp j) = true from by rw [bt_end (by omega)]; decide), if_pos rfl, if_neg hd0, if_pos rfl, z_end69 (by omega) (by omega) (by omega) hl B0 e2 Tq, if_neg (by omega)]
    rfl
  | succ f ih =>
    intro j hj
    have hb := bt_bz Tq j
    have er : kwd tp (f + 1) j = if isL (bt tp j) = true ∨ isD (bt tp j) = true then kwd tp f (j + 1) else j := rfl
    apply gX13_endOf_17
    simp only [jm_O_eq (zB_ob B0), z_byteOf (d := d) (i := j) (by omega) hl B0 e2 Tq, jc_I_eq, z_isSmall (d := d) hb.1 hb.2, z_isDigit (d := d) hb.1 hb.2, z_isDigit (d := d) (b := b0) (by omega) (by omega), jw_add1]
    rw [er]
    by_cases c : isL (bt tp j) = true
    · rw [if_pos c, if_pos (Or.inl c), if_neg (by decide)]
      exact ih (j + 1) (by omega)
    · rw [if_neg c, if_pos rfl]
      by_cases c2 : isD (bt tp j) = true
      · rw [if_pos c2, if_pos (Or.inr c2), if_neg (by decide)]
        exact ih (j + 1) (by omega)
      · rw [if_neg c2, if_neg (show ¬ (isL (bt tp j) = true ∨ isD (bt tp j) = true) from fun z => z.elim c c2), if_pos rfl, if_neg hd0, if_pos rfl, z_end69 (by omega) (by omega) (by omega) hl B0 e2 Tq, if_neg (by omega)]
theorem z_endOf {i : Nat} (hi : i ≤ tp.length) (hl : tp.length ≤ 2000) (B0 : zB h m) (e2 : jr_I h m 12 2 0 = some (Int32.ofNat tp.length)) (Tq : zTq h m tp) : jm_D (d + 2) mX13_endOf [.ref m, .int (Int32.ofNat i)] h = some (.inl (some (.int (Int32.ofNat (zend tp i)))), h) := by
  have hb := bt_bz Tq i
  apply gX13_endOf
  simp only [jm_O_eq (zB_ob B0), z_byteOf (d := d) (i := i) (by omega) hl B0 e2 Tq, jc_I_eq, z_isSmall (d := d) hb.1 hb.2, z_isDigit (d := d) hb.1 hb.2, jw_add1]
  unfold zend
  by_cases c : isL (bt tp i) = true
  · have hil : i < tp.length := (isLD_of (Or.inl c)).1
    rw [if_pos c, if_pos c, if_neg (by decide)]
    exact z_end17 (d := d) c hl B0 e2 Tq (tp.length - (i + 1)) (i + 1) (by omega)
  · rw [if_neg c, if_neg c, if_pos rfl]
    by_cases c2 : isD (bt tp i) = true
    · have hil : i < tp.length := (isLD_of (Or.inr c2)).1
      rw [if_pos c2, if_pos c2, if_neg (by decide)]
      exact z_end52 (d := d) c2 hl B0 e2 Tq (tp.length - (i + 1)) (i + 1) (by omega)
    · rw [if_neg c2, if_neg c2, if_pos rfl, z_end69 hb.1 hb.2 (by omega) hl B0 e2 Tq]
/-! words and numbers -/
theorem z_num_loop {i e : Nat} {o3 : Option Value} (hbm : b = m + 2 ∨ m + 36 ≤ b) (he : e ≤ tp.length) (h6 : e - i ≤ 6) (hd : ∀ k, i ≤ k → k < e → isD (bt tp k) = true) (hidx : idx < 401) (hl : tp.length ≤ 2000) (B0 : zB h m) (RB : zbR h b) (Tq : zTq h m tp) (L : lC h (b + 4) 401 VL) : ∀ (f j : Nat), j + f = e → i ≤ j → jF (kX13_numberAt_6 d m b (Int32.ofNat idx) o3 (Int32.ofNat e) (Int32.ofNat (knv tp i (j - i))) (Int32.ofNat j) h) (.inl (some (.int 31))) fun h' => zS m (fun c => c = b + 4) (fun _ => False) h h' ∧ lC h' (b + 4) 401 (vp_updL VL idx (Int64.ofNat (knv tp i (e - i)))) := by
  have kv : ∀ j, j ≤ e → i ≤ j → knv tp i (j - i) < 10 ^ (j - i) ∧ 10 ^ (j - i) ≤ 10 ^ 6 := fun j h1 h2 => ⟨knv_lt (j - i) (fun k hk => by
    have := hd (i + k) (by omega) (by omega)
    have q := isD_b this
    rw [bt_in (isLD_of (Or.inr this)).1] at q
    omega), Nat.pow_le_pow_right (by omega) (by omega)⟩
  intro f
  induction f with
  | zero =>
    intro j hj hij
    have : j = e := by omega
    subst this
    obtain ⟨k1, k2⟩ := kv j (Nat.le_refl _) hij
    have k3 : (10 : Nat) ^ 6 = 1000000 := by decide
    refine jE_of (fun r => gX13_numberAt_6) ?_
    rw [if_neg (by rw [jw_lt (by omega) (by omega)]; omega), Int32.toInt64_ofNat' (by show (_ : Int) ≤ 2147483647; omega)]
    obtain ⟨h1, e1, F1, L1⟩ := z_asl (m := m) (x := Int64.ofNat (knv tp i (j - i))) L (by omega) hidx (by omega)
    simp only [zbR_3 RB, Option.bind_some, e1]
    exact jF_end ⟨F1, L1⟩
  | succ f ih =>
    intro j hj hij
    obtain ⟨k1, k2⟩ := kv j (by omega) hij
    have k3 : (10 : Nat) ^ 6 = 1000000 := by decide
    have hdj := hd j hij (by omega)
    have hjl : j < tp.length := by omega
    have hq := isD_b hdj
    rw [bt_in hjl] at hq
    have nx := ih (j + 1) (by omega) (by omega)
    have er : knv tp i (j + 1 - i) = 10 * knv tp i (j - i) + (tp.getD j 0 - 48) := by
      rw [show j + 1 - i = (j - i) + 1 by omega]
      show 10 * knv tp i (j - i) + (tp.getD (i + (j - i)) 0 - 48) = _
      rw [show i + (j - i) = j by omega]
    rw [er] at nx
    obtain ⟨TP, t1, t2⟩ := Tq
    refine jE_of (fun r => gX13_numberAt_6) ?_
    rw [if_pos (by rw [jw_lt (by omega) (by omega)]; omega)]
    simp only [zB_1 B0, Option.bind_some, aC_at t1 (show j < 2000 by omega) (by omega), (t2 j hjl).1, jw_add1]
    rw [show (10 : Int32) * Int32.ofNat (knv tp i (j - i)) = Int32.ofNat (10 * knv tp i (j - i)) from (Int32.ofNat_mul 10 _).symm, jw_add, show (48 : Int32) = Int32.ofNat 48 from rfl, jw_sub (by omega), show 10 * knv tp i (j - i) + tp.getD j 0 - 48 = 10 * knv tp i (j - i) + (tp.getD j 0 - 48) by omega]
    exact nx
theorem wd_at : ∀ i, i < 20 → ∃ k, jm_wd[i]? = some k ∧ k < 34 ∧ znf (kB k) 0 = Int64.ofNat (kwn i) := by
  have : ∀ i, i < 20 → ∃ k, k < 34 ∧ jm_wd[i]? = some k ∧ znf (kB k) 0 = Int64.ofNat (kwn i) := by decide +kernel
  intro i hi
  obtain ⟨k, k1, k2, k3⟩ := this i hi
  exact ⟨k, k2, k1, k3⟩
theorem kO_W (H : kO h sc) : jm_len h 80 = some 20 ∧ ∀ i k, i < 20 → jm_wd[i]? = some k → k < 34 → jm_alr h 80 (Int32.ofNat i) = some k := by
  have e : h.2.2 80 = some (.inl (7, (20, .inr (.inr (.inr (.inr fun j => jm_wd[j]?)))))) := by
    rw [H 80 (by omega)]
    unfold jm_kon
    rw [if_neg (by omega), if_neg (by omega), if_pos rfl]
  constructor
  · unfold jm_len
    rw [e]
    rfl
  · intro i k hi hk hk2
    unfold jm_alr
    rw [e]
    simp only [jw_ix hi (show 20 < 2147483648 by omega), jw_n (show i < 2147483648 by omega), hk]
    rw [if_pos ⟨trivial, by omega, by omega⟩, if_pos (Or.inr ⟨by omega, trivial, by omega⟩)]
theorem ln_eqN {a b : Nat} (ha : a < q10) (hb : b < q10) : (lg_cmp (Int64.ofNat a) (Int64.ofNat b) = 0) ↔ a = b := by
  rw [← ln_N, ← ln_N, ln_eq (by rw [Int.natAbs_natCast]; exact ha) (by rw [Int.natAbs_natCast]; exact hb)]
  omega
theorem kws_len : kws.length = 20 := by decide
theorem zki_kkw {w : Nat} : zki (kkw w) = if 0 ≤ fd kws w then (fd kws w).toNat else 30 := by
  have hb := fd_b (l := kws) (x := w)
  rw [kws_len] at hb
  unfold kkw
  by_cases c : 0 ≤ fd kws w
  · rw [if_pos c, if_pos c]
    unfold zki
    rw [if_pos (by omega)]
  · rw [if_neg c, if_neg c]
    rfl
theorem z_word81 {w : Nat} {o0 o1 o2 o3 o4 : Option Value} (hw : w < q10) (H : kO h sc) : ∀ (f i : Nat), i + f = 20 → kX13_wordAt_81 (d + 5) o0 o1 o2 o3 o4 (Int64.ofNat w) (Int32.ofNat i) h = some (.inl (some (.int (Int32.ofNat (if 0 ≤ fdx kws w f i then (fdx kws w f i).toNat else 30)))), h) := by
  obtain ⟨w1, w2⟩ := kO_W H
  intro f
  induction f with
  | zero =>
    intro i hi
    apply gX13_wordAt_81
    rw [w1, Option.bind_some, if_neg (by rw [jw_lt (by omega) (by omega)]; omega)]
    rw [show fdx kws w 0 i = -1 from rfl, if_neg (by omega)]
    rfl
  | succ f ih =>
    intro i hi
    have hi20 : i < 20 := by omega
    obtain ⟨k, k1, k2, k3⟩ := wd_at i hi20
    have er : fdx kws w (f + 1) i = if kws.getD i 0 = w then (i : Int) else fdx kws w f (i + 1) := rfl
    apply gX13_wordAt_81
    rw [w1, Option.bind_some, if_pos (by rw [jw_lt (by omega) (by omega)]; omega), w2 i k hi20 k1 k2, Option.bind_some, z_nameOf (d := d) H k2, jc_L_eq, k3]
    have hq := kws_q i hi20
    rw [kws_at i hi20] at hq
    simp only [ln_eqN hq hw, jw_add1]
    rw [er, kws_at i hi20]
    by_cases c : kwn i = w
    · rw [if_pos c, if_pos c, if_pos (by omega)]
      rfl
    · rw [if_neg c, if_neg c]
      exact ih (i + 1) (by omega)
theorem z_word_loop {i e : Nat} {o3 : Option Value} (hbm : b = m + 2 ∨ m + 36 ≤ b) (hm : 128 ≤ m) (he : e ≤ tp.length) (h10 : e - i ≤ 10) (hd : ∀ k, i ≤ k → k < e → isL (bt tp k) = true ∨ isD (bt tp k) = true) (hidx : idx < 401) (hl : tp.length ≤ 2000) (B0 : zB h m) (RB : zbR h b) (Tq : zTq h m tp) (L : lC h (b + 4) 401 VL) (O : kO h sc) : ∀ (f j : Nat), j + f = e → i ≤ j → jF (kX13_wordAt_6 (d + 5) m b (Int32.ofNat idx) o3 (Int32.ofNat e) (Int64.ofNat (kwv tp i (j - i))) (Int32.ofNat j) h) (.inl (some (.int (Int32.ofNat (zki (kkw (kwv tp i (e - i)))))))) fun h' => zS m (fun c => c = b + 4) (fun _ => False) h h' ∧ lC h' (b + 4) 401 (vp_updL VL idx (Int64.ofNat (kwv tp i (e - i)))) := by
  have hq : ∀ n, n ≤ 10 → (37 : Nat) ^ n ≤ q10 := fun n hn => by rw [q10_p]; exact Nat.pow_le_pow_right (by omega) hn
  have kv : ∀ j, j ≤ e → i ≤ j → kwv tp i (j - i) < 37 ^ (j - i) := fun j h1 h2 => kwv_lt (j - i) fun k hk => (isLD_of (hd (i + k) (by omega) (by omega))).2
  intro f
  induction f with
  | zero =>
    intro j hj hij
    have : j = e := by omega
    subst this
    have k1 := kv j (Nat.le_refl _) hij
    have k2 := hq (j - i) h10
    refine jE_of (fun r => gX13_wordAt_6) ?_
    rw [if_neg (by rw [jw_lt (by omega) (by omega)]; omega)]
    obtain ⟨h1, e1, F1, L1⟩ := z_asl (m := m) (x := Int64.ofNat (kwv tp i (j - i))) L (by omega) hidx (by omega)
    simp only [zbR_3 RB, Option.bind_some, e1]
    have O1 := kO_tr O (zS_jS F1) fun c z => by omega
    have := z_word81 (d := d) (w := kwv tp i (j - i)) (o0 := some (.ref m)) (o1 := some (.ref b)) (o2 := some (.int (Int32.ofNat idx))) (o3 := o3) (o4 := some (.int (Int32.ofNat j))) (by omega) O1 20 0 (by omega)
    rw [zki_kkw]
    unfold fd
    rw [kws_len]
    exact jF_eq this ⟨F1, L1⟩
  | succ f ih =>
    intro j hj hij
    have hdj := hd j hij (by omega)
    have hjl : j < tp.length := by omega
    have hb := bt_bz Tq j
    have nx := ih (j + 1) (by omega) (by omega)
    have er : kwv tp i (j + 1 - i) = 37 * kwv tp i (j - i) + cd (tp.getD j 0) := by
      rw [show j + 1 - i = (j - i) + 1 by omega]
      show 37 * kwv tp i (j - i) + cd (tp.getD (i + (j - i)) 0) = _
      rw [show i + (j - i) = j by omega]
    rw [er, Int64.ofNat_add, Int64.ofNat_mul] at nx
    obtain ⟨TP, t1, t2⟩ := Tq
    have e37 : (37 : Int64) = Int64.ofNat 37 := rfl
    refine jE_of (fun r => gX13_wordAt_6) ?_
    rw [if_pos (by rw [jw_lt (by omega) (by omega)]; omega)]
    have hsm := z_isSmall (d := d + 4) (h := h) hb.1 hb.2
    rw [bt_in hjl, jw_in] at hsm
    simp only [zB_1 B0, Option.bind_some, aC_at t1 (show j < 2000 by omega) (by omega), (t2 j hjl).1, hsm, jc_I_eq, jw_add1]
    have hb256 := (t2 j hjl).2
    by_cases c : isL (bt tp j) = true
    · have q := isL_b c
      rw [bt_in hjl] at c q
      rw [if_pos c, if_neg (by decide)]
      have ec : Int32.toInt64 (Int32.ofNat (tp.getD j 0) - 97 + 1) = Int64.ofNat (cd (tp.getD j 0)) := by
        rw [show (97 : Int32) = Int32.ofNat 97 from rfl, jw_sub (by omega), jw_add1, Int32.toInt64_ofNat' (by show (_ : Int) ≤ 2147483647; omega)]
        unfold cd
        rw [if_pos (by omega)]
        congr 1
        omega
      rw [ec, e37]
      exact nx
    · have q := isD_b (hdj.resolve_left c)
      rw [bt_in hjl] at c q
      rw [if_neg c, if_pos rfl]
      have ec : Int32.toInt64 (Int32.ofNat (tp.getD j 0) - 48 + 27) = Int64.ofNat (cd (tp.getD j 0)) := by
        rw [show (48 : Int32) = Int32.ofNat 48 from rfl, jw_sub (by omega), show (27 : Int32) = Int32.ofNat 27 from rfl, jw_add, Int32.toInt64_ofNat' (by show (_ : Int) ≤ 2147483647; omega)]
        unfold cd
        rw [if_neg (by omega)]
        congr 1
        omega
      rw [ec, e37]
      exact nx
end ZT
