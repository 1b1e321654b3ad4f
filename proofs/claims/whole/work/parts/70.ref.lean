/-! ===== LEVEL 3: the reference, names and renaming ===== -/
theorem zz_d1 : ∀ n, n < 151 → ((9 < Int32.ofNat n / 1) ↔ 9 < n) := by decide +kernel
theorem zz_d2 : ∀ n, n < 151 → ((9 < Int32.ofNat n / (1 * 10)) ↔ 99 < n) := by decide +kernel
theorem zz_d3 : ∀ n, n < 151 → ¬ (9 < Int32.ofNat n / (1 * 10 * 10)) := by decide +kernel
theorem zz_1 : ∀ n, n < 10 → 37 * 26 + 27 + Int32.toInt64 (Int32.ofNat n / 1 - Int32.ofNat n / 1 / 10 * 10) = Int64.ofNat (ry_z n) := by decide +kernel
theorem zz_2 : ∀ n, n < 100 → 9 < n → 37 * (37 * 26 + 27 + Int32.toInt64 (Int32.ofNat n / (1 * 10) - Int32.ofNat n / (1 * 10) / 10 * 10)) + 27 + Int32.toInt64 (Int32.ofNat n / (1 * 10 / 10) - Int32.ofNat n / (1 * 10 / 10) / 10 * 10) = Int64.ofNat (ry_z n) := by decide +kernel
theorem zz_3 : ∀ n, n < 151 → 99 < n → 37 * (37 * (37 * 26 + 27 + Int32.toInt64 (Int32.ofNat n / (1 * 10 * 10) - Int32.ofNat n / (1 * 10 * 10) / 10 * 10)) + 27 + Int32.toInt64 (Int32.ofNat n / (1 * 10 * 10 / 10) - Int32.ofNat n / (1 * 10 * 10 / 10) / 10 * 10)) + 27 + Int32.toInt64 (Int32.ofNat n / (1 * 10 * 10 / 10 / 10) - Int32.ofNat n / (1 * 10 * 10 / 10 / 10) / 10 * 10) = Int64.ofNat (ry_z n) := by decide +kernel
section ZR
variable {h h' h1 h2 : jm_H} {d m a b n t k : Nat} {U V W F G K : Nat → Prop} {l : List Int}
theorem z_zName {n : Nat} (hn : n < 151) : jm_D (d + 1) mX13_zName [.int (Int32.ofNat n)] h = some (.inl (some (.long (Int64.ofInt ((ry_z n : Nat) : Int)))), h) := by
  rw [Int64.ofInt_eq_ofNat]
  apply gX13_zName
  apply gX13_zName_6
  rw [if_neg (by decide)]
  simp only [zz_d1 n hn]
  by_cases c : 9 < n
  · rw [if_pos c]
    apply gX13_zName_6
    rw [if_neg (by decide)]
    simp only [zz_d2 n hn]
    by_cases c2 : 99 < n
    · rw [if_pos c2]
      apply gX13_zName_6
      rw [if_neg (by decide), if_neg (zz_d3 n hn)]
      apply gX13_zName_25
      rw [if_pos (by decide), if_neg (by decide)]
      apply gX13_zName_25
      rw [if_pos (by decide), if_neg (by decide)]
      apply gX13_zName_25
      rw [if_pos (by decide), if_neg (by decide)]
      apply gX13_zName_25
      rw [if_neg (by decide), zz_3 n hn c2]
    · rw [if_neg c2]
      apply gX13_zName_25
      rw [if_pos (by decide), if_neg (by decide)]
      apply gX13_zName_25
      rw [if_pos (by decide), if_neg (by decide)]
      apply gX13_zName_25
      rw [if_neg (by decide), zz_2 n (by omega) c]
  · rw [if_neg c]
    apply gX13_zName_25
    rw [if_pos (by decide), if_neg (by decide)]
    apply gX13_zName_25
    rw [if_neg (by decide), zz_1 n (by omega)]
/-- a name that is open in a part -/
theorem z_open_loop {x : Int} (hl : l.length ≤ 301) (hg : gN l) (hP : ry_P l) (hx : x.natAbs < q10) (hb : b ≤ l.length) (hab : a ≤ b) (H : zK h m l) : ∀ (f i : Nat), i + f = b → kX13_isOpenIn_3 (d + 2) m (Int64.ofInt x) (Int32.ofNat a) (Int32.ofNat b) (Int32.ofNat i) h = some (.inl (some (.int (jp (zx (fun j => l.getD j 0 = x ∧ ry_w l j j < (a : Int)) i b)))), h) := by
  intro f
  induction f with
  | zero =>
    intro i hi
    apply gX13_isOpenIn_3
    rw [if_neg (by rw [jw_lt (by omega) (by omega)]; omega), jp_F (zx_0 (by omega))]
  | succ f ih =>
    intro i hi
    have ih' := ih (i + 1) (by omega)
    have hil : i < l.length := by omega
    apply gX13_isOpenIn_3
    rw [if_pos (by rw [jw_lt (by omega) (by omega)]; omega)]
    simp only [zB_18 H.1, Option.bind_some, zW_at H.2 hil, ln_eq (hg i) hx, jw_add1]
    by_cases c : l.getD i 0 = x
    · rw [if_pos c]
      have hw := ry_w_lt (l := l) (i := i) i
      simp only [z_owner (d := d) H.2.2 (by omega) hg hP hil, jc_I_eq, jw_zlt (show -2147483648 ≤ ry_w l i i by omega) (show ry_w l i i < 2147483648 by omega) (show a < 2147483648 by omega)]
      by_cases c2 : ry_w l i i < (a : Int)
      · rw [if_pos c2, jp_T (zx_T ⟨c, c2⟩ (by omega))]
      · rw [if_neg c2]; exact zx_g ih' (fun z => c2 z.2)
    · rw [if_neg c]; exact zx_g ih' (fun z => c z.1)
theorem zx_on {x : Int} (hab : a ≤ b) : zx (fun j => l.getD j 0 = x ∧ ry_w l j j < (a : Int)) a b ↔ ry_on l a b x = true := by
  rw [ry_on_iff]
  exact Iff.rfl
theorem z_open {x : Int} (hl : l.length ≤ 301) (hg : gN l) (hP : ry_P l) (hx : x.natAbs < q10) (hb : b ≤ l.length) (hab : a ≤ b) (H : zK h m l) : jm_D (d + 3) mX13_isOpenIn [.ref m, .long (Int64.ofInt x), .int (Int32.ofNat a), .int (Int32.ofNat b)] h = some (.inl (some (.int (jp (ry_on l a b x = true)))), h) := by
  apply gX13_isOpenIn
  rw [z_open_loop (d := d) hl hg hP hx hb hab H (b - a) a (by omega), jp_cg (zx_on hab)]
theorem z_named_loop {x : Int} {o3 : Option Value} (hl : l.length ≤ 301) (hg : gN l) (hx : x.natAbs < q10) (hb : b ≤ l.length) (H : zK h m l) : ∀ (f i : Nat), i + f = b → kX13_isNameIn_3 d m (Int64.ofInt x) o3 (Int32.ofNat b) (Int32.ofNat i) h = some (.inl (some (.int (jp (zx (fun j => l.getD j 0 = x ∨ l.getD j 0 = -x) i b)))), h) := by
  intro f
  induction f with
  | zero =>
    intro i hi
    apply gX13_isNameIn_3
    rw [if_neg (by rw [jw_lt (by omega) (by omega)]; omega), jp_F (zx_0 (by omega))]
  | succ f ih =>
    intro i hi
    have ih' := ih (i + 1) (by omega)
    have hil : i < l.length := by omega
    have hx2 : (-x).natAbs < q10 := by rw [Int.natAbs_neg]; exact hx
    apply gX13_isNameIn_3
    rw [if_pos (by rw [jw_lt (by omega) (by omega)]; omega)]
    simp only [zB_18 H.1, Option.bind_some, zW_at H.2 hil, ln_ng, ln_eq (hg i) hx, ln_eq (hg i) hx2, jw_add1]
    by_cases c : l.getD i 0 = x
    · rw [if_pos c, jp_T (zx_T (Or.inl c) (by omega))]
    · rw [if_neg c]
      by_cases c2 : l.getD i 0 = -x
      · rw [if_pos c2, jp_T (zx_T (Or.inr c2) (by omega))]
      · rw [if_neg c2]; exact zx_g ih' (fun z => z.elim c c2)
theorem z_named {x : Int} (hl : l.length ≤ 301) (hg : gN l) (hx : x.natAbs < q10) (hb : b ≤ l.length) (hab : a ≤ b) (H : zK h m l) : jm_D (d + 1) mX13_isNameIn [.ref m, .long (Int64.ofInt x), .int (Int32.ofNat a), .int (Int32.ofNat b)] h = some (.inl (some (.int (jp (ry_nm l x a b = true)))), h) := by
  apply gX13_isNameIn
  rw [z_named_loop (d := d) hl hg hx hb H (b - a) a (by omega), jp_cg (show zx (fun j => l.getD j 0 = x ∨ l.getD j 0 = -x) a b ↔ ry_nm l x a b = true from by rw [ry_nm_iff]; exact Iff.rfl)]
theorem z_has_loop {lo hi : Nat} {tg : Nat → Bool} {o1 : Option Value} (hb : b ≤ hi) (h3 : hi ≤ 301) (H : zB h m) (T : zT h m lo hi tg) : ∀ (f i : Nat), i + f = b → lo ≤ i → kX13_hasTarget_2 d m o1 (Int32.ofNat b) (Int32.ofNat i) h = some (.inl (some (.int (jp (zx (fun j => tg j = true) i b)))), h) := by
  obtain ⟨TG, t1, t2⟩ := T
  intro f
  induction f with
  | zero =>
    intro i hi hlo
    apply gX13_hasTarget_2
    rw [if_neg (by rw [jw_lt (by omega) (by omega)]; omega), jp_F (zx_0 (by omega))]
  | succ f ih =>
    intro i hi hlo
    have ih' := ih (i + 1) (by omega) (by omega)
    apply gX13_hasTarget_2
    rw [if_pos (by rw [jw_lt (by omega) (by omega)]; omega)]
    simp only [zB_22 H, Option.bind_some, aC_at t1 (show i < 301 by omega) (by omega), t2 i hlo (by omega), jw_add1]
    by_cases c : tg i = true
    · rw [if_pos c, if_neg (by decide), jp_T (zx_T c (by omega))]
    · rw [if_neg c, if_pos rfl]; exact zx_g ih' c
theorem z_has {lo hi : Nat} {tg : Nat → Bool} (hb : b ≤ hi) (h3 : hi ≤ 301) (hlo : lo ≤ a) (hab : a ≤ b) (H : zB h m) (T : zT h m lo hi tg) : jm_D (d + 1) mX13_hasTarget [.ref m, .int (Int32.ofNat a), .int (Int32.ofNat b)] h = some (.inl (some (.int (jp (ry_ht tg a b = true)))), h) := by
  apply gX13_hasTarget
  rw [z_has_loop (d := d) hb h3 H T (b - a) a (by omega) hlo, jp_cg (show zx (fun j => tg j = true) a b ↔ ry_ht tg a b = true from by rw [ry_ht_iff]; exact Iff.rfl)]
/-! renaming -/
theorem zq_z {z : Nat} (hz : z < 151) : ((ry_z z : Nat) : Int).natAbs < q10 := ry_z_q hz
theorem rs_gN {z : Nat} {p : Nat → Bool} (hg : gN l) (hz : z < q10) : gN (ry_rs l k z p) := by
  intro i
  rw [ry_rs_at]
  split
  · exact hz
  · exact hg i
/-- an element is set -/
theorem vR_set {i : Nat} {x : Int} (H : vR h a n l) (p : a ≠ m) (hi : i < l.length) (hn : n < 2147483648) : ∃ h', jm_asl h a (Int32.ofNat i) (Int64.ofInt x) = some h' ∧ zS m (fun c => c = a) (fun _ => False) h h' ∧ ∀ l', l'.length = l.length → (∀ j, j < l.length → l'.getD j 0 = if j = i then x else l.getD j 0) → vR h' a n l' := by
  obtain ⟨g, L, hl, hV⟩ := H
  obtain ⟨h', e, F, L'⟩ := z_asl (m := m) (x := Int64.ofInt x) L p (show i < n by omega) hn
  refine ⟨h', e, F, fun l' e1 e2 => ⟨_, L', by omega, fun j hj => ?_⟩⟩
  rw [e2 j (by omega)]
  by_cases c : j = i
  · rw [if_pos c, c]
    exact if_pos rfl
  · rw [if_neg c, ← hV j (by omega)]
    exact if_neg c
theorem z_ren2 {z : Nat} {o2 o3 o4 : Option Value} (hz : z < 151) (hl : l.length ≤ 150) (hg : gN l) (hP : ry_P l) (hk : k < l.length) (hx : l.getD k 0 < 0) : ∀ (f : Nat) (h : jm_H), k + 1 + f ≤ ry_n l k → zK h m (ry_rs l k (ry_z z) (fun i => decide (k + 1 + f ≤ i))) → jF (kX13_rename_56 (d + 2) m (Int32.ofNat k) o2 o3 o4 (Int32.ofNat z) (Int32.ofNat (k + f)) h) (.inl none) fun h' => zS m (fun c => c = m + 27) (fun _ => False) h h' ∧ zK h' m (ry_rn l k (ry_z z)) := by
  have hz0 : 0 < ry_z z := ry_z_pos
  have hne := ry_n_le (l := l) (i := k) (by omega)
  intro f
  induction f with
  | zero =>
    intro h hf H
    refine jE_of (fun r => gX13_rename_56) ?_
    rw [if_neg (by rw [jw_lt (by omega) (by omega)]; omega)]
    simp only [zB_18 H.1, Option.bind_some, z_zName (d := d + 1) hz, jc_L_eq, ln_ng]
    have hk' : k < (ry_rs l k (ry_z z) (fun i => decide (k + 1 + 0 ≤ i))).length := by rw [ry_rs_len]; exact hk
    obtain ⟨h1, e1, F1, V1⟩ := vR_set (m := m) (i := k) (x := -((ry_z z : Nat) : Int)) H.2.2 (by omega) hk' (by omega)
    rw [e1, Option.bind_some]
    refine jF_end ⟨F1, zB_tr H.1 F1 (fun _ z => z.elim), ?_, V1 _ (by rw [ry_rn_len, ry_rs_len]) fun j hj => ?_⟩
    · rw [zS_I F1 id, H.2.1, ry_rn_len, ry_rs_len]
    · rw [ry_rs_len] at hj
      rw [ry_rn_at hk, ry_rs_at]
      by_cases c : j = k
      · rw [if_pos c, if_pos c]
      · rw [if_neg c, if_neg c]
        by_cases c2 : j < l.length ∧ k < j ∧ j < ry_n l k ∧ l.getD j 0 = - l.getD k 0 ∧ ry_w l j j = (k : Int)
        · rw [if_pos c2, if_pos ⟨c2.1, c2.2.1, c2.2.2.1, c2.2.2.2.1, c2.2.2.2.2, decide_eq_true (by omega)⟩]
        · rw [if_neg c2, if_neg (fun z => c2 ⟨z.1, z.2.1, z.2.2.1, z.2.2.2.1, z.2.2.2.2.1⟩)]
  | succ f ih =>
    intro h hf H
    have hs := ry_rs_s (l := l) (k := k) (p := fun i => decide (k + 1 + (f + 1) ≤ i)) hz0 hx
    have hP' := (ry_s_P hs).mp hP
    have hg' := rs_gN (l := l) (k := k) (p := fun i => decide (k + 1 + (f + 1) ≤ i)) hg (ry_z_q hz)
    have hlen : (ry_rs l k (ry_z z) (fun i => decide (k + 1 + (f + 1) ≤ i))).length = l.length := ry_rs_len
    have hil : k + (f + 1) < l.length := by omega
    refine jE_of (fun r => gX13_rename_56) ?_
    rw [if_pos (by rw [jw_lt (by omega) (by omega)]; omega)]
    have hgk : (- (ry_rs l k (ry_z z) (fun i => decide (k + 1 + (f + 1) ≤ i))).getD k 0).natAbs < q10 := by rw [Int.natAbs_neg]; exact hg' k
    have ek : (ry_rs l k (ry_z z) (fun i => decide (k + 1 + (f + 1) ≤ i))).getD k 0 = l.getD k 0 := by rw [ry_rs_at, if_neg (fun z => by omega)]
    have ej : (ry_rs l k (ry_z z) (fun i => decide (k + 1 + (f + 1) ≤ i))).getD (k + (f + 1)) 0 = l.getD (k + (f + 1)) 0 := by rw [ry_rs_at, if_neg (fun z => by have := of_decide_eq_true z.2.2.2.2.2; omega)]
    simp only [zB_18 H.1, Option.bind_some, zW_at H.2 (show k + (f + 1) < _ by rw [hlen]; exact hil), zW_at H.2 (show k < _ by rw [hlen]; exact hk), ln_ng, ln_eq (hg' (k + (f + 1))) hgk]
    rw [ek, ej, show Int32.ofNat (k + (f + 1)) + (-1) = Int32.ofNat (k + f) from jw_m1]
    have stay : ¬ (l.getD (k + (f + 1)) 0 = - l.getD k 0 ∧ ry_w l (k + (f + 1)) (k + (f + 1)) = (k : Int)) → zK h m (ry_rs l k (ry_z z) (fun i => decide (k + 1 + f ≤ i))) := fun q => by
      have e : ry_rs l k (ry_z z) (fun i => decide (k + 1 + f ≤ i)) = ry_rs l k (ry_z z) (fun i => decide (k + 1 + (f + 1) ≤ i)) := by
        unfold ry_rs
        apply List.map_congr_left
        intro i hi
        by_cases c : i = k + (f + 1)
        · rw [if_neg (fun z => q (by rw [← c]; exact ⟨z.2.2.1, z.2.2.2.1⟩)), if_neg (fun z => q (by rw [← c]; exact ⟨z.2.2.1, z.2.2.2.1⟩))]
        · have : decide (k + 1 + f ≤ i) = decide (k + 1 + (f + 1) ≤ i) := by
            rw [decide_eq_decide]; omega
          simp only [this]
      rw [e]
      exact H
    by_cases c : l.getD (k + (f + 1)) 0 = - l.getD k 0
    · rw [if_pos c]
      have ew : ry_w (ry_rs l k (ry_z z) (fun i => decide (k + 1 + (f + 1) ≤ i))) (k + (f + 1)) (k + (f + 1)) = ry_w l (k + (f + 1)) (k + (f + 1)) := ry_rs_w hz0 hx (by omega) (decide_eq_false (by omega))
      have hw := ry_w_lt (l := l) (i := k + (f + 1)) (k + (f + 1))
      simp only [z_owner (d := d) H.2.2 (by omega) hg' hP' (show k + (f + 1) < _ by rw [hlen]; exact hil), jc_I_eq, ew, jw_zeq (show -2147483648 ≤ ry_w l (k + (f + 1)) (k + (f + 1)) by omega) (show ry_w l (k + (f + 1)) (k + (f + 1)) < 2147483648 by omega) (show k < 2147483648 by omega)]
      by_cases c2 : ry_w l (k + (f + 1)) (k + (f + 1)) = (k : Int)
      · rw [if_pos c2]
        simp only [zB_18 H.1, Option.bind_some, z_zName (d := d + 1) hz, jc_L_eq]
        obtain ⟨h1, e1, F1, V1⟩ := vR_set (m := m) (i := k + (f + 1)) (x := ((ry_z z : Nat) : Int)) H.2.2 (by omega) (by rw [hlen]; exact hil) (by omega)
        rw [e1, Option.bind_some]
        have H1 : zK h1 m (ry_rs l k (ry_z z) (fun i => decide (k + 1 + f ≤ i))) := by
          refine ⟨zB_tr H.1 F1 (fun _ z => z.elim), ?_, V1 _ (by rw [ry_rs_len, ry_rs_len]) fun j hj => ?_⟩
          · rw [zS_I F1 id, H.2.1, ry_rs_len, ry_rs_len]
          · rw [hlen] at hj
            rw [ry_rs_at, ry_rs_at]
            by_cases q : j = k + (f + 1)
            · subst q
              rw [if_pos rfl, if_pos ⟨hj, by omega, by omega, c, c2, decide_eq_true (by omega)⟩]
            · rw [if_neg q]
              have : decide (k + 1 + f ≤ j) = decide (k + 1 + (f + 1) ≤ j) := by
                rw [decide_eq_decide]; omega
              simp only [this]
        exact jF_mono (ih h1 (by omega) H1) fun h2 ⟨F2, q⟩ => ⟨zS_tr F1 F2, q⟩
      · rw [if_neg c2]
        exact ih h (by omega) (stay fun z => c2 z.2)
    · rw [if_neg c]
      exact ih h (by omega) (stay fun z => c z.1)
theorem z_ren1 {o6 : Option Value} (hl : l.length ≤ 150) (hg : gN l) (hP : ry_P l) (hk : k < l.length) (hx : l.getD k 0 < 0) (hab : a ≤ b) (hb : b ≤ l.length) (H : zK h m l) : ∀ (f n : Nat), n + f = 151 → (∃ z, n ≤ z ∧ z < n + f ∧ (ry_nm l (ry_z z : Int) (k + 1) (ry_n l k) || ry_on l a b (ry_z z : Int)) = false) → jF (kX13_rename_13 (d + 3) m (Int32.ofNat k) (Int32.ofNat a) (Int32.ofNat b) (Int32.ofNat (ry_n l k)) (Int32.ofNat n) o6 h) (.inl none) fun h' => zS m (fun c => c = m + 27) (fun _ => False) h h' ∧ zK h' m (ry_rn l k (ry_z (ry_fi (fun n => ry_nm l (ry_z n : Int) (k + 1) (ry_n l k) || ry_on l a b (ry_z n : Int)) f n))) := by
  have hne := ry_n_le (l := l) (i := k) (by omega)
  have hne2 := ry_n_lt (l := l) (i := k) hk
  intro f
  induction f with
  | zero =>
    rintro n hn ⟨z, z1, z2, -⟩
    omega
  | succ f ih =>
    intro n hn hex
    have hn1 : n < 151 := by omega
    have er : ry_fi (fun n => ry_nm l (ry_z n : Int) (k + 1) (ry_n l k) || ry_on l a b (ry_z n : Int)) (f + 1) n = if (ry_nm l (ry_z n : Int) (k + 1) (ry_n l k) || ry_on l a b (ry_z n : Int)) = true then ry_fi (fun n => ry_nm l (ry_z n : Int) (k + 1) (ry_n l k) || ry_on l a b (ry_z n : Int)) f (n + 1) else n := rfl
    have nx : (ry_nm l (ry_z n : Int) (k + 1) (ry_n l k) || ry_on l a b (ry_z n : Int)) = true → ∃ z, n + 1 ≤ z ∧ z < n + 1 + f ∧ (ry_nm l (ry_z z : Int) (k + 1) (ry_n l k) || ry_on l a b (ry_z z : Int)) = false := fun q => by
      obtain ⟨z, z1, z2, z3⟩ := hex
      refine ⟨z, ?_, by omega, z3⟩
      by_cases e : z = n
      · rw [e, q] at z3; cases z3
      · omega
    refine jE_of (fun r => gX13_rename_13) ?_
    simp only [z_zName (d := d + 2) hn1, jc_L_eq, jm_O_eq (zB_ob H.1), jw_add1, z_named (d := d + 2) (show l.length ≤ 301 by omega) hg (zq_z hn1) hne (show k + 1 ≤ ry_n l k by omega) H, jc_I_eq]
    by_cases c : ry_nm l (ry_z n : Int) (k + 1) (ry_n l k) = true
    · have q : (ry_nm l (ry_z n : Int) (k + 1) (ry_n l k) || ry_on l a b (ry_z n : Int)) = true := by rw [c]; rfl
      rw [jp_T c, if_neg (by decide), er, if_pos q]
      exact ih (n + 1) (by omega) (nx q)
    · rw [jp_F c, if_pos rfl]
      simp only [z_zName (d := d + 2) hn1, jc_L_eq, jm_O_eq (zB_ob H.1), z_open (d := d) (show l.length ≤ 301 by omega) hg hP (zq_z hn1) hb hab H, jc_I_eq]
      by_cases c2 : ry_on l a b (ry_z n : Int) = true
      · have q : (ry_nm l (ry_z n : Int) (k + 1) (ry_n l k) || ry_on l a b (ry_z n : Int)) = true := by rw [c2]; exact Bool.or_true _
        rw [jp_T c2, if_neg (by decide), er, if_pos q]
        exact ih (n + 1) (by omega) (nx q)
      · have q : ¬ (ry_nm l (ry_z n : Int) (k + 1) (ry_n l k) || ry_on l a b (ry_z n : Int)) = true := by
          rw [Bool.or_eq_true]; exact fun z => z.elim c c2
        rw [jp_F c2, if_pos rfl, er, if_neg q]
        have e : ry_rs l k (ry_z n) (fun i => decide (k + 1 + (ry_n l k - (k + 1)) ≤ i)) = l := by
          apply List.ext_getElem ry_rs_len
          intro i i1 i2
          have := ry_rs_at (l := l) (k := k) (z := ry_z n) (i := i) (p := fun i => decide (k + 1 + (ry_n l k - (k + 1)) ≤ i))
          rw [if_neg (fun z => by have := of_decide_eq_true z.2.2.2.2.2; omega)] at this
          rw [List.getD_eq_getElem?_getD, List.getD_eq_getElem?_getD, List.getElem?_eq_getElem i1, List.getElem?_eq_getElem i2] at this
          exact this
        have := z_ren2 (d := d + 1) (m := m) (o2 := some (.int (Int32.ofNat a))) (o3 := some (.int (Int32.ofNat b))) (o4 := some (.int (Int32.ofNat (ry_n l k)))) hn1 hl hg hP hk hx (ry_n l k - (k + 1)) h (by omega) (by rw [e]; exact H)
        rw [show Int32.ofNat (k + (ry_n l k - (k + 1))) = Int32.ofNat (ry_n l k) - 1 from by
          rw [show (1 : Int32) = Int32.ofNat 1 from rfl, jw_sub (by omega)]
          congr 1
          omega] at this
        exact this
theorem z_rename (hl : l.length ≤ 150) (hg : gN l) (hP : ry_P l) (hk : k < l.length) (hx : l.getD k 0 < 0) (hab : a ≤ b) (hb : b ≤ l.length) (H : zK h m l) : jF (jm_D (d + 4) mX13_rename [.ref m, .int (Int32.ofNat k), .int (Int32.ofNat a), .int (Int32.ofNat b)] h) (.inl none) fun h' => zS m (fun c => c = m + 27) (fun _ => False) h h' ∧ zK h' m (ry_rn l k (ry_z (ry_fz l k a b))) := by
  refine jE_of (fun r => gX13_rename) ?_
  simp only [zB_18 H.1, Option.bind_some, f_end H.2.2 (by omega) hg hP hk, jc_I_eq]
  exact z_ren1 (d := d) hl hg hP hk hx hab hb H 151 0 (by omega) (ry_fz_ex hl)
end ZR
