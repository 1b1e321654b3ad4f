/-! ===== LEVEL 3: the reference, texts ===== -/
/-- the letters of a name from the highest on -/
def zd (n : Nat) : Nat → List Nat
  | 0 => []
  | k + 1 => ltr (n / 37 ^ k % 37) :: zd n k
theorem zd_s {n : Nat} : ∀ k, zd n (k + 1) = zd (n / 37) k ++ [ltr (n % 37)]
  | 0 => by
    show [ltr (n / 37 ^ 0 % 37)] = [ltr (n % 37)]
    rw [Nat.pow_zero, Nat.div_one]
  | k + 1 => by
    have ih := zd_s (n := n) k
    show ltr (n / 37 ^ (k + 1) % 37) :: zd n (k + 1) = (ltr (n / 37 / 37 ^ k % 37) :: zd (n / 37) k) ++ [ltr (n % 37)]
    rw [ih, Nat.div_div_eq_div_mul, Nat.pow_succ, Nat.mul_comm 37]
    rfl
theorem zd_lets : ∀ (k n : Nat), 37 ^ k ≤ n → n < 37 ^ (k + 1) → lets n = zd n (k + 1)
  | 0, n, h1, h2 => by
    rw [zd_s, lets_s (by omega)]
    have : n / 37 = 0 := by omega
    rw [this, lets_0]
    rfl
  | k + 1, n, h1, h2 => by
    have hp : 0 < 37 ^ (k + 1) := Nat.pow_pos (by omega)
    rw [zd_s, lets_s (by omega), zd_lets k (n / 37) (by rw [Nat.le_div_iff_mul_le (by omega), ← Nat.pow_succ]; exact h1) (Nat.div_lt_of_lt_mul (by rw [Nat.mul_comm, ← Nat.pow_succ]; exact h2))]
theorem zd_ex : ∀ (f n : Nat), 0 < n → n < 37 ^ (f + 1) → ∃ k, k ≤ f ∧ 37 ^ k ≤ n ∧ n < 37 ^ (k + 1)
  | 0, n, h1, h2 => ⟨0, Nat.le_refl _, by omega, h2⟩
  | f + 1, n, h1, h2 => by
    by_cases c : n < 37 ^ (f + 1)
    · obtain ⟨k, k1, k2⟩ := zd_ex f n h1 c
      exact ⟨k, by omega, k2⟩
    · exact ⟨f + 1, Nat.le_refl _, by omega, h2⟩
theorem ln_lN {a b : Nat} (ha : a < q10) (hb : b < q10) : (lg_cmp (Int64.ofNat a) (Int64.ofNat b) < 0) ↔ a < b := by
  have e : (Int64.ofNat a > Int64.ofNat b) ↔ b < a := by
    show Int64.ofNat b < Int64.ofNat a ↔ _
    rw [Int64.lt_iff_toInt_lt, ← ln_N, ← ln_N, ln_z (by rw [Int.natAbs_natCast]; exact hb), ln_z (by rw [Int.natAbs_natCast]; exact ha)]
    omega
  have e2 : (Int64.ofNat a = Int64.ofNat b) ↔ a = b := by
    rw [← ln_N, ← ln_N, ← lg_0, ln_eq (by rw [Int.natAbs_natCast]; exact ha) (by rw [Int.natAbs_natCast]; exact hb)]
    omega
  unfold lg_cmp
  by_cases c : b < a
  · rw [if_pos (e.mpr c)]
    exact ⟨fun z => absurd z (by decide), fun z => by omega⟩
  · rw [if_neg (fun z => c (e.mp z))]
    by_cases c2 : a = b
    · rw [if_pos (e2.mpr c2)]
      exact ⟨fun z => absurd z (by decide), fun z => by omega⟩
    · rw [if_neg (fun z => c2 (e2.mp z))]
      exact ⟨fun _ => by omega, fun _ => by decide⟩
/-- the text that is written -/
def zX (h : jm_H) (m : Nat) (t : List Nat) : Prop := jr_I h m 12 24 0 = some (Int32.ofNat t.length) ∧ ∃ LT, aC h (m + 31) 0 4000 LT ∧ ∀ i, i < t.length → LT i = Int32.ofNat (t.getD i 0)
section ZX
variable {h h' h1 h2 : jm_H} {d m a b n t k p q pc : Nat} {U V W F G K : Nat → Prop} {l u : List Int} {S : aS} {w : List Nat} {sc : Nat × (Nat → Int32)}
theorem zX_z (H : zX h m w) (A : zS m U F h h') (p : ¬ U (m + 31)) (q : ¬ F 24) : zX h' m w := by
  obtain ⟨a1, LT, a2, a3⟩ := H
  exact ⟨(zS_I A q).trans a1, LT, aC_z a2 A (by omega) p, a3⟩
def zXU (m c : Nat) : Prop := c = m + 31
theorem z_write {c : Nat} (B : zB h m) (hl : w.length < 4000) (H : zX h m w) : jF (jm_D (d + 1) mX13_write [.ref m, .int (Int32.ofNat c)] h) (.inl none) fun h' => zS m (zXU m) (fun k => k = 24) h h' ∧ zX h' m (w ++ [c]) := by
  refine jE_of (fun r => gX13_write) ?_
  obtain ⟨a1, LT, a2, a3⟩ := H
  simp only [zB_23 B, Option.bind_some, a1]
  obtain ⟨h1, e1, F1, A1⟩ := z_asi (m := m) (i := w.length) (x := Int32.ofNat c) a2 (by omega) (by omega) (by omega)
  rw [nar0] at A1
  have B1 := zB_tr B F1 (fun k z => z.elim)
  simp only [e1, Option.bind_some, (zS_I F1 id).trans a1, jw_add1]
  obtain ⟨h2, e2, F2, q2⟩ := z_pfI (Int32.ofNat (w.length + 1)) B1 (show 24 < 31 by omega)
  rw [e2, Option.bind_some]
  refine jF_end ⟨zS_2 F1 F2 (fun c z => z) (fun c z => z.elim) (fun k z => z.elim) (fun k z => z), by rw [q2, List.length_append, List.length_singleton], _, aC_z A1 F2 (by omega) id, fun i hi => ?_⟩
  rw [List.length_append, List.length_singleton] at hi
  by_cases e : i = w.length
  · subst e
    rw [show upd LT w.length (Int32.ofNat c) w.length = Int32.ofNat c from if_pos rfl, List.getD_eq_getElem?_getD, List.getElem?_append_right (Nat.le_refl _), Nat.sub_self]
    rfl
  · rw [show upd LT w.length (Int32.ofNat c) i = LT i from if_neg e, List.getD_eq_getElem?_getD, List.getElem?_append_left (by omega), ← List.getD_eq_getElem?_getD]
    exact a3 i (by omega)
theorem z_name2 {n : Nat} {o3 o4 o7 : Option Value} (hn : n < q10) : ∀ (f : Nat) (w : List Nat) (h : jm_H) (o4 o7 : Option Value), f ≤ 10 → zB h m → w.length + f ≤ 4000 → zX h m w → jF (kX13_writeName_24 (d + 1) m (Int64.ofNat n) o3 o4 (if f = 0 then 0 else Int64.ofNat (37 ^ (f - 1))) o7 h) (.inl none) fun h' => zS m (zXU m) (fun k => k = 24) h h' ∧ zX h' m (w ++ zd n f) := by
  intro f
  induction f with
  | zero =>
    intro w h o4 o7 hf B hw H
    refine jE_of (fun r => gX13_writeName_24) ?_
    rw [if_pos rfl, if_neg (by decide)]
    rw [show zd n 0 = [] from rfl, List.append_nil]
    exact jF_end ⟨zS_rf, H⟩
  | succ f ih =>
    intro w h o4 o7 hf B hw H
    have hp : 37 ^ f ≤ 37 ^ 9 := Nat.pow_le_pow_right (by omega) (by omega)
    have hq : 37 ^ 9 < q10 := by decide
    have hp0 : 0 < 37 ^ f := Nat.pow_pos (by omega)
    refine jE_of (fun r => gX13_writeName_24) ?_
    rw [if_neg (show ¬ (f + 1 = 0) by omega), Nat.add_sub_cancel]
    have h0 : ¬ Int64.ofNat (37 ^ f) = 0 := fun z => by
      have := (ln_pN (show 37 ^ f < q10 by omega)).mpr hp0
      rw [z] at this
      exact absurd this (by decide)
    simp only [ln_pN (show 37 ^ f < q10 by omega)]
    rw [if_pos hp0, if_neg h0, ln_div hn (by omega)]
    have ed : n / 37 ^ f < q10 := Nat.lt_of_le_of_lt (Nat.div_le_self _ _) hn
    have e37 : (37 : Int64) = Int64.ofNat 37 := rfl
    have el : Int64.toInt32 (Int64.ofNat (n / 37 ^ f) - Int64.ofNat (n / 37 ^ f) / 37 * 37) = Int32.ofNat (n / 37 ^ f % 37) := by
      rw [e37, ln_div ed (by decide), ← Int64.ofNat_mul, ← Int64.ofNat_sub _ _ (Nat.div_mul_le_self _ _), Int64.toInt32_ofNat']
      congr 1
      have := Nat.div_add_mod (n / 37 ^ f) 37
      omega
    rw [el, e37, ln_div (show 37 ^ f < q10 by omega) (by decide)]
    have ew : Int64.ofNat (37 ^ f / 37) = (if f = 0 then 0 else Int64.ofNat (37 ^ (f - 1))) := by
      cases f with
      | zero => rfl
      | succ g =>
        rw [if_neg (by omega), Nat.add_sub_cancel, Nat.pow_succ, Nat.mul_div_cancel _ (by omega)]
    rw [ew]
    have hm : n / 37 ^ f % 37 < 37 := Nat.mod_lt _ (by omega)
    have er : zd n (f + 1) = ltr (n / 37 ^ f % 37) :: zd n f := rfl
    have go : ∀ c, c = ltr (n / 37 ^ f % 37) → jF (jc_V (jm_D (d + 1) mX13_write [.ref m, .int (Int32.ofNat c)] h) (fun h6 => kX13_writeName_24 (d + 1) m (Int64.ofNat n) o3 (jm_dm o4) (if f = 0 then 0 else Int64.ofNat (37 ^ (f - 1))) (some (.int (Int32.ofNat (n / 37 ^ f % 37)))) h6) jx) (.inl none) fun h' => zS m (zXU m) (fun k => k = 24) h h' ∧ zX h' m (w ++ zd n (f + 1)) := by
      intro c hc
      refine jE_V (z_write (d := d) B (by omega) H) ?_
      rintro h1 ⟨F1, H1⟩
      have := ih (w ++ [c]) h1 (jm_dm o4) (some (.int (Int32.ofNat (n / 37 ^ f % 37)))) (by omega) (zB_tr B F1 (fun k z => by rw [z]; rfl)) (by rw [List.length_append, List.length_singleton]; omega) H1
      refine jF_mono this fun h2 ⟨F2, H2⟩ => ⟨zS_tr F1 F2, ?_⟩
      rw [er, ← hc]
      rw [List.append_assoc] at H2
      exact H2
    simp only [jm_O_eq (zB_ob B)]
    have e27 : (Int32.ofNat (n / 37 ^ f % 37) < 27) ↔ n / 37 ^ f % 37 < 27 := jw_ltL (b := 27) (by omega) (by omega)
    by_cases c : n / 37 ^ f % 37 < 27
    · rw [if_pos (e27.mpr c), show (96 : Int32) = Int32.ofNat 96 from rfl, jw_add]
      exact go _ (by unfold ltr; rw [if_pos c])
    · rw [if_neg (fun z => c (e27.mp z)), show (21 : Int32) = Int32.ofNat 21 from rfl, jw_add]
      exact go _ (by unfold ltr; rw [if_neg c])
theorem z_name1 {n K : Nat} (hn : n < q10) (k1 : K ≤ 9) (k2 : 37 ^ K ≤ n) (k3 : n < 37 ^ (K + 1)) (B : zB h m) (hw : w.length + 10 ≤ 4000) (H : zX h m w) : ∀ (f j : Nat) (o5 o6 o7 : Option Value), j + f = K → jF (kX13_writeName_2 (d + 1) m (Int64.ofNat n) (Int64.ofNat (37 ^ j)) o5 o6 o7 h) (.inl none) fun h' => zS m (zXU m) (fun k => k = 24) h h' ∧ zX h' m (w ++ lets n) := by
  intro f
  induction f with
  | zero =>
    intro j o5 o6 o7 hj
    have hp : 37 ^ j ≤ 37 ^ 9 := Nat.pow_le_pow_right (by omega) (by omega)
    have hq : 37 ^ 9 < q10 := by decide
    have hp0 : 0 < 37 ^ j := Nat.pow_pos (by omega)
    have : j = K := by omega
    subst this
    refine jE_of (fun r => gX13_writeName_2) ?_
    have h0 : ¬ Int64.ofNat (37 ^ j) = 0 := fun z => by
      have := (ln_pN (show 37 ^ j < q10 by omega)).mpr hp0
      rw [z] at this
      exact absurd this (by decide)
    rw [if_neg h0, ln_div hn (by omega)]
    have hd : n / 37 ^ j < 37 := Nat.div_lt_of_lt_mul (by rw [Nat.pow_succ] at k3; exact k3)
    rw [show (37 : Int64) = Int64.ofNat 37 from rfl, if_pos ((ln_lN (by have : 37 < q10 := by decide
                                                                        omega) (by decide)).mpr hd)]
    have := z_name2 (d := d) (m := m) (n := n) (o3 := some (.long (Int64.ofNat (37 ^ j)))) (o4 := none) (o7 := o7) hn (j + 1) w h none o7 (by omega) B (by omega) H
    rw [if_neg (by omega), Nat.add_sub_cancel, ← zd_lets j n k2 k3] at this
    exact this
  | succ f ih =>
    intro j o5 o6 o7 hj
    have hp : 37 ^ (j + 1) ≤ 37 ^ 9 := Nat.pow_le_pow_right (by omega) (by omega)
    have hq : 37 ^ 9 < q10 := by decide
    have hp0 : 0 < 37 ^ j := Nat.pow_pos (by omega)
    have hp1 : 37 ^ (j + 1) ≤ 37 ^ K := Nat.pow_le_pow_right (by omega) (by omega)
    have ep : 37 ^ (j + 1) = 37 ^ j * 37 := Nat.pow_succ ..
    refine jE_of (fun r => gX13_writeName_2) ?_
    have h0 : ¬ Int64.ofNat (37 ^ j) = 0 := fun z => by
      have := (ln_pN (show 37 ^ j < q10 by omega)).mpr hp0
      rw [z] at this
      exact absurd this (by decide)
    rw [if_neg h0, ln_div hn (by omega)]
    have hd : ¬ n / 37 ^ j < 37 := by
      have : 37 ≤ n / 37 ^ j := by
        rw [Nat.le_div_iff_mul_le hp0, Nat.mul_comm]
        omega
      omega
    have hb : n / 37 ^ j < q10 := Nat.lt_of_le_of_lt (Nat.div_le_self _ _) hn
    rw [show (37 : Int64) = Int64.ofNat 37 from rfl, if_neg (fun z => hd ((ln_lN hb (by decide)).mp z)), ← Int64.ofNat_mul, ← ep]
    exact ih (j + 1) _ _ _ (by omega)
theorem z_writeName {n : Nat} (hn : n < q10) (h0 : 0 < n) (B : zB h m) (hw : w.length + 10 ≤ 4000) (H : zX h m w) : jF (jm_D (d + 2) mX13_writeName [.ref m, .long (Int64.ofNat n)] h) (.inl none) fun h' => zS m (zXU m) (fun k => k = 24) h h' ∧ zX h' m (w ++ lets n) := by
  refine jE_of (fun r => gX13_writeName) ?_
  obtain ⟨K, k1, k2, k3⟩ := zd_ex 9 n h0 (q10_p ▸ hn)
  have := z_name1 (d := d) hn k1 k2 k3 B hw H K 0 none none none (by omega)
  rw [Nat.pow_zero] at this
  exact this
/-! what is pending -/
def zP (h : jm_H) (m : Nat) (ps : List Nat) : Prop := ps.length ≤ 301 ∧ ∃ PD, aC h (m + 33) 0 301 PD ∧ ∀ i, i < ps.length → PD i = Int32.ofNat (ps.getD (ps.length - 1 - i) 0)
def zf : List Nat → List Nat
  | [] => []
  | c :: r => if c = 32 then 32 :: 93 :: zf r else c :: zf r
def zq : List Nat → List Nat × List Nat
  | [] => ([], [])
  | c :: r => if c = 32 then ([32], 93 :: r) else (c :: (zq r).1, (zq r).2)
theorem zq_tp : ∀ ps : List Nat, tp (zf ps) = ((zq ps).1, zf (zq ps).2)
  | [] => rfl
  | c :: r => by
    have ih := zq_tp r
    have e1 : zf (c :: r) = if c = 32 then 32 :: 93 :: zf r else c :: zf r := rfl
    have e2 : zq (c :: r) = if c = 32 then ([32], 93 :: r) else (c :: (zq r).1, (zq r).2) := rfl
    rw [e1, e2]
    by_cases e : c = 32
    · subst e
      rw [if_pos rfl, if_pos rfl]
      rfl
    · rw [if_neg e, if_neg e]
      have e3 : tp (c :: zf r) = if c = 32 then ([32], zf r) else (c :: (tp (zf r)).1, (tp (zf r)).2) := rfl
      rw [e3, if_neg e, ih]
theorem zq_len : ∀ ps : List Nat, (zq ps).2.length ≤ ps.length ∧ (zq ps).1.length ≤ ps.length
  | [] => ⟨Nat.le_refl _, Nat.le_refl _⟩
  | c :: r => by
    have ih := zq_len r
    unfold zq
    by_cases e : c = 32
    · rw [if_pos e]; simp
    · rw [if_neg e]; simp only [List.length_cons]; omega
theorem zP_z {ps : List Nat} (H : zP h m ps) (A : zS m U F h h') (p : ¬ U (m + 33)) : zP h' m ps := by
  obtain ⟨a1, PD, a2, a3⟩ := H
  exact ⟨a1, PD, aC_z a2 A (by omega) p, a3⟩
theorem zP_top {ps : List Nat} {c : Nat} (H : zP h m (c :: ps)) : jm_ali h (m + 33) 0 (Int32.ofNat ps.length) = some (Int32.ofNat c) := by
  obtain ⟨a1, PD, a2, a3⟩ := H
  rw [List.length_cons] at a1
  rw [aC_at a2 (by omega) (by omega), a3 ps.length (by rw [List.length_cons]; omega)]
  simp
theorem zP_pop {ps : List Nat} {c : Nat} (H : zP h m (c :: ps)) : zP h m ps := by
  obtain ⟨a1, PD, a2, a3⟩ := H
  rw [List.length_cons] at a1
  refine ⟨by omega, PD, a2, fun i hi => ?_⟩
  rw [a3 i (by rw [List.length_cons]; omega), List.length_cons, show ps.length + 1 - 1 - i = (ps.length - 1 - i) + 1 by omega]
  rfl
/-- the top is set, or one more laid on it -/
theorem zP_set {ps : List Nat} {c : Nat} (H : zP h m ps) (hl : ps.length < 301) : ∃ h', jm_asi h (m + 33) 0 (Int32.ofNat ps.length) (Int32.ofNat c) = some h' ∧ zS m (fun b => b = m + 33) (fun _ => False) h h' ∧ zP h' m (c :: ps) := by
  obtain ⟨a1, PD, a2, a3⟩ := H
  obtain ⟨h1, e1, F1, A1⟩ := z_asi (m := m) (i := ps.length) (x := Int32.ofNat c) a2 (by omega) (by omega) (by omega)
  rw [nar0] at A1
  refine ⟨h1, e1, F1, by rw [List.length_cons]; omega, _, A1, fun i hi => ?_⟩
  rw [List.length_cons] at hi ⊢
  by_cases e : i = ps.length
  · subst e
    rw [show upd PD ps.length (Int32.ofNat c) ps.length = Int32.ofNat c from if_pos rfl, Nat.add_sub_cancel, Nat.sub_self]
    rfl
  · rw [show upd PD ps.length (Int32.ofNat c) i = PD i from if_neg e, a3 i (by omega), show ps.length + 1 - 1 - i = (ps.length - 1 - i) + 1 by omega]
    rfl
def zPU (m c : Nat) : Prop := c = m + 31 ∨ c = m + 33
theorem z_close_loop : ∀ (ps : List Nat) (w : List Nat) (h : jm_H) (o1 o3 : Option Value), (∀ c ∈ ps, c < 128) → zB h m → w.length + ps.length ≤ 4000 → zX h m w → zP h m ps → jF (kX13_closeOn_2 (d + 1) m o1 (Int32.ofNat ps.length) o3 h) (.inl (some (.int (Int32.ofNat (zq ps).2.length)))) fun h' => zS m (zPU m) (fun k => k = 24) h h' ∧ zX h' m (w ++ (zq ps).1) ∧ zP h' m (zq ps).2 := by
  intro ps
  induction ps with
  | nil =>
    intro w h o1 o3 hc B hw H P
    refine jE_of (fun r => gX13_closeOn_2) ?_
    rw [if_neg (by decide)]
    refine jF_end ⟨zS_rf, ?_, P⟩
    rw [show (zq []).1 = [] from rfl, List.append_nil]
    exact H
  | cons c ps ih =>
    intro w h o1 o3 hc B hw H P
    have hl := P.1
    rw [List.length_cons] at hw hl ⊢
    have hc0 := hc c List.mem_cons_self
    refine jE_of (fun r => gX13_closeOn_2) ?_
    rw [if_pos (by rw [jw_0lt (by omega)]; omega)]
    simp only [zB_26 B, Option.bind_some, jw_sub1, zP_top P, jw_eqL (b := 32) (show c < 2147483648 by omega) (by omega), jm_O_eq (zB_ob B)]
    unfold zq
    by_cases e : c = 32
    · rw [if_pos e, if_pos e, show (32 : Int32) = Int32.ofNat 32 from rfl]
      refine jE_V (z_write (d := d) B (by omega) H) ?_
      rintro h1 ⟨F1, H1⟩
      have B1 := zB_tr B F1 (fun k z => by rw [z]; rfl)
      have P1 := zP_z P F1 (by unfold zXU; omega)
      simp only [zB_26 B1, Option.bind_some, jw_sub1]
      obtain ⟨h2, e2, F2, P2⟩ := zP_set (c := 93) (zP_pop P1) (by omega)
      have e2' : jm_asi h1 (m + 33) 0 (Int32.ofNat ps.length) 93 = some h2 := e2
      rw [e2', Option.bind_some]
      exact jF_end ⟨zS_2 F1 F2 (fun c z => Or.inl z) (fun c z => Or.inr z) (fun k z => z) (fun k z => z.elim), zX_z H1 F2 (by omega) id, P2⟩
    · rw [if_neg e, if_neg e]
      refine jE_V (z_write (d := d) B (by omega) H) ?_
      rintro h1 ⟨F1, H1⟩
      have B1 := zB_tr B F1 (fun k z => by rw [z]; rfl)
      have P1 := zP_pop (zP_z P F1 (by unfold zXU; omega))
      rw [show Int32.ofNat (ps.length + 1) + (-1) = Int32.ofNat ps.length from jw_m1]
      have := ih (w ++ [c]) h1 (jm_dm o1) (some (.int (Int32.ofNat c))) (fun b hb => hc b (List.mem_cons_of_mem _ hb)) B1 (by rw [List.length_append, List.length_singleton]; omega) H1 P1
      refine jF_mono this fun h2 ⟨F2, H2, P2⟩ => ⟨zS_2 F1 F2 (fun c z => Or.inl z) (fun c z => z) (fun k z => z) (fun k z => z), ?_, P2⟩
      rw [List.append_assoc] at H2
      exact H2
theorem z_close {ps : List Nat} (hc : ∀ c ∈ ps, c < 128) (B : zB h m) (hw : w.length + ps.length ≤ 4000) (H : zX h m w) (P : zP h m ps) : jF (jm_D (d + 2) mX13_closeOn [.ref m, .int (Int32.ofNat ps.length)] h) (.inl (some (.int (Int32.ofNat (zq ps).2.length)))) fun h' => zS m (zPU m) (fun k => k = 24) h h' ∧ zX h' m (w ++ (zq ps).1) ∧ zP h' m (zq ps).2 :=
  jE_of (fun r => gX13_closeOn) (z_close_loop (d := d) ps w h _ none hc B hw H P)
/-! names of words -/
def znf : List Int32 → Int64 → Int64
  | [], j => j
  | c :: r, j => znf r (37 * j + c.toInt64 - 97 + 1)
theorem z_nameOf_loop {k : Nat} (H : kO h sc) (hk : k < 34) : ∀ (f i : Nat) (j : Int64), i + f = (kB k).length → kX13_nameOf_4 (d + 4) k j (Int32.ofNat i) h = some (.inl (some (.long (znf ((kB k).drop i) j))), h) := by
  have hl := (kB_len k hk).2.2.1
  intro f
  induction f with
  | zero =>
    intro i j hi
    apply gX13_nameOf_4
    simp only [jm_O_eq (kO_ob H hk), j_length (d := d + 2) H hk, jc_I_eq]
    rw [if_neg (by rw [jw_lt (by omega) (by omega)]; omega), List.drop_eq_nil_of_le (by omega)]
    rfl
  | succ f ih =>
    intro i j hi
    apply gX13_nameOf_4
    simp only [jm_O_eq (kO_ob H hk), j_length (d := d + 2) H hk, jc_I_eq]
    rw [if_pos (by rw [jw_lt (by omega) (by omega)]; omega)]
    have hil : i < (kB k).length := by omega
    simp only [j_charAt (d := d) H hk hil, jc_I_eq, jw_add1, ih (i + 1) _ (by omega)]
    have : (kB k).drop i = (kB k).getD i 0 :: (kB k).drop (i + 1) := by
      rw [List.drop_eq_getElem_cons hil, List.getD_eq_getElem?_getD, List.getElem?_eq_getElem hil]
      rfl
    rw [this]
    rfl
theorem z_nameOf {k : Nat} (H : kO h sc) (hk : k < 34) : jm_D (d + 5) mX13_nameOf [.ref k] h = some (.inl (some (.long (znf (kB k) 0))), h) := by
  apply gX13_nameOf
  exact z_nameOf_loop (d := d) H hk (kB k).length 0 0 (by omega)
theorem znf_14 : znf (kB 14) 0 = Int64.ofNat 660572 := by decide +kernel
theorem lets_mask : lets 660572 = [109, 97, 115, 107] := by
  rw [zd_lets 3 660572 (by decide) (by decide)]
  decide
/-! the whole text -/
def zXA (m c : Nat) : Prop := jn (m + 31) 3 c
/-- where parts begin -/
def zbg (h : jm_H) (m : Nat) (l : List Int) (j : Nat) : Prop := ∃ BG, aC h (m + 32) 0 301 BG ∧ ∀ i, i < j → BG i = Int32.ofNat (tx l i).1.length
theorem zbg_z {j : Nat} (H : zbg h m l j) (A : zS m U F h h') (p : ¬ U (m + 32)) : zbg h' m l j := by
  obtain ⟨BG, a1, a2⟩ := H
  exact ⟨BG, aC_z a1 A (by omega) p, a2⟩
theorem zf_len : ∀ ps : List Nat, ps.length ≤ (zf ps).length
  | [] => Nat.le_refl _
  | c :: r => by
    have := zf_len r
    unfold zf
    split <;> simp only [List.length_cons] <;> omega
theorem z_part_loop (hR : gR l) (hK : kO h sc) (hm : 128 ≤ m) : ∀ (f j : Nat) (ps : List Nat) (h : jm_H), j + f = l.length → kO h sc → zK h m l → zX h m (tx l j).1 → zP h m ps → zf ps = (tx l j).2 → ps.length ≤ j → (∀ c ∈ ps, c < 128) → zbg h m l j → jF (kX13_writePart_9 (d + 5) m (Int32.ofNat ps.length) (Int32.ofNat j) h) (.inl none) fun h' => zS m (zXA m) (fun k => k = 24) h h' ∧ zX h' m (tx l l.length).1 ∧ zbg h' m l l.length := by
  obtain ⟨hP, hw, hl⟩ := hR
  have hg := gW_gN hw
  intro f
  induction f with
  | zero =>
    intro j ps h hj hK H X P hf hps hpc BG
    have : j = l.length := by omega
    subst this
    refine jE_of (fun r => gX13_writePart_9) ?_
    simp only [H.2.1, Option.bind_some]
    rw [if_neg (by rw [jw_lt (by omega) (by omega)]; omega)]
    exact jF_end ⟨zS_rf, X, BG⟩
  | succ f ih =>
    intro j ps h hj hK H X P hf hps hpc BG
    have hjl : j < l.length := by omega
    have hx := hg j
    have t1 := tx_len (l := l) j
    have t2 := txs_le hw j
    have t3 := tx_len (l := l) (j + 1)
    have t4 := txs_le hw (j + 1)
    have er : tx l (j + 1) = tel (l.getD j 0) (tx l j) := rfl
    refine jE_of (fun r => gX13_writePart_9) ?_
    simp only [H.2.1, Option.bind_some]
    rw [if_pos (by rw [jw_lt (by omega) (by omega)]; omega)]
    obtain ⟨bg, b1, b2⟩ := BG
    obtain ⟨h1, e1, F1, A1⟩ := z_asi (m := m) (i := j) (x := Int32.ofNat (tx l j).1.length) b1 (by omega) (by omega) (by omega)
    rw [nar0] at A1
    have H1 := zK_0 H F1 (by omega)
    have X1 := zX_z X F1 (by omega) id
    have P1 := zP_z P F1 (by omega)
    have K1 := kO_tr hK (zS_jS F1) fun c z => by omega
    have BG1 : zbg h1 m l (j + 1) := ⟨_, A1, fun i hi => by
      by_cases e : i = j
      · rw [e]; exact if_pos rfl
      · rw [show upd bg j (Int32.ofNat (tx l j).1.length) i = bg i from if_neg e]
        exact b2 i (by omega)⟩
    have G1 : zS m (zXA m) (fun k => k = 24) h h1 := zS_mn F1 (fun c z => by unfold zXA jn; omega) (fun k z => z.elim)
    simp only [zB_25 H.1, X.1, Option.bind_some, e1, zB_18 H1.1, zW_at H1.2 hjl, ln_pos hx, ln_neg hx, jw_add1]
    -- the end of each case
    have nx : ∀ (h2 : jm_H) (ps' : List Nat), zS m (zPU m) (fun k => k = 24) h1 h2 → zX h2 m (tx l (j + 1)).1 → zP h2 m ps' → zf ps' = (tx l (j + 1)).2 → ps'.length ≤ j + 1 → (∀ c ∈ ps', c < 128) → jF (kX13_writePart_9 (d + 5) m (Int32.ofNat ps'.length) (Int32.ofNat (j + 1)) h2) (.inl none) fun h' => zS m (zXA m) (fun k => k = 24) h h' ∧ zX h' m (tx l l.length).1 ∧ zbg h' m l l.length := by
      intro h2 ps' F2 X2 P2 f2 l2 c2
      have H2 := zK_z H1 F2 (by unfold zPU; omega) (by omega) (fun k z => by rw [z]; rfl)
      have K2 := kO_tr K1 (zS_jS F2) fun c z => by unfold zPU at z; omega
      exact jF_mono (ih (j + 1) ps' h2 (by omega) K2 H2 X2 P2 f2 l2 c2 (zbg_z BG1 F2 (by unfold zPU; omega))) fun h3 ⟨F3, q⟩ => ⟨zS_tr G1 (zS_tr (zS_mn F2 (fun c z => by unfold zPU at z; unfold zXA jn; omega) fun k z => z) F3), q⟩
    -- a sign, and what is pending behind it
    have p113 : ∀ (h2 : jm_H) (w2 : List Nat) (sn : Nat), zS m (zPU m) (fun k => k = 24) h1 h2 → zX h2 m w2 → zP h2 m ps → w2.length < 4000 → (tx l (j + 1)).1 = w2 ++ [sn] → (tx l (j + 1)).2 = (if l.getD j 0 < 0 then 41 :: (tx l j).2 else 32 :: 93 :: (tx l j).2) → jF (kX13_writePart_113 (d + 5) m (Int32.ofNat ps.length) (Int32.ofNat j) (Int32.ofNat sn) m h2) (.inl none) fun h' => zS m (zXA m) (fun k => k = 24) h h' ∧ zX h' m (tx l l.length).1 ∧ zbg h' m l l.length := by
      intro h2 w2 sn F2 X2 P2 hw2 e2 e3
      have H2 := zK_z H1 F2 (by unfold zPU; omega) (by omega) (fun k z => by rw [z]; rfl)
      refine jE_of (fun r => gX13_writePart_113) ?_
      simp only [jm_O_eq (zB_ob H2.1)]
      refine jE_V (z_write (d := d + 4) (c := sn) H2.1 hw2 X2) ?_
      rintro h3 ⟨F3, X3⟩
      have H3 := zK_z H2 F3 (by unfold zXU; omega) (by omega) (fun k z => by rw [z]; rfl)
      have P3 := zP_z P2 F3 (by unfold zXU; omega)
      have F23 : zS m (zPU m) (fun k => k = 24) h1 h3 := zS_2 F2 F3 (fun c z => z) (fun c z => Or.inl z) (fun k z => z) (fun k z => z)
      rw [← e2] at X3
      simp only [zB_26 H3.1, zB_18 H3.1, Option.bind_some, zW_at H3.2 hjl, ln_neg hx, jw_add1]
      by_cases c : l.getD j 0 < 0
      · rw [if_pos c] at e3 ⊢
        obtain ⟨h4, e4, F4, P4⟩ := zP_set (c := 41) P3 (by omega)
        have e4' : jm_asi h3 (m + 33) 0 (Int32.ofNat ps.length) 41 = some h4 := e4
        rw [e4', Option.bind_some]
        exact nx h4 (41 :: ps) (zS_2 F23 F4 (fun c z => z) (fun c z => Or.inr z) (fun k z => z) (fun k z => z.elim)) (zX_z X3 F4 (by omega) id) P4 (by rw [e3, ← hf]; rfl) (by rw [List.length_cons]; omega) fun b hb => by
          rcases List.mem_cons.mp hb with q | q
          · omega
          · exact hpc b q
      · rw [if_neg c] at e3 ⊢
        obtain ⟨h4, e4, F4, P4⟩ := zP_set (c := 32) P3 (by omega)
        have e4' : jm_asi h3 (m + 33) 0 (Int32.ofNat ps.length) 32 = some h4 := e4
        rw [e4', Option.bind_some]
        exact nx h4 (32 :: ps) (zS_2 F23 F4 (fun c z => z) (fun c z => Or.inr z) (fun k z => z) (fun k z => z.elim)) (zX_z X3 F4 (by omega) id) P4 (by rw [e3, ← hf]; rfl) (by rw [List.length_cons]; omega) fun b hb => by
          rcases List.mem_cons.mp hb with q | q
          · omega
          · exact hpc b q
    have hlt : (lets (l.getD j 0).natAbs).length ≤ 10 := lets_len 10 _ (q10_p ▸ hx)
    have etx : tx l (j + 1) = tel (l.getD j 0) (tx l j) := rfl
    unfold tel at etx
    by_cases c1 : 0 < l.getD j 0
    · rw [if_pos c1]
      rw [if_neg (by omega), if_neg (by omega)] at etx
      rw [ln_abs c1]
      simp only [jm_O_eq (zB_ob H1.1)]
      refine jE_V (z_writeName (d := d + 3) hx (by omega) H1.1 (by omega) X1) ?_
      rintro h2 ⟨F2, X2⟩
      have B2 := zB_tr H1.1 F2 (fun k z => by rw [z]; rfl)
      have P2 := zP_z P1 F2 (by unfold zXU; omega)
      simp only [jm_O_eq (zB_ob B2)]
      refine jE_I (z_close (d := d + 3) hpc B2 (by rw [List.length_append]; omega) X2 P2) ?_
      rintro h3 ⟨F3, X3, P3⟩
      have q1 := zq_tp ps
      rw [hf] at q1
      rw [q1] at etx
      have q2 := (zq_len ps).1
      refine nx h3 (zq ps).2 (zS_2 F2 F3 (fun c z => Or.inl z) (fun c z => z) (fun k z => z) (fun k z => z)) (by rw [etx]; exact X3) P3 (by rw [etx]) (by omega) ?_
      have : ∀ qs : List Nat, (∀ c ∈ qs, c < 128) → ∀ c ∈ (zq qs).2, c < 128 := by
        intro qs
        induction qs with
        | nil => intro _ c hc; cases hc
        | cons b r ihr =>
          intro hb c hc
          unfold zq at hc
          by_cases e : b = 32
          · rw [if_pos e] at hc
            rcases List.mem_cons.mp hc with q | q
            · omega
            · exact hb c (List.mem_cons_of_mem _ q)
          · rw [if_neg e] at hc
            exact ihr (fun y hy => hb y (List.mem_cons_of_mem _ hy)) c hc
      exact this ps hpc
    · rw [if_neg c1]
      by_cases c2 : l.getD j 0 < 0
      · rw [if_pos c2]
        rw [if_neg (by omega), if_pos c2] at etx
        simp only [z_nameOf (d := d) K1 (show 14 < 34 by omega), jc_L_eq, znf_14, jm_O_eq (zB_ob H1.1)]
        refine jE_V (z_writeName (d := d + 3) (n := 660572) (by decide) (by omega) H1.1 (by omega) X1) ?_
        rintro h2 ⟨F2, X2⟩
        rw [lets_mask] at X2
        have B2 := zB_tr H1.1 F2 (fun k z => by rw [z]; rfl)
        simp only [jm_O_eq (zB_ob B2)]
        refine jE_V (z_write (d := d + 4) (c := 32) B2 (by rw [List.length_append]; simp only [List.length_cons, List.length_nil]; omega) X2) ?_
        rintro h3 ⟨F3, X3⟩
        have F23 : zS m (zXU m) (fun k => k = 24) h1 h3 := zS_tr F2 F3
        have H3 := zK_z H1 F23 (by unfold zXU; omega) (by omega) (fun k z => by rw [z]; rfl)
        simp only [zB_18 H3.1, Option.bind_some, zW_at H3.2 hjl, ln_abn c2, jm_O_eq (zB_ob H3.1)]
        refine jE_V (z_writeName (d := d + 3) hx (by omega) H3.1 (by rw [List.length_append, List.length_append]; simp only [List.length_cons, List.length_nil]; omega) X3) ?_
        rintro h4 ⟨F4, X4⟩
        have F24 : zS m (zXU m) (fun k => k = 24) h1 h4 := zS_tr F23 F4
        have H4 := zK_z H1 F24 (by unfold zXU; omega) (by omega) (fun k z => by rw [z]; rfl)
        simp only [zB_18 H4.1, Option.bind_some, zW_at H4.2 hjl, ln_neg hx]
        rw [if_pos c2]
        refine p113 h4 _ 40 (zS_mn F24 (fun c z => Or.inl z) (fun k z => z)) X4 (zP_z P1 F24 (by unfold zXU; omega)) (by rw [List.length_append, List.length_append, List.length_append]; simp only [List.length_cons, List.length_nil]; omega) ?_ ?_
        · rw [etx]
          simp only [List.append_assoc]
          rfl
        · rw [etx, if_pos c2]
      · rw [if_neg c2]
        rw [if_pos (by omega)] at etx
        rw [if_neg c2]
        exact p113 h1 _ 91 zS_rf X1 P1 (by omega) (by rw [etx]) (by rw [etx, if_neg c2])
theorem z_part (hR : gR l) (hK : kO h sc) (H : zK h m l) : jF (jm_D (d + 6) mX13_writePart [.ref m] h) (.inl none) fun h' => zS m (zXA m) (fun k => k = 24) h h' ∧ zX h' m (tx l l.length).1 ∧ zbg h' m l l.length := by
  refine jE_of (fun r => gX13_writePart) ?_
  obtain ⟨h1, e1, F1, q1⟩ := z_pfI 0 H.1 (show 24 < 31 by omega)
  have H1 := zK_z H F1 id (by omega) (fun k z => by rw [z]; rfl)
  obtain ⟨LT, L1⟩ := zB_a (o := 31) (t := 0) (n := 4000) H1.1 (Or.inr ⟨by omega, by omega⟩) rfl (by omega)
  obtain ⟨BG, L2⟩ := zB_a (o := 32) (t := 0) (n := 301) H1.1 (Or.inr ⟨by omega, by omega⟩) rfl (by omega)
  obtain ⟨PD, L3⟩ := zB_a (o := 33) (t := 0) (n := 301) H1.1 (Or.inr ⟨by omega, by omega⟩) rfl (by omega)
  rw [e1, Option.bind_some]
  have K1 := kO_tr hK (zS_jS F1) fun c z => by have := H.1.1; exact z.elim (fun e => by omega) (fun y => y.elim)
  have := z_part_loop (d := d) (m := m) hR K1 H.1.1 l.length 0 [] h1 (by omega) K1 H1 ⟨q1, LT, L1, fun i hi => absurd hi (Nat.not_lt_zero _)⟩ ⟨by simp, PD, L3, fun i hi => absurd hi (Nat.not_lt_zero _)⟩ rfl (Nat.le_refl _) (fun c hc => by cases hc) ⟨BG, L2, fun i hi => absurd hi (Nat.not_lt_zero _)⟩
  exact jF_mono this fun h2 ⟨F2, q⟩ => ⟨zS_2 F1 F2 (fun c z => z.elim) (fun c z => z) (fun k z => z) (fun k z => z), q⟩
end ZX
