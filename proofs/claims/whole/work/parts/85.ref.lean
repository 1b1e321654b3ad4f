/-! ===== LEVEL 3: the reference, reading by the grammar ===== -/
/-- depth, mask, orders, notes, means, masks around, parts -/
abbrev zSt : Type := Nat × Int × List aI × Nat × (Nat → Int32) × (Nat → Int32) × (Nat → Int32)
def zow (o : aI) : Nat := if o.1 = 36 then o.2.1 else 0
def zoq (o : aI) : Int := if 10 ≤ o.1 ∧ o.1 ≤ 14 then (o.2.1 : Int) else -1
/-- the orders, so far -/
def zOs (h : jm_H) (b : Nat) (os : List aI) : Prop := os.length ≤ 800 ∧ ∃ OR WI AS, aC h (b + 16) 0 800 OR ∧ aC h (b + 17) 0 800 WI ∧ aC h (b + 18) 0 800 AS ∧ ∀ k, k < os.length → OR k = Int32.ofNat (zo (os.getD k oI0)).1 ∧ WI k = Int32.ofNat (zow (os.getD k oI0)) ∧ AS k = Int32.ofInt (zoq (os.getD k oI0))
def zRd (h : jm_H) (m b : Nat) (T : List aK4) (i : Nat) (s : zSt) : Prop := zB h m ∧ jr_I h m 12 5 0 = some (Int32.ofNat i) ∧ jr_I h m 12 6 0 = some (Int32.ofNat s.1) ∧ jr_I h m 12 7 0 = some (Int32.ofInt s.2.1) ∧ oC h b 11 (zbF b 0 0 (Int32.ofNat s.2.2.2.1) (Int32.ofNat s.2.2.1.length)) ∧ (∃ KD FR VL, zTK h b T KD FR VL) ∧ aC h (b + 3) 0 401 s.2.2.2.2.1 ∧ aC h (b + 5) 0 401 s.2.2.2.2.2.1 ∧ aC h (b + 6) 0 401 s.2.2.2.2.2.2 ∧ zOs h b s.2.2.1 ∧ i < T.length
/-- what reading writes -/
def zRU (b c : Nat) : Prop := c = b ∨ c = b + 3 ∨ c = b + 5 ∨ c = b + 6 ∨ c = b + 16 ∨ c = b + 17 ∨ c = b + 18
def zRF (k : Nat) : Prop := k = 5 ∨ k = 6 ∨ k = 7
/-- names from one place to another have got something -/
def zMA (T : List aK4) (i e : Nat) (f X X' : Nat → Int32) : Prop := ∀ j, X' j = if i ≤ j ∧ j < e ∧ uK T j = 35 then f j else X j
theorem zMA_tr {T : List aK4} {i a e : Nat} {f X X1 X2 : Nat → Int32} (p : zMA T i a f X X1) (q : zMA T a e f X1 X2) (h1 : i ≤ a) (h2 : a ≤ e) : zMA T i e f X X2 := fun j => by
  rw [q j, p j]
  by_cases c1 : a ≤ j ∧ j < e ∧ uK T j = 35
  · rw [if_pos c1, if_pos ⟨by omega, c1.2⟩]
  · rw [if_neg c1]
    by_cases c2 : i ≤ j ∧ j < a ∧ uK T j = 35
    · rw [if_pos c2, if_pos ⟨c2.1, by omega, c2.2.2⟩]
    · rw [if_neg c2, if_neg (fun z => by
        by_cases c3 : a ≤ j
        · exact c1 ⟨c3, z.2⟩
        · exact c2 ⟨z.1, by omega, z.2.2⟩)]
theorem zMA_0 {T : List aK4} {i : Nat} {f X : Nat → Int32} : zMA T i i f X X := fun j => by rw [if_neg (fun z => by omega)]
/-- no name in between -/
theorem zMA_s {T : List aK4} {i : Nat} {f X : Nat → Int32} (h : uK T i ≠ 35) : zMA T i (i + 1) f X X := fun j => by
  rw [if_neg (fun z => by
    have : j = i := by omega
    rw [this] at z
    exact h z.2.2)]
theorem zMA_n {T : List aK4} {i : Nat} {f X : Nat → Int32} {x : Int32} (h : uK T i = 35) (hx : f i = x) : zMA T i (i + 1) f X (upd X i x) := fun j => by
  by_cases c : j = i
  · subst c
    rw [if_pos ⟨Nat.le_refl _, by omega, h⟩, hx]
    exact if_pos rfl
  · rw [if_neg (fun z => by omega)]
    exact if_neg c
theorem zMA_cg {T : List aK4} {i e : Nat} {f g X X' : Nat → Int32} (h : zMA T i e f X X') (q : ∀ j, i ≤ j → j < e → uK T j = 35 → f j = g j) : zMA T i e g X X' := fun j => by
  rw [h j]
  by_cases c : i ≤ j ∧ j < e ∧ uK T j = 35
  · rw [if_pos c, if_pos c, q j c.1 c.2.1 c.2.2]
  · rw [if_neg c, if_neg c]
/-- what reading adds -/
def zNx (T : List aK4) (i e : Nat) (mu al : Nat → Int32) (ops : List aI) (mks : List (Nat × Nat)) (s s' : zSt) : Prop := s'.1 = s.1 ∧ s'.2.1 = s.2.1 ∧ s'.2.2.1 = s.2.2.1 ++ ops ∧ s'.2.2.2.1 = s.2.2.2.1 ∧ zMA T i e mu s.2.2.2.2.1 s'.2.2.2.2.1 ∧ zMA T i e al s.2.2.2.2.2.1 s'.2.2.2.2.2.1 ∧ s'.2.2.2.2.2.2 = um s.2.2.2.2.2.2 mks
theorem zNx_tr {T : List aK4} {i a e : Nat} {mu al : Nat → Int32} {o1 o2 : List aI} {m1 m2 : List (Nat × Nat)} {s s1 s2 : zSt} (p : zNx T i a mu al o1 m1 s s1) (q : zNx T a e mu al o2 m2 s1 s2) (h1 : i ≤ a) (h2 : a ≤ e) : zNx T i e mu al (o1 ++ o2) (m1 ++ m2) s s2 :=
  ⟨q.1.trans p.1, q.2.1.trans p.2.1, by rw [q.2.2.1, p.2.2.1, List.append_assoc], q.2.2.2.1.trans p.2.2.2.1, zMA_tr p.2.2.2.2.1 q.2.2.2.2.1 h1 h2, zMA_tr p.2.2.2.2.2.1 q.2.2.2.2.2.1 h1 h2, by rw [q.2.2.2.2.2.2, p.2.2.2.2.2.2, um_app]⟩
theorem zNx_0 {T : List aK4} {i : Nat} {mu al : Nat → Int32} {s : zSt} : zNx T i i mu al [] [] s s := ⟨rfl, rfl, by rw [List.append_nil], rfl, zMA_0, zMA_0, rfl⟩
theorem zNx_s {T : List aK4} {i : Nat} {mu al : Nat → Int32} {s : zSt} (h : uK T i ≠ 35) : zNx T i (i + 1) mu al [] [] s s := ⟨rfl, rfl, by rw [List.append_nil], rfl, zMA_s h, zMA_s h, rfl⟩
section ZQ
variable {h h' h1 h2 : jm_H} {d D m b i q k : Nat} {T : List aK4} {mu al : Nat → Int32} {s s1 : zSt} {o : Option jm_R} {R : uR} {f : Nat → uR} {kk : jm_H → Option jm_R}
def zQr (o : Option jm_R) (h : jm_H) (m b : Nat) (T : List aK4) (mu al : Nat → Int32) (i : Nat) (s : zSt) (R : uR) : Prop := jE o fun v h' => v = .inl (some (.int (if R.1 = true then 1 else 0))) ∧ zS m (zRU b) zRF h h' ∧ ∃ s', zRd h' m b T R.2.1 s' ∧ (R.1 = true → zNx T i R.2.1 mu al R.2.2.1 R.2.2.2 s s')
theorem zQr_of {o' : Option jm_R} (g : ∀ r, o = some r → o' = some r) (H : zQr o h m b T mu al i s R) : zQr o' h m b T mu al i s R := jE_of g H
theorem zQr_T (H : zRd h m b T R.2.1 s1) (F : zS m (zRU b) zRF h' h) (c : R.1 = true) (N : zNx T i R.2.1 mu al R.2.2.1 R.2.2.2 s s1) : zQr (some (.inl (some (.int 1)), h)) h' m b T mu al i s R := jE_end ⟨by rw [if_pos c], F, s1, H, fun _ => N⟩
theorem zQr_F (H : zRd h m b T R.2.1 s1) (F : zS m (zRU b) zRF h' h) (c : R.1 = false) : zQr (some (.inl (some (.int 0)), h)) h' m b T mu al i s R := jE_end ⟨by rw [if_neg (by rw [c]; decide)], F, s1, H, fun z => by rw [c] at z; cases z⟩
theorem zQr_fr (F : zS m (zRU b) zRF h h1) (H : zQr o h1 m b T mu al i s R) : zQr o h m b T mu al i s R := by
  obtain ⟨v, h2, rfl, e, F2, q⟩ := H
  exact ⟨v, h2, rfl, e, zS_tr F F2, q⟩
/-- one behind the other -/
theorem zQr_seq (hR : R.1 = true → i ≤ R.2.1) (H : zQr o h m b T mu al i s R) (g : ∀ h1 s1, R.1 = true → zNx T i R.2.1 mu al R.2.2.1 R.2.2.2 s s1 → zRd h1 m b T R.2.1 s1 → ((f R.2.1).1 = true → R.2.1 ≤ (f R.2.1).2.1) ∧ zQr (kk h1) h1 m b T mu al R.2.1 s1 (f R.2.1)) : zQr (jc_I o (fun y h1 => if y = 0 then some (.inl (some (.int 0)), h1) else kk h1) jx) h m b T mu al i s (ub R f) := by
  obtain ⟨v, h1, rfl, rfl, F1, s1, X1, q1⟩ := H
  rw [jc_I_eq]
  by_cases c : R.1 = true
  · rw [if_pos c, if_neg (by decide)]
    have n1 := q1 c
    obtain ⟨g1, v, h2, e2, rfl, F2, s2, X2, q2⟩ := g h1 s1 c n1 X1
    rw [ub_T c, e2]
    refine jE_end ⟨rfl, zS_tr F1 F2, s2, X2, fun z => ?_⟩
    exact zNx_tr n1 (q2 z) (hR c) (g1 z)
  · rw [if_neg c, if_pos rfl, ub_F c]
    exact jE_end ⟨by rw [if_neg c], F1, s1, X1, fun z => absurd z c⟩
theorem zQr_last (H : zQr o h m b T mu al i s R) : zQr (jc_I o (fun y h1 => if y = 0 then some (.inl (some (.int 0)), h1) else some (.inl (some (.int 1)), h1)) jx) h m b T mu al i s R := by
  obtain ⟨v, h1, rfl, rfl, q⟩ := H
  rw [jc_I_eq]
  by_cases c : R.1 = true
  · rw [if_pos c, if_neg (by decide)]
    exact jE_end ⟨by rw [if_pos c], q⟩
  · rw [if_neg c, if_pos rfl]
    exact jE_end ⟨by rw [if_neg c], q⟩
theorem zQr_Y (H : zQr o h m b T mu al i s R) : zQr (jc_I o (fun y h1 => jm_Y .boolean y (some (.inl (some (.int y)), h1))) jx) h m b T mu al i s R := by
  obtain ⟨v, h1, rfl, rfl, q⟩ := H
  rw [jc_I_eq, if_Y]
  exact jE_end ⟨rfl, q⟩
theorem zQr_cg {mu' al' : Nat → Int32} (H : zQr o h m b T mu al i s R) (q1 : ∀ j, i ≤ j → j < R.2.1 → uK T j = 35 → mu j = mu' j) (q2 : ∀ j, i ≤ j → j < R.2.1 → uK T j = 35 → al j = al' j) : zQr o h m b T mu' al' i s R := by
  obtain ⟨v, h1, rfl, e, F, s1, X1, n1⟩ := H
  exact ⟨v, h1, rfl, e, F, s1, X1, fun z => ⟨(n1 z).1, (n1 z).2.1, (n1 z).2.2.1, (n1 z).2.2.2.1, zMA_cg (n1 z).2.2.2.2.1 q1, zMA_cg (n1 z).2.2.2.2.2.1 q2, (n1 z).2.2.2.2.2.2⟩⟩
/-! looks -/
theorem zRd_ob (H : zRd h m b T i s) : jm_ob h m 13 = true := zB_ob H.1
theorem zRd_bR (H : zRd h m b T i s) : zbR h b := ⟨_, _, _, _, H.2.2.2.2.1⟩
theorem zRd_R {k x : Nat} (H : zRd h m b T i s) (e : (zbF b 0 0 (Int32.ofNat s.2.2.2.1) (Int32.ofNat s.2.2.1.length))[k]? = some (.ref x)) : jr_R h b 11 k 2 = some x := oC_R H.2.2.2.2.1 e
theorem zRd_lt (H : zRd h m b T i s) : i < T.length ∧ T.length ≤ 401 := by
  obtain ⟨-, -, -, -, -, ⟨KD, FR, VL, -, -, -, l, -⟩, -, -, -, -, hi⟩ := H
  exact ⟨hi, l⟩
theorem zRd_kind {j : Nat} (H : zRd h m b T i s) (hj : j < T.length) : jm_ali h (b + 1) 0 (Int32.ofNat j) = some (Int32.ofNat (zki (uK T j))) := by
  have hl := zRd_lt H
  obtain ⟨-, -, -, -, -, ⟨KD, FR, VL, a1, a2, a3, a4, a5⟩, -⟩ := H
  rw [aC_at a1 (by omega) (by omega), (a5 j hj).1]
  unfold uK
  rw [gD hj (0, 0, 0, 0) (37, 0, 0, 0)]
theorem zRd_val {j : Nat} (H : zRd h m b T i s) (hj : j < T.length) (hk : uK T j = 36) : jm_all h (b + 4) (Int32.ofNat j) = some (Int64.ofNat (uV T j)) := by
  have hl := zRd_lt H
  obtain ⟨-, -, -, -, -, ⟨KD, FR, VL, a1, a2, a3, a4, a5⟩, -⟩ := H
  unfold uK at hk
  rw [← gD hj (0, 0, 0, 0) (37, 0, 0, 0)] at hk
  rw [lC_at a3 (by omega) (by omega), (a5 j hj).2.2.1 hk]
  unfold uV
  rw [gD hj (0, 0, 0, 0) (37, 0, 0, 0)]
theorem zki_eq {j k : Nat} (hj : j < 39) (hk : k < 39) : (Int32.ofNat (zki j) = Int32.ofNat (zki k)) ↔ j = k := by
  rw [jw_eq (by have := zki_b j hj; omega) (by have := zki_b k hk; omega)]
  exact zki_inj j hj k hk
/-! moves -/
theorem zRd_z {U F : Nat → Prop} (H : zRd h m b T i s) (A : zS m U F h h') (hbm : b = m + 2 ∨ m + 36 ≤ b) (p : ∀ c, U c → ¬ jn b 19 c) (q : ∀ k, F k → zr k = 0 ∧ ¬ zRF k) : zRd h' m b T i s := by
  obtain ⟨a1, a2, a3, a4, a5, ⟨KD, FR, VL, k1, k2, k3, k4⟩, a7, a8, a9, ⟨o1, OR, WI, AS, o2, o3, o4, o5⟩, a10⟩ := H
  have np : ∀ j, j ≤ 18 → ¬ U (b + j) := fun j hj z => p _ z (by unfold jn; omega)
  have nf : ∀ k, zRF k → ¬ F k := fun k z y => (q k y).2 z
  have n5 := nf 5 (by unfold zRF; omega)
  have n6 := nf 6 (by unfold zRF; omega)
  have n7 := nf 7 (by unfold zRF; omega)
  exact ⟨zB_tr a1 A (fun k z => (q k z).1), (zS_I A n5).trans a2, (zS_I A n6).trans a3, (zS_I A n7).trans a4, oC_z a5 A (by omega) (np 0 (by omega)), ⟨KD, FR, VL, aC_z k1 A (by omega) (np 1 (by omega)), aC_z k2 A (by omega) (np 2 (by omega)), lC_z k3 A (by omega) (np 4 (by omega)), k4⟩, aC_z a7 A (by omega) (np 3 (by omega)), aC_z a8 A (by omega) (np 5 (by omega)), aC_z a9 A (by omega) (np 6 (by omega)), ⟨o1, OR, WI, AS, aC_z o2 A (by omega) (np 16 (by omega)), aC_z o3 A (by omega) (np 17 (by omega)), aC_z o4 A (by omega) (np 18 (by omega)), o5⟩, a10⟩
/-- a field of the reading's own is set -/
theorem zRd_f (x : Int32) {k : Nat} (H : zRd h m b T i s) (hbm : b = m + 2 ∨ m + 36 ≤ b) (hk : k = 5 ∨ k = 6 ∨ k = 7) : ∃ h', jm_pf h m 12 k 0 (.int x) = some h' ∧ zS m (zRU b) zRF h h' ∧ zS m (fun _ => False) (fun j => j = k) h h' ∧ jr_I h' m 12 k 0 = some x := by
  obtain ⟨h1, e1, F1, q1⟩ := z_pfI x H.1 (show k < 31 by omega)
  exact ⟨h1, e1, zS_mn F1 (fun c z => z.elim) (fun j z => by unfold zRF; omega), F1, q1⟩
theorem zRd_5 (j : Nat) (H : zRd h m b T i s) (hbm : b = m + 2 ∨ m + 36 ≤ b) (hj : j < T.length) : ∃ h', jm_pf h m 12 5 0 (.int (Int32.ofNat j)) = some h' ∧ zS m (zRU b) zRF h h' ∧ zRd h' m b T j s := by
  obtain ⟨h1, e1, F1, F1', q1⟩ := zRd_f (Int32.ofNat j) H hbm (Or.inl rfl)
  obtain ⟨a1, a2, a3, a4, a5, ⟨KD, FR, VL, k1, k2, k3, k4⟩, a7, a8, a9, ⟨o1, OR, WI, AS, o2, o3, o4, o5⟩, a10⟩ := H
  exact ⟨h1, e1, F1, zB_tr a1 F1' (fun k z => by rw [z]; rfl), q1, (zS_I F1' (by omega)).trans a3, (zS_I F1' (by omega)).trans a4, oC_z a5 F1' (by omega) id, ⟨KD, FR, VL, aC_z k1 F1' (by omega) id, aC_z k2 F1' (by omega) id, lC_z k3 F1' (by omega) id, k4⟩, aC_z a7 F1' (by omega) id, aC_z a8 F1' (by omega) id, aC_z a9 F1' (by omega) id, ⟨o1, OR, WI, AS, aC_z o2 F1' (by omega) id, aC_z o3 F1' (by omega) id, aC_z o4 F1' (by omega) id, o5⟩, hj⟩
theorem zRd_6 (j : Nat) (H : zRd h m b T i s) (hbm : b = m + 2 ∨ m + 36 ≤ b) : ∃ h', jm_pf h m 12 6 0 (.int (Int32.ofNat j)) = some h' ∧ zS m (zRU b) zRF h h' ∧ zRd h' m b T i (j, s.2) := by
  obtain ⟨h1, e1, F1, F1', q1⟩ := zRd_f (Int32.ofNat j) H hbm (Or.inr (Or.inl rfl))
  obtain ⟨a1, a2, a3, a4, a5, ⟨KD, FR, VL, k1, k2, k3, k4⟩, a7, a8, a9, ⟨o1, OR, WI, AS, o2, o3, o4, o5⟩, a10⟩ := H
  exact ⟨h1, e1, F1, zB_tr a1 F1' (fun k z => by rw [z]; rfl), (zS_I F1' (by omega)).trans a2, q1, (zS_I F1' (by omega)).trans a4, oC_z a5 F1' (by omega) id, ⟨KD, FR, VL, aC_z k1 F1' (by omega) id, aC_z k2 F1' (by omega) id, lC_z k3 F1' (by omega) id, k4⟩, aC_z a7 F1' (by omega) id, aC_z a8 F1' (by omega) id, aC_z a9 F1' (by omega) id, ⟨o1, OR, WI, AS, aC_z o2 F1' (by omega) id, aC_z o3 F1' (by omega) id, aC_z o4 F1' (by omega) id, o5⟩, a10⟩
theorem zRd_7 (j : Int) (H : zRd h m b T i s) (hbm : b = m + 2 ∨ m + 36 ≤ b) : ∃ h', jm_pf h m 12 7 0 (.int (Int32.ofInt j)) = some h' ∧ zS m (zRU b) zRF h h' ∧ zRd h' m b T i (s.1, j, s.2.2) := by
  obtain ⟨h1, e1, F1, F1', q1⟩ := zRd_f (Int32.ofInt j) H hbm (Or.inr (Or.inr rfl))
  obtain ⟨a1, a2, a3, a4, a5, ⟨KD, FR, VL, k1, k2, k3, k4⟩, a7, a8, a9, ⟨o1, OR, WI, AS, o2, o3, o4, o5⟩, a10⟩ := H
  exact ⟨h1, e1, F1, zB_tr a1 F1' (fun k z => by rw [z]; rfl), (zS_I F1' (by omega)).trans a2, (zS_I F1' (by omega)).trans a3, q1, oC_z a5 F1' (by omega) id, ⟨KD, FR, VL, aC_z k1 F1' (by omega) id, aC_z k2 F1' (by omega) id, lC_z k3 F1' (by omega) id, k4⟩, aC_z a7 F1' (by omega) id, aC_z a8 F1' (by omega) id, aC_z a9 F1' (by omega) id, ⟨o1, OR, WI, AS, aC_z o2 F1' (by omega) id, aC_z o3 F1' (by omega) id, aC_z o4 F1' (by omega) id, o5⟩, a10⟩
/-- an element of means, masks around, parts -/
theorem zRd_w3 (x : Int32) {j : Nat} (H : zRd h m b T i s) (hm : 128 ≤ m) (hbm : b = m + 2 ∨ m + 36 ≤ b) (hj : j < 401) : ∃ h', jm_asi h (b + 3) 0 (Int32.ofNat j) x = some h' ∧ zS m (zRU b) zRF h h' ∧ zRd h' m b T i (s.1, s.2.1, s.2.2.1, s.2.2.2.1, upd s.2.2.2.2.1 j x, s.2.2.2.2.2) := by
  obtain ⟨a1, a2, a3, a4, a5, ⟨KD, FR, VL, k1, k2, k3, k4⟩, a7, a8, a9, ⟨o1, OR, WI, AS, o2, o3, o4, o5⟩, a10⟩ := H
  obtain ⟨h1, e1, F1, A1⟩ := z_asi (m := m) (x := x) a7 (by omega) hj (by omega)
  rw [nar0] at A1
  exact ⟨h1, e1, zS_mn F1 (fun c z => by unfold zRU; omega) (fun k z => z.elim), zB_tr a1 F1 (fun k z => z.elim), (zS_I F1 id).trans a2, (zS_I F1 id).trans a3, (zS_I F1 id).trans a4, oC_z a5 F1 (by omega) (by omega), ⟨KD, FR, VL, aC_z k1 F1 (by omega) (by omega), aC_z k2 F1 (by omega) (by omega), lC_z k3 F1 (by omega) (by omega), k4⟩, A1, aC_z a8 F1 (by omega) (by omega), aC_z a9 F1 (by omega) (by omega), ⟨o1, OR, WI, AS, aC_z o2 F1 (by omega) (by omega), aC_z o3 F1 (by omega) (by omega), aC_z o4 F1 (by omega) (by omega), o5⟩, a10⟩
theorem zRd_w5 (x : Int32) {j : Nat} (H : zRd h m b T i s) (hm : 128 ≤ m) (hbm : b = m + 2 ∨ m + 36 ≤ b) (hj : j < 401) : ∃ h', jm_asi h (b + 5) 0 (Int32.ofNat j) x = some h' ∧ zS m (zRU b) zRF h h' ∧ zRd h' m b T i (s.1, s.2.1, s.2.2.1, s.2.2.2.1, s.2.2.2.2.1, upd s.2.2.2.2.2.1 j x, s.2.2.2.2.2.2) := by
  obtain ⟨a1, a2, a3, a4, a5, ⟨KD, FR, VL, k1, k2, k3, k4⟩, a7, a8, a9, ⟨o1, OR, WI, AS, o2, o3, o4, o5⟩, a10⟩ := H
  obtain ⟨h1, e1, F1, A1⟩ := z_asi (m := m) (x := x) a8 (by omega) hj (by omega)
  rw [nar0] at A1
  exact ⟨h1, e1, zS_mn F1 (fun c z => by unfold zRU; omega) (fun k z => z.elim), zB_tr a1 F1 (fun k z => z.elim), (zS_I F1 id).trans a2, (zS_I F1 id).trans a3, (zS_I F1 id).trans a4, oC_z a5 F1 (by omega) (by omega), ⟨KD, FR, VL, aC_z k1 F1 (by omega) (by omega), aC_z k2 F1 (by omega) (by omega), lC_z k3 F1 (by omega) (by omega), k4⟩, aC_z a7 F1 (by omega) (by omega), A1, aC_z a9 F1 (by omega) (by omega), ⟨o1, OR, WI, AS, aC_z o2 F1 (by omega) (by omega), aC_z o3 F1 (by omega) (by omega), aC_z o4 F1 (by omega) (by omega), o5⟩, a10⟩
theorem zRd_w6 (x : Int32) {j : Nat} (H : zRd h m b T i s) (hm : 128 ≤ m) (hbm : b = m + 2 ∨ m + 36 ≤ b) (hj : j < 401) : ∃ h', jm_asi h (b + 6) 0 (Int32.ofNat j) x = some h' ∧ zS m (zRU b) zRF h h' ∧ zRd h' m b T i (s.1, s.2.1, s.2.2.1, s.2.2.2.1, s.2.2.2.2.1, s.2.2.2.2.2.1, upd s.2.2.2.2.2.2 j x) := by
  obtain ⟨a1, a2, a3, a4, a5, ⟨KD, FR, VL, k1, k2, k3, k4⟩, a7, a8, a9, ⟨o1, OR, WI, AS, o2, o3, o4, o5⟩, a10⟩ := H
  obtain ⟨h1, e1, F1, A1⟩ := z_asi (m := m) (x := x) a9 (by omega) hj (by omega)
  rw [nar0] at A1
  exact ⟨h1, e1, zS_mn F1 (fun c z => by unfold zRU; omega) (fun k z => z.elim), zB_tr a1 F1 (fun k z => z.elim), (zS_I F1 id).trans a2, (zS_I F1 id).trans a3, (zS_I F1 id).trans a4, oC_z a5 F1 (by omega) (by omega), ⟨KD, FR, VL, aC_z k1 F1 (by omega) (by omega), aC_z k2 F1 (by omega) (by omega), lC_z k3 F1 (by omega) (by omega), k4⟩, aC_z a7 F1 (by omega) (by omega), aC_z a8 F1 (by omega) (by omega), A1, ⟨o1, OR, WI, AS, aC_z o2 F1 (by omega) (by omega), aC_z o3 F1 (by omega) (by omega), aC_z o4 F1 (by omega) (by omega), o5⟩, a10⟩
/-- a field of the book -/
theorem z_bf {k : Nat} {v : Value} {t : Nat} {fs : List Value} (H : oC h b 11 fs) (hk : k < fs.length) (ht : jm_tk t v = true) (p : b ≠ m) : ∃ h', jm_pf h b 11 k t v = some h' ∧ zS m (fun c => c = b) (fun _ => False) h h' ∧ oC h' b 11 (fs.set k v) := by
  refine ⟨jm_set h b (.inr (11, fs.set k v)), ?_, zS_set (by rw [H.1]; show some (11, (fs.set k v).length, 9) = some (11, fs.length, 9); rw [List.length_set]) p, if_pos rfl, H.2⟩
  unfold jm_pf
  rw [if_pos H.2, H.1]
  exact if_pos ⟨rfl, hk, ht⟩
/-- an order -/
theorem z_order {o : aI} {c w q : Int32} (hc : c = Int32.ofNat (zo o).1) (hw : w = Int32.ofNat (zow o)) (hq : q = Int32.ofInt (zoq o)) (H : zRd h m b T i s) (hm : 128 ≤ m) (hbm : b = m + 2 ∨ m + 36 ≤ b) (hl : s.2.2.1.length < 800) : jF (jm_D (d + 1) mX13_order [.ref m, .ref b, .int c, .int w, .int q] h) (.inl none) fun h' => zS m (zRU b) zRF h h' ∧ zRd h' m b T i (s.1, s.2.1, s.2.2.1 ++ [o], s.2.2.2) := by
  subst hc hw hq
  have eL : ∀ h (H : oC h b 11 (zbF b 0 0 (Int32.ofNat s.2.2.2.1) (Int32.ofNat s.2.2.1.length))), jr_I h b 11 20 0 = some (Int32.ofNat s.2.2.1.length) ∧ jr_R h b 11 18 2 = some (b + 16) ∧ jr_R h b 11 19 2 = some (b + 17) ∧ jr_R h b 11 21 2 = some (b + 18) := fun h H => ⟨oC_I H rfl, oC_R H rfl, oC_R H rfl, oC_R H rfl⟩
  obtain ⟨a1, a2, a3, a4, a5, ⟨KD, FR, VL, k1, k2, k3, k4⟩, a7, a8, a9, ⟨o1, OR, WI, AS, o2, o3, o4, o5⟩, a10⟩ := H
  obtain ⟨x1, x2, x3, x4⟩ := eL h a5
  refine jE_of (fun r => gX13_order) ?_
  simp only [x1, x2, Option.bind_some]
  obtain ⟨h1, e1, F1, A1⟩ := z_asi (m := m) (i := s.2.2.1.length) (x := Int32.ofNat (zo o).1) o2 (by omega) hl (by omega)
  rw [nar0] at A1
  have c1 := oC_z a5 F1 (by omega) (by omega)
  obtain ⟨y1, y2, y3, y4⟩ := eL h1 c1
  simp only [e1, y1, y3, Option.bind_some]
  obtain ⟨h2, e2, F2, A2⟩ := z_asi (m := m) (i := s.2.2.1.length) (x := Int32.ofNat (zow o)) (aC_z o3 F1 (by omega) (by omega)) (by omega) hl (by omega)
  rw [nar0] at A2
  have c2 := oC_z c1 F2 (by omega) (by omega)
  obtain ⟨z1, z2, z3, z4⟩ := eL h2 c2
  simp only [e2, z1, z4, Option.bind_some]
  obtain ⟨h3, e3, F3, A3⟩ := z_asi (m := m) (i := s.2.2.1.length) (x := Int32.ofInt (zoq o)) (aC_z (aC_z o4 F1 (by omega) (by omega)) F2 (by omega) (by omega)) (by omega) hl (by omega)
  rw [nar0] at A3
  have c3 := oC_z c2 F3 (by omega) (by omega)
  obtain ⟨w1, w2, w3, w4⟩ := eL h3 c3
  simp only [e3, w1, Option.bind_some, jw_add1]
  obtain ⟨h4, e4, F4, c4⟩ := z_bf (m := m) (k := 20) (t := 0) (v := .int (Int32.ofNat (s.2.2.1.length + 1))) c3 (by show 20 < 22; omega) rfl (by omega)
  rw [e4, Option.bind_some]
  have FA : zS m (zRU b) (fun _ => False) h h4 := zS_2 F1 (zS_2 F2 (zS_2 F3 F4 (W := zRU b) (K := fun _ => False) (fun c z => by unfold zRU; omega) (fun c z => by unfold zRU; omega) (fun k z => z) (fun k z => z)) (W := zRU b) (K := fun _ => False) (fun c z => by unfold zRU; omega) (fun c z => z) (fun k z => z) (fun k z => z)) (fun c z => by unfold zRU; omega) (fun c z => z) (fun k z => z) (fun k z => z)
  refine jF_end ⟨zS_mn FA (fun c z => z) (fun k z => z.elim), zB_tr a1 FA (fun k z => z.elim), (zS_I FA id).trans a2, (zS_I FA id).trans a3, (zS_I FA id).trans a4, ?_, ⟨KD, FR, VL, aC_z k1 FA (by omega) (by unfold zRU; omega), aC_z k2 FA (by omega) (by unfold zRU; omega), lC_z k3 FA (by omega) (by unfold zRU; omega), k4⟩, ?_, ?_, ?_, ⟨?_, _, _, _, aC_z (aC_z (aC_z A1 F2 (by omega) (by omega)) F3 (by omega) (by omega)) F4 (by omega) (by omega), aC_z (aC_z A2 F3 (by omega) (by omega)) F4 (by omega) (by omega), aC_z A3 F4 (by omega) (by omega), fun k hk => ?_⟩, a10⟩
  · rw [List.length_append, List.length_singleton]
    exact c4
  · exact aC_z (aC_z (aC_z (aC_z a7 F1 (by omega) (by omega)) F2 (by omega) (by omega)) F3 (by omega) (by omega)) F4 (by omega) (by omega)
  · exact aC_z (aC_z (aC_z (aC_z a8 F1 (by omega) (by omega)) F2 (by omega) (by omega)) F3 (by omega) (by omega)) F4 (by omega) (by omega)
  · exact aC_z (aC_z (aC_z (aC_z a9 F1 (by omega) (by omega)) F2 (by omega) (by omega)) F3 (by omega) (by omega)) F4 (by omega) (by omega)
  · show (s.2.2.1 ++ [o]).length ≤ 800
    rw [List.length_append, List.length_singleton]
    omega
  · have hk' : k < (s.2.2.1 ++ [o]).length := hk
    rw [List.length_append, List.length_singleton] at hk'
    show _ = Int32.ofNat (zo ((s.2.2.1 ++ [o]).getD k oI0)).1 ∧ _ = Int32.ofNat (zow ((s.2.2.1 ++ [o]).getD k oI0)) ∧ _ = Int32.ofInt (zoq ((s.2.2.1 ++ [o]).getD k oI0))
    by_cases e : k = s.2.2.1.length
    · subst e
      have eg : (s.2.2.1 ++ [o]).getD s.2.2.1.length oI0 = o := by
        rw [List.getD_eq_getElem?_getD, List.getElem?_append_right (Nat.le_refl _), Nat.sub_self]
        rfl
      rw [eg]
      exact ⟨if_pos rfl, if_pos rfl, if_pos rfl⟩
    · have eg : (s.2.2.1 ++ [o]).getD k oI0 = s.2.2.1.getD k oI0 := by
        rw [List.getD_eq_getElem?_getD, List.getElem?_append_left (by omega), ← List.getD_eq_getElem?_getD]
      rw [eg]
      obtain ⟨p1, p2, p3⟩ := o5 k (by omega)
      exact ⟨(if_neg e).trans p1, (if_neg e).trans p2, (if_neg e).trans p3⟩
end ZQ
