/-! ===== LEVEL 3: the reference, owners and targets ===== -/
/-- one of some places -/
def zx (p : Nat → Prop) (i b : Nat) : Prop := ∃ j, i ≤ j ∧ j < b ∧ p j
theorem zx_T {p : Nat → Prop} {i b : Nat} (h : p i) (hi : i < b) : zx p i b := ⟨i, Nat.le_refl _, hi, h⟩
theorem zx_F {p : Nat → Prop} {i b : Nat} (h : ¬ p i) : zx p i b ↔ zx p (i + 1) b := by
  constructor
  · rintro ⟨j, h1, h2, h3⟩
    by_cases e : j = i
    · rw [e] at h3; exact absurd h3 h
    · exact ⟨j, by omega, h2, h3⟩
  · rintro ⟨j, h1, h2, h3⟩
    exact ⟨j, by omega, h2, h3⟩
theorem zx_0 {p : Nat → Prop} {i b : Nat} (h : b ≤ i) : ¬ zx p i b := by
  rintro ⟨j, h1, h2, h3⟩
  omega
theorem zx_g {p : Nat → Prop} {i b : Nat} {o : Option jm_R} {h : jm_H} (e : o = some (.inl (some (.int (jp (zx p (i + 1) b)))), h)) (q : ¬ p i) : o = some (.inl (some (.int (jp (zx p i b)))), h) := by
  rw [e, jp_cg (zx_F (p := p) (b := b) q)]
section ZO
variable {h h' h1 h2 : jm_H} {d m a n t k : Nat} {U V W F G K : Nat → Prop} {l : List Int}
theorem z_owner_loop {i : Nat} (hV : vR h a n l) (hn : n < 2000000) (hg : gN l) (hP : ry_P l) (hi : i < l.length) : ∀ b : Nat, b ≤ i → kX13_owner_4 (d + 1) a (Int32.ofNat i) (Int32.ofNat b + (-1)) h = some (.inl (some (.int (Int32.ofInt (ry_w l i b)))), h) := by
  have hl := vR_len hV
  intro b
  induction b with
  | zero =>
    intro _
    apply gX13_owner_4
    rw [if_pos (by decide)]
    rfl
  | succ b ih =>
    intro hb
    have ih' := ih (by omega)
    have er : ry_w l i (b + 1) = if l.getD b 0 = - l.getD i 0 ∧ i < ry_n l b then (b : Int) else ry_w l i b := rfl
    apply gX13_owner_4
    rw [jw_m1, if_neg (by rw [jw_neg (by omega)]; exact id)]
    have gi : (- l.getD i 0).natAbs < q10 := by rw [Int.natAbs_neg]; exact hg i
    simp only [vR_at hV (by omega) (show b < l.length by omega), vR_at hV (by omega) hi, Option.bind_some, ln_ng, ln_eq (hg b) gi]
    by_cases c : l.getD b 0 = - l.getD i 0
    · have h1 := ry_n_le (l := l) (i := b) (by omega)
      simp only [if_pos c, f_end hV hn hg hP (show b < l.length by omega), jc_I_eq, jw_lt (show i < 2147483648 by omega) (show ry_n l b < 2147483648 by omega)]
      by_cases c2 : i < ry_n l b
      · rw [if_pos c2, er, if_pos ⟨c, c2⟩, jw_in]
      · rw [if_neg c2, er, if_neg (fun z => c2 z.2)]
        exact ih'
    · rw [if_neg c, er, if_neg (fun z => c z.1)]
      exact ih'
theorem z_owner {i : Nat} (hV : vR h a n l) (hn : n < 2000000) (hg : gN l) (hP : ry_P l) (hi : i < l.length) : jm_D (d + 2) mX13_owner [.ref a, .int (Int32.ofNat i)] h = some (.inl (some (.int (Int32.ofInt (ry_w l i i)))), h) := by
  apply gX13_owner
  rw [show Int32.ofNat i - 1 = Int32.ofNat i + (-1) from Int32.sub_eq_add_neg _ _]
  exact z_owner_loop (d := d) hV hn hg hP hi i (Nat.le_refl _)
/-- what is marked -/
def zT (h : jm_H) (m lo hi : Nat) (tg : Nat → Bool) : Prop := ∃ TG, aC h (m + 30) 3 301 TG ∧ ∀ k, lo ≤ k → k < hi → TG k = if tg k = true then 1 else 0
theorem zT_z {lo hi : Nat} {tg : Nat → Bool} (H : zT h m lo hi tg) (A : zS m U F h h') (p : ¬ U (m + 30)) : zT h' m lo hi tg := by
  obtain ⟨TG, a1, a2⟩ := H
  exact ⟨TG, aC_z a1 A (by omega) p, a2⟩
theorem z_mark_loop {mk b : Nat} (hl : l.length ≤ 150) (hg : gN l) (hP : ry_P l) (hm : mk < l.length) (hb : b ≤ l.length) : ∀ (f i : Nat) (h : jm_H), i + f = b → mk < i → zK h m l → zT h m (mk + 1) i (ry_tg l mk b) → jF (kX13_markTargets_7 (d + 2) m (Int32.ofNat mk) (Int32.ofNat b) (Int32.ofNat (ry_t l mk b i)) (Int32.ofNat i) h) (.inl (some (.int (Int32.ofNat (ry_t l mk b b))))) fun h' => zS m (fun c => c = m + 30) (fun _ => False) h h' ∧ zT h' m (mk + 1) b (ry_tg l mk b) := by
  intro f
  induction f with
  | zero =>
    intro i h hi hmi H T
    have : i = b := by omega
    subst this
    refine jE_of (fun r => gX13_markTargets_7) ?_
    rw [if_neg (by rw [jw_lt (by omega) (by omega)]; omega)]
    exact jF_end ⟨zS_rf, T⟩
  | succ f ih =>
    intro i h hi hmi H T
    have hil : i < l.length := by omega
    refine jE_of (fun r => gX13_markTargets_7) ?_
    rw [if_pos (by rw [jw_lt (by omega) (by omega)]; omega)]
    have gm : (- l.getD mk 0).natAbs < q10 := by rw [Int.natAbs_neg]; exact hg mk
    simp only [zB_22 H.1, zB_18 H.1, Option.bind_some, zW_at H.2 hil, zW_at H.2 hm, ln_ng, ln_eq (hg i) gm]
    obtain ⟨TG, t1, t2⟩ := T
    have et : ry_t l mk b (i + 1) = ry_t l mk b i + if ry_tg l mk b i = true then 1 else 0 := rfl
    have go : ∀ (q : Bool) (x : Int32), q = ry_tg l mk b i → x = (if q = true then 1 else 0) → jF (kX13_markTargets_55 (d + 2) m (Int32.ofNat mk) (Int32.ofNat b) (Int32.ofNat (ry_t l mk b i)) (Int32.ofNat i) x (Int32.ofNat i) (m + 30) h) (.inl (some (.int (Int32.ofNat (ry_t l mk b b))))) fun h' => zS m (fun c => c = m + 30) (fun _ => False) h h' ∧ zT h' m (mk + 1) b (ry_tg l mk b) := by
      intro q x hq hx
      refine jE_of (fun r => gX13_markTargets_55) ?_
      obtain ⟨h1, e1, F1, A1⟩ := z_asi (m := m) (i := i) (x := x) t1 (by omega) (by omega) (by omega)
      have H1 := zK_0 H F1 (by omega)
      rw [nar3 (show x = 0 ∨ x = 1 by rw [hx]; cases q <;> simp)] at A1
      have T1 : zT h1 m (mk + 1) (i + 1) (ry_tg l mk b) := ⟨_, A1, fun k k1 k2 => by
        by_cases e : k = i
        · subst e
          rw [show upd TG k x k = x from if_pos rfl, hx, hq]
        · rw [show upd TG i x k = TG k from if_neg e]
          exact t2 k k1 (by omega)⟩
      simp only [e1, Option.bind_some, zB_22 H1.1, aC_at A1 (show i < 301 by omega) (by omega), show upd TG i x i = x from if_pos rfl]
      have ih' := ih (i + 1) h1 (by omega) (by omega) H1 T1
      rw [et, ← hq] at ih'
      cases q with
      | true =>
        rw [if_pos rfl] at ih' hx
        rw [hx, if_neg (by decide)]
        simp only [jw_add1]
        exact jF_mono ih' fun h2 ⟨F2, q2⟩ => ⟨zS_tr F1 F2, q2⟩
      | false =>
        rw [if_neg (by decide), Nat.add_zero] at ih'
        rw [if_neg (by decide)] at hx
        rw [hx, if_pos rfl]
        simp only [jw_add1, Int32.add_zero]
        exact jF_mono ih' fun h2 ⟨F2, q2⟩ => ⟨zS_tr F1 F2, q2⟩
    by_cases c : l.getD i 0 = - l.getD mk 0
    · rw [if_pos c]
      have hw := ry_w_lt (l := l) (i := i) i
      simp only [z_owner (d := d) H.2.2 (by omega) hg hP hil, jc_I_eq, jw_zeq (show -2147483648 ≤ ry_w l i i by omega) (show ry_w l i i < 2147483648 by omega) (show mk < 2147483648 by omega)]
      by_cases c2 : ry_w l i i = (mk : Int)
      · rw [if_pos c2]
        exact go true 1 (decide_eq_true ⟨hmi, by omega, c, c2⟩).symm rfl
      · rw [if_neg c2]
        exact go false 0 (decide_eq_false fun z => c2 z.2.2.2).symm rfl
    · rw [if_neg c]
      exact go false 0 (decide_eq_false fun z => c z.2.2.1).symm rfl
theorem ry_t_low {l : List Int} {mk b : Nat} : ∀ j, j ≤ mk + 1 → ry_t l mk b j = 0
  | 0, _ => rfl
  | j + 1, hj => by
    have e : ry_t l mk b (j + 1) = ry_t l mk b j + if ry_tg l mk b j = true then 1 else 0 := rfl
    rw [e, ry_t_low j (by omega), if_neg (fun z => by have := (ry_tg_at z).1; omega)]
theorem z_mark {mk b : Nat} (hl : l.length ≤ 150) (hg : gN l) (hP : ry_P l) (hm : mk < b) (hb : b ≤ l.length) (H : zK h m l) : jF (jm_D (d + 3) mX13_markTargets [.ref m, .int (Int32.ofNat mk), .int (Int32.ofNat b)] h) (.inl (some (.int (Int32.ofNat (ry_t l mk b b))))) fun h' => zS m (fun c => c = m + 30) (fun _ => False) h h' ∧ zT h' m (mk + 1) b (ry_tg l mk b) := by
  refine jE_of (fun r => gX13_markTargets) ?_
  obtain ⟨TG, t1⟩ := zB_a (o := 30) (t := 3) (n := 301) H.1 (Or.inr ⟨by omega, by omega⟩) rfl (by omega)
  have := z_mark_loop (d := d) (m := m) hl hg hP (show mk < l.length by omega) hb (b - (mk + 1)) (mk + 1) h (by omega) (by omega) H ⟨TG, t1, fun k k1 k2 => by omega⟩
  rw [ry_t_low (mk + 1) (Nat.le_refl _)] at this
  rw [jw_add1]
  exact this
theorem ry_sz_b {k : Nat} (hl : l.length ≤ 150) (hQ : ry_Q l k) : -2147483648 ≤ ry_sz l k ∧ ry_sz l k < 2147483648 := by
  obtain ⟨g1, g2, g3, g4, g5, g6⟩ := ry_Q_geo hQ
  have ht := ry_t_le (l := l) (m := k + 1) (a := ry_n l (k + 1)) (ry_n l (k + 1))
  unfold ry_sz
  have h1 : ry_t l (k + 1) (ry_n l (k + 1)) (ry_n l (k + 1)) ≤ 150 := by omega
  have h2 : ry_n l k - ry_n l (k + 1) ≤ 150 := by omega
  generalize ry_t l (k + 1) (ry_n l (k + 1)) (ry_n l (k + 1)) = t at h1 ⊢
  generalize ry_n l k - ry_n l (k + 1) = g at h2 ⊢
  have h3 : t * g ≤ 150 * 150 := Nat.mul_le_mul h1 h2
  have h4 : (t : Int) * (g : Int) = ((t * g : Nat) : Int) := (Int.natCast_mul _ _).symm
  rw [h4]
  omega
theorem z_size {k : Nat} (hl : l.length ≤ 150) (hg : gN l) (hQ : ry_Q l k) (H : zK h m l) : jF (jm_D (d + 4) mX13_sizeBehind [.ref m, .int (Int32.ofNat k)] h) (.inl (some (.int (Int32.ofInt (ry_sz l k))))) fun h' => zS m (fun c => c = m + 30) (fun _ => False) h h' := by
  obtain ⟨g1, g2, g3, g4, g5, g6⟩ := ry_Q_geo hQ
  have hP := hQ.1
  refine jE_of (fun r => gX13_sizeBehind) ?_
  have e2 : Int32.ofNat k + 2 = Int32.ofNat (k + 2) := jw_addL
  simp only [zB_18 H.1, Option.bind_some, e2, f_end H.2.2 (by omega) hg hP g3, jc_I_eq, g2]
  simp only [zB_18 H.1, Option.bind_some, f_end H.2.2 (by omega) hg hP (show ry_n l (k + 1) < l.length by omega), jc_I_eq, H.2.1, jm_O_eq (zB_ob H.1), jw_add1, ← g6]
  refine jE_I (z_mark (d := d) hl hg hP (by omega) (by omega) H) ?_
  rintro h1 ⟨F1, -⟩
  have esz : Int32.ofNat l.length - 2 - (Int32.ofNat (ry_n l k) - Int32.ofNat (ry_n l (k + 1))) + Int32.ofNat (ry_t l (k + 1) (ry_n l (k + 1)) (ry_n l (k + 1))) * (Int32.ofNat (ry_n l k) - Int32.ofNat (ry_n l (k + 1)) - 1) = Int32.ofInt (ry_sz l k) := by
    unfold ry_sz
    rw [jw_sub (by omega)]
    generalize ry_t l (k + 1) (ry_n l (k + 1)) (ry_n l (k + 1)) = t
    generalize ry_n l k - ry_n l (k + 1) = g
    simp only [← jw_in, show (2 : Int32) = Int32.ofInt 2 from rfl, show (1 : Int32) = Int32.ofInt 1 from rfl, ← Int32.ofInt_sub, ← Int32.ofInt_mul, ← Int32.ofInt_add]
    congr 1
    rw [Int.mul_sub, Int.mul_one]
    omega
  rw [esz]
  exact jF_end F1
theorem ry_r_Q {k : Nat} (hP : ry_P l) (hk : ry_r l = some k) : ry_Q l k := by
  obtain ⟨a1, a2, a3⟩ := ry_r_at hk
  exact ⟨hP, a3, a1, a2⟩
theorem z_can (hR : gR l) (H : zK h m l) : jF (jm_D (d + 5) mX13_canStepNow [.ref m] h) (.inl (some (.int (jp (ry_can l))))) fun h' => zS m (fun c => c = m + 30) (fun _ => False) h h' := by
  obtain ⟨hP, hw, hl⟩ := hR
  have hg := gW_gN hw
  refine jE_of (fun r => gX13_canStepNow) ?_
  simp only [jm_O_eq (zB_ob H.1), z_next (d := d + 3) H hP hg, jc_I_eq]
  cases q : ry_r l with
  | none =>
    rw [if_pos (show zN none = -1 from rfl), jp_F (fun z => by obtain ⟨k, z1, -⟩ := z; rw [q] at z1; cases z1)]
    exact jF_end zS_rf
  | some k =>
    have hQ := ry_r_Q hP q
    have hk := hQ.2.1
    rw [if_neg (by show ¬ Int32.ofNat k = -1; rw [← Int32.toInt_inj, jw_i (by omega)]; show ¬ (k : Int) = -1; omega)]
    refine jE_I (z_size (d := d) hl hg hQ H) ?_
    intro h1 F1
    have hb := ry_sz_b hl hQ
    rw [show (150 : Int32) = Int32.ofNat 150 from rfl]
    simp only [jw_ltz hb.1 hb.2 (show 150 < 2147483648 by omega)]
    by_cases c : ((150 : Nat) : Int) < ry_sz l k
    · rw [if_pos c, jp_F (fun z => by obtain ⟨k', z1, z2⟩ := z; rw [q] at z1; cases z1; omega)]
      exact jF_end F1
    · rw [if_neg c, jp_T ⟨k, q, by omega⟩]
      exact jF_end F1
end ZO
