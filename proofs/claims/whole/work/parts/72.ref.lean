/-! ===== LEVEL 3: the reference, many steps; sameness ===== -/
def zsg (j : Int64) : Int32 := Int64.toInt32 ((j >>> (Int32.toInt64 63 &&& 63)) ||| (UInt64.toInt64 (Int64.toUInt64 (-j) >>> (Int64.toUInt64 (Int32.toInt64 63) &&& Int64.toUInt64 63))))
theorem z_ss (x : BitVec 64) : x.sshiftRight 63 = if x.msb = true then BitVec.allOnes 64 else 0#64 := by
  apply BitVec.eq_of_getLsbD_eq
  intro i hi
  rw [BitVec.getLsbD_sshiftRight]
  have e : (if 63 + i < 64 then x.getLsbD (63 + i) else x.msb) = x.msb := by
    by_cases c : 63 + i < 64
    · have : i = 0 := by omega
      subst this
      rw [if_pos c, BitVec.msb_eq_getLsbD_last]
    · rw [if_neg c]
  rw [e]
  have h64 : ¬ 64 ≤ i := by omega
  cases x.msb with
  | true => rw [if_pos rfl, BitVec.getLsbD_allOnes, decide_eq_false h64, decide_eq_true hi]; rfl
  | false => rw [if_neg (by decide), decide_eq_false h64, BitVec.getLsbD_zero]; rfl
theorem zsg_eq {x : Int} (h : x.natAbs < q10) : zsg (Int64.ofInt x) = Int32.ofInt x.sign := by
  have eq : q10 = 4808584372417849 := by decide
  rw [eq] at h
  unfold zsg
  have e1 : (Int32.toInt64 63 &&& 63) = (63 : Int64) := by decide
  have e2 : (Int64.toUInt64 (Int32.toInt64 63) &&& Int64.toUInt64 63) = (63 : UInt64) := by decide
  rw [e1, e2]
  have em : (Int64.ofInt x).toBitVec.toInt = x := ln_z (by rw [eq]; exact h)
  have es : ((Int64.ofInt x) >>> (63 : Int64)).toBitVec = if x < 0 then BitVec.allOnes 64 else 0#64 := by
    rw [Int64.toBitVec_shiftRight]
    have e3 : (63 : Int64).toBitVec.smod 64 = 63#64 := by decide
    rw [e3]
    show (Int64.ofInt x).toBitVec.sshiftRight 63 = _
    rw [z_ss]
    have : (Int64.ofInt x).toBitVec.msb = true ↔ x < 0 := by
      rw [BitVec.msb_eq_toInt, em, decide_eq_true_iff]
    by_cases c : x < 0
    · rw [if_pos c, if_pos (this.mpr c)]
    · rw [if_neg c, if_neg (fun z => c (this.mp z))]
  by_cases c : x < 0
  · rw [if_pos c] at es
    have : ((Int64.ofInt x) >>> (63 : Int64)) ||| (UInt64.toInt64 (Int64.toUInt64 (-(Int64.ofInt x)) >>> (63 : UInt64))) = -1 := by
      apply Int64.toBitVec_inj.mp
      rw [Int64.toBitVec_or, es, BitVec.allOnes_or]
      rfl
    rw [this, show x.sign = -1 from Int.sign_eq_neg_one_of_neg c]
    rfl
  · rw [if_neg c] at es
    have e5 : ((Int64.ofInt x) >>> (63 : Int64)) = 0 := Int64.toBitVec_inj.mp es
    rw [e5]
    by_cases c0 : x = 0
    · subst c0
      decide
    · have ev : Int64.toUInt64 (-(Int64.ofInt x)) >>> (63 : UInt64) = 1 := by
        apply UInt64.toNat_inj.mp
        rw [UInt64.toNat_shiftRight]
        have e6 : (Int64.toUInt64 (-(Int64.ofInt x))).toNat = (18446744073709551616 - x.toNat) % 18446744073709551616 := by
          show (-(Int64.ofInt x).toBitVec).toNat = _
          rw [BitVec.toNat_neg]
          have : (Int64.ofInt x).toBitVec.toNat = x.toNat := by
            show (BitVec.ofInt 64 x).toNat = _
            rw [BitVec.toNat_ofInt]
            have e64 : ((2 ^ 64 : Nat) : Int) = 18446744073709551616 := rfl
            rw [e64, Int.emod_eq_of_lt (by omega) (by omega)]
          rw [this]
        rw [e6, Nat.shiftRight_eq_div_pow]
        have e7 : (63 : UInt64).toNat % 64 = 63 := rfl
        rw [e7]
        show (18446744073709551616 - x.toNat) % 18446744073709551616 / 9223372036854775808 = 1
        omega
      rw [ev, show x.sign = 1 from Int.sign_eq_one_of_pos (by omega)]
      decide
theorem zsg_iff {x y : Int} (hx : x.natAbs < q10) (hy : y.natAbs < q10) : zsg (Int64.ofInt x) = zsg (Int64.ofInt y) ↔ x.sign = y.sign := by
  rw [zsg_eq hx, zsg_eq hy]
  have hb : ∀ z : Int, -1 ≤ z.sign ∧ z.sign ≤ 1 := fun z => by
    rcases Int.lt_trichotomy z 0 with c | c | c
    · rw [Int.sign_eq_neg_one_of_neg c]; omega
    · rw [c]; decide
    · rw [Int.sign_eq_one_of_pos c]; omega
  have b1 := hb x
  have b2 := hb y
  constructor
  · intro q
    have := congrArg Int32.toInt q
    rw [jw_z (by omega) (by omega), jw_z (by omega) (by omega)] at this
    exact this
  · intro q; rw [q]
theorem jp_g {P Q : Prop} {o : Option jm_R} {h : jm_H} (e : o = some (.inl (some (.int (jp P))), h)) (q : P ↔ Q) : o = some (.inl (some (.int (jp Q))), h) := by
  rw [e, jp_cg q]
section ZA
variable {h h' h1 h2 : jm_H} {d m a b n t k : Nat} {U V W F G K : Nat → Prop} {l u : List Int}
/-- how many steps -/
def zc : Nat → List Int → Nat
  | 0, _ => 0
  | n + 1, l => match ry_r l with
    | none => 0
    | some k => if ry_sz l k ≤ 150 then zc n (ry_st l k) + 1 else 0
theorem zc_le : ∀ (n : Nat) (l : List Int), zc n l ≤ n
  | 0, _ => Nat.le_refl _
  | n + 1, l => by
    unfold zc
    cases ry_r l with
    | none => exact Nat.zero_le _
    | some k =>
      simp only []
      have := zc_le n (ry_st l k)
      split <;> omega
theorem zc_uf : ∀ (n : Nat) (l : List Int), (if ry_r (ry_go n l) = none then (zc n l : Int) else -1) = ry_uf n l
  | 0, l => by
    unfold ry_go ry_uf zc
    cases q : ry_r l with
    | none => rw [if_pos rfl]; rfl
    | some k => rw [if_neg (by simp)]
  | n + 1, l => by
    unfold ry_go ry_uf zc
    cases q : ry_r l with
    | none =>
      simp only []
      rw [q, if_pos rfl]; rfl
    | some k =>
      simp only []
      have ih := zc_uf n (ry_st l k)
      by_cases c : ry_sz l k ≤ 150
      · rw [if_pos c, if_pos c, if_pos c, ← ih]
        by_cases c2 : ry_r (ry_go n (ry_st l k)) = none
        · rw [if_pos c2, if_pos c2, if_neg (by omega)]
          omega
        · rw [if_neg c2, if_neg c2, if_pos (by omega)]
      · rw [if_neg c, if_neg c, if_neg c, q, if_neg (by simp)]
theorem z_on_loop {n : Nat} (hn : n < 1000) : ∀ (f i : Nat) (l : List Int) (h : jm_H), i + f = n → gR l → zK h m l → jF (kX13_stepOn_2 (d + 6) m (Int32.ofNat n) (Int32.ofNat i) h) (.inl (some (.int (Int32.ofNat (i + zc f l))))) fun h' => zS m (zU m) (fun k => k = 19) h h' ∧ zK h' m (ry_go f l) := by
  intro f
  induction f with
  | zero =>
    intro i l h hi hR H
    refine jE_of (fun r => gX13_stepOn_2) ?_
    rw [if_neg (by rw [jw_lt (by omega) (by omega)]; omega)]
    exact jF_end ⟨zS_rf, H⟩
  | succ f ih =>
    intro i l h hi hR H
    refine jE_of (fun r => gX13_stepOn_2) ?_
    rw [if_pos (by rw [jw_lt (by omega) (by omega)]; omega)]
    simp only [jm_O_eq (zB_ob H.1)]
    refine jE_I (z_can (d := d + 1) hR H) ?_
    intro h1 F1
    have H1 := zK_0 H F1 (by omega)
    have G1 : zS m (zU m) (fun k => k = 19) h h1 := zS_mn F1 (fun c z => Or.inr (Or.inr z)) (fun k z => z.elim)
    unfold ry_go zc
    cases q : ry_r l with
    | none =>
      rw [jp_F (fun z => by obtain ⟨k, z1, -⟩ := z; rw [q] at z1; cases z1), if_pos rfl]
      exact jF_end ⟨G1, H1⟩
    | some k =>
      simp only []
      by_cases c : ry_sz l k ≤ 150
      · rw [jp_T ⟨k, q, c⟩, if_neg (by decide), if_pos c, if_pos c]
        simp only [jm_O_eq (zB_ob H1.1), jw_add1]
        refine jE_I (z_take (d := d) hR q c H1) ?_
        rintro h2 ⟨F2, H2⟩
        have := ih (i + 1) (ry_st l k) h2 (by omega) (gR_st hR q c) H2
        rw [show i + 1 + zc f (ry_st l k) = i + (zc f (ry_st l k) + 1) by omega] at this
        exact jF_mono this fun h3 ⟨F3, q3⟩ => ⟨zS_tr G1 (zS_tr F2 F3), q3⟩
      · rw [jp_F (fun z => by obtain ⟨k', z1, z2⟩ := z; rw [q] at z1; cases z1; exact c z2), if_pos rfl, if_neg c, if_neg c]
        exact jF_end ⟨G1, H1⟩
theorem z_on {n : Nat} (hn : n < 1000) (hR : gR l) (H : zK h m l) : jF (jm_D (d + 7) mX13_stepOn [.ref m, .int (Int32.ofNat n)] h) (.inl (some (.int (Int32.ofNat (zc n l))))) fun h' => zS m (zU m) (fun k => k = 19) h h' ∧ zK h' m (ry_go n l) := by
  refine jE_of (fun r => gX13_stepOn) ?_
  have := z_on_loop (d := d) (m := m) hn n 0 l h (by omega) hR H
  rw [Nat.zero_add] at this
  exact this
theorem zN_m1 {o : Option Nat} (ho : ∀ k, o = some k → k < 1000) : zN o = -1 ↔ o = none := by
  cases o with
  | none => exact ⟨fun _ => rfl, fun _ => rfl⟩
  | some k =>
    have := ho k rfl
    constructor
    · intro z
      exfalso
      have z' := congrArg Int32.toInt (show Int32.ofNat k = -1 from z)
      rw [jw_i (by omega)] at z'
      have e : (-1 : Int32).toInt = -1 := rfl
      omega
    · intro z; cases z
theorem ry_r_b {k : Nat} (hl : l.length ≤ 150) (hk : ry_r l = some k) : k < 1000 := by
  obtain ⟨a1, a2, a3⟩ := ry_r_at hk
  omega
theorem z_left (hR : gR l) (H : zK h m l) : jF (jm_D (d + 8) mX13_stepsLeft [.ref m] h) (.inl (some (.int (Int32.ofInt (ry_uf 40 l))))) fun h' => zS m (zU m) (fun k => k = 19) h h' ∧ ∃ l', zK h' m l' := by
  refine jE_of (fun r => gX13_stepsLeft) ?_
  simp only [jm_O_eq (zB_ob H.1)]
  refine jE_I (z_on (d := d) (n := 40) (by omega) hR H) ?_
  rintro h1 ⟨F1, H1⟩
  have hR1 := gR_go 40 hR
  simp only [jm_O_eq (zB_ob H1.1), z_next (d := d + 6) H1 hR1.1 (gW_gN hR1.2.1), jc_I_eq]
  rw [← zc_uf]
  by_cases c : ry_r (ry_go 40 l) = none
  · rw [if_pos ((zN_m1 (fun k q => ry_r_b hR1.2.2 q)).mpr c), if_pos c, jw_in]
    exact jF_end ⟨F1, _, H1⟩
  · rw [if_neg (fun z => c ((zN_m1 (fun k q => ry_r_b hR1.2.2 q)).mp z)), if_neg c]
    exact jF_end ⟨F1, _, H1⟩
/-! sameness -/
theorem z_signum {x : Int64} : jm_D (d + 1) mJ13_signum_95d88 [.long x] h = some (.inl (some (.int (zsg x))), h) := gJ13_signum_95d88 rfl
/-- whether two rows are the same, from a place on -/
def zl (a b : List Int) : Nat → Nat → Prop
  | 0, _ => True
  | f + 1, i => (a.getD i 0).sign = (b.getD i 0).sign ∧ (0 < a.getD i 0 → ry_w a i i = ry_w b i i ∧ (ry_w a i i = -1 → a.getD i 0 = b.getD i 0)) ∧ zl a b f (i + 1)
theorem zl_all {a b : List Int} : ∀ f i, zl a b f i ↔ ∀ j, i ≤ j → j < i + f → (a.getD j 0).sign = (b.getD j 0).sign ∧ (0 < a.getD j 0 → ry_w a j j = ry_w b j j ∧ (ry_w a j j = -1 → a.getD j 0 = b.getD j 0))
  | 0, i => ⟨fun _ j h1 h2 => by omega, fun _ => trivial⟩
  | f + 1, i => by
    have ih := zl_all (a := a) (b := b) f (i + 1)
    constructor
    · rintro ⟨q1, q2, q3⟩ j h1 h2
      by_cases e : j = i
      · rw [e]; exact ⟨q1, q2⟩
      · exact ih.mp q3 j (by omega) (by omega)
    · intro q
      have := q i (Nat.le_refl _) (by omega)
      exact ⟨this.1, this.2, ih.mpr fun j h1 h2 => q j (by omega) (by omega)⟩
theorem zl_like (hl : l.length = u.length) : zl l u l.length 0 ↔ ry_like l u := by
  rw [zl_all]
  constructor
  · intro q
    exact ⟨⟨hl, fun i hi => (q i (Nat.zero_le _) (by omega)).1⟩, fun i hi hx => (q i (Nat.zero_le _) (by omega)).2 hx⟩
  · rintro ⟨⟨-, q1⟩, q2⟩ j - hj
    exact ⟨q1 j (by omega), fun hx => q2 j (by omega) hx⟩
theorem z_alike_loop (hR : gR l) (hS : gR u) (hlu : l.length = u.length) (H : zK h m l) (O : vR h (m + 29) 301 u) : ∀ (f i : Nat) (o1 o3 : Option Value), i + f = l.length → kX13_isAlike_12 (d + 2) m o1 (Int32.ofNat i) o3 h = some (.inl (some (.int (jp (zl l u f i)))), h) := by
  obtain ⟨hP, hw, hl⟩ := hR
  obtain ⟨hP2, hw2, hl2⟩ := hS
  have hg := gW_gN hw
  have hg2 := gW_gN hw2
  intro f
  induction f with
  | zero =>
    intro i o1 o3 hi
    apply gX13_isAlike_12
    simp only [H.2.1, Option.bind_some]
    rw [if_neg (by rw [jw_lt (by omega) (by omega)]; omega), jp_T (show zl l u 0 i from trivial)]
  | succ f ih =>
    intro i o1 o3 hi
    have hil : i < l.length := by omega
    have hiu : i < u.length := by omega
    have nx := fun o1 o3 => ih (i + 1) o1 o3 (by omega)
    apply gX13_isAlike_12
    simp only [H.2.1, Option.bind_some]
    rw [if_pos (by rw [jw_lt (by omega) (by omega)]; omega)]
    simp only [zB_18 H.1, zB_21 H.1, Option.bind_some, zW_at H.2 hil, vR_at O (by omega) hiu, z_signum (d := d + 1), jc_I_eq, zsg_iff (hg i) (hg2 i), ln_pos (hg i), jw_add1]
    by_cases c1 : (l.getD i 0).sign = (u.getD i 0).sign
    · rw [if_pos c1]
      by_cases c2 : 0 < l.getD i 0
      · rw [if_pos c2]
        have b1 := ry_w_lt (l := l) (i := i) i
        have b2 := ry_w_lt (l := u) (i := i) i
        simp only [z_owner (d := d) H.2.2 (by omega) hg hP hil, z_owner (d := d) O (by omega) hg2 hP2 hiu, jc_I_eq, zB_21 H.1, Option.bind_some]
        have ei : Int32.ofInt (ry_w l i i) = Int32.ofInt (ry_w u i i) ↔ ry_w l i i = ry_w u i i := by
          rw [← Int32.toInt_inj, jw_z (by omega) (by omega), jw_z (by omega) (by omega)]
        have en : Int32.ofInt (ry_w l i i) = -1 ↔ ry_w l i i = -1 := by
          rw [← Int32.toInt_inj, jw_z (by omega) (by omega)]
          exact Iff.rfl
        simp only [ei, en, ln_eq (hg i) (hg2 i)]
        by_cases c3 : ry_w l i i = ry_w u i i
        · rw [if_pos c3]
          by_cases c4 : ry_w l i i = -1
          · rw [if_pos c4]
            simp only [zB_18 H.1, Option.bind_some, zW_at H.2 hil, vR_at O (by omega) hiu, ln_eq (hg i) (hg2 i)]
            by_cases c5 : l.getD i 0 = u.getD i 0
            · rw [if_pos c5]
              exact jp_g (nx _ _) ⟨fun z => ⟨c1, fun _ => ⟨c3, fun _ => c5⟩, z⟩, fun z => z.2.2⟩
            · rw [if_neg c5, jp_F (fun z => c5 ((z.2.1 c2).2 c4))]
          · rw [if_neg c4]
            exact jp_g (nx _ _) ⟨fun z => ⟨c1, fun _ => ⟨c3, fun y => absurd y c4⟩, z⟩, fun z => z.2.2⟩
        · rw [if_neg c3, jp_F (fun z => c3 (z.2.1 c2).1)]
      · rw [if_neg c2]
        exact jp_g (nx _ _) ⟨fun z => ⟨c1, fun y => absurd y c2, z⟩, fun z => z.2.2⟩
    · rw [if_neg c1, jp_F (fun z => c1 z.1)]
theorem z_alike (hR : gR l) (hS : gR u) (H : zK h m l) (O : vR h (m + 29) 301 u) : jm_D (d + 3) mX13_isAlike [.ref m, .int (Int32.ofNat u.length)] h = some (.inl (some (.int (jp (ry_like l u)))), h) := by
  have h1 := hR.2.2
  have h2 := hS.2.2
  apply gX13_isAlike
  simp only [H.2.1, Option.bind_some, jw_eq (show l.length < 2147483648 by omega) (show u.length < 2147483648 by omega)]
  by_cases c : l.length = u.length
  · rw [if_pos c]
    have := z_alike_loop (d := d) hR hS c H O l.length 0 (some (.int (Int32.ofNat u.length))) none (by omega)
    rw [jp_cg (zl_like c)] at this
    exact this
  · rw [if_neg c, jp_F (fun z => c z.1.1)]
theorem z_aside (H : zK h m l) : jF (jm_D (d + 1) mX13_setAside [.ref m] h) (.inl (some (.int (Int32.ofNat l.length)))) fun h' => zS m (fun c => c = m + 29) (fun _ => False) h h' ∧ zK h' m l ∧ vR h' (m + 29) 301 l := by
  refine jE_of (fun r => gX13_setAside) ?_
  obtain ⟨g, L⟩ := zB_l (o := 29) (n := 301) H.1 (Or.inr ⟨by omega, by omega⟩) rfl
  obtain ⟨h1, e1, F1, V1⟩ := vR_cp (m := m) L H.2.2 (by omega) (vR_len H.2.2) (by omega) (by omega)
  have H1 := zK_0 H F1 (by omega)
  simp only [zB_18 H.1, zB_21 H.1, H.2.1, Option.bind_some, e1, H1.2.1]
  exact jF_end ⟨F1, H1, V1⟩
end ZA
