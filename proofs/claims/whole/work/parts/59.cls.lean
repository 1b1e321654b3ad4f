set_option maxRecDepth 100000 in
theorem fp_1 : ∀ s, s < 151 → FP.ddiv (FP.i2d (Int32.ofNat s)) (FP.i2d (Int32.ofNat 1)) &&& 0x7fffffffffffffff ≤ 0x7ff0000000000000 := by decide +kernel
set_option maxRecDepth 100000 in
theorem fp_2 : ∀ s, s < 301 → FP.ddiv (FP.i2d (Int32.ofNat s)) (FP.i2d (Int32.ofNat 2)) &&& 0x7fffffffffffffff ≤ 0x7ff0000000000000 := by decide +kernel
set_option maxRecDepth 100000 in
theorem fp_3 : ∀ s, s < 451 → FP.ddiv (FP.i2d (Int32.ofNat s)) (FP.i2d (Int32.ofNat 3)) &&& 0x7fffffffffffffff ≤ 0x7ff0000000000000 := by decide +kernel
set_option maxRecDepth 100000 in
theorem fp_4 : ∀ s, s < 601 → FP.ddiv (FP.i2d (Int32.ofNat s)) (FP.i2d (Int32.ofNat 4)) &&& 0x7fffffffffffffff ≤ 0x7ff0000000000000 := by decide +kernel
set_option maxRecDepth 100000 in
theorem fp_5 : ∀ s, s < 751 → FP.ddiv (FP.i2d (Int32.ofNat s)) (FP.i2d (Int32.ofNat 5)) &&& 0x7fffffffffffffff ≤ 0x7ff0000000000000 := by decide +kernel
set_option maxRecDepth 100000 in
theorem fp_6 : ∀ s, s < 901 → FP.ddiv (FP.i2d (Int32.ofNat s)) (FP.i2d (Int32.ofNat 6)) &&& 0x7fffffffffffffff ≤ 0x7ff0000000000000 := by decide +kernel
set_option maxRecDepth 100000 in
theorem fp_7 : ∀ s, s < 1051 → FP.ddiv (FP.i2d (Int32.ofNat s)) (FP.i2d (Int32.ofNat 7)) &&& 0x7fffffffffffffff ≤ 0x7ff0000000000000 := by decide +kernel
set_option maxRecDepth 100000 in
theorem fp_8 : ∀ s, s < 1201 → FP.ddiv (FP.i2d (Int32.ofNat s)) (FP.i2d (Int32.ofNat 8)) &&& 0x7fffffffffffffff ≤ 0x7ff0000000000000 := by decide +kernel
set_option maxRecDepth 100000 in
theorem fp_9 : ∀ s, s < 1351 → FP.ddiv (FP.i2d (Int32.ofNat s)) (FP.i2d (Int32.ofNat 9)) &&& 0x7fffffffffffffff ≤ 0x7ff0000000000000 := by decide +kernel
set_option maxRecDepth 100000 in
theorem fp_10 : ∀ s, s < 1501 → FP.ddiv (FP.i2d (Int32.ofNat s)) (FP.i2d (Int32.ofNat 10)) &&& 0x7fffffffffffffff ≤ 0x7ff0000000000000 := by decide +kernel
set_option maxRecDepth 100000 in
theorem fp_11 : ∀ s, s < 1651 → FP.ddiv (FP.i2d (Int32.ofNat s)) (FP.i2d (Int32.ofNat 11)) &&& 0x7fffffffffffffff ≤ 0x7ff0000000000000 := by decide +kernel
set_option maxRecDepth 100000 in
theorem fp_12 : ∀ s, s < 1801 → FP.ddiv (FP.i2d (Int32.ofNat s)) (FP.i2d (Int32.ofNat 12)) &&& 0x7fffffffffffffff ≤ 0x7ff0000000000000 := by decide +kernel
theorem fp_ok (n : Nat) (h1 : n < 13) (h0 : n ≠ 0) (s : Nat) (hs : s ≤ 150 * n) : FP.ddiv (FP.i2d (Int32.ofNat s)) (FP.i2d (Int32.ofNat n)) &&& 0x7fffffffffffffff ≤ 0x7ff0000000000000 := by
  match n, h0, h1, hs with
  | 1, _, _, hs => exact fp_1 s (by omega)
  | 2, _, _, hs => exact fp_2 s (by omega)
  | 3, _, _, hs => exact fp_3 s (by omega)
  | 4, _, _, hs => exact fp_4 s (by omega)
  | 5, _, _, hs => exact fp_5 s (by omega)
  | 6, _, _, hs => exact fp_6 s (by omega)
  | 7, _, _, hs => exact fp_7 s (by omega)
  | 8, _, _, hs => exact fp_8 s (by omega)
  | 9, _, _, hs => exact fp_9 s (by omega)
  | 10, _, _, hs => exact fp_10 s (by omega)
  | 11, _, _, hs => exact fp_11 s (by omega)
  | 12, _, _, hs => exact fp_12 s (by omega)
  | 0, h0, _, _ => exact absurd rfl h0
  | k + 13, _, h1, _ => omega
/-! ===== LEVEL 3: MaskPlays, gifts, sizes, the checksum ===== -/
def dfold (f : Nat → Int64) : Nat → Int64 → Int64
  | 0, D => D
  | j + 1, D => dfold f j D * 31 + f j
/-- the checksum with a play -/
noncomputable def adp (B : aB) (G : aG) (p : Nat) (D : Int64) : Int64 :=
  dfold (fun q => (Int32.ofNat (jcnt (fun k => decide ((G.1.1 p).getD k 0 = (B.1.getD q 0 : Nat) ∧ ry_w (G.1.1 p) k k < 0)) (G.1.1 p).length)).toInt64) B.1.length
    (dfold (fun k => (Int32.ofNat ((tx (G.1.1 p) (G.1.1 p).length).1.getD k 0)).toInt64) (txs (G.1.1 p) (G.1.1 p).length)
      (((((((((D * 31 + (Int32.ofNat (G.1.1 p).length).toInt64) * 31 + (Int32.ofNat (ry_cm (G.1.1 p))).toInt64) * 31 + (Int32.ofNat (ry_cs (G.1.1 p))).toInt64) * 31 + (Int32.ofNat (ry_mm (G.1.1 p) (G.1.1 p).length)).toInt64) * 31 + (G.1.2 p).toInt64) * 31 + (jp (ry_r (G.1.1 p) = none)).toInt64) * 31 + (jp (ry_like (G.1.1 p) (B.2.2.1 p))).toInt64) * 31) + (Int32.ofNat (txs (G.1.1 p) (G.1.1 p).length)).toInt64))
noncomputable def adps (B : aB) (G : aG) : Nat → Int64 → Int64
  | 0, D => D
  | p + 1, D => adp B G p (adps B G p D)
noncomputable def adg (B : aB) (G : aG) (tl : Nat) : Int64 :=
  adps B G B.2.1.length ((((((941 * 31 + (Int32.ofNat B.1.length).toInt64) * 31 + (Int32.ofNat B.2.1.length).toInt64) * 31 + (Int32.ofNat B.2.2.2.length).toInt64) * 31 + G.2.1.toInt64) * 31 + G.2.2.toInt64) * 31 + (Int32.ofNat tl).toInt64)
def asum (S : aS) : Nat → Nat
  | 0 => 0
  | p + 1 => asum S p + (S.1 p).length
/-- the mean size -/
def amean (S : aS) (pc : Nat) : UInt64 := if 0 < pc then FP.ddiv (FP.i2d (Int32.ofNat (asum S pc))) (FP.i2d (Int32.ofNat pc)) else FP.dconst0
theorem abg_b {S : aS} {p : Nat} : ∀ j, -1 ≤ (abg S p j).1 ∧ (abg S p j).1 < j ∧ (abg S p j).2 ≤ 41
  | 0 => ⟨Int.le_refl _, by show (-1 : Int) < 0; omega, Nat.le_refl _⟩
  | j + 1 => by
    have ih := abg_b (S := S) (p := p) j
    unfold abg
    split
    · rename_i q
      have hb := ry_uf_b ((abg S p j).2 - 1) (0 :: S.1 p ++ S.1 j)
      refine ⟨by simp only []; omega, by simp only []; omega, ?_⟩
      simp only []
      omega
    · omega
section CL
variable {h h' : jm_H} {d x : Nat} {B : aB} {G : aG} {tp : List Nat} {er : Int} {sc : Nat × (Nat → Int32)} {U : Nat → Prop} {i j : Int32}
theorem c_giftSteps {p q f : Nat} (H : CI h x B G tp er sc) (hp : p < B.2.1.length) (hq : q < B.2.1.length) (hf : f ≤ 41) :
    jF (jm_D (d + 6) mX11_stepsWithGift [.ref x, .ref (x + 234 + 5 * p), .ref (x + 234 + 5 * q), .int (Int32.ofNat f - 1)] h) (.inl (some (.int (Int32.ofInt (if 1 + (G.1.1 p).length + (G.1.1 q).length ≤ 150 ∧ 0 < f then ry_uf (f - 1) (0 :: G.1.1 p ++ G.1.1 q) else -1))))) fun h' => jS (wS x) h h' ∧ CI h' x B G tp er sc := by
  have h12 := CI_12 H
  have hR := CI_gR H hp
  have hRq := CI_gR H hq
  obtain ⟨e8, e9, e10, e11, e12, e13⟩ := CB_st H.1
  obtain ⟨l1, P1⟩ := H.2.2.1.2.2.1
  refine jE_of (fun r => gX11_stepsWithGift) ?_
  simp only [pU_fitInScene (pL_U (CI_part H hp)) (pL_U (CI_part H hq)), jc_I_eq]
  by_cases c : 1 + (G.1.1 p).length + (G.1.1 q).length ≤ 150
  · rw [jp_T c, if_neg (by decide)]
    simp only [e11, Option.bind_some, jm_O_eq (pU_ob P1)]
    refine jE_V (pU_setToScene (d := d + 2) (by omega) (by omega) P1 (pL_U (CI_part H hp)) (pL_U (CI_part H hq)) c hR.1 hRq.1) ?_
    rintro h1 ⟨F1, L1⟩
    have C1 := CI_scr H F1 wS_tr (CS_try H.2.2.1 F1 ⟨_, pL_U L1⟩)
    have g1 := gR_give hR hRq c
    obtain ⟨e8, e9, e10, e11, e12, e13⟩ := CB_st C1.1
    simp only [e8, e11, Option.bind_some, jm_O_eq (tI_ob C1.2.2.1.1)]
    by_cases z : 0 < f
    · obtain ⟨f', rfl⟩ : ∃ f', f = f' + 1 := ⟨f - 1, by omega⟩
      rw [jw_sub1, if_pos ⟨c, z⟩, Nat.add_sub_cancel]
      refine jE_I (t_until (d := d) (n := f') (by omega) (by omega) g1 L1 C1.2.2.1.1) ?_
      rintro h2 ⟨F2, T2, l2, L2⟩
      exact jF_end ⟨jS_tr (jS_mn F1 wS_tr) (jS_mn F2 wS_go), CI_scr C1 F2 wS_go (CS_go C1.2.2.1 F2 T2 ⟨_, pL_U L2⟩)⟩
    · have : f = 0 := by omega
      subst this
      rw [if_neg (fun y => z y.2), show Int32.ofNat 0 - 1 = -1 from rfl]
      refine jE_I (t_untilM (d := d) g1 L1 C1.2.2.1.1) ?_
      rintro h2 ⟨F2, T2, l2, L2⟩
      exact jF_end ⟨jS_tr (jS_mn F1 wS_tr) (jS_mn F2 wS_go), CI_scr C1 F2 wS_go (CS_go C1.2.2.1 F2 T2 ⟨_, pL_U L2⟩)⟩
  · rw [jp_F c, if_pos rfl, if_neg (fun y => c y.1)]
    exact jF_end ⟨jS_rf, H⟩
theorem c_gift_loop {p : Nat} (hp : p < B.2.1.length) : ∀ (f q : Nat) (o1 o6 : Option Value) (h : jm_H), q + f = B.2.1.length → CI h x B G tp er sc →
    jF (kX11_bestGift_15 (d + 6) x o1 (x + 234 + 5 * p) (Int32.ofInt (abg G.1 p q).1) (Int32.ofNat (abg G.1 p q).2) (Int32.ofNat q) o6 h) (.inl (some (.int (Int32.ofInt (abg G.1 p B.2.1.length).1)))) fun h' => jS (wS x) h h' ∧ CI h' x B G tp er sc := by
  intro f
  induction f with
  | zero =>
    intro q o1 o6 h hq H
    have h12 := CI_12 H
    obtain ⟨bk, e1, HB, hbk⟩ := CB_bk H.1
    refine jE_of (fun r => gX11_bestGift_15) ?_
    simp only [e1, bA_1 HB, Option.bind_some]
    rw [if_neg (by rw [jw_lt (by omega) (by omega)]; omega)]
    have : q = B.2.1.length := by omega
    subst this
    exact jF_end ⟨jS_rf, H⟩
  | succ f ih =>
    intro q o1 o6 h hq H
    have h12 := CI_12 H
    have hql : q < B.2.1.length := by omega
    obtain ⟨bk, e1, HB, hbk⟩ := CB_bk H.1
    obtain ⟨e8, e9, e10, e11, e12, e13⟩ := CB_st H.1
    have hb := abg_b (S := G.1) (p := p) q
    refine jE_of (fun r => gX11_bestGift_15) ?_
    simp only [e1, bA_1 HB, Option.bind_some, e9, jm_O_eq (sA_ob H.2.1), g_partAt H.2.1.1 (show q < 12 by omega), jc_R_eq, jm_O_eq (CB_ob H.1), jw_add1]
    rw [if_pos (by rw [jw_lt (by omega) (by omega)]; omega)]
    refine jE_I (c_giftSteps (d := d) H hp hql hb.2.2) ?_
    rintro h1 ⟨F1, C1⟩
    have est : abg G.1 p (q + 1) = if 1 + (G.1.1 p).length + (G.1.1 q).length ≤ 150 ∧ 0 < (abg G.1 p q).2 ∧ 0 ≤ ry_uf ((abg G.1 p q).2 - 1) (0 :: G.1.1 p ++ G.1.1 q) then ((q : Int), (ry_uf ((abg G.1 p q).2 - 1) (0 :: G.1.1 p ++ G.1.1 q)).toNat) else abg G.1 p q := rfl
    have hu := ry_uf_b ((abg G.1 p q).2 - 1) (0 :: G.1.1 p ++ G.1.1 q)
    have ih1 := ih (q + 1)
    generalize abg G.1 p (q + 1) = R at est ih1
    generalize abg G.1 p q = R0 at *
    by_cases c : 1 + (G.1.1 p).length + (G.1.1 q).length ≤ 150 ∧ 0 < R0.2
    · rw [if_pos c]
      by_cases c2 : 0 ≤ ry_uf (R0.2 - 1) (0 :: G.1.1 p ++ G.1.1 q)
      · rw [if_pos ⟨c.1, c.2, c2⟩] at est
        subst est
        rw [if_neg (by rw [jw_zneg (by omega) (by omega)]; omega)]
        have := ih1 o1 (some (.int (Int32.ofInt (ry_uf (R0.2 - 1) (0 :: G.1.1 p ++ G.1.1 q))))) h1 (by omega) C1
        simp only [jw_in] at this
        rw [show Int32.ofNat (ry_uf (R0.2 - 1) (0 :: G.1.1 p ++ G.1.1 q)).toNat = Int32.ofInt (ry_uf (R0.2 - 1) (0 :: G.1.1 p ++ G.1.1 q)) by rw [← jw_in]; congr 1; omega] at this
        exact jF_mono this fun h2 ⟨F2, q⟩ => ⟨jS_tr F1 F2, q⟩
      · rw [if_neg (fun z => c2 z.2.2)] at est
        subst est
        rw [if_pos (by rw [jw_zneg (by omega) (by omega)]; omega)]
        exact jF_mono (ih1 _ _ h1 (by omega) C1) fun h2 ⟨F2, q⟩ => ⟨jS_tr F1 F2, q⟩
    · rw [if_neg (fun z => c ⟨z.1, z.2.1⟩)] at est
      subst est
      rw [if_neg c, if_pos (by decide)]
      exact jF_mono (ih1 _ _ h1 (by omega) C1) fun h2 ⟨F2, q⟩ => ⟨jS_tr F1 F2, q⟩
theorem c_bestGift (H : CI h x B G tp er sc) : ∀ a : aA, a = (match aqp B.2.1.length i with | none => .inr 2 | some p => .inl (Int32.ofInt (abg G.1 p B.2.1.length).1)) → jF (jm_D (d + 7) mX11_bestGift [.ref x, .int i] h) (rv a) fun h' => jG (wS x) (rg a) h h' ∧ CI h' x B G tp er sc := by
  intro a ha
  have h12 := CI_12 H
  refine jE_of (fun r => gX11_bestGift) ?_
  rw [jm_O_eq (CB_ob H.1)]
  cases q : aqp B.2.1.length i with
  | none =>
    rw [q] at ha
    subst ha
    exact c_no (d := d + 4) (G' := G) H q fun z => ⟨z, H⟩
  | some p =>
    rw [q] at ha
    subst ha
    obtain ⟨rfl, hp⟩ := aqp_s q (by omega)
    simp only [c_part (d := d + 4) H hp, jc_R_eq]
    exact jF_mono (c_gift_loop (d := d) hp B.2.1.length 0 _ none h (by omega) H) fun h' ⟨F, q⟩ => ⟨jG_0 F, q⟩
theorem asum_le {S : aS} (hS : gS B S) : ∀ n, n ≤ B.2.1.length → asum S n ≤ 150 * n
  | 0, _ => Nat.le_refl _
  | n + 1, h => by
    have := asum_le hS n (by omega)
    have h2 := (hS n (by omega)).2.2
    show asum S n + (S.1 n).length ≤ _
    omega
theorem c_mean_loop (H : CI h x B G tp er sc) : ∀ (f p : Nat), p + f = B.2.1.length → kX11_meanSize_4 (d + 1) x (Int32.ofNat (asum G.1 p)) (Int32.ofNat p) h = some (.inl (some (.double (amean G.1 B.2.1.length))), h) := by
  have h12 := CI_12 H
  obtain ⟨bk, e1, HB, hbk⟩ := CB_bk H.1
  obtain ⟨e8, e9, e10, e11, e12, e13⟩ := CB_st H.1
  intro f
  induction f with
  | zero =>
    intro p hp
    have : p = B.2.1.length := by omega
    subst this
    have hs := asum_le H.2.2.2 B.2.1.length (Nat.le_refl _)
    apply gX11_meanSize_4
    simp only [e1, bA_1 HB, Option.bind_some]
    rw [if_neg (by rw [jw_lt (by omega) (by omega)]; omega)]
    unfold amean
    by_cases c : 0 < B.2.1.length
    · rw [if_pos (by rw [jw_0lt (by omega)]; exact c), if_pos c, if_pos (fp_ok _ (by omega) (by omega) _ hs)]
    · rw [if_neg (by rw [jw_0lt (by omega)]; exact c), if_neg c]
  | succ f ih =>
    intro p hp
    apply gX11_meanSize_4
    simp only [e1, bA_1 HB, Option.bind_some, e9, jm_O_eq (sA_ob H.2.1), g_partAt H.2.1.1 (show p < 12 by omega), jc_R_eq, pU_n (pL_U (gC_part H.2.1.1 (show p < B.2.1.length by omega))), jw_add, jw_add1]
    rw [if_pos (by rw [jw_lt (by omega) (by omega)]; omega)]
    exact ih (p + 1) (by omega)
theorem c_meanSize (H : CI h x B G tp er sc) : jm_D (d + 2) mX11_meanSize [.ref x] h = some (.inl (some (.double (amean G.1 B.2.1.length))), h) :=
  gX11_meanSize (c_mean_loop (d := d) H B.2.1.length 0 (by omega))
/-! the checksum -/
theorem aqp_ok {pc p : Nat} (hp : p < pc) (hb : pc < 1000) : aqp pc (Int32.ofNat p) = some p := by
  unfold aqp
  rw [jw_i (by omega), if_pos ⟨by omega, by omega⟩]
  simp
theorem c_letters {p : Nat} {D : Int64} {o1 o2 : Option Value} {R : Option Value ⊕ Nat} {Q : jm_H → Prop} (hp : p < B.2.1.length) (H : CI h x B G tp er sc) (E : eW h (x + 100) (G.1.1 p)) (K : jF (kX11_withPlay_182 (d + 1) x o1 o2 (Int32.ofNat p) (dfold (fun k => (Int32.ofNat ((tx (G.1.1 p) (G.1.1 p).length).1.getD k 0)).toInt64) (txs (G.1.1 p) (G.1.1 p).length) D) 0 h) R Q) : ∀ (f k : Nat), k + f = txs (G.1.1 p) (G.1.1 p).length →
    jF (kX11_withPlay_142 (d + 1) x o1 o2 (Int32.ofNat p) (dfold (fun k => (Int32.ofNat ((tx (G.1.1 p) (G.1.1 p).length).1.getD k 0)).toInt64) k D) (Int32.ofNat k) h) R Q := by
  have hR := CI_gR H hp
  have hle := txs_le hR.2.1 (G.1.1 p).length
  have hl := hR.2.2
  obtain ⟨e8, e9, e10, e11, e12, e13⟩ := CB_st H.1
  intro f
  induction f with
  | zero =>
    intro k hk
    refine jE_of (fun r => gX11_withPlay_142) ?_
    simp only [e13, eW_n E hR, Option.bind_some]
    rw [if_neg (by rw [jw_lt (by omega) (by omega)]; omega)]
    have : k = txs (G.1.1 p) (G.1.1 p).length := by omega
    subst this
    exact K
  | succ f ih =>
    intro k hk
    refine jE_of (fun r => gX11_withPlay_142) ?_
    simp only [e13, eW_n E hR, Option.bind_some, jm_O_eq (eI_ob (eW_I E)), e_letter E hR (show k < _ by omega), jc_I_eq, jw_add1]
    rw [if_pos (by rw [jw_lt (by omega) (by omega)]; omega)]
    exact ih (k + 1) (by omega)
theorem c_stands {p : Nat} {D : Int64} {o1 o2 : Option Value} (hp : p < B.2.1.length) (H : CI h x B G tp er sc) : ∀ (f q : Nat), q + f = B.1.length →
    kX11_withPlay_182 (d + 3) x o1 o2 (Int32.ofNat p) (dfold (fun q => (Int32.ofNat (jcnt (fun k => decide ((G.1.1 p).getD k 0 = (B.1.getD q 0 : Nat) ∧ ry_w (G.1.1 p) k k < 0)) (G.1.1 p).length)).toInt64) q D) (Int32.ofNat q) h = some (.inl (some (.long (dfold (fun q => (Int32.ofNat (jcnt (fun k => decide ((G.1.1 p).getD k 0 = (B.1.getD q 0 : Nat) ∧ ry_w (G.1.1 p) k k < 0)) (G.1.1 p).length)).toInt64) B.1.length D))), h) := by
  have h12 := CI_12 H
  have h8 := (CB_g H.1).1
  obtain ⟨bk, e1, HB, hbk⟩ := CB_bk H.1
  intro f
  induction f with
  | zero =>
    intro q hq
    apply gX11_withPlay_182
    simp only [e1, bA_0 HB, Option.bind_some]
    rw [if_neg (by rw [jw_lt (by omega) (by omega)]; omega)]
    have : q = B.1.length := by omega
    subst this
    rfl
  | succ f ih =>
    intro q hq
    have es := c_standsIn (d := d) (i := Int32.ofNat p) (j := Int32.ofNat q) H
    rw [aqp_ok hp (by omega), aqp_ok (show q < B.1.length by omega) (by omega)] at es
    apply gX11_withPlay_182
    simp only [e1, bA_0 HB, Option.bind_some, jm_O_eq (CB_ob H.1), es, jc_I_eq, jw_add1]
    rw [if_pos (by rw [jw_lt (by omega) (by omega)]; omega)]
    exact ih (q + 1) (by omega)
theorem c_withPlay {p : Nat} {D : Int64} (hp : p < B.2.1.length) (H : CI h x B G tp er sc) : jF (jm_D (d + 8) mX11_withPlay [.ref x, .long D, .int (Int32.ofNat p)] h) (.inl (some (.long (adp B G p D)))) fun h' => jS (wS x) h h' ∧ CI h' x B G tp er sc := by
  have h12 := CI_12 H
  have e1 := c_sizeOf (d := d + 4) (i := Int32.ofNat p) H
  have e2 := c_masksIn (d := d + 4) (i := Int32.ofNat p) H
  have e3 := c_scenesIn (d := d + 4) (i := Int32.ofNat p) H
  have e4 := c_mostMasks (d := d + 3) (i := Int32.ofNat p) H
  have e5 := c_stepsDone (d := d + 5) (i := Int32.ofNat p) H
  have e6 := c_isFinished (d := d + 4) (i := Int32.ofNat p) H
  have e7 := c_isAsTold (d := d + 3) (i := Int32.ofNat p) H
  have e8 := c_textLength (d := d) (i := Int32.ofNat p) H
  rw [aqp_ok hp (by omega)] at e1 e2 e3 e4 e5 e6 e7 e8
  refine jE_of (fun r => gX11_withPlay) ?_
  simp only [jm_O_eq (CB_ob H.1), e1, e2, e3, e4, e5, e6, jc_I_eq]
  have last : ∀ (o1 o2 o4 o5 o6 : Option Value) (y : Int32) (D2 : Int64), y = jp (ry_like (G.1.1 p) (B.2.2.1 p)) → jF (kX11_withPlay_120 (d + 7) x o1 o2 (Int32.ofNat p) o4 o5 o6 y D2 h) (.inl (some (.long (dfold (fun q => (Int32.ofNat (jcnt (fun k => decide ((G.1.1 p).getD k 0 = (B.1.getD q 0 : Nat) ∧ ry_w (G.1.1 p) k k < 0)) (G.1.1 p).length)).toInt64) B.1.length (dfold (fun k => (Int32.ofNat ((tx (G.1.1 p) (G.1.1 p).length).1.getD k 0)).toInt64) (txs (G.1.1 p) (G.1.1 p).length) ((D2 + (jp (ry_like (G.1.1 p) (B.2.2.1 p))).toInt64) * 31 + (Int32.ofNat (txs (G.1.1 p) (G.1.1 p).length)).toInt64)))))) fun h' => jS (wS x) h h' ∧ CI h' x B G tp er sc := by
    intro o1 o2 o4 o5 o6 y D2 ey
    subst ey
    refine jE_of (fun r => gX11_withPlay_120) ?_
    rw [jm_O_eq (CB_ob H.1)]
    refine jE_I e8 ?_
    rintro h1 ⟨F1, C1, E1⟩
    have E := E1 p rfl
    refine c_letters (d := d + 6) hp C1 E ?_ (txs (G.1.1 p) (G.1.1 p).length) 0 (by omega)
    have es := c_stands (d := d + 4) (o1 := o1) (o2 := o2) (D := dfold (fun k => (Int32.ofNat ((tx (G.1.1 p) (G.1.1 p).length).1.getD k 0)).toInt64) (txs (G.1.1 p) (G.1.1 p).length) ((D2 + (jp (ry_like (G.1.1 p) (B.2.2.1 p))).toInt64) * 31 + (Int32.ofNat (txs (G.1.1 p) (G.1.1 p).length)).toInt64)) hp C1 B.1.length 0 (by omega)
    exact jF_eq es ⟨⟨F1.1, F1.2.1, F1.2.2⟩, C1⟩
  have mid : ∀ (o1 o2 o4 o5 o6 : Option Value) (y : Int32) (D1 : Int64), y = jp (ry_r (G.1.1 p) = none) → jF (kX11_withPlay_97 (d + 7) x o1 o2 (Int32.ofNat p) o4 o5 o6 y D1 h) (.inl (some (.long (dfold (fun q => (Int32.ofNat (jcnt (fun k => decide ((G.1.1 p).getD k 0 = (B.1.getD q 0 : Nat) ∧ ry_w (G.1.1 p) k k < 0)) (G.1.1 p).length)).toInt64) B.1.length (dfold (fun k => (Int32.ofNat ((tx (G.1.1 p) (G.1.1 p).length).1.getD k 0)).toInt64) (txs (G.1.1 p) (G.1.1 p).length) (((D1 + (jp (ry_r (G.1.1 p) = none)).toInt64) * 31 + (jp (ry_like (G.1.1 p) (B.2.2.1 p))).toInt64) * 31 + (Int32.ofNat (txs (G.1.1 p) (G.1.1 p).length)).toInt64)))))) fun h' => jS (wS x) h h' ∧ CI h' x B G tp er sc := by
    intro o1 o2 o4 o5 o6 y D1 ey
    subst ey
    refine jE_of (fun r => gX11_withPlay_97) ?_
    simp only [jm_O_eq (CB_ob H.1), e7, jc_I_eq]
    by_cases c : ry_like (G.1.1 p) (B.2.2.1 p)
    · have := fun o1 o2 o4 o5 o6 D2 => last o1 o2 o4 o5 o6 1 D2 (jp_T c).symm
      rw [jp_T c, if_neg (by decide)]
      rw [jp_T c] at this
      exact this _ _ _ _ _ _
    · have := fun o1 o2 o4 o5 o6 D2 => last o1 o2 o4 o5 o6 0 D2 (jp_F c).symm
      rw [jp_F c, if_pos rfl]
      rw [jp_F c] at this
      exact this _ _ _ _ _ _
  unfold adp
  by_cases c : ry_r (G.1.1 p) = none
  · have := fun o1 o2 o4 o5 o6 D1 => mid o1 o2 o4 o5 o6 1 D1 (jp_T c).symm
    rw [jp_T c, if_neg (by decide)]
    rw [jp_T c] at this
    exact this _ _ _ _ _ _
  · have := fun o1 o2 o4 o5 o6 D1 => mid o1 o2 o4 o5 o6 0 D1 (jp_F c).symm
    rw [jp_F c, if_pos rfl]
    rw [jp_F c] at this
    exact this _ _ _ _ _ _
theorem c_digest_loop {D : Int64} : ∀ (f p : Nat) (h : jm_H), p + f = B.2.1.length → CI h x B G tp er sc →
    jF (kX11_digest_78 (d + 8) x (adps B G p D) (Int32.ofNat p) h) (.inl (some (.long (adps B G B.2.1.length D)))) fun h' => jS (wS x) h h' ∧ CI h' x B G tp er sc := by
  intro f
  induction f with
  | zero =>
    intro p h hp H
    have h12 := CI_12 H
    obtain ⟨bk, e1, HB, hbk⟩ := CB_bk H.1
    refine jE_of (fun r => gX11_digest_78) ?_
    simp only [e1, bA_1 HB, Option.bind_some]
    rw [if_neg (by rw [jw_lt (by omega) (by omega)]; omega)]
    have : p = B.2.1.length := by omega
    subst this
    exact jF_end ⟨jS_rf, H⟩
  | succ f ih =>
    intro p h hp H
    have h12 := CI_12 H
    obtain ⟨bk, e1, HB, hbk⟩ := CB_bk H.1
    refine jE_of (fun r => gX11_digest_78) ?_
    simp only [e1, bA_1 HB, Option.bind_some, jm_O_eq (CB_ob H.1), jw_add1]
    rw [if_pos (by rw [jw_lt (by omega) (by omega)]; omega)]
    refine jE_L (c_withPlay (d := d) (by omega) H) ?_
    rintro h1 ⟨F1, C1⟩
    exact jF_mono (ih (p + 1) h1 (by omega) C1) fun h2 ⟨F2, q⟩ => ⟨jS_tr F1 F2, q⟩
/-! small ones -/
theorem c_errorAt (H : CI h x B G tp er sc) : jm_D (d + 1) mX11_errorAt [.ref x] h = some (.inl (some (.int (Int32.ofInt er))), h) := by
  obtain ⟨bk, sp, TP, a1, a2, -⟩ := H.1
  apply gX11_errorAt
  have e : jr_I h x 10 2 0 = some (Int32.ofInt er) := oC_I a2 rfl
  simp only [e, Option.bind_some]
theorem c_tapeBytes (H : CI h x B G tp er sc) : jm_D (d + 1) mX11_tapeBytes [.ref x] h = some (.inl (some (.int (Int32.ofNat tp.length))), h) := by
  obtain ⟨bk, sp, TP, a1, a2, -⟩ := H.1
  apply gX11_tapeBytes
  have e : jr_I h x 10 1 0 = some (Int32.ofNat tp.length) := oC_I a2 rfl
  simp only [e, Option.bind_some]
theorem c_actors (H : CI h x B G tp er sc) : jm_D (d + 1) mX11_actors [.ref x] h = some (.inl (some (.int (Int32.ofNat B.1.length))), h) := by
  obtain ⟨bk, e1, HB, hbk⟩ := CB_bk H.1
  apply gX11_actors
  simp only [e1, bA_0 HB, Option.bind_some]
theorem c_plays (H : CI h x B G tp er sc) : jm_D (d + 1) mX11_plays [.ref x] h = some (.inl (some (.int (Int32.ofNat B.2.1.length))), h) := by
  obtain ⟨bk, e1, HB, hbk⟩ := CB_bk H.1
  apply gX11_plays
  simp only [e1, bA_1 HB, Option.bind_some]
theorem c_notes (H : CI h x B G tp er sc) : jm_D (d + 1) mX11_notes [.ref x] h = some (.inl (some (.int (Int32.ofNat B.2.2.2.length))), h) := by
  obtain ⟨bk, e1, HB, hbk⟩ := CB_bk H.1
  apply gX11_notes
  simp only [e1, bA_2 HB, Option.bind_some]
theorem c_evenings (H : CI h x B G tp er sc) : jm_D (d + 1) mX11_evenings [.ref x] h = some (.inl (some (.int G.2.1)), h) := by
  obtain ⟨e8, e9, -⟩ := CB_st H.1
  apply gX11_evenings
  simp only [e9, sA_0 H.2.1, Option.bind_some]
theorem c_carried (H : CI h x B G tp er sc) : jm_D (d + 1) mX11_notesCarriedOut [.ref x] h = some (.inl (some (.int G.2.2)), h) := by
  obtain ⟨e8, e9, -⟩ := CB_st H.1
  apply gX11_notesCarriedOut
  simp only [e9, sA_1 H.2.1, Option.bind_some]
theorem c_digest (H : CI h x B G tp er sc) : jF (jm_D (d + 9) mX11_digest [.ref x] h) (.inl (some (.long (adg B G tp.length)))) fun h' => jS (wS x) h h' ∧ CI h' x B G tp er sc := by
  refine jE_of (fun r => gX11_digest) ?_
  simp only [jm_O_eq (CB_ob H.1), c_actors (d := d + 7) H, c_plays (d := d + 7) H, c_notes (d := d + 7) H, c_evenings (d := d + 7) H, c_carried (d := d + 7) H, c_tapeBytes (d := d + 7) H, jc_I_eq]
  exact c_digest_loop (d := d) B.2.1.length 0 h (by omega) H
end CL
