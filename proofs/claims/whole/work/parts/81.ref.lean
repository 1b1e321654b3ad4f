/-! ===== LEVEL 3: the reference, the checksum; feed and trim ===== -/
section ZI
variable {h h' h1 h2 : jm_H} {d m a b n t k p q pc : Nat} {U V W F : Nat → Prop} {l u : List Int} {S S' : aS} {B : aB} {G G' : aG} {tp : List Nat} {er : Int} {sc : Nat × (Nat → Int32)} {ev dn x y i j : Int32} {st : List Int32} {K : jm_H → Option jm_R} {Q : (Option Value ⊕ Nat) → jm_H → Prop} {D : Int64}
/-- nothing but its own cells has changed, and so much was made -/
theorem zPS_A (P : zPS m h h') : jA (fun c => jn m 35 c) 0 0 h h' := ⟨P.1, P.2.1, fun c _ z => P.2.2.2.1 c (fun e => z (by unfold jn; omega)) fun y => z (by unfold zPU2 jn at y; unfold jn; omega)⟩
theorem m_letters {w : List Nat} {o1 o2 : Option Value} {p0 : Int32} {Q : (Option Value ⊕ Nat) → jm_H → Prop} (hl : w.length < 4000) (B0 : zB h m) (X : zX h m w) (g : jE (kX13_digestPlay_158 d m o1 o2 p0 (dfold (fun k => (Int32.ofNat (w.getD k 0)).toInt64) w.length D) 0 h) Q) : ∀ (f k : Nat), k + f = w.length → jE (kX13_digestPlay_123 d m o1 o2 p0 (dfold (fun k => (Int32.ofNat (w.getD k 0)).toInt64) k D) (Int32.ofNat k) h) Q := by
  obtain ⟨x1, LT, x2, x3⟩ := X
  intro f
  induction f with
  | zero =>
    intro k hk
    have : k = w.length := by omega
    subst this
    refine jE_of (fun r => gX13_digestPlay_123) ?_
    simp only [x1, Option.bind_some]
    rw [if_neg (by rw [jw_lt (by omega) (by omega)]; omega)]
    exact g
  | succ f ih =>
    intro k hk
    refine jE_of (fun r => gX13_digestPlay_123) ?_
    simp only [x1, Option.bind_some]
    rw [if_pos (by rw [jw_lt (by omega) (by omega)]; omega)]
    simp only [zB_23 B0, Option.bind_some, aC_at x2 (show k < 4000 by omega) (by omega), x3 k (by omega), jw_add1]
    exact ih (k + 1) (by omega)
/-- how often an actor stands, as a number of the checksum -/
def zsn (B : aB) (l : List Int) (q : Nat) : Int64 := (Int32.ofNat (zst l (B.1.getD q 0 : Nat) l.length)).toInt64
theorem m_stands_loop {o1 o2 : Option Value} (hp : p < B.2.1.length) : ∀ (f q : Nat) (h1 : jm_H), q + f = B.1.length → zPS m h h1 → zI h1 m b B G tp er → jF (kX13_digestPlay_158 (d + 3) m o1 o2 (Int32.ofNat p) (dfold (zsn B (G.1.1 p)) q D) (Int32.ofNat q) h1) (.inl (some (.long (dfold (zsn B (G.1.1 p)) B.1.length D)))) fun h' => zPS m h h' ∧ zI h' m b B G tp er := by
  intro f
  induction f with
  | zero =>
    intro q h1 hq P I
    have g8 := (zD_g I.1.2.2.1).1
    have : q = B.1.length := by omega
    subst this
    refine jE_of (fun r => gX13_digestPlay_158) ?_
    simp only [I.1.2.1, zD_6 I.1.2.2.1, Option.bind_some]
    rw [if_neg (by rw [jw_lt (by omega) (by omega)]; omega)]
    exact jF_end ⟨P, I⟩
  | succ f ih =>
    intro q h1 hq P I
    have g := zD_g I.1.2.2.1
    have g8 := g.1
    have hql : q < B.1.length := by omega
    obtain ⟨AN, a1, a2⟩ := I.1.2.2.1.2.1
    have ha : B.1.getD q 0 < q10 := by
      have := (g.2.2.2.1 (B.1.getD q 0) (by
        rw [List.getD_eq_getElem?_getD, List.getElem?_eq_getElem hql]
        exact List.getElem_mem hql)).1.1
      have e : q10 = 4808584372417849 := by decide
      omega
    refine jE_of (fun r => gX13_digestPlay_158) ?_
    simp only [I.1.2.1, zD_6 I.1.2.2.1, Option.bind_some]
    rw [if_pos (by rw [jw_lt (by omega) (by omega)]; omega)]
    simp only [I.1.2.1, zD_R I.1.2.2.1 (k := 7) (x := b + 7) (fun _ => rfl), Option.bind_some, lC_at a1 (show q < 8 by omega) (by omega), a2 q hql, jm_O_eq (zB_ob I.1.1), ← ln_N, jw_add1]
    refine jE_I (z_stands (d := d) (x := ((B.1.getD q 0 : Nat) : Int)) (by rw [Int.natAbs_natCast]; exact ha) (I.2.1 p hp) hp I.1.1 I.1.2.2.2.1) ?_
    intro h2 F2
    exact ih (q + 1) h2 (by omega) (zPS_tr P (zPS_of F2 fun c z => by unfold zPU2 jn; omega)) (zI_z I F2 (fun c z => by unfold zsU jn; omega) (fun k z => (f19 k z).1))
theorem jp_01' {P : Prop} : jp P = 0 ∨ jp P = 1 := jp_01
theorem m_digestPlay (hp : p < B.2.1.length) (hK : kO h sc) (I : zI h m b B G tp er) : jF (jm_D (d + 7) mX13_digestPlay [.ref m, .long D, .int (Int32.ofNat p)] h) (.inl (some (.long (adp B G p D)))) fun h' => zPS m h h' ∧ zI h' m b B G tp er := by
  have hR := I.2.1 p hp
  have hm := I.1.1.1
  have ht := tx_all hR.1
  have ht2 := txs_le hR.2.1 (G.1.1 p).length
  have hl := hR.2.2
  -- frames
  have nx : ∀ {g1 g2 : jm_H} {U : Nat → Prop}, zPS m h g1 → zI g1 m b B G tp er → zS m U (fun k => k = 19) g1 g2 → (∀ c, U c → zsU m c) → zPS m h g2 ∧ zI g2 m b B G tp er := fun P I1 F p => ⟨zPS_tr P (zPS_of F fun c z => zsU_P c (p c z)), zI_z I1 F p (fun k z => (f19 k z).1)⟩
  refine jE_of (fun r => gX13_digestPlay) ?_
  simp only [zB_9 I.1.1, Option.bind_some, zG_many0 I.1.2.2.2.1 hp, jm_O_eq (zB_ob I.1.1), z_masks (d := d + 5) (gW_gN hR.2.1) hp I.1.1 I.1.2.2.2.1, z_scenes (d := d + 5) (gW_gN hR.2.1) hp I.1.1 I.1.2.2.2.1, jc_I_eq]
  refine jE_I (z_around (d := d + 4) hR hp I.1.1 I.1.2.2.2.1) ?_
  intro h1 F1
  obtain ⟨P1, I1⟩ := nx zS_rf I F1 (fun c z => by unfold zsU jn; omega)
  simp only [zB_10 I1.1.1, Option.bind_some, zG_steps0 I1.1.2.2.2.1 hp, jm_O_eq (zB_ob I1.1.1)]
  refine jE_I (z_finished (d := d + 4) hR hp I1.1.1 I1.1.2.2.2.1) ?_
  rintro h2 ⟨F2, -⟩
  obtain ⟨P2, I2⟩ := nx P1 I1 F2 (fun c z => by unfold zsU jn; omega)
  simp only [z_one (d := d + 5) jp_01', jc_I_eq, jm_O_eq (zB_ob I2.1.1)]
  refine jE_I (z_asTold (d := d + 2) hp I2.1 I2.2.1) ?_
  intro h3 F3
  obtain ⟨P3, I3⟩ := nx P2 I2 F3 (fun c z => by unfold zsU jn; omega)
  simp only [z_one (d := d + 5) jp_01', jc_I_eq, jm_O_eq (zB_ob I3.1.1), z_textOf (d := d + 4) hR.2.1 hp I3.1.1 I3.1.2.2.2.1]
  refine jE_V (z_takeUp (d := d + 5) hp I3.1.1 I3.1.2.2.2.1) ?_
  rintro h4 ⟨F4, K4⟩
  obtain ⟨P4, I4⟩ := nx P3 I3 F4 (fun c z => by unfold zsU jn; omega)
  have O4 := kO_tr hK (zS_jS P4) fun c z => by unfold zPU2 jn at z; omega
  simp only [jm_O_eq (zB_ob I4.1.1)]
  refine jE_V (z_part (d := d) hR O4 K4) ?_
  rintro h5 ⟨F5, X5, -⟩
  have P5 : zPS m h h5 := zPS_tr P4 (zPS_of F5 fun c z => by unfold zXA jn at z; unfold zPU2 jn; omega)
  have I5 : zI h5 m b B G tp er := zI_z I4 F5 (fun c z => by unfold zXA jn at z; unfold zsU jn; omega) (fun k z => (f24 k z).1)
  have := m_stands_loop (d := d + 3) (m := m) (h := h) (D := dfold (fun k => (Int32.ofNat ((tx (G.1.1 p) (G.1.1 p).length).1.getD k 0)).toInt64) (tx (G.1.1 p) (G.1.1 p).length).1.length (((((((((D * 31 + (Int32.ofNat (G.1.1 p).length).toInt64) * 31 + (Int32.ofNat (ry_cm (G.1.1 p))).toInt64) * 31 + (Int32.ofNat (ry_cs (G.1.1 p))).toInt64) * 31 + (Int32.ofNat (ry_mm (G.1.1 p) (G.1.1 p).length)).toInt64) * 31 + (G.1.2 p).toInt64) * 31 + (jp (ry_r (G.1.1 p) = none)).toInt64) * 31 + (jp (ry_like (G.1.1 p) (B.2.2.1 p))).toInt64) * 31) + (Int32.ofNat (txs (G.1.1 p) (G.1.1 p).length)).toInt64)) (o1 := some (.long D)) (o2 := none) hp B.1.length 0 h5 (by omega) P5 I5
  have e : dfold (zsn B (G.1.1 p)) B.1.length (dfold (fun k => (Int32.ofNat ((tx (G.1.1 p) (G.1.1 p).length).1.getD k 0)).toInt64) (tx (G.1.1 p) (G.1.1 p).length).1.length (((((((((D * 31 + (Int32.ofNat (G.1.1 p).length).toInt64) * 31 + (Int32.ofNat (ry_cm (G.1.1 p))).toInt64) * 31 + (Int32.ofNat (ry_cs (G.1.1 p))).toInt64) * 31 + (Int32.ofNat (ry_mm (G.1.1 p) (G.1.1 p).length)).toInt64) * 31 + (G.1.2 p).toInt64) * 31 + (jp (ry_r (G.1.1 p) = none)).toInt64) * 31 + (jp (ry_like (G.1.1 p) (B.2.2.1 p))).toInt64) * 31) + (Int32.ofNat (txs (G.1.1 p) (G.1.1 p).length)).toInt64)) = adp B G p D := by
    rw [ht]
    rfl
  rw [e] at this
  exact m_letters (d := d + 6) (w := (tx (G.1.1 p) (G.1.1 p).length).1) (by omega) I5.1.1 X5 this (tx (G.1.1 p) (G.1.1 p).length).1.length 0 (by omega)
theorem m_digest_loop {o5 o6 o7 : Option Value} : ∀ (f p : Nat) (o1 : Option Value) (h1 : jm_H), p + f = B.2.1.length → zPS m h h1 → kO h1 sc → zI h1 m b B G tp er → jF (kX13_digest_109 (d + 7) m o1 (adps B G p D) (Int32.ofNat p) o5 o6 o7 h1) (.inl (some (.long (adps B G B.2.1.length D)))) fun h' => zPS m h h' ∧ zI h' m b B G tp er := by
  intro f
  induction f with
  | zero =>
    intro p o1 h1 hp P O I
    have h12 := zI_12 I
    have : p = B.2.1.length := by omega
    subst this
    refine jE_of (fun r => gX13_digest_109) ?_
    simp only [I.1.2.1, zD_8 I.1.2.2.1, Option.bind_some]
    rw [if_neg (by rw [jw_lt (by omega) (by omega)]; omega)]
    exact jF_end ⟨P, I⟩
  | succ f ih =>
    intro p o1 h1 hp P O I
    have h12 := zI_12 I
    have hm := I.1.1.1
    refine jE_of (fun r => gX13_digest_109) ?_
    simp only [I.1.2.1, zD_8 I.1.2.2.1, Option.bind_some]
    rw [if_pos (by rw [jw_lt (by omega) (by omega)]; omega)]
    simp only [jm_O_eq (zB_ob I.1.1), jw_add1]
    refine jE_L (m_digestPlay (d := d) (D := adps B G p D) (by omega) O I) ?_
    rintro h2 ⟨P2, I2⟩
    exact ih (p + 1) _ h2 (by omega) (zPS_tr P P2) (kO_tr O (zS_jS P2) fun c z => by unfold zPU2 jn at z; omega) I2
/-- an element of what was just made -/
theorem zI_new {f : Nat → Int32} {n i : Nat} {x : Int32} (hb : ∀ c, zAt m b c → c < a) (A : aC h a 0 n f) (hi : i < n) (hn : n < 2147483648) (O : kO h sc) (I : zI h m b B G tp er) : ∃ h', jm_asi h a 0 (Int32.ofNat i) x = some h' ∧ jS (jn a 1) h h' ∧ aC h' a 0 n (upd f i x) ∧ zI h' m b B G tp er ∧ kO h' sc := by
  obtain ⟨h1, e1, F1, A1⟩ := aC_w (x := x) A hi hn
  rw [nar0] at A1
  have hA := A.2.1
  exact ⟨h1, e1, F1, A1, zI_eq I fun c z => F1.2.2 c fun y => by have := hb c z; unfold jn at y; omega, kO_tr O F1 fun c z => by unfold jn at z; omega⟩
set_option maxHeartbeats 4000000 in
theorem m_digest (hK : kO h sc) (hm35 : m + 35 ≤ h.1) (hb19 : b + 19 ≤ h.1) (I : zI h m b B G tp er) : jF (jm_D (d + 8) mX13_digest [.ref m] h) (.inl (some (.long (adg B G tp.length)))) fun h' => jA (fun c => jn m 35 c) 1 6 h h' ∧ zI h' m b B G tp er := by
  have hm := I.1.1.1
  refine jE_of (fun r => gX13_digest) ?_
  obtain ⟨h1, e1, F1, I1, -⟩ := z_start I
  have O1 := kO_tr hK (zS_jS F1) fun c z => by unfold zPU2 jn at z; omega
  rw [e1, Option.bind_some]
  have hc1 : h1.1 = h.1 := F1.1
  refine jE_newa (m := 6) (by decide) rfl fun h4 F4 A4 => ?_
  have hat : ∀ c, zAt m b c → c < h1.1 := fun c z => by unfold zAt jn at z; omega
  have I4 : zI h4 m b B G tp er := zI_eq I1 fun c z => F4.2.2 c (hat c z) id
  have O4 : kO h4 sc := kO_A O1 F4 (fun c z => z.elim) (by omega)
  have C4 : aC h4 h1.1 0 6 (fun _ => 0) := ⟨A4, by omega, by omega⟩
  generalize h1.1 = a at *
  obtain ⟨g0, x0, G0, C0, I0, O0⟩ := zI_new (i := 0) (x := Int32.ofNat B.1.length) hat C4 (by omega) (by omega) O4 I4
  obtain ⟨g1, x1, G1, C1, I11, O11⟩ := zI_new (i := 1) (x := Int32.ofNat B.2.1.length) hat C0 (by omega) (by omega) O0 I0
  obtain ⟨g2, x2, G2, C2, I12, O12⟩ := zI_new (i := 2) (x := Int32.ofNat B.2.2.2.length) hat C1 (by omega) (by omega) O11 I11
  obtain ⟨g3, x3, G3, C3, I13, O13⟩ := zI_new (i := 3) (x := G.2.1) hat C2 (by omega) (by omega) O12 I12
  obtain ⟨g4, x4, G4, C4', I14, O14⟩ := zI_new (i := 4) (x := G.2.2) hat C3 (by omega) (by omega) O13 I13
  obtain ⟨g5, x5, G5, C5, I15, O15⟩ := zI_new (i := 5) (x := Int32.ofNat tp.length) hat C4' (by omega) (by omega) O14 I14
  have x0' : jm_asi h4 a 0 0 (Int32.ofNat B.1.length) = some g0 := x0
  have x1' : jm_asi g0 a 0 1 (Int32.ofNat B.2.1.length) = some g1 := x1
  have x2' : jm_asi g1 a 0 2 (Int32.ofNat B.2.2.2.length) = some g2 := x2
  have x3' : jm_asi g2 a 0 3 G.2.1 = some g3 := x3
  have x4' : jm_asi g3 a 0 4 G.2.2 = some g4 := x4
  have x5' : jm_asi g4 a 0 5 (Int32.ofNat tp.length) = some g5 := x5
  simp only [I4.1.2.1, zD_6 I4.1.2.2.1, Option.bind_some, x0', I0.1.2.1, zD_8 I0.1.2.2.1, x1', I11.1.2.1, zD_12 I11.1.2.2.1, x2', I12.1.2.2.2.2.1, x3', I13.1.2.2.2.2.2.1, x4', I14.2.2.1, x5', aC_len C5]
  have v0 : jm_ali g5 a 0 0 = some (Int32.ofNat B.1.length) := aC_at C5 (i := 0) (by omega) (by omega)
  have v1 : jm_ali g5 a 0 (0 + 1) = some (Int32.ofNat B.2.1.length) := aC_at C5 (i := 1) (by omega) (by omega)
  have v2 : jm_ali g5 a 0 (0 + 1 + 1) = some (Int32.ofNat B.2.2.2.length) := aC_at C5 (i := 2) (by omega) (by omega)
  have v3 : jm_ali g5 a 0 (0 + 1 + 1 + 1) = some G.2.1 := aC_at C5 (i := 3) (by omega) (by omega)
  have v4 : jm_ali g5 a 0 (0 + 1 + 1 + 1 + 1) = some G.2.2 := aC_at C5 (i := 4) (by omega) (by omega)
  have v5 : jm_ali g5 a 0 (0 + 1 + 1 + 1 + 1 + 1) = some (Int32.ofNat tp.length) := aC_at C5 (i := 5) (by omega) (by omega)
  refine jE_of (fun r => gX13_digest_76) ?_
  rw [if_pos (by decide), v0, Option.bind_some]
  refine jE_of (fun r => gX13_digest_76) ?_
  rw [if_pos (by decide), v1, Option.bind_some]
  refine jE_of (fun r => gX13_digest_76) ?_
  rw [if_pos (by decide), v2, Option.bind_some]
  refine jE_of (fun r => gX13_digest_76) ?_
  rw [if_pos (by decide), v3, Option.bind_some]
  refine jE_of (fun r => gX13_digest_76) ?_
  rw [if_pos (by decide), v4, Option.bind_some]
  refine jE_of (fun r => gX13_digest_76) ?_
  rw [if_pos (by decide), v5, Option.bind_some]
  refine jE_of (fun r => gX13_digest_76) ?_
  rw [if_neg (by decide)]
  have := m_digest_loop (d := d) (m := m) (h := g5) (sc := sc) (B := B) (G := G) (b := b) (tp := tp) (er := er) (D := (((((941 * 31 + (Int32.ofNat B.1.length).toInt64) * 31 + (Int32.ofNat B.2.1.length).toInt64) * 31 + (Int32.ofNat B.2.2.2.length).toInt64) * 31 + G.2.1.toInt64) * 31 + G.2.2.toInt64) * 31 + (Int32.ofNat tp.length).toInt64) (o5 := some (.int (Int32.ofNat 6))) (o6 := some (.int (0 + 1 + 1 + 1 + 1 + 1 + 1))) (o7 := some (.int (Int32.ofNat tp.length))) B.2.1.length 0 (some (.ref a)) g5 (by omega) zS_rf O15 I15
  refine jF_mono this ?_
  rintro h9 ⟨P9, I9⟩
  refine ⟨?_, I9⟩
  have J1 := zPS_A F1
  have J9 := zPS_A P9
  have G05 : jS (jn a 1) h4 g5 := jS_tr G0 (jS_tr G1 (jS_tr G2 (jS_tr G3 (jS_tr G4 G5))))
  have u1 := J9.1
  have u2 := G05.1
  have u3 := F4.1
  have u4 := J1.1
  have w1 := J9.2.1
  have w2 := G05.2.1
  have w3 := F4.2.1
  have w4 := J1.2.1
  refine ⟨by omega, by omega, fun c c1 c2 => ?_⟩
  rw [J9.2.2 c (by omega) c2, G05.2.2 c (fun z => by unfold jn at z; omega), F4.2.2 c (by omega) id, J1.2.2 c c1 c2]
/-! feed -/
theorem zf_sh : ∀ i, i < 20 → (24 - (8 * (Int32.ofNat i - Int32.ofNat i / 4 * 4))) &&& 31 = Int32.ofNat (24 - 8 * (i % 4)) &&& 31 := by decide +kernel
theorem zf_dv : ∀ i, i < 20 → Int32.ofNat i / 4 = Int32.ofNat (i / 4) := by decide +kernel
/-- the bytes of five numbers -/
def z20 (a b c e f : Int32) : List Nat := yB a ++ yB b ++ yB c ++ yB e ++ yB f
def z5 (a b c e f : Int32) (i : Nat) : Int32 := [a, b, c, e, f].getD i 0
theorem z20_at (a b c e f : Int32) : ∀ i, i < 20 → (z20 a b c e f).getD i 0 = yb (z5 a b c e f (i / 4)) (Int32.ofNat (24 - 8 * (i % 4)))
  | 0, _ => rfl | 1, _ => rfl | 2, _ => rfl | 3, _ => rfl | 4, _ => rfl | 5, _ => rfl | 6, _ => rfl | 7, _ => rfl | 8, _ => rfl | 9, _ => rfl
  | 10, _ => rfl | 11, _ => rfl | 12, _ => rfl | 13, _ => rfl | 14, _ => rfl | 15, _ => rfl | 16, _ => rfl | 17, _ => rfl | 18, _ => rfl | 19, _ => rfl
  | i + 20, h => absurd h (by omega)
theorem z20_len (a b c e f : Int32) : (z20 a b c e f).length = 20 := rfl
/-- the tape, so far; whatever its size says -/
def zTq (h : jm_H) (m : Nat) (tp : List Nat) : Prop := ∃ TP, aC h (m + 1) 0 2000 TP ∧ ∀ i, i < tp.length → TP i = Int32.ofNat (tp.getD i 0) ∧ tp.getD i 0 < 256
theorem gDn1 {l u : List Nat} {i : Nat} (hi : i < l.length) : (l ++ u).getD i 0 = l.getD i 0 := by
  rw [List.getD_eq_getElem?_getD, List.getD_eq_getElem?_getD, List.getElem?_append_left hi]
theorem gDn2 {l u : List Nat} {i : Nat} (hi : l.length ≤ i) : (l ++ u).getD i 0 = u.getD (i - l.length) 0 := by
  rw [List.getD_eq_getElem?_getD, List.getD_eq_getElem?_getD, List.getElem?_append_right hi]
theorem m_feed_loop {a5 : Nat} {i1 i2 i3 i4 i5 : Int32} {o1 o2 o3 o4 o5 : Option Value} (hl : tp.length + 20 ≤ 2000) (hne : a5 ≠ m + 1) (hnm : a5 ≠ m) : ∀ (f i : Nat) (h : jm_H), i + f = 20 → zB h m → jr_I h m 12 2 0 = some (Int32.ofNat tp.length) → aC h a5 0 5 (z5 i1 i2 i3 i4 i5) → zTq h m (tp ++ (z20 i1 i2 i3 i4 i5).take i) → jF (kX13_feed_51 d m o1 o2 o3 o4 o5 a5 (Int32.ofNat i) h) (.inl (some (.int (Int32.ofNat (tp.length + 20))))) fun h' => zS m (fun c => c = m + 1) (fun k => k = 2) h h' ∧ jr_I h' m 12 2 0 = some (Int32.ofNat (tp.length + 20)) ∧ zTq h' m (tp ++ z20 i1 i2 i3 i4 i5) := by
  intro f
  induction f with
  | zero =>
    intro i h hi B0 e2 C T
    have : i = 20 := by omega
    subst this
    refine jE_of (fun r => gX13_feed_51) ?_
    rw [if_neg (by decide)]
    have e20 : Int32.ofNat tp.length + 20 = Int32.ofNat (tp.length + 20) := jw_addL
    simp only [e2, Option.bind_some, e20]
    obtain ⟨h1, e1, F1, q1⟩ := z_pfI (Int32.ofNat (tp.length + 20)) B0 (show 2 < 31 by omega)
    simp only [e1, Option.bind_some, q1]
    obtain ⟨TP, t1, t2⟩ := T
    rw [List.take_of_length_le (by rw [z20_len]; exact Nat.le_refl _)] at t2
    exact jF_end ⟨zS_mn F1 (fun c z => z.elim) (fun k z => z), q1, TP, aC_z t1 F1 (by omega) id, t2⟩
  | succ f ih =>
    intro i h hi B0 e2 C T
    have hi20 : i < 20 := by omega
    obtain ⟨TP, t1, t2⟩ := T
    have elen : (tp ++ (z20 i1 i2 i3 i4 i5).take i).length = tp.length + i := by
      rw [List.length_append, List.length_take, z20_len, Nat.min_eq_left (by omega)]
    rw [elen] at t2
    refine jE_of (fun r => gX13_feed_51) ?_
    rw [if_pos (by rw [show (20 : Int32) = Int32.ofNat 20 from rfl, jw_lt (by omega) (by omega)]; omega)]
    simp only [zB_1 B0, e2, Option.bind_some, zf_dv i hi20, aC_at C (show i / 4 < 5 by omega) (by omega), jw_add]
    have esh := zf_sh i hi20
    rw [zf_dv i hi20] at esh
    rw [esh]
    have ev : (z5 i1 i2 i3 i4 i5 (i / 4) >>> (Int32.ofNat (24 - 8 * (i % 4)) &&& 31)) &&& 255 = Int32.ofNat ((z20 i1 i2 i3 i4 i5).getD i 0) := by
      rw [z20_at _ _ _ _ _ i hi20]
      exact yb_of.symm
    rw [ev]
    obtain ⟨h1, e1, F1, A1⟩ := z_asi (m := m) (i := tp.length + i) (x := Int32.ofNat ((z20 i1 i2 i3 i4 i5).getD i 0)) t1 (by omega) (by omega) (by omega)
    rw [nar0] at A1
    simp only [e1, Option.bind_some, jw_add1]
    have hb : (z20 i1 i2 i3 i4 i5).getD i 0 < 256 := by
      rw [z20_at _ _ _ _ _ i hi20]
      exact yb_255
    have etk : (z20 i1 i2 i3 i4 i5).take (i + 1) = (z20 i1 i2 i3 i4 i5).take i ++ [(z20 i1 i2 i3 i4 i5).getD i 0] := by
      rw [List.take_succ, List.getElem?_eq_getElem (show i < (z20 i1 i2 i3 i4 i5).length by rw [z20_len]; exact hi20), List.getD_eq_getElem?_getD, List.getElem?_eq_getElem (show i < (z20 i1 i2 i3 i4 i5).length by rw [z20_len]; exact hi20)]
      rfl
    have T1 : zTq h1 m (tp ++ (z20 i1 i2 i3 i4 i5).take (i + 1)) := by
      rw [etk, ← List.append_assoc]
      refine ⟨_, A1, fun k hk => ?_⟩
      rw [List.length_append, elen, List.length_singleton] at hk
      by_cases e : k = tp.length + i
      · rw [e, gDn2 (by rw [elen]; exact Nat.le_refl _), elen, Nat.sub_self]
        exact ⟨if_pos rfl, hb⟩
      · rw [gDn1 (by rw [elen]; omega), show upd TP (tp.length + i) (Int32.ofNat ((z20 i1 i2 i3 i4 i5).getD i 0)) k = TP k from if_neg e]
        exact t2 k (by omega)
    exact jF_mono (ih (i + 1) h1 (by omega) (zB_tr B0 F1 fun k z => z.elim) ((zS_I F1 id).trans e2) (aC_z C F1 hnm hne) T1) fun h2 ⟨F2, q⟩ => ⟨zS_2 F1 F2 (fun c z => z) (fun c z => z) (fun k z => z.elim) (fun k z => z), q⟩
/-- what a call leaves that may have made something -/
def zOA (h : jm_H) (n s : Nat) (m b : Nat) (B : aB) (G : aG) (tp : List Nat) (er : Int) (a : aA) (t : Int32) (v : Option Value ⊕ Nat) (h' : jm_H) : Prop := v = .inl (some (.int (zv a))) ∧ jA (fun c => jn m 35 c) n s h h' ∧ zI h' m b B G tp er ∧ jr_I h' m 12 0 0 = some t
theorem zO_A {a : aA} {t : Int32} {v : Option Value ⊕ Nat} (H : zO h m b B G tp er a t v h') : zOA h 0 0 m b B G tp er a t v h' := ⟨H.1, zPS_A H.2.1, H.2.2⟩
/-- another tape -/
theorem zI_tp {tp' : List Nat} {G' : aG} (I : zI h m b B G tp er) (F : zS m (fun c => c = m + 1) (fun k => k = 2) h h') (e2 : jr_I h' m 12 2 0 = some (Int32.ofNat tp'.length)) (hl : tp'.length ≤ 2000) (T : zTq h' m tp') : zI h' m b B G tp' er := by
  obtain ⟨⟨B0, a2, a3, a4, a5, a6, a7⟩, c1, c2, c3, c4, -⟩ := I
  have hE : zE h' m b B G.1 G.2.1 G.2.2 := ⟨zB_tr B0 F (fun k z => by rw [z]; rfl), (zS_R F (by omega)).trans a2, zD_eq a3 (fun c d1 d2 => zS_at F (by omega) (by omega)), zG_z a4 F (fun c z => by unfold jn at z; omega) (fun c z => by unfold jn at z; omega), (zS_I F (by omega)).trans a5, (zS_I F (by omega)).trans a6, a7⟩
  exact ⟨hE, c1, e2, (zS_I F (by omega)).trans c3, hl, T⟩
theorem m_feed {i1 i2 i3 i4 i5 : Int32} (hm35 : m + 35 ≤ h.1) (hb19 : b + 19 ≤ h.1) (I : zI h m b B G tp er) : jE (jm_D (d + 2) mX13_feed [.ref m, .int i1, .int i2, .int i3, .int i4, .int i5] h) (zOA h (if 2000 < tp.length + 20 then 0 else 1) (if 2000 < tp.length + 20 then 0 else 5) m b B G (if 2000 < tp.length + 20 then tp else tp ++ (yB i1 ++ yB i2 ++ yB i3 ++ yB i4 ++ yB i5)) er (if 2000 < tp.length + 20 then .inr 0 else .inl (Int32.ofNat (tp.length + 20))) (if 2000 < tp.length + 20 then 1 else 0)) := by
  have hm := I.1.1.1
  have hl := I.2.2.2.2.1
  refine jE_of (fun r => gX13_feed) ?_
  obtain ⟨h1, e1, F1, I1, T1⟩ := z_start I
  simp only [e1, Option.bind_some, I1.2.2.1]
  have e1980 : ((1980 : Int32) < Int32.ofNat tp.length) ↔ 1980 < tp.length := jw_Llt (a := 1980) (by omega) (by omega)
  by_cases c : 2000 < tp.length + 20
  · simp only [if_pos c]
    rw [if_pos (e1980.mpr (by omega))]
    simp only [jm_O_eq (zB_ob I1.1.1)]
    refine jE_I (z_no (d := d) 1 I1) ?_
    rintro h2 ⟨F2, I2, T2⟩
    exact jE_end ⟨rfl, zPS_A (zPS_tr F1 F2), I2, T2⟩
  · simp only [if_neg c]
    rw [if_neg (fun z => by have := e1980.mp z; omega)]
    refine jE_newa (m := 5) (by decide) rfl fun h4 F4 A4 => ?_
    have hc1 : h1.1 = h.1 := F1.1
    have hat : ∀ c, zAt m b c → c < h1.1 := fun c z => by unfold zAt jn at z; omega
    have I4 : zI h4 m b B G tp er := zI_eq I1 fun c z => F4.2.2 c (hat c z) id
    have T4 : jr_I h4 m 12 0 0 = some 0 := ((jr_eq (F4.2.2 m (by omega) id)).1).trans T1
    have C4 : aC h4 h1.1 0 5 (fun _ => 0) := ⟨A4, by omega, by omega⟩
    have u3 := F4.1
    have w3 := F4.2.1
    have J1 := zPS_A F1
    have w4 := J1.2.1
    obtain ⟨a, ha⟩ : ∃ a, a = h1.1 := ⟨_, rfl⟩
    rw [← ha] at C4 hat ⊢
    have S1 : ∀ {g g' : jm_H}, zS m (fun c => c = a) (fun _ => False) g g' → jS (jn a 1) g g' → True := fun _ _ => trivial
    obtain ⟨g0, x0, G0, C0⟩ := aC_w (i := 0) (x := i1) C4 (by omega) (by omega)
    obtain ⟨g1, x1, G1, C1⟩ := aC_w (i := 1) (x := i2) C0 (by omega) (by omega)
    obtain ⟨g2, x2, G2, C2⟩ := aC_w (i := 2) (x := i3) C1 (by omega) (by omega)
    obtain ⟨g3, x3, G3, C3⟩ := aC_w (i := 3) (x := i4) C2 (by omega) (by omega)
    obtain ⟨g4, x4, G4, C4'⟩ := aC_w (i := 4) (x := i5) C3 (by omega) (by omega)
    have x0' : jm_asi h4 a 0 0 i1 = some g0 := x0
    have x1' : jm_asi g0 a 0 1 i2 = some g1 := x1
    have x2' : jm_asi g1 a 0 2 i3 = some g2 := x2
    have x3' : jm_asi g2 a 0 3 i4 = some g3 := x3
    have x4' : jm_asi g3 a 0 4 i5 = some g4 := x4
    simp only [x0', x1', x2', x3', x4', Option.bind_some]
    have G04 : jS (jn a 1) h4 g4 := jS_tr G0 (jS_tr G1 (jS_tr G2 (jS_tr G3 G4)))
    have I5 : zI g4 m b B G tp er := zI_eq I4 fun c z => G04.2.2 c fun y => by have := hat c z; unfold jn at y; omega
    have T5 : jr_I g4 m 12 0 0 = some 0 := ((jr_eq (G04.2.2 m (fun y => by unfold jn at y; omega))).1).trans T4
    have C5 : aC g4 a 0 5 (z5 i1 i2 i3 i4 i5) := by
      have : (upd (upd (upd (upd (upd (fun _ => (0 : Int32)) 0 (vp_nar (jm_ty 0) i1)) 1 (vp_nar (jm_ty 0) i2)) 2 (vp_nar (jm_ty 0) i3)) 3 (vp_nar (jm_ty 0) i4)) 4 (vp_nar (jm_ty 0) i5)) = z5 i1 i2 i3 i4 i5 := by
        funext k
        match k with
        | 0 => rfl
        | 1 => rfl
        | 2 => rfl
        | 3 => rfl
        | 4 => rfl
        | k + 5 => rfl
      rw [this] at C4'
      exact C4'
    have := m_feed_loop (d := d + 1) (m := m) (tp := tp) (o1 := some (.int i1)) (o2 := some (.int i2)) (o3 := some (.int i3)) (o4 := some (.int i4)) (o5 := some (.int i5)) (by omega) (show a ≠ m + 1 by omega) (show a ≠ m by omega) 20 0 g4 (by omega) I5.1.1 I5.2.2.1 C5 (by rw [List.take_zero, List.append_nil]; exact I5.2.2.2.2.2)
    refine jE_mono this ?_
    rintro v h6 ⟨rfl, F6, q6, T6⟩
    have I6 := zI_tp (tp' := tp ++ z20 i1 i2 i3 i4 i5) (G' := G) I5 F6 (by rw [q6, List.length_append, z20_len]) (by rw [List.length_append, z20_len]; omega) T6
    have J6 : jA (fun c => jn m 35 c) 0 0 g4 h6 := zPS_A (zPS_of F6 fun c z => Or.inl z)
    have u1 := J6.1
    have u2 := G04.1
    have w1 := J6.2.1
    have w2 := G04.2.1
    refine ⟨rfl, ⟨by omega, by omega, fun c c1 c2 => ?_⟩, I6, (zS_I F6 (by omega)).trans T5⟩
    rw [J6.2.2 c (by omega) c2, G04.2.2 c (fun z => by unfold jn at z; omega), F4.2.2 c (by omega) id, J1.2.2 c c1 c2]
theorem m_trim {n : Int32} (I : zI h m b B G tp er) : jE (jm_D (d + 2) mX13_trim [.ref m, .int n] h) (zOA h 0 0 m b B G (if n.toInt < 0 ∨ (tp.length : Int) < n.toInt then tp else tp.take n.toInt.toNat) er (if n.toInt < 0 ∨ (tp.length : Int) < n.toInt then .inr 1 else .inl n) (if n.toInt < 0 ∨ (tp.length : Int) < n.toInt then 1 else 0)) := by
  have hm := I.1.1.1
  have hl := I.2.2.2.2.1
  refine jE_of (fun r => gX13_trim) ?_
  obtain ⟨h1, e1, F1, I1, T1⟩ := z_start I
  simp only [e1, Option.bind_some, I1.2.2.1, z_isIn, jc_I_eq]
  have ec : (¬ n < 0 ∧ ¬ Int32.ofNat tp.length < n) ↔ ¬ (n.toInt < 0 ∨ (tp.length : Int) < n.toInt) := by
    rw [Int32.lt_iff_toInt_lt, Int32.lt_iff_toInt_lt, jw_i (by omega)]
    have z0 : (0 : Int32).toInt = 0 := rfl
    rw [z0]
    omega
  by_cases c : n.toInt < 0 ∨ (tp.length : Int) < n.toInt
  · simp only [if_pos c]
    rw [if_neg (fun z => (ec.mp z) c), if_pos rfl]
    simp only [jm_O_eq (zB_ob I1.1.1)]
    refine jE_I (z_no (d := d) 1 I1) ?_
    rintro h2 ⟨F2, I2, T2⟩
    exact jE_end ⟨rfl, zPS_A (zPS_tr F1 F2), I2, T2⟩
  · simp only [if_neg c]
    rw [if_pos (ec.mpr c), if_neg (by decide)]
    obtain ⟨h2, e2, F2, q2⟩ := z_pfI n I1.1.1 (show 2 < 31 by omega)
    rw [e2, Option.bind_some]
    have F2' : zS m (fun c => c = m + 1) (fun k => k = 2) h1 h2 := zS_mn F2 (fun c z => z.elim) (fun k z => z)
    have elen : (tp.take n.toInt.toNat).length = n.toInt.toNat := by rw [List.length_take]; omega
    have en : n = Int32.ofNat (tp.take n.toInt.toNat).length := by
      rw [elen, ← Int32.toInt_inj, jw_i (by omega)]
      omega
    obtain ⟨TP, t1, t2⟩ := I1.2.2.2.2.2
    have I2 := zI_tp (tp' := tp.take n.toInt.toNat) (G' := G) I1 F2' (by rw [← en]; exact q2) (by omega) ⟨TP, aC_z t1 F2 (by omega) id, fun k hk => by
      rw [elen] at hk
      rw [List.getD_eq_getElem?_getD, List.getElem?_take_of_lt hk, ← List.getD_eq_getElem?_getD]
      exact t2 k (by omega)⟩
    exact jE_end ⟨rfl, zPS_A (zPS_tr F1 (zPS_of F2 fun c z => z.elim)), I2, (zS_I F2 (by omega)).trans T1⟩
end ZI
