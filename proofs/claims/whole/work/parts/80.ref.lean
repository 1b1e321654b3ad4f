/-! ===== LEVEL 3: the reference, evenings that would be, gifts, sums ===== -/
section ZI
variable {h h' h1 h2 : jm_H} {d m a b n t k p q pc : Nat} {U V W F : Nat → Prop} {l u : List Int} {S S' : aS} {B : aB} {G G' : aG} {tp : List Nat} {er : Int} {sc : Nat × (Nat → Int32)} {ev dn x y i j : Int32} {st : List Int32} {K : jm_H → Option jm_R} {Q : (Option Value ⊕ Nat) → jm_H → Prop}
theorem zEU_P : ∀ c, zEU m c → zPU2 m c := fun c z => by unfold zEU jn at z; unfold zPU2 jn; omega
/-- an evening behind a call's start -/
theorem zI_ev (P : zPS m h h1) (I : zI h1 m b B G tp er) (T : jr_I h1 m 12 0 0 = some x) : jF (jm_D (d + 9) mX13_evening [.ref m] h1) (.inl (some (.int (aev B G).2))) fun h' => zPS m h h' ∧ zS m (zEU m) zEF h1 h' ∧ zI h' m b B (aev B G).1 tp er ∧ jr_I h' m 12 0 0 = some x := by
  refine jF_mono (z_evening (d := d) I.2.1 I.1) ?_
  rintro h2 ⟨F2, E2⟩
  obtain ⟨E, c1, c2, c3, c4, TP, c5, c6⟩ := I
  refine ⟨zPS_tr P (zPS_of F2 zEU_P), F2, ⟨E2, gS_aev (zD_g E.2.2.1) c1, (zS_I F2 (by unfold zEF; omega)).trans c2, (zS_I F2 (by unfold zEF; omega)).trans c3, c4, TP, aC_z c5 F2 (by omega) (by unfold zEU jn; omega), c6⟩, (zS_I F2 (by unfold zEF; omega)).trans T⟩
theorem m_pass_loop {n : Nat} (hn : n ≤ 20) : ∀ (f k : Nat) (G : aG) (c : Int32) (h1 : jm_H), k + f = n → zPS m h h1 → zI h1 m b B G tp er → jr_I h1 m 12 0 0 = some 0 → jF (kX13_passEvenings_25 (d + 9) m (Int32.ofNat n) c (Int32.ofNat k) h1) (.inl (some (.int (aes B f G c).2))) fun h' => zPS m h h' ∧ zI h' m b B (aes B f G c).1 tp er ∧ jr_I h' m 12 0 0 = some 0 := by
  intro f
  induction f with
  | zero =>
    intro k G c h1 hk P I T
    refine jE_of (fun r => gX13_passEvenings_25) ?_
    rw [if_neg (by rw [jw_lt (by omega) (by omega)]; omega)]
    exact jF_end ⟨P, I, T⟩
  | succ f ih =>
    intro k G c h1 hk P I T
    refine jE_of (fun r => gX13_passEvenings_25) ?_
    rw [if_pos (by rw [jw_lt (by omega) (by omega)]; omega)]
    simp only [jm_O_eq (zB_ob I.1.1), jw_add1]
    refine jE_I (zI_ev (d := d) P I T) ?_
    rintro h2 ⟨P2, -, I2, T2⟩
    exact ih (k + 1) _ _ h2 (by omega) P2 I2 T2
theorem z_inE (i : Int32) : (∃ n, aqe i = some n ∧ i = Int32.ofNat n ∧ 1 ≤ n ∧ n ≤ 20 ∧ (¬ i < 1 ∧ ¬ (20 : Int32) < i)) ∨ (aqe i = none ∧ ¬ (¬ i < 1 ∧ ¬ (20 : Int32) < i)) := by
  rw [Int32.lt_iff_toInt_lt, Int32.lt_iff_toInt_lt]
  have e1 : (1 : Int32).toInt = 1 := rfl
  have e20 : (20 : Int32).toInt = 20 := rfl
  rw [e1, e20]
  cases q : aqe i with
  | some n =>
    obtain ⟨q1, q2, q3⟩ := aqe_s q
    refine Or.inl ⟨n, rfl, q1, q2, q3, ?_⟩
    rw [q1, jw_i (by omega)]
    omega
  | none =>
    have := aqe_n q
    exact Or.inr ⟨rfl, by omega⟩
theorem m_passEvenings (I : zI h m b B G tp er) : ∀ (a : aA) (G' : aG), (a, G') = (match aqe i with | none => (.inr 1, G) | some n => (.inl (aes B n G 0).2, (aes B n G 0).1)) → jE (jm_D (d + 10) mX13_passEvenings [.ref m, .int i] h) (zO h m b B G' tp er a (zk1 a)) := by
  rintro a G' ha
  refine jE_of (fun r => gX13_passEvenings) ?_
  obtain ⟨h1, e1, F1, I1, T1⟩ := z_start I
  simp only [e1, Option.bind_some, z_isIn, jc_I_eq]
  rcases z_inE i with ⟨n, n1, n2, n3, n4, n5⟩ | ⟨n1, n5⟩
  · rw [n1] at ha
    cases ha
    rw [if_pos n5, if_neg (by decide), n2]
    have := m_pass_loop (d := d) (m := m) (h := h) (n := n) n4 n 0 G 0 h1 (by omega) F1 I1 T1
    exact jE_mono this fun v h2 ⟨q1, q2, q3, q4⟩ => ⟨q1, q2, q3, q4⟩
  · rw [n1] at ha
    cases ha
    rw [if_neg n5, if_pos rfl]
    simp only [jm_O_eq (zB_ob I1.1.1)]
    refine jE_I (z_no (d := d + 8) 1 I1) ?_
    rintro h2 ⟨F2, I2, T2⟩
    exact jE_end ⟨rfl, zPS_tr F1 F2, I2, T2⟩
/-! what is kept -/
def zKp (h : jm_H) (m pc : Nat) (S : aS) (ev dn : Int32) : Prop := zG h (m + 24) pc S ∧ jr_I h m 12 16 0 = some ev ∧ jr_I h m 12 17 0 = some dn
theorem va_cpyA {α : Type} {f g : Nat → α} {n i : Nat} (hi : i < n) : va_cpy f g 0 0 n i = f i := va_cpy0 hi
theorem zG_cp (hm : 128 ≤ m) (x y : Nat) (hx : 21 ≤ x ∧ x ≤ 32) (hy : 21 ≤ y ∧ y ≤ 32) (hd : x + 3 ≤ y ∨ y + 3 ≤ x) (H : zG h (m + x) pc S) (L : ∃ g, lC h (m + y) 1800 g) (M : ∃ g, aC h (m + y + 1) 0 12 g) (N : ∃ g, aC h (m + y + 2) 0 12 g) : ∃ h1 h2 h3, jm_cpy h (m + x) 0 (m + y) 0 (Int32.ofNat 1800) = some h1 ∧ jm_cpy h1 (m + x + 1) 0 (m + y + 1) 0 12 = some h2 ∧ jm_cpy h2 (m + x + 2) 0 (m + y + 2) 0 12 = some h3 ∧ zS m (fun c => c = m + y) (fun _ => False) h h1 ∧ zS m (fun c => c = m + y + 1) (fun _ => False) h1 h2 ∧ zS m (fun c => c = m + y + 2) (fun _ => False) h2 h3 ∧ zG h3 (m + y) pc S := by
  obtain ⟨a1, a2, ⟨NW, n1, n2⟩, ⟨MN, m1, m2⟩, ST, s1, s2⟩ := H
  obtain ⟨g1, L⟩ := L
  obtain ⟨g2, M⟩ := M
  obtain ⟨g3, N⟩ := N
  obtain ⟨h1, e1, F1, L1⟩ := z_cpL (m := m) (s := 0) (e := 0) (k := 1800) n1 L (by omega) (by omega) (by omega) (by omega) (by omega)
  obtain ⟨h2, e2, F2, L2⟩ := z_cpI (m := m) (s := 0) (e := 0) (k := 12) (aC_z m1 F1 (by omega) (by omega)) (aC_z M F1 (by omega) (by omega)) (by omega) (by omega) (by omega) (by omega) (by omega)
  obtain ⟨h3, e3, F3, L3⟩ := z_cpI (m := m) (s := 0) (e := 0) (k := 12) (aC_z (aC_z s1 F1 (by omega) (by omega)) F2 (by omega) (by omega)) (aC_z (aC_z N F1 (by omega) (by omega)) F2 (by omega) (by omega)) (by omega) (by omega) (by omega) (by omega) (by omega)
  refine ⟨h1, h2, h3, e1, e2, e3, F1, F2, F3, a1, a2, ⟨_, lC_z (lC_z L1 F2 (by omega) (by omega)) F3 (by omega) (by omega), fun r hr i hi => ?_⟩, ⟨_, aC_z L2 F3 (by omega) (by omega), fun r hr => ?_⟩, _, L3, fun r hr => ?_⟩
  · have := a2 r hr
    rw [va_cpyA (by omega)]
    exact n2 r hr i hi
  · rw [va_cpyA (by omega)]
    exact m2 r hr
  · rw [va_cpyA (by omega)]
    exact s2 r hr
def zKU (m c : Nat) : Prop := jn (m + 24) 3 c
theorem z_keep (E : zE h m b B S ev dn) : jF (jm_D (d + 1) mX13_keep [.ref m] h) (.inl none) fun h' => zS m (zKU m) (fun k => k = 16 ∨ k = 17) h h' ∧ zKp h' m B.2.1.length S ev dn := by
  obtain ⟨B0, a2, a3, a4, a5, a6, a7⟩ := E
  refine jE_of (fun r => gX13_keep) ?_
  have L := zB_l (o := 24) (n := 1800) B0 (Or.inr ⟨by omega, by omega⟩) rfl
  have M := zB_a (o := 25) (t := 0) (n := 12) B0 (Or.inr ⟨by omega, by omega⟩) rfl (by omega)
  have N := zB_a (o := 26) (t := 0) (n := 12) B0 (Or.inr ⟨by omega, by omega⟩) rfl (by omega)
  obtain ⟨h1, h2, h3, e1, e2, e3, F1, F2, F3, G3⟩ := zG_cp B0.1 21 24 (by omega) (by omega) (by omega) a4 L M N
  obtain ⟨NW, n1, -⟩ := a4.2.2.1
  have B1 := zB_tr B0 F1 (fun k z => z.elim)
  have B2 := zB_tr B1 F2 (fun k z => z.elim)
  have B3 := zB_tr B2 F3 (fun k z => z.elim)
  have e2' : jm_cpy h1 (m + 22) 0 (m + 25) 0 12 = some h2 := e2
  have e3' : jm_cpy h2 (m + 23) 0 (m + 26) 0 12 = some h3 := e3
  have F13 : zS m (zKU m) (fun _ => False) h h3 := zS_2 F1 (zS_2 F2 F3 (W := zKU m) (K := fun _ => False) (fun c z => by unfold zKU jn; omega) (fun c z => by unfold zKU jn; omega) (fun k z => z) (fun k z => z)) (fun c z => by unfold zKU jn; omega) (fun c z => z) (fun k z => z) (fun k z => z)
  simp only [zB_8 B0, zB_11 B0, Option.bind_some, lC_len n1, e1, zB_9 B1, zB_12 B1, e2', zB_10 B2, zB_13 B2, e3', (zS_I F13 id).trans a5]
  obtain ⟨h4, e4, F4, q4⟩ := z_pfI ev B3 (show 16 < 31 by omega)
  have B4 := zB_tr B3 F4 (fun k z => by rw [z]; rfl)
  simp only [e4, Option.bind_some, (zS_I F4 (show ¬ (15 = 16) by omega)).trans ((zS_I F13 id).trans a6)]
  obtain ⟨h5, e5, F5, q5⟩ := z_pfI dn B4 (show 17 < 31 by omega)
  rw [e5, Option.bind_some]
  refine jF_end ⟨zS_2 F13 (zS_2 F4 F5 (W := zKU m) (K := fun k => k = 16 ∨ k = 17) (fun c z => z.elim) (fun c z => z.elim) (fun k z => Or.inl z) (fun k z => Or.inr z)) (fun c z => z) (fun c z => z) (fun k z => z.elim) (fun k z => z), zG_z (zG_z G3 F4 (fun c z => by unfold jn at z; omega) (fun c z => id)) F5 (fun c z => by unfold jn at z; omega) (fun c z => id), (zS_I F5 (show ¬ (16 = 17) by omega)).trans q4, q5⟩
theorem zKp_z (H : zKp h m pc S ev dn) (A : zS m U F h h') (p : ∀ c, jn (m + 24) 3 c → ¬ U c) (q1 : ¬ F 16) (q2 : ¬ F 17) : zKp h' m pc S ev dn :=
  ⟨zG_z H.1 A (fun c z => by unfold jn at z; omega) p, (zS_I A q1).trans H.2.1, (zS_I A q2).trans H.2.2⟩
/-- all as it was -/
theorem z_back (hS : gS B G.1) (I : zI h m b B G' tp er) (Kp : zKp h m B.2.1.length G.1 G.2.1 G.2.2) (T : jr_I h m 12 0 0 = some x) : jF (jm_D (d + 1) mX13_bringBack [.ref m] h) (.inl none) fun h' => zPS m h h' ∧ zI h' m b B G tp er ∧ jr_I h' m 12 0 0 = some x := by
  obtain ⟨⟨B0, a2, a3, a4, a5, a6, a7⟩, c1, c2, c3, c4, TP, c5, c6⟩ := I
  obtain ⟨k1, k2, k3⟩ := Kp
  refine jE_of (fun r => gX13_bringBack) ?_
  have L := zB_l (o := 21) (n := 1800) B0 (Or.inr ⟨by omega, by omega⟩) rfl
  have M := zB_a (o := 22) (t := 0) (n := 12) B0 (Or.inr ⟨by omega, by omega⟩) rfl (by omega)
  have N := zB_a (o := 23) (t := 0) (n := 12) B0 (Or.inr ⟨by omega, by omega⟩) rfl (by omega)
  obtain ⟨h1, h2, h3, e1, e2, e3, F1, F2, F3, G3⟩ := zG_cp B0.1 24 21 (by omega) (by omega) (by omega) k1 L M N
  obtain ⟨NW, n1, -⟩ := a4.2.2.1
  have B1 := zB_tr B0 F1 (fun k z => z.elim)
  have B2 := zB_tr B1 F2 (fun k z => z.elim)
  have B3 := zB_tr B2 F3 (fun k z => z.elim)
  have e2' : jm_cpy h1 (m + 25) 0 (m + 22) 0 12 = some h2 := e2
  have e3' : jm_cpy h2 (m + 26) 0 (m + 23) 0 12 = some h3 := e3
  have F13 : zS m (fun c => jn (m + 21) 3 c) (fun _ => False) h h3 := zS_2 F1 (zS_2 F2 F3 (W := fun c => jn (m + 21) 3 c) (K := fun _ => False) (fun c z => by unfold jn; omega) (fun c z => by unfold jn; omega) (fun k z => z) (fun k z => z)) (fun c z => by unfold jn; omega) (fun c z => z) (fun k z => z) (fun k z => z)
  simp only [zB_8 B0, zB_11 B0, Option.bind_some, lC_len n1, e1, zB_9 B1, zB_12 B1, e2', zB_10 B2, zB_13 B2, e3', (zS_I F13 id).trans k2]
  obtain ⟨h4, e4, F4, q4⟩ := z_pfI G.2.1 B3 (show 14 < 31 by omega)
  have B4 := zB_tr B3 F4 (fun k z => by rw [z]; rfl)
  simp only [e4, Option.bind_some, (zS_I F4 (show ¬ (17 = 14) by omega)).trans ((zS_I F13 id).trans k3)]
  obtain ⟨h5, e5, F5, q5⟩ := z_pfI G.2.2 B4 (show 15 < 31 by omega)
  rw [e5, Option.bind_some]
  have F15 : zS m (fun c => jn (m + 21) 3 c) (fun k => k = 14 ∨ k = 15) h h5 := zS_2 F13 (zS_2 F4 F5 (W := fun c => jn (m + 21) 3 c) (K := fun k => k = 14 ∨ k = 15) (fun c z => z.elim) (fun c z => z.elim) (fun k z => Or.inl z) (fun k z => Or.inr z)) (fun c z => z) (fun c z => z) (fun k z => z.elim) (fun k z => z)
  refine jF_end ⟨zPS_of F15 (fun c z => by unfold jn at z; unfold zPU2 jn; omega), ⟨⟨zB_tr B4 F5 (fun k z => by rw [z]; rfl), (zS_R F15 (by omega)).trans a2, zD_eq a3 (fun c d1 d2 => zS_at F15 (by omega) (by unfold jn; omega)), zG_z (zG_z G3 F4 (fun c z => by unfold jn at z; omega) (fun c z => id)) F5 (fun c z => by unfold jn at z; omega) (fun c z => id), (zS_I F5 (show ¬ (14 = 15) by omega)).trans q4, q5, a7⟩, hS, (zS_I F15 (by omega)).trans c2, (zS_I F15 (by omega)).trans c3, c4, TP, aC_z c5 F15 (by omega) (by unfold jn; omega), c6⟩, (zS_I F15 (by omega)).trans T⟩
theorem zEU_K : ∀ c, jn (m + 24) 3 c → ¬ zEU m c := fun c z y => by unfold zEU at y; unfold jn at *; omega
theorem zsU_K {U : Nat → Prop} (p : ∀ c, U c → jn (m + 27) 8 c) : ∀ c, jn (m + 24) 3 c → ¬ U c := fun c z y => by have := p c y; unfold jn at *; omega
theorem m_sizeEv_loop {n : Nat} (hn : n ≤ 20) (hp : p < B.2.1.length) (hS : gS B G.1) : ∀ (f k : Nat) (G1 : aG) (c : Int32) (h1 : jm_H), k + f = n → zPS m h h1 → zI h1 m b B G1 tp er → zKp h1 m B.2.1.length G.1 G.2.1 G.2.2 → jr_I h1 m 12 0 0 = some 0 → jE (kX13_sizeAfterEvenings_41 (d + 9) m (Int32.ofNat p) (Int32.ofNat n) (Int32.ofNat k) h1) (zO h m b B G tp er (.inl (Int32.ofNat ((aes B f G1 c).1.1.1 p).length)) 0) := by
  intro f
  induction f with
  | zero =>
    intro k G1 c h1 hk P I Kp T
    refine jE_of (fun r => gX13_sizeAfterEvenings_41) ?_
    rw [if_neg (by rw [jw_lt (by omega) (by omega)]; omega)]
    simp only [zB_9 I.1.1, Option.bind_some, zG_many0 I.1.2.2.2.1 hp, jm_O_eq (zB_ob I.1.1)]
    refine jE_V (z_back (d := d + 8) hS I Kp T) ?_
    rintro h2 ⟨P2, I2, T2⟩
    exact jE_end ⟨rfl, zPS_tr P P2, I2, T2⟩
  | succ f ih =>
    intro k G1 c h1 hk P I Kp T
    refine jE_of (fun r => gX13_sizeAfterEvenings_41) ?_
    rw [if_pos (by rw [jw_lt (by omega) (by omega)]; omega)]
    simp only [jm_O_eq (zB_ob I.1.1), jw_add1]
    refine jE_I (zI_ev (d := d) P I T) ?_
    rintro h2 ⟨P2, F2, I2, T2⟩
    exact ih (k + 1) _ (c + (aev B G1).2) h2 (by omega) P2 I2 (zKp_z Kp F2 zEU_K (by unfold zEF; omega) (by unfold zEF; omega)) T2
theorem f1617 : ∀ k, k = 16 ∨ k = 17 → zsF k ∧ k ≠ 0 := fun k z => by unfold zsF; omega
theorem m_sizeAfterEvenings (I : zI h m b B G tp er) : ∀ a : aA, a = (match aqp B.2.1.length i with | none => .inr 2 | some p => (match aqe j with | none => .inr 1 | some n => .inl (Int32.ofNat ((aes B n G 0).1.1.1 p).length))) → jE (jm_D (d + 10) mX13_sizeAfterEvenings [.ref m, .int i, .int j] h) (zO h m b B G tp er a (zk a)) := by
  rintro a rfl
  refine jE_of (fun r => gX13_sizeAfterEvenings) ?_
  refine z_pubI (d := d + 7) I (fun e h1 F1 I1 T1 => by rw [e]; exact ⟨rfl, F1, I1, T1⟩) fun p h1 e ei hp F1 I1 T1 => ?_
  rw [e, ei]
  simp only [z_isIn, jc_I_eq]
  rcases z_inE j with ⟨n, n1, n2, n3, n4, n5⟩ | ⟨n1, n5⟩
  · rw [n1, if_pos n5, if_neg (by decide), n2]
    simp only [jm_O_eq (zB_ob I1.1.1)]
    refine jE_V (z_keep (d := d + 8) I1.1) ?_
    rintro h2 ⟨F2, Kp⟩
    obtain ⟨P2, I2, T2⟩ := zI_2 F1 I1 T1 F2 (fun c z => by unfold zKU jn at z; unfold zsU jn; omega) f1617
    exact m_sizeEv_loop (d := d) n4 hp I1.2.1 n 0 G 0 h2 (by omega) P2 I2 Kp T2
  · rw [n1, if_neg n5, if_pos rfl]
    simp only [jm_O_eq (zB_ob I1.1.1)]
    refine jE_I (z_no (d := d + 8) 2 I1) ?_
    rintro h2 ⟨F2, I2, T2⟩
    exact jE_end ⟨rfl, zPS_tr F1 F2, I2, T2⟩
theorem auf_b : ∀ (f k : Nat) (G : aG), -1 ≤ auf B p f k G ∧ auf B p f k G ≤ (k + f : Nat)
  | 0, k, G => by
    unfold auf
    split <;> omega
  | f + 1, k, G => by
    unfold auf
    split
    · omega
    · have := auf_b f (k + 1) (aev B G).1
      omega
theorem m_left_loop (hp : p < B.2.1.length) (hS : gS B G.1) : ∀ (f k : Nat) (G1 : aG) (h1 : jm_H), k + f = 20 → zPS m h h1 → zI h1 m b B G1 tp er → zKp h1 m B.2.1.length G.1 G.2.1 G.2.2 → jr_I h1 m 12 0 0 = some 0 → jF (kX13_eveningsLeft_2 (d + 9) m (Int32.ofNat p) (Int32.ofNat k) h1) (.inl (some (.int (Int32.ofInt (auf B p f k G1))))) fun h' => zPS m h h' ∧ (∃ G2, zI h' m b B G2 tp er) ∧ zKp h' m B.2.1.length G.1 G.2.1 G.2.2 ∧ jr_I h' m 12 0 0 = some 0 := by
  intro f
  induction f with
  | zero =>
    intro k G1 h1 hk P I Kp T
    have hk' : k = 20 := by omega
    subst hk'
    refine jE_of (fun r => gX13_eveningsLeft_2) ?_
    rw [if_neg (by decide)]
    simp only [jm_O_eq (zB_ob I.1.1)]
    refine jE_I (z_finished (d := d + 7) (I.2.1 p hp) hp I.1.1 I.1.2.2.2.1) ?_
    rintro h2 ⟨F2, -⟩
    obtain ⟨P2, I2, T2⟩ := zI_2 P I T F2 (fun c z => by unfold zsU jn; omega) f19
    have Kp2 := zKp_z Kp F2 (fun c z y => by unfold jn at z; omega) (by omega) (by omega)
    unfold auf
    by_cases c : ry_r (G1.1.1 p) = none
    · rw [jp_T c, if_neg (by decide), if_pos c]
      exact jF_end ⟨P2, ⟨_, I2⟩, Kp2, T2⟩
    · rw [jp_F c, if_pos rfl, if_neg c]
      simp only [jm_O_eq (zB_ob I2.1.1)]
      refine jE_I (zI_ev (d := d) P2 I2 T2) ?_
      rintro h3 ⟨P3, F3, I3, T3⟩
      refine jE_of (fun r => gX13_eveningsLeft_2) ?_
      rw [if_pos (by decide)]
      exact jF_end ⟨P3, ⟨_, I3⟩, zKp_z Kp2 F3 zEU_K (by unfold zEF; omega) (by unfold zEF; omega), T3⟩
  | succ f ih =>
    intro k G1 h1 hk P I Kp T
    refine jE_of (fun r => gX13_eveningsLeft_2) ?_
    rw [if_neg (by rw [show (20 : Int32) = Int32.ofNat 20 from rfl, jw_lt (by omega) (by omega)]; omega)]
    simp only [jm_O_eq (zB_ob I.1.1)]
    refine jE_I (z_finished (d := d + 7) (I.2.1 p hp) hp I.1.1 I.1.2.2.2.1) ?_
    rintro h2 ⟨F2, -⟩
    obtain ⟨P2, I2, T2⟩ := zI_2 P I T F2 (fun c z => by unfold zsU jn; omega) f19
    have Kp2 := zKp_z Kp F2 (fun c z y => by unfold jn at z; omega) (by omega) (by omega)
    unfold auf
    by_cases c : ry_r (G1.1.1 p) = none
    · rw [jp_T c, if_neg (by decide), if_pos c, jw_in]
      exact jF_end ⟨P2, ⟨_, I2⟩, Kp2, T2⟩
    · rw [jp_F c, if_pos rfl, if_neg c]
      simp only [jm_O_eq (zB_ob I2.1.1), jw_add1]
      refine jE_I (zI_ev (d := d) P2 I2 T2) ?_
      rintro h3 ⟨P3, F3, I3, T3⟩
      exact ih (k + 1) _ h3 (by omega) P3 I3 (zKp_z Kp2 F3 zEU_K (by unfold zEF; omega) (by unfold zEF; omega)) T3
theorem m_untilFinished (I : zI h m b B G tp er) : ∀ a : aA, a = (match aqp B.2.1.length i with | none => .inr 2 | some p => .inl (Int32.ofInt (auf B p 20 0 G))) → jE (jm_D (d + 11) mX13_eveningsUntilFinished [.ref m, .int i] h) (zO h m b B G tp er a (zk a)) := by
  rintro a rfl
  refine jE_of (fun r => gX13_eveningsUntilFinished) ?_
  refine z_pubI (d := d + 8) I (fun e h1 F1 I1 T1 => by rw [e]; exact ⟨rfl, F1, I1, T1⟩) fun p h1 e ei hp F1 I1 T1 => ?_
  rw [e, ei]
  simp only [jm_O_eq (zB_ob I1.1.1)]
  refine jE_V (z_keep (d := d + 9) I1.1) ?_
  rintro h2 ⟨F2, Kp⟩
  obtain ⟨P2, I2, T2⟩ := zI_2 F1 I1 T1 F2 (fun c z => by unfold zKU jn at z; unfold zsU jn; omega) f1617
  simp only [jm_O_eq (zB_ob I2.1.1)]
  have key : jF (jm_D (d + 10) mX13_eveningsLeft [.ref m, .int (Int32.ofNat p)] h2) (.inl (some (.int (Int32.ofInt (auf B p 20 0 G))))) fun h' => zPS m h h' ∧ (∃ G2, zI h' m b B G2 tp er) ∧ zKp h' m B.2.1.length G.1 G.2.1 G.2.2 ∧ jr_I h' m 12 0 0 = some 0 :=
    jE_of (fun r => gX13_eveningsLeft) (m_left_loop (d := d) hp I1.2.1 20 0 G h2 (by omega) P2 I2 Kp T2)
  refine jE_I key ?_
  rintro h3 ⟨P3, ⟨G3, I3⟩, Kp3, T3⟩
  simp only [jm_O_eq (zB_ob I3.1.1)]
  refine jE_V (z_back (d := d + 9) I1.2.1 I3 Kp3 T3) ?_
  rintro h4 ⟨P4, I4, T4⟩
  exact jE_end ⟨rfl, zPS_tr P3 P4, I4, T4⟩
/-! gifts -/
theorem ry_uf_cut : ∀ (n N : Nat) (l : List Int), n ≤ N → ry_uf n l = if 0 ≤ ry_uf N l ∧ ry_uf N l ≤ n then ry_uf N l else -1
  | 0, N, l, h => by
    cases q : ry_r l with
    | none =>
      have e1 : ∀ M, ry_uf M l = 0 := fun M => by cases M <;> (unfold ry_uf; rw [q])
      rw [e1, e1, if_pos (by omega)]
    | some k =>
      have e0 : ry_uf 0 l = -1 := by unfold ry_uf; rw [q]
      rw [e0]
      cases N with
      | zero => rw [e0, if_neg (by omega)]
      | succ M =>
        have e1 : ry_uf (M + 1) l = (if ry_sz l k ≤ 150 then (if ry_uf M (ry_st l k) < 0 then -1 else ry_uf M (ry_st l k) + 1) else -1) := by
          rw [show ry_uf (M + 1) l = (match ry_r l with
            | none => 0
            | some k => if ry_sz l k ≤ 150 then (if ry_uf M (ry_st l k) < 0 then -1 else ry_uf M (ry_st l k) + 1) else -1) from rfl, q]
        rw [e1]
        by_cases c : ry_sz l k ≤ 150
        · rw [if_pos c]
          by_cases c2 : ry_uf M (ry_st l k) < 0
          · rw [if_pos c2, if_neg (by omega)]
          · rw [if_neg c2, if_neg (by omega)]
        · rw [if_neg c, if_neg (by omega)]
  | n + 1, N, l, h => by
    obtain ⟨M, rfl⟩ : ∃ M, N = M + 1 := ⟨N - 1, by omega⟩
    have e1 : ∀ M, ry_uf (M + 1) l = (match ry_r l with
        | none => 0
        | some k => if ry_sz l k ≤ 150 then (if ry_uf M (ry_st l k) < 0 then -1 else ry_uf M (ry_st l k) + 1) else -1) := fun M => rfl
    rw [e1, e1]
    cases q : ry_r l with
    | none =>
      simp only []
      rw [if_pos (by omega)]
    | some k =>
      simp only []
      by_cases c : ry_sz l k ≤ 150
      · rw [if_pos c, if_pos c]
        have ih := ry_uf_cut n M (ry_st l k) (by omega)
        rw [ih]
        by_cases c2 : 0 ≤ ry_uf M (ry_st l k) ∧ ry_uf M (ry_st l k) ≤ n
        · rw [if_pos c2, if_neg (by omega), if_pos (by omega)]
        · rw [if_neg c2, if_pos (by omega)]
          by_cases c3 : ry_uf M (ry_st l k) < 0
          · rw [if_pos c3, if_neg (by omega)]
          · rw [if_neg c3, if_neg (by omega)]
      · rw [if_neg c, if_neg c, if_neg (by omega)]
theorem m_gift_loop (hp : p < B.2.1.length) : ∀ (f k : Nat) (o5 : Option Value) (h1 : jm_H), k + f = B.2.1.length → zPS m h h1 → zI h1 m b B G tp er → jr_I h1 m 12 0 0 = some 0 → jF (kX13_gift_8 (d + 8) m (Int32.ofNat p) (Int32.ofInt (abg G.1 p k).1) (Int32.ofNat (abg G.1 p k).2) (Int32.ofNat k) o5 h1) (.inl (some (.int (Int32.ofInt (abg G.1 p B.2.1.length).1)))) fun h' => zPS m h h' ∧ zI h' m b B G tp er ∧ jr_I h' m 12 0 0 = some 0 := by
  intro f
  induction f with
  | zero =>
    intro k o5 h1 hk P I T
    have h12 := zI_12 I
    have : k = B.2.1.length := by omega
    subst this
    refine jE_of (fun r => gX13_gift_8) ?_
    simp only [I.1.2.1, zD_8 I.1.2.2.1, Option.bind_some]
    rw [if_neg (by rw [jw_lt (by omega) (by omega)]; omega)]
    exact jF_end ⟨P, I, T⟩
  | succ f ih =>
    intro k o5 h1 hk P I T
    have h12 := zI_12 I
    have hkb : k < B.2.1.length := by omega
    have hb := abg_b (S := G.1) (p := p) k
    have hRp := I.2.1 p hp
    have hRk := I.2.1 k hkb
    have er : abg G.1 p (k + 1) = if 1 + (G.1.1 p).length + (G.1.1 k).length ≤ 150 ∧ 0 < (abg G.1 p k).2 ∧ 0 ≤ ry_uf ((abg G.1 p k).2 - 1) (0 :: G.1.1 p ++ G.1.1 k) then ((k : Int), (ry_uf ((abg G.1 p k).2 - 1) (0 :: G.1.1 p ++ G.1.1 k)).toNat) else abg G.1 p k := rfl
    have nx := ih (k + 1)
    rw [er] at nx
    refine jE_of (fun r => gX13_gift_8) ?_
    simp only [I.1.2.1, zD_8 I.1.2.2.1, Option.bind_some]
    rw [if_pos (by rw [jw_lt (by omega) (by omega)]; omega)]
    simp only [jm_O_eq (zB_ob I.1.1), z_canGive (d := d + 7) hkb hp I.1.1 I.1.2.2.2.1, jc_I_eq, jw_add1]
    by_cases c : 1 + (G.1.1 p).length + (G.1.1 k).length ≤ 150
    · rw [if_pos c, if_neg (by decide)]
      refine jE_V (z_gift (d := d + 7) hkb hp c I.1.1 I.1.2.2.2.1) ?_
      rintro h2 ⟨F2, K2⟩
      obtain ⟨P2, I2, T2⟩ := zI_2 P I T F2 (fun c z => by unfold zsU jn; omega) f19
      have hR := gR_give hRp hRk c
      simp only [jm_O_eq (zB_ob K2.1)]
      refine jE_I (z_left (d := d) hR K2) ?_
      rintro h3 ⟨F3, l3, K3⟩
      obtain ⟨P3, I3, T3⟩ := zI_2 P2 I2 T2 F3 zU_s f19
      have hub := ry_uf_b 40 (0 :: G.1.1 p ++ G.1.1 k)
      have hcut := fun n (q : n ≤ 40) => ry_uf_cut n 40 (0 :: G.1.1 p ++ G.1.1 k) q
      generalize abg G.1 p k = bb at *
      obtain ⟨b1, b2⟩ := bb
      simp only [] at *
      have e40 := hcut (b2 - 1)
      generalize ry_uf (b2 - 1) (0 :: G.1.1 p ++ G.1.1 k) = w1 at *
      generalize ry_uf 40 (0 :: G.1.1 p ++ G.1.1 k) = w at *
      have en : Int32.ofInt w = -1 ↔ w < 0 := by
        rw [← Int32.toInt_inj, jw_z (by omega) (by omega), show (-1 : Int32).toInt = -1 from rfl]
        omega
      by_cases c2 : w < 0
      · rw [if_pos (en.mpr c2)]
        have : w1 = -1 := by
          rw [e40 (by omega), if_neg (by omega)]
        rw [if_neg (by omega)] at nx
        exact nx _ h3 (by omega) P3 I3 T3
      · rw [if_neg (fun z => c2 (en.mp z))]
        simp only [jw_zlt (show -2147483648 ≤ w by omega) (show w < 2147483648 by omega) (show b2 < 2147483648 by omega)]
        by_cases c3 : w < (b2 : Int)
        · rw [if_pos c3]
          have : w1 = w := by
            rw [e40 (by omega), if_pos (by omega)]
          rw [if_pos ⟨c, by omega, by omega⟩, this] at nx
          simp only [] at nx
          rw [show Int32.ofInt w = Int32.ofNat w.toNat from by rw [← jw_in]; congr 1; omega, ← jw_in]
          exact nx _ h3 (by omega) P3 I3 T3
        · rw [if_neg c3]
          have : ¬ (0 < b2 ∧ 0 ≤ w1) := by
            rintro ⟨z1, z2⟩
            have := e40 (by omega)
            rw [if_neg (by omega)] at this
            omega
          rw [if_neg (fun z => this z.2)] at nx
          exact nx _ h3 (by omega) P3 I3 T3
    · rw [if_neg c, if_pos rfl]
      rw [if_neg (fun z => c z.1)] at nx
      exact nx _ h1 (by omega) P I T
theorem m_bestGift (I : zI h m b B G tp er) : ∀ a : aA, a = (match aqp B.2.1.length i with | none => .inr 2 | some p => .inl (Int32.ofInt (abg G.1 p B.2.1.length).1)) → jE (jm_D (d + 10) mX13_bestGift [.ref m, .int i] h) (zO h m b B G tp er a (zk a)) := by
  rintro a rfl
  refine jE_of (fun r => gX13_bestGift) ?_
  refine z_pubI (d := d + 7) I (fun e h1 F1 I1 T1 => by rw [e]; exact ⟨rfl, F1, I1, T1⟩) fun p h1 e ei hp F1 I1 T1 => ?_
  rw [e, ei]
  simp only [jm_O_eq (zB_ob I1.1.1)]
  have key : jF (jm_D (d + 9) mX13_gift [.ref m, .int (Int32.ofNat p)] h1) (.inl (some (.int (Int32.ofInt (abg G.1 p B.2.1.length).1)))) fun h' => zPS m h h' ∧ zI h' m b B G tp er ∧ jr_I h' m 12 0 0 = some 0 :=
    jE_of (fun r => gX13_gift) (m_gift_loop (d := d) hp B.2.1.length 0 none h1 (by omega) F1 I1 T1)
  refine jE_I key ?_
  rintro h2 ⟨P2, I2, T2⟩
  exact jE_end ⟨rfl, P2, I2, T2⟩
/-! the mean size -/
theorem m_mean_loop (I : zI h m b B G tp er) : ∀ (f p : Nat), p + f = B.2.1.length → kX13_meanSize_9 d m (Int32.ofNat (asum G.1 p)) (Int32.ofNat p) h = some (.inl (some (.double (amean G.1 B.2.1.length))), h) := by
  have h12 := zI_12 I
  intro f
  induction f with
  | zero =>
    intro p hp
    have : p = B.2.1.length := by omega
    subst this
    have hs := asum_le I.2.1 B.2.1.length (Nat.le_refl _)
    apply gX13_meanSize_9
    simp only [I.1.2.1, zD_8 I.1.2.2.1, Option.bind_some]
    rw [if_neg (by rw [jw_lt (by omega) (by omega)]; omega)]
    unfold amean
    by_cases c : 0 < B.2.1.length
    · rw [if_neg (by rw [jw_eqL (b := 0) (by omega) (by omega)]; omega), if_pos c, if_pos (fp_ok _ (by omega) (by omega) _ hs)]
    · rw [if_pos (by rw [jw_eqL (b := 0) (by omega) (by omega)]; omega), if_neg c]
  | succ f ih =>
    intro p hp
    apply gX13_meanSize_9
    simp only [I.1.2.1, zD_8 I.1.2.2.1, Option.bind_some]
    rw [if_pos (by rw [jw_lt (by omega) (by omega)]; omega)]
    simp only [zB_9 I.1.1, Option.bind_some, zG_many0 I.1.2.2.2.1 (show p < B.2.1.length by omega), jw_add, jw_add1]
    exact ih (p + 1) (by omega)
theorem m_meanSize (I : zI h m b B G tp er) : jF (jm_D (d + 1) mX13_meanSize [.ref m] h) (.inl (some (.double (amean G.1 B.2.1.length)))) fun h' => zPS m h h' ∧ zI h' m b B G tp er := by
  refine jE_of (fun r => gX13_meanSize) ?_
  obtain ⟨h1, e1, F1, I1, T1⟩ := z_start I
  rw [e1, Option.bind_some]
  exact jF_eq (m_mean_loop (d := d) I1 B.2.1.length 0 (by omega)) ⟨F1, I1⟩
end ZI
