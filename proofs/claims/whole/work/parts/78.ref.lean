/-! ===== LEVEL 3: the reference, what it holds between calls ===== -/
def zTp (h : jm_H) (m : Nat) (tp : List Nat) : Prop := tp.length ≤ 2000 ∧ ∃ TP, aC h (m + 1) 0 2000 TP ∧ ∀ i, i < tp.length → TP i = Int32.ofNat (tp.getD i 0) ∧ tp.getD i 0 < 256
/-- a MaskPlaysModel -/
def zI (h : jm_H) (m b : Nat) (B : aB) (G : aG) (tp : List Nat) (er : Int) : Prop := zE h m b B G.1 G.2.1 G.2.2 ∧ gS B G.1 ∧ jr_I h m 12 2 0 = some (Int32.ofNat tp.length) ∧ jr_I h m 12 3 0 = some (Int32.ofInt er) ∧ zTp h m tp
/-- an answer's number, and what is thrown -/
def zv : aA → Int32
  | .inl x => x
  | .inr _ => 0
def zk : aA → Int32
  | .inl _ => 0
  | .inr e => if e = 2 then 1 else 2
def zk1 : aA → Int32
  | .inl _ => 0
  | .inr _ => 1
def zPU2 (m c : Nat) : Prop := c = m + 1 ∨ jn (m + 21) 14 c
def zPS (m : Nat) (h h' : jm_H) : Prop := zS m (zPU2 m) (fun _ => True) h h'
/-- what a call leaves -/
def zO (h : jm_H) (m b : Nat) (B : aB) (G : aG) (tp : List Nat) (er : Int) (a : aA) (t : Int32) (v : Option Value ⊕ Nat) (h' : jm_H) : Prop := v = .inl (some (.int (zv a))) ∧ zPS m h h' ∧ zI h' m b B G tp er ∧ jr_I h' m 12 0 0 = some t
section ZI
variable {h h' h1 h2 : jm_H} {d m a b n t k p q pc : Nat} {U V W F : Nat → Prop} {l u : List Int} {S S' : aS} {B : aB} {G : aG} {tp : List Nat} {er : Int} {sc : Nat × (Nat → Int32)} {ev dn x y i j : Int32} {st : List Int32} {K : jm_H → Option jm_R} {Q : (Option Value ⊕ Nat) → jm_H → Prop}
theorem jr_eq {c k t : Nat} (e : h'.2.2 a = h.2.2 a) : jr_I h' a c k t = jr_I h a c k t ∧ jr_R h' a c k t = jr_R h a c k t := by
  unfold jr_I jr_R jm_gf
  rw [e]
  exact ⟨rfl, rfl⟩
/-- where it lies -/
def zAt (m b c : Nat) : Prop := c = m ∨ c = m + 1 ∨ jn (m + 21) 14 c ∨ jn b 19 c
theorem zI_eq (I : zI h m b B G tp er) (e : ∀ c, zAt m b c → h'.2.2 c = h.2.2 c) : zI h' m b B G tp er := by
  obtain ⟨⟨⟨b1, b2, b3⟩, a2, a3, ⟨g1, g2, ⟨NW, g3, g4⟩, ⟨MN, g5, g6⟩, ST, g7, g8⟩, a5, a6, a7⟩, c1, c2, c3, c4, TP, c5, c6⟩ := I
  have em := e m (Or.inl rfl)
  have e1 := e (m + 1) (Or.inr (Or.inl rfl))
  have eo : ∀ o, 21 ≤ o → o ≤ 34 → h'.2.2 (m + o) = h.2.2 (m + o) := fun o o1 o2 => e (m + o) (Or.inr (Or.inr (Or.inl (by unfold jn; omega))))
  refine ⟨⟨⟨b1, fun o q => ?_, fun k q => (jr_eq em).2.trans (b3 k q)⟩, (jr_eq em).2.trans a2, zD_eq a3 (fun c p1 p2 => e c (Or.inr (Or.inr (Or.inr (by unfold jn; omega))))), ⟨g1, g2, ⟨NW, ⟨(eo 21 (by omega) (by omega)).trans g3.1, g3.2⟩, g4⟩, ⟨MN, ⟨(eo 22 (by omega) (by omega)).trans g5.1, g5.2⟩, g6⟩, ST, ⟨(eo 23 (by omega) (by omega)).trans g7.1, g7.2⟩, g8⟩, (jr_eq em).1.trans a5, (jr_eq em).1.trans a6, a7⟩, c1, (jr_eq em).1.trans c2, (jr_eq em).1.trans c3, c4, TP, ⟨e1.trans c5.1, c5.2⟩, c6⟩
  by_cases o0 : o = 0
  · subst o0
    rw [← b2 0 q]
    exact congrArg zY em
  · by_cases o1 : o = 1
    · subst o1
      rw [← b2 1 q]
      exact congrArg zY e1
    · rw [← b2 o q, eo o (by omega) (by omega)]
theorem zI_z (I : zI h m b B G tp er) (A : zS m U F h h') (p : ∀ c, U c → zsU m c) (q : ∀ k, F k → zsF k) : zI h' m b B G tp er := by
  obtain ⟨E, c1, c2, c3, c4, TP, c5, c6⟩ := I
  have q2 : ¬ F 2 := fun z => by have := q 2 z; unfold zsF at this; omega
  have q3 : ¬ F 3 := fun z => by have := q 3 z; unfold zsF at this; omega
  exact ⟨zE_z E A p q, c1, (zS_I A q2).trans c2, (zS_I A q3).trans c3, c4, TP, aC_z c5 A (by omega) (fun z => by have := p _ z; unfold zsU jn at this; omega), c6⟩
theorem zPS_of (A : zS m U F h h') (p : ∀ c, U c → zPU2 m c) : zPS m h h' := zS_mn A p fun _ _ => trivial
theorem zPS_tr (A : zPS m h h1) (C : zPS m h1 h2) : zPS m h h2 := zS_tr A C
theorem zsU_P : ∀ c, zsU m c → zPU2 m c := fun c z => by unfold zsU jn at z; unfold zPU2 jn; omega
/-- a scratch frame behind a call's start -/
theorem zI_2 (P : zPS m h h1) (I : zI h1 m b B G tp er) (T : jr_I h1 m 12 0 0 = some x) (A : zS m U F h1 h2) (p : ∀ c, U c → zsU m c) (q : ∀ k, F k → zsF k ∧ k ≠ 0) : zPS m h h2 ∧ zI h2 m b B G tp er ∧ jr_I h2 m 12 0 0 = some x :=
  ⟨zPS_tr P (zPS_of A fun c z => zsU_P c (p c z)), zI_z I A p (fun k z => (q k z).1), (zS_I A fun z => (q 0 z).2 rfl).trans T⟩
theorem f19 : ∀ k, k = 19 → zsF k ∧ k ≠ 0 := fun k z => by unfold zsF; omega
theorem f00 : ∀ k, False → zsF k ∧ k ≠ 0 := fun k z => z.elim
theorem f24 : ∀ k, k = 24 → zsF k ∧ k ≠ 0 := fun k z => by unfold zsF; omega
theorem z_no (x : Int32) (I : zI h m b B G tp er) : jF (jm_D (d + 1) mX13_no [.ref m, .int x] h) (.inl (some (.int 0))) fun h' => zPS m h h' ∧ zI h' m b B G tp er ∧ jr_I h' m 12 0 0 = some x := by
  refine jE_of (fun r => gX13_no) ?_
  obtain ⟨h1, e1, F1, q1⟩ := z_pfI x I.1.1 (show 0 < 31 by omega)
  rw [e1, Option.bind_some]
  exact jF_end ⟨zPS_of F1 (fun c z => z.elim), zI_z I F1 (fun c z => z.elim) (fun k z => Or.inl z), q1⟩
theorem z_isNot (x : Int32) (I : zI h m b B G tp er) : jF (jm_D (d + 1) mX13_isNot [.ref m, .int x] h) (.inl (some (.int 0))) fun h' => zPS m h h' ∧ zI h' m b B G tp er ∧ jr_I h' m 12 0 0 = some x := by
  refine jE_of (fun r => gX13_isNot) ?_
  obtain ⟨h1, e1, F1, q1⟩ := z_pfI x I.1.1 (show 0 < 31 by omega)
  rw [e1, Option.bind_some]
  exact jF_end ⟨zPS_of F1 (fun c z => z.elim), zI_z I F1 (fun c z => z.elim) (fun k z => Or.inl z), q1⟩
theorem z_start (I : zI h m b B G tp er) : ∃ h1, jm_pf h m 12 0 0 (.int 0) = some h1 ∧ zPS m h h1 ∧ zI h1 m b B G tp er ∧ jr_I h1 m 12 0 0 = some 0 := by
  obtain ⟨h1, e1, F1, q1⟩ := z_pfI 0 I.1.1 (show 0 < 31 by omega)
  exact ⟨h1, e1, zPS_of F1 (fun c z => z.elim), zI_z I F1 (fun c z => z.elim) (fun k z => Or.inl z), q1⟩
/-- a place from 0 to below a number -/
theorem z_in (hn : n < 1000000) (i : Int32) : (¬ i < 0 ∧ ¬ Int32.ofNat n - 1 < i) ↔ ∃ p, i = Int32.ofNat p ∧ p < n := by
  have e1 : Int32.ofNat n - 1 = Int32.ofInt ((n : Int) - 1) := by
    rw [Int32.ofInt_sub, jw_in]; rfl
  rw [e1, Int32.lt_iff_toInt_lt, Int32.lt_iff_toInt_lt, jw_z (by omega) (by omega)]
  have z0 : (0 : Int32).toInt = 0 := rfl
  rw [z0]
  have hb := Int32.toInt_lt i
  constructor
  · rintro ⟨c1, c2⟩
    refine ⟨i.toInt.toNat, ?_, by omega⟩
    rw [← Int32.toInt_inj, jw_i (by omega)]
    omega
  · rintro ⟨p, rfl, hp⟩
    rw [jw_i (by omega)]
    omega
theorem aqp_some {pc p : Nat} (hp : p < pc) (hb : pc < 1000) : aqp pc (Int32.ofNat p) = some p := aqp_ok hp hb
theorem aqp_i {pc : Nat} (hb : pc < 1000) (i : Int32) : (∃ p, aqp pc i = some p ∧ i = Int32.ofNat p ∧ p < pc) ∨ (aqp pc i = none ∧ ¬ ∃ p, i = Int32.ofNat p ∧ p < pc) := by
  by_cases c : ∃ p, i = Int32.ofNat p ∧ p < pc
  · obtain ⟨p, rfl, hp⟩ := c
    exact Or.inl ⟨p, aqp_ok hp hb, rfl, hp⟩
  · cases e : aqp pc i with
    | none => exact Or.inr ⟨rfl, c⟩
    | some p => exact absurd ⟨p, aqp_s e hb⟩ c
theorem z_chk (hpc : B.2.1.length ≤ 12) (i : Int32) (I : zI h m b B G tp er) : (∃ p, aqp B.2.1.length i = some p ∧ i = Int32.ofNat p ∧ p < B.2.1.length ∧ jm_D (d + 2) mX13_isPlay [.ref m, .int i] h = some (.inl (some (.int 1)), h)) ∨ (aqp B.2.1.length i = none ∧ jm_D (d + 2) mX13_isPlay [.ref m, .int i] h = some (.inl (some (.int 0)), h)) := by
  have e : jm_D (d + 2) mX13_isPlay [.ref m, .int i] h = some (.inl (some (.int (if ¬ i < 0 ∧ ¬ Int32.ofNat B.2.1.length - 1 < i then 1 else 0))), h) := by
    apply gX13_isPlay
    simp only [I.1.2.1, Option.bind_some, zD_8 I.1.2.2.1, z_isIn, jc_I_eq, if_Y]
  rw [e]
  have hz := z_in (n := B.2.1.length) (by omega) i
  rcases aqp_i (pc := B.2.1.length) (by omega) i with ⟨p, h1, h2, h3⟩ | ⟨h1, h2⟩
  · refine Or.inl ⟨p, h1, h2, h3, ?_⟩
    rw [if_pos (hz.mpr ⟨p, h2, h3⟩)]
  · refine Or.inr ⟨h1, ?_⟩
    rw [if_neg (fun z => h2 (hz.mp z))]
theorem zI_12 (I : zI h m b B G tp er) : B.2.1.length ≤ 12 := (zD_g I.1.2.2.1).2.1
/-- one play is asked for: with numbers, and with what is so or not -/
theorem z_onI (I : zI h m b B G tp er) (hN : aqp B.2.1.length i = none → ∀ h', zPS m h h' → zI h' m b B G tp er → jr_I h' m 12 0 0 = some 1 → Q (.inl (some (.int 0))) h') (hS : ∀ p, aqp B.2.1.length i = some p → i = Int32.ofNat p → p < B.2.1.length → jE (K h) Q) : jE (jm_O h m 13 (jc_I (jm_D (d + 2) mX13_isPlay [.ref m, .int i] h) (fun x5 h3 => (if x5 = 0 then jm_O h3 m 13 (jc_I (jm_D (d + 2) mX13_no [.ref m, .int 1] h3) (fun x9 h7 => some (.inl (some (.int x9)), h7)) jx) else K h3)) jx)) Q := by
  rw [jm_O_eq (zB_ob I.1.1)]
  rcases z_chk (d := d) (zI_12 I) i I with ⟨p, p1, p2, p3, e⟩ | ⟨p1, e⟩
  · rw [e, jc_I_eq, if_neg (by decide)]
    exact hS p p1 p2 p3
  · rw [e, jc_I_eq, if_pos rfl, jm_O_eq (zB_ob I.1.1)]
    refine jE_I (z_no (d := d + 1) 1 I) ?_
    rintro h1 ⟨F1, I1, T1⟩
    exact jE_end (hN p1 h1 F1 I1 T1)
theorem z_onB (I : zI h m b B G tp er) (hN : aqp B.2.1.length i = none → ∀ h', zPS m h h' → zI h' m b B G tp er → jr_I h' m 12 0 0 = some 1 → Q (.inl (some (.int 0))) h') (hS : ∀ p, aqp B.2.1.length i = some p → i = Int32.ofNat p → p < B.2.1.length → jE (K h) Q) : jE (jm_O h m 13 (jc_I (jm_D (d + 2) mX13_isPlay [.ref m, .int i] h) (fun x5 h3 => (if x5 = 0 then jm_O h3 m 13 (jc_I (jm_D (d + 2) mX13_isNot [.ref m, .int 1] h3) (fun x9 h7 => jm_Y .boolean x9 (some (.inl (some (.int x9)), h7))) jx) else K h3)) jx)) Q := by
  rw [jm_O_eq (zB_ob I.1.1)]
  rcases z_chk (d := d) (zI_12 I) i I with ⟨p, p1, p2, p3, e⟩ | ⟨p1, e⟩
  · rw [e, jc_I_eq, if_neg (by decide)]
    exact hS p p1 p2 p3
  · rw [e, jc_I_eq, if_pos rfl, jm_O_eq (zB_ob I.1.1)]
    refine jE_I (z_isNot (d := d + 1) 1 I) ?_
    rintro h1 ⟨F1, I1, T1⟩
    exact jE_end (hN p1 h1 F1 I1 T1)
theorem z_pubI (I : zI h m b B G tp er) (hN : aqp B.2.1.length i = none → ∀ h', zPS m h h' → zI h' m b B G tp er → jr_I h' m 12 0 0 = some 1 → Q (.inl (some (.int 0))) h') (hS : ∀ p h1, aqp B.2.1.length i = some p → i = Int32.ofNat p → p < B.2.1.length → zPS m h h1 → zI h1 m b B G tp er → jr_I h1 m 12 0 0 = some 0 → jE (K h1) Q) : jE ((jm_pf h m 12 0 0 (.int 0)).bind fun h1 => jm_O h1 m 13 (jc_I (jm_D (d + 2) mX13_isPlay [.ref m, .int i] h1) (fun x5 h3 => (if x5 = 0 then jm_O h3 m 13 (jc_I (jm_D (d + 2) mX13_no [.ref m, .int 1] h3) (fun x9 h7 => some (.inl (some (.int x9)), h7)) jx) else K h3)) jx)) Q := by
  obtain ⟨h1, e1, F1, I1, T1⟩ := z_start I
  rw [e1, Option.bind_some]
  exact z_onI I1 (fun p1 h2 F2 I2 T2 => hN p1 h2 (zPS_tr F1 F2) I2 T2) fun p p1 p2 p3 => hS p h1 p1 p2 p3 F1 I1 T1
theorem z_pubB (I : zI h m b B G tp er) (hN : aqp B.2.1.length i = none → ∀ h', zPS m h h' → zI h' m b B G tp er → jr_I h' m 12 0 0 = some 1 → Q (.inl (some (.int 0))) h') (hS : ∀ p h1, aqp B.2.1.length i = some p → i = Int32.ofNat p → p < B.2.1.length → zPS m h h1 → zI h1 m b B G tp er → jr_I h1 m 12 0 0 = some 0 → jE (K h1) Q) : jE ((jm_pf h m 12 0 0 (.int 0)).bind fun h1 => jm_O h1 m 13 (jc_I (jm_D (d + 2) mX13_isPlay [.ref m, .int i] h1) (fun x5 h3 => (if x5 = 0 then jm_O h3 m 13 (jc_I (jm_D (d + 2) mX13_isNot [.ref m, .int 1] h3) (fun x9 h7 => jm_Y .boolean x9 (some (.inl (some (.int x9)), h7))) jx) else K h3)) jx)) Q := by
  obtain ⟨h1, e1, F1, I1, T1⟩ := z_start I
  rw [e1, Option.bind_some]
  exact z_onB I1 (fun p1 h2 F2 I2 T2 => hN p1 h2 (zPS_tr F1 F2) I2 T2) fun p p1 p2 p3 => hS p h1 p1 p2 p3 F1 I1 T1
/-! calls that only look -/
theorem m_ok (x : Int32) (I : zI h m b B G tp er) : jE (jm_D (d + 1) mX13_ok [.ref m, .int x] h) (zO h m b B G tp er (.inl x) 0) := by
  refine jE_of (fun r => gX13_ok) ?_
  obtain ⟨h1, e1, F1, I1, T1⟩ := z_start I
  rw [e1, Option.bind_some]
  exact jE_end ⟨rfl, F1, I1, T1⟩
theorem m_okc {x : Int32} (I : zI h m b B G tp er) : jE (jm_O h m 13 (jc_I (jm_D (d + 1) mX13_ok [.ref m, .int x] h) (fun x5 h3 => some (.inl (some (.int x5)), h3)) jx)) (zO h m b B G tp er (.inl x) 0) := by
  rw [jm_O_eq (zB_ob I.1.1)]
  obtain ⟨v, h1, e, rfl, q⟩ := m_ok (d := d) x I
  rw [e, show zv (.inl x) = x from rfl, jc_I_eq]
  exact jE_end ⟨rfl, q⟩
theorem m_errorAt (I : zI h m b B G tp er) : jE (jm_D (d + 2) mX13_errorAt [.ref m] h) (zO h m b B G tp er (.inl (Int32.ofInt er)) 0) := by
  refine jE_of (fun r => gX13_errorAt) ?_
  simp only [I.2.2.2.1, Option.bind_some]
  exact m_okc (d := d) I
theorem m_tapeBytes (I : zI h m b B G tp er) : jE (jm_D (d + 2) mX13_tapeBytes [.ref m] h) (zO h m b B G tp er (.inl (Int32.ofNat tp.length)) 0) := by
  refine jE_of (fun r => gX13_tapeBytes) ?_
  simp only [I.2.2.1, Option.bind_some]
  exact m_okc (d := d) I
theorem m_actors (I : zI h m b B G tp er) : jE (jm_D (d + 2) mX13_actors [.ref m] h) (zO h m b B G tp er (.inl (Int32.ofNat B.1.length)) 0) := by
  refine jE_of (fun r => gX13_actors) ?_
  simp only [I.1.2.1, zD_6 I.1.2.2.1, Option.bind_some]
  exact m_okc (d := d) I
theorem m_plays (I : zI h m b B G tp er) : jE (jm_D (d + 2) mX13_plays [.ref m] h) (zO h m b B G tp er (.inl (Int32.ofNat B.2.1.length)) 0) := by
  refine jE_of (fun r => gX13_plays) ?_
  simp only [I.1.2.1, zD_8 I.1.2.2.1, Option.bind_some]
  exact m_okc (d := d) I
theorem m_notes (I : zI h m b B G tp er) : jE (jm_D (d + 2) mX13_notes [.ref m] h) (zO h m b B G tp er (.inl (Int32.ofNat B.2.2.2.length)) 0) := by
  refine jE_of (fun r => gX13_notes) ?_
  simp only [I.1.2.1, zD_12 I.1.2.2.1, Option.bind_some]
  exact m_okc (d := d) I
theorem m_evenings (I : zI h m b B G tp er) : jE (jm_D (d + 2) mX13_evenings [.ref m] h) (zO h m b B G tp er (.inl G.2.1) 0) := by
  refine jE_of (fun r => gX13_evenings) ?_
  simp only [I.1.2.2.2.2.1, Option.bind_some]
  exact m_okc (d := d) I
theorem m_carried (I : zI h m b B G tp er) : jE (jm_D (d + 2) mX13_notesCarriedOut [.ref m] h) (zO h m b B G tp er (.inl G.2.2) 0) := by
  refine jE_of (fun r => gX13_notesCarriedOut) ?_
  simp only [I.1.2.2.2.2.2.1, Option.bind_some]
  exact m_okc (d := d) I
theorem m_sizeOf (I : zI h m b B G tp er) : ∀ a : aA, a = (match aqp B.2.1.length i with | none => .inr 2 | some p => .inl (Int32.ofNat (G.1.1 p).length)) → jE (jm_D (d + 3) mX13_sizeOf [.ref m, .int i] h) (zO h m b B G tp er a (zk a)) := by
  rintro a rfl
  refine jE_of (fun r => gX13_sizeOf) ?_
  refine z_pubI (d := d) I (fun e h1 F1 I1 T1 => by rw [e]; exact ⟨rfl, F1, I1, T1⟩) fun p h1 e ei hp F1 I1 T1 => ?_
  rw [e, ei]
  simp only [zB_9 I1.1.1, Option.bind_some, zG_many0 I1.1.2.2.2.1 hp]
  exact jE_end ⟨rfl, F1, I1, T1⟩
theorem m_masksIn (I : zI h m b B G tp er) : ∀ a : aA, a = (match aqp B.2.1.length i with | none => .inr 2 | some p => .inl (Int32.ofNat (ry_cm (G.1.1 p)))) → jE (jm_D (d + 3) mX13_masksIn [.ref m, .int i] h) (zO h m b B G tp er a (zk a)) := by
  rintro a rfl
  refine jE_of (fun r => gX13_masksIn) ?_
  refine z_pubI (d := d) I (fun e h1 F1 I1 T1 => by rw [e]; exact ⟨rfl, F1, I1, T1⟩) fun p h1 e ei hp F1 I1 T1 => ?_
  rw [e, ei]
  simp only [jm_O_eq (zB_ob I1.1.1), z_masks (d := d + 1) (gW_gN (I1.2.1 p hp).2.1) hp I1.1.1 I1.1.2.2.2.1, jc_I_eq]
  exact jE_end ⟨rfl, F1, I1, T1⟩
theorem m_scenesIn (I : zI h m b B G tp er) : ∀ a : aA, a = (match aqp B.2.1.length i with | none => .inr 2 | some p => .inl (Int32.ofNat (ry_cs (G.1.1 p)))) → jE (jm_D (d + 3) mX13_scenesIn [.ref m, .int i] h) (zO h m b B G tp er a (zk a)) := by
  rintro a rfl
  refine jE_of (fun r => gX13_scenesIn) ?_
  refine z_pubI (d := d) I (fun e h1 F1 I1 T1 => by rw [e]; exact ⟨rfl, F1, I1, T1⟩) fun p h1 e ei hp F1 I1 T1 => ?_
  rw [e, ei]
  simp only [jm_O_eq (zB_ob I1.1.1), z_scenes (d := d + 1) (gW_gN (I1.2.1 p hp).2.1) hp I1.1.1 I1.1.2.2.2.1, jc_I_eq]
  exact jE_end ⟨rfl, F1, I1, T1⟩
theorem m_mostMasks (I : zI h m b B G tp er) : ∀ a : aA, a = (match aqp B.2.1.length i with | none => .inr 2 | some p => .inl (Int32.ofNat (ry_mm (G.1.1 p) (G.1.1 p).length))) → jE (jm_D (d + 3) mX13_mostMasksAround [.ref m, .int i] h) (zO h m b B G tp er a (zk a)) := by
  rintro a rfl
  refine jE_of (fun r => gX13_mostMasksAround) ?_
  refine z_pubI (d := d) I (fun e h1 F1 I1 T1 => by rw [e]; exact ⟨rfl, F1, I1, T1⟩) fun p h1 e ei hp F1 I1 T1 => ?_
  rw [e, ei]
  simp only [jm_O_eq (zB_ob I1.1.1)]
  refine jE_I (z_around (d := d) (I1.2.1 p hp) hp I1.1.1 I1.1.2.2.2.1) ?_
  intro h2 F2
  exact jE_end ⟨rfl, zI_2 F1 I1 T1 F2 (fun c z => by unfold zsU jn; omega) f19⟩
theorem m_stepsDone (I : zI h m b B G tp er) : ∀ a : aA, a = (match aqp B.2.1.length i with | none => .inr 2 | some p => .inl (G.1.2 p)) → jE (jm_D (d + 3) mX13_stepsDone [.ref m, .int i] h) (zO h m b B G tp er a (zk a)) := by
  rintro a rfl
  refine jE_of (fun r => gX13_stepsDone) ?_
  refine z_pubI (d := d) I (fun e h1 F1 I1 T1 => by rw [e]; exact ⟨rfl, F1, I1, T1⟩) fun p h1 e ei hp F1 I1 T1 => ?_
  rw [e, ei]
  simp only [zB_10 I1.1.1, Option.bind_some, zG_steps0 I1.1.2.2.2.1 hp]
  exact jE_end ⟨rfl, F1, I1, T1⟩
theorem m_isFinished (I : zI h m b B G tp er) : ∀ a : aA, a = (match aqp B.2.1.length i with | none => .inr 2 | some p => .inl (jp (ry_r (G.1.1 p) = none))) → jE (jm_D (d + 3) mX13_isFinished [.ref m, .int i] h) (zO h m b B G tp er a (zk a)) := by
  rintro a rfl
  refine jE_of (fun r => gX13_isFinished) ?_
  refine z_pubB (d := d) I (fun e h1 F1 I1 T1 => by rw [e]; exact ⟨rfl, F1, I1, T1⟩) fun p h1 e ei hp F1 I1 T1 => ?_
  rw [e, ei]
  simp only [jm_O_eq (zB_ob I1.1.1)]
  refine jE_I (z_finished (d := d) (I1.2.1 p hp) hp I1.1.1 I1.1.2.2.2.1) ?_
  rintro h2 ⟨F2, -⟩
  rw [jp_Y]
  exact jE_end ⟨rfl, zI_2 F1 I1 T1 F2 (fun c z => by unfold zsU jn; omega) f19⟩
theorem m_canStep (I : zI h m b B G tp er) : ∀ a : aA, a = (match aqp B.2.1.length i with | none => .inr 2 | some p => .inl (jp (ry_can (G.1.1 p)))) → jE (jm_D (d + 6) mX13_canStep [.ref m, .int i] h) (zO h m b B G tp er a (zk a)) := by
  rintro a rfl
  refine jE_of (fun r => gX13_canStep) ?_
  refine z_pubB (d := d + 3) I (fun e h1 F1 I1 T1 => by rw [e]; exact ⟨rfl, F1, I1, T1⟩) fun p h1 e ei hp F1 I1 T1 => ?_
  rw [e, ei]
  simp only [jm_O_eq (zB_ob I1.1.1)]
  refine jE_V (z_takeUp (d := d + 4) hp I1.1.1 I1.1.2.2.2.1) ?_
  rintro h2 ⟨F2, K2⟩
  obtain ⟨P2, I2, T2⟩ := zI_2 F1 I1 T1 F2 (fun c z => by unfold zsU jn; omega) f19
  simp only [jm_O_eq (zB_ob K2.1)]
  refine jE_I (z_can (d := d) (I1.2.1 p hp) K2) ?_
  intro h3 F3
  rw [jp_Y]
  exact jE_end ⟨rfl, zI_2 P2 I2 T2 F3 (fun c z => by unfold zsU jn; omega) f00⟩
theorem m_textLength (I : zI h m b B G tp er) : ∀ a : aA, a = (match aqp B.2.1.length i with | none => .inr 2 | some p => .inl (Int32.ofNat (txs (G.1.1 p) (G.1.1 p).length))) → jE (jm_D (d + 3) mX13_textLength [.ref m, .int i] h) (zO h m b B G tp er a (zk a)) := by
  rintro a rfl
  refine jE_of (fun r => gX13_textLength) ?_
  refine z_pubI (d := d) I (fun e h1 F1 I1 T1 => by rw [e]; exact ⟨rfl, F1, I1, T1⟩) fun p h1 e ei hp F1 I1 T1 => ?_
  rw [e, ei]
  simp only [jm_O_eq (zB_ob I1.1.1), z_textOf (d := d) (I1.2.1 p hp).2.1 hp I1.1.1 I1.1.2.2.2.1, jc_I_eq]
  exact jE_end ⟨rfl, F1, I1, T1⟩
theorem m_isSame (I : zI h m b B G tp er) : ∀ a : aA, a = (match aqp B.2.1.length i, aqp B.2.1.length j with | some p, some q => .inl (jp (ry_like (G.1.1 p) (G.1.1 q))) | _, _ => .inr 2) → jE (jm_D (d + 5) mX13_isSame [.ref m, .int i, .int j] h) (zO h m b B G tp er a (zk a)) := by
  rintro a rfl
  refine jE_of (fun r => gX13_isSame) ?_
  refine z_pubB (d := d + 2) I (fun e h1 F1 I1 T1 => by rw [e]; exact ⟨rfl, F1, I1, T1⟩) fun p h1 e ei hp F1 I1 T1 => ?_
  refine z_onB (d := d + 2) I1 (fun e2 h2 F2 I2 T2 => by rw [e, e2]; exact ⟨rfl, zPS_tr F1 F2, I2, T2⟩) fun q e2 ei2 hq => ?_
  rw [e, e2, ei, ei2]
  simp only [jm_O_eq (zB_ob I1.1.1)]
  refine jE_I (z_same (d := d) (I1.2.1 p hp) (I1.2.1 q hq) hp hq I1.1.1 I1.1.2.2.2.1) ?_
  intro h2 F2
  rw [jp_Y]
  exact jE_end ⟨rfl, zI_2 F1 I1 T1 F2 (fun c z => by unfold zsU jn; omega) f19⟩
theorem z_asTold (hp : p < B.2.1.length) (E : zE h m b B S ev dn) (hS : gS B S) : jF (jm_D (d + 4) mX13_asTold [.ref m, .int (Int32.ofNat p)] h) (.inl (some (.int (jp (ry_like (S.1 p) (B.2.2.1 p)))))) fun h' => zS m (fun c => c = m + 27 ∨ c = m + 29) (fun k => k = 19) h h' := by
  have hT := (zD_g E.2.2.1).2.2.2.2.2.1 p hp
  have hb7 := E.2.2.2.2.2.2
  refine jE_of (fun r => gX13_asTold) ?_
  simp only [jm_O_eq (zB_ob E.1)]
  refine jE_V (z_takeUp (d := d + 2) hp E.1 E.2.2.2.1) ?_
  rintro h1 ⟨F1, K1⟩
  have E1 := zE_z E F1 (fun c z => by unfold zsU jn; omega) (fun k z => by unfold zsF; omega)
  simp only [jm_O_eq (zB_ob K1.1)]
  refine jE_I (z_aside (d := d + 2) K1) ?_
  rintro h2 ⟨F2, K2, V2⟩
  have E2 := zE_z E1 F2 (fun c z => by unfold zsU jn; omega) (fun k z => z.elim)
  simp only [jm_O_eq (zB_ob K2.1)]
  refine jE_V (z_told (d := d + 2) hp E2.1 E2.2.1 hb7 E2.2.2.1) ?_
  rintro h3 ⟨F3, K3⟩
  have V3 := vR_z V2 F3 (by omega) (by omega)
  simp only [jm_O_eq (zB_ob K3.1), z_alike (d := d) hT (hS p hp) K3 V3, jc_I_eq, jp_Y]
  rw [jp_cg (show ry_like (B.2.2.1 p) (S.1 p) ↔ ry_like (S.1 p) (B.2.2.1 p) from ⟨ry_like_sy, ry_like_sy⟩)]
  exact jF_end (zS_2 F1 (zS_2 F2 F3 (W := fun c => c = m + 27 ∨ c = m + 29) (K := fun k => k = 19) (fun c z => Or.inr z) (fun c z => Or.inl z) (fun k z => z.elim) (fun k z => z)) (fun c z => Or.inl z) (fun c z => z) (fun k z => z) (fun k z => z))
theorem m_isAsTold (I : zI h m b B G tp er) : ∀ a : aA, a = (match aqp B.2.1.length i with | none => .inr 2 | some p => .inl (jp (ry_like (G.1.1 p) (B.2.2.1 p)))) → jE (jm_D (d + 5) mX13_isAsTold [.ref m, .int i] h) (zO h m b B G tp er a (zk a)) := by
  rintro a rfl
  refine jE_of (fun r => gX13_isAsTold) ?_
  refine z_pubB (d := d + 2) I (fun e h1 F1 I1 T1 => by rw [e]; exact ⟨rfl, F1, I1, T1⟩) fun p h1 e ei hp F1 I1 T1 => ?_
  rw [e, ei]
  simp only [jm_O_eq (zB_ob I1.1.1)]
  refine jE_I (z_asTold (d := d) hp I1.1 I1.2.1) ?_
  intro h2 F2
  rw [jp_Y]
  exact jE_end ⟨rfl, zI_2 F1 I1 T1 F2 (fun c z => by unfold zsU jn; omega) f19⟩
end ZI
