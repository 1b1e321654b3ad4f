/-! ===== LEVEL 3: the reference, further calls ===== -/
section ZI
variable {h h' h1 h2 : jm_H} {d m a b n t k p q pc : Nat} {U V W F : Nat → Prop} {l u : List Int} {S S' : aS} {B : aB} {G : aG} {tp : List Nat} {er : Int} {sc : Nat × (Nat → Int32)} {ev dn x y i j : Int32} {st : List Int32} {K : jm_H → Option jm_R} {Q : (Option Value ⊕ Nat) → jm_H → Prop}
theorem z_inA {n : Nat} (hn : n < 1000) (i : Int32) : (∃ p, aqp n i = some p ∧ i = Int32.ofNat p ∧ p < n ∧ (¬ i < 0 ∧ ¬ Int32.ofNat n - 1 < i)) ∨ (aqp n i = none ∧ ¬ (¬ i < 0 ∧ ¬ Int32.ofNat n - 1 < i)) := by
  have hz := z_in (n := n) (by omega) i
  rcases aqp_i (pc := n) (by omega) i with ⟨p, h1, h2, h3⟩ | ⟨h1, h2⟩
  · exact Or.inl ⟨p, h1, h2, h3, hz.mpr ⟨p, h2, h3⟩⟩
  · exact Or.inr ⟨h1, fun z => h2 (hz.mp z)⟩
theorem m_standsIn (I : zI h m b B G tp er) : ∀ a : aA, a = (match aqp B.2.1.length i, aqp B.1.length j with | some p, some q => .inl (Int32.ofNat (zst (G.1.1 p) (B.1.getD q 0 : Nat) (G.1.1 p).length)) | _, _ => .inr 2) → jE (jm_D (d + 4) mX13_standsIn [.ref m, .int i, .int j] h) (zO h m b B G tp er a (zk a)) := by
  rintro a rfl
  refine jE_of (fun r => gX13_standsIn) ?_
  refine z_pubI (d := d + 1) I (fun e h1 F1 I1 T1 => by rw [e]; exact ⟨rfl, F1, I1, T1⟩) fun p h1 e ei hp F1 I1 T1 => ?_
  rw [e, ei]
  have g := zD_g I1.1.2.2.1
  have g8 := g.1
  obtain ⟨AN, a1, a2⟩ := I1.1.2.2.1.2.1
  simp only [I1.1.2.1, zD_6 I1.1.2.2.1, Option.bind_some, z_isIn, jc_I_eq]
  rcases z_inA (n := B.1.length) (by omega) j with ⟨q, q1, q2, q3, q4⟩ | ⟨q1, q4⟩
  · rw [q1, if_pos q4, if_neg (by decide), q2]
    have ha : B.1.getD q 0 < q10 := by
      have := (g.2.2.2.1 (B.1.getD q 0) (by
        rw [List.getD_eq_getElem?_getD, List.getElem?_eq_getElem q3]
        exact List.getElem_mem q3)).1.1
      have e : q10 = 4808584372417849 := by decide
      omega
    simp only [I1.1.2.1, zD_R I1.1.2.2.1 (k := 7) (x := b + 7) (fun _ => rfl), Option.bind_some, lC_at a1 (show q < 8 by omega) (by omega), a2 q q3, jm_O_eq (zB_ob I1.1.1), ← ln_N]
    refine jE_I (z_stands (d := d) (x := ((B.1.getD q 0 : Nat) : Int)) (by rw [Int.natAbs_natCast]; exact ha) (I1.2.1 p hp) hp I1.1.1 I1.1.2.2.2.1) ?_
    intro h2 F2
    exact jE_end ⟨rfl, zI_2 F1 I1 T1 F2 (fun c z => by unfold zsU jn; omega) f19⟩
  · rw [q1, if_neg q4, if_pos rfl]
    simp only [jm_O_eq (zB_ob I1.1.1)]
    refine jE_I (z_no (d := d + 2) 1 I1) ?_
    rintro h2 ⟨F2, I2, T2⟩
    exact jE_end ⟨rfl, zPS_tr F1 F2, I2, T2⟩
theorem m_letterAt (hK : kO h sc) (I : zI h m b B G tp er) : ∀ a : aA, a = (match aqp B.2.1.length i with | none => .inr 2 | some p => (match aqp (txs (G.1.1 p) (G.1.1 p).length) j with | none => .inr 2 | some k => .inl (Int32.ofNat ((tx (G.1.1 p) (G.1.1 p).length).1.getD k 0)))) → jE (jm_D (d + 7) mX13_letterAt [.ref m, .int i, .int j] h) (zO h m b B G tp er a (zk a)) := by
  rintro a rfl
  have hm := I.1.1.1
  refine jE_of (fun r => gX13_letterAt) ?_
  refine z_pubI (d := d + 4) I (fun e h1 F1 I1 T1 => by rw [e]; exact ⟨rfl, F1, I1, T1⟩) fun p h1 e ei hp F1 I1 T1 => ?_
  rw [e, ei]
  have hR := I1.2.1 p hp
  have ht := tx_all hR.1
  have ht2 := txs_le hR.2.1 (G.1.1 p).length
  have hl := hR.2.2
  have K1 := kO_tr hK (zS_jS F1) fun c z => by unfold zPU2 jn at z; omega
  simp only [jm_O_eq (zB_ob I1.1.1)]
  refine jE_V (z_takeUp (d := d + 5) hp I1.1.1 I1.1.2.2.2.1) ?_
  rintro h2 ⟨F2, K2⟩
  obtain ⟨P2, I2, T2⟩ := zI_2 F1 I1 T1 F2 (fun c z => by unfold zsU jn; omega) f19
  have K2' := kO_tr K1 (zS_jS F2) fun c z => by omega
  simp only [jm_O_eq (zB_ob K2.1)]
  refine jE_V (z_part (d := d) hR K2' K2) ?_
  rintro h3 ⟨F3, X3, -⟩
  obtain ⟨P3, I3, T3⟩ := zI_2 P2 I2 T2 F3 (fun c z => by unfold zXA jn at z; unfold zsU jn; omega) f24
  obtain ⟨x1, LT, x2, x3⟩ := X3
  rw [ht] at x1 x3
  simp only [x1, Option.bind_some, z_isIn, jc_I_eq]
  have hz := z_in (n := txs (G.1.1 p) (G.1.1 p).length) (by omega) j
  by_cases c : ∃ q, j = Int32.ofNat q ∧ q < txs (G.1.1 p) (G.1.1 p).length
  · rw [if_pos (hz.mpr c), if_neg (by decide)]
    obtain ⟨q, rfl, hq⟩ := c
    have eq : aqp (txs (G.1.1 p) (G.1.1 p).length) (Int32.ofNat q) = some q := by
      unfold aqp
      rw [jw_i (by omega), if_pos ⟨by omega, by omega⟩]
      rfl
    rw [eq]
    simp only [zB_23 I3.1.1, Option.bind_some, aC_at x2 (show q < 4000 by omega) (by omega), x3 q hq]
    exact jE_end ⟨rfl, P3, I3, T3⟩
  · rw [if_neg (fun z => c (hz.mp z)), if_pos rfl]
    have eq : aqp (txs (G.1.1 p) (G.1.1 p).length) j = none := by
      unfold aqp
      rw [if_neg (fun z => c ⟨j.toInt.toNat, by rw [← Int32.toInt_inj, jw_i (by omega)]; omega, by omega⟩)]
    rw [eq]
    simp only [jm_O_eq (zB_ob I3.1.1)]
    refine jE_I (z_no (d := d + 5) 1 I3) ?_
    rintro h4 ⟨F4, I4, T4⟩
    exact jE_end ⟨rfl, zPS_tr P3 F4, I4, T4⟩
theorem m_nextSceneAt (hK : kO h sc) (I : zI h m b B G tp er) : ∀ a : aA, a = (match aqp B.2.1.length i with | none => .inr 2 | some p => (match ry_r (G.1.1 p) with | none => .inr 0 | some k => .inl (Int32.ofNat (tx (G.1.1 p) k).1.length))) → jE (jm_D (d + 7) mX13_nextSceneAt [.ref m, .int i] h) (zO h m b B G tp er a (zk a)) := by
  rintro a rfl
  have hm := I.1.1.1
  refine jE_of (fun r => gX13_nextSceneAt) ?_
  refine z_pubI (d := d + 4) I (fun e h1 F1 I1 T1 => by rw [e]; exact ⟨rfl, F1, I1, T1⟩) fun p h1 e ei hp F1 I1 T1 => ?_
  rw [e, ei]
  have hR := I1.2.1 p hp
  have K1 := kO_tr hK (zS_jS F1) fun c z => by unfold zPU2 jn at z; omega
  simp only [jm_O_eq (zB_ob I1.1.1)]
  refine jE_V (z_takeUp (d := d + 5) hp I1.1.1 I1.1.2.2.2.1) ?_
  rintro h2 ⟨F2, K2⟩
  obtain ⟨P2, I2, T2⟩ := zI_2 F1 I1 T1 F2 (fun c z => by unfold zsU jn; omega) f19
  have K2' := kO_tr K1 (zS_jS F2) fun c z => by omega
  simp only [jm_O_eq (zB_ob K2.1), z_next (d := d + 5) K2 hR.1 (gW_gN hR.2.1), jc_I_eq]
  cases q : ry_r (G.1.1 p) with
  | none =>
    rw [if_pos (show zN none = -1 from rfl)]
    refine jE_I (z_no (d := d + 5) 2 I2) ?_
    rintro h4 ⟨F4, I4, T4⟩
    exact jE_end ⟨rfl, zPS_tr P2 F4, I4, T4⟩
  | some k =>
    have hk := ry_r_b hR.2.2 q
    have hk2 := (ry_r_at q).2.2
    have hl := hR.2.2
    rw [if_neg (fun z => by have := (zN_m1 (o := some k) (fun k' e => by cases e; exact hk)).mp z; cases this)]
    refine jE_V (z_part (d := d) hR K2' K2) ?_
    rintro h3 ⟨F3, X3, BG, g1, g2⟩
    obtain ⟨P3, I3, T3⟩ := zI_2 P2 I2 T2 F3 (fun c z => by unfold zXA jn at z; unfold zsU jn; omega) f24
    simp only [zB_25 I3.1.1, zN_s, Option.bind_some, aC_at g1 (show k < 301 by omega) (by omega), g2 k (by omega)]
    exact jE_end ⟨rfl, P3, I3, T3⟩
theorem ry_can_iff {k : Nat} (q : ry_r l = some k) : ry_can l ↔ ry_sz l k ≤ 150 := ⟨fun z => by obtain ⟨k', z1, z2⟩ := z; rw [q] at z1; cases z1; exact z2, fun z => ⟨k, q, z⟩⟩
theorem ry_can_none (q : ry_r l = none) : ¬ ry_can l := fun z => by obtain ⟨k', z1, z2⟩ := z; rw [q] at z1; cases z1
theorem zU_s : ∀ c, zU m c → zsU m c := fun c z => by unfold zU at z; unfold zsU jn; omega
theorem m_renamedByStep (I : zI h m b B G tp er) : ∀ a : aA, a = (match aqp B.2.1.length i with | none => .inr 2 | some p => (match ry_r (G.1.1 p) with | none => .inr 0 | some k => if ry_sz (G.1.1 p) k ≤ 150 then .inl (Int32.ofNat (ry_sc (G.1.1 p) k)) else .inr 0)) → jE (jm_D (d + 7) mX13_renamedByStep [.ref m, .int i] h) (zO h m b B G tp er a (zk a)) := by
  rintro a rfl
  refine jE_of (fun r => gX13_renamedByStep) ?_
  refine z_pubI (d := d + 4) I (fun e h1 F1 I1 T1 => by rw [e]; exact ⟨rfl, F1, I1, T1⟩) fun p h1 e ei hp F1 I1 T1 => ?_
  rw [e, ei]
  have hR := I1.2.1 p hp
  simp only [jm_O_eq (zB_ob I1.1.1)]
  refine jE_V (z_takeUp (d := d + 5) hp I1.1.1 I1.1.2.2.2.1) ?_
  rintro h2 ⟨F2, K2⟩
  obtain ⟨P2, I2, T2⟩ := zI_2 F1 I1 T1 F2 (fun c z => by unfold zsU jn; omega) f19
  simp only [jm_O_eq (zB_ob K2.1)]
  refine jE_I (z_can (d := d + 1) hR K2) ?_
  intro h3 F3
  have K3 := zK_0 K2 F3 (by omega)
  obtain ⟨P3, I3, T3⟩ := zI_2 P2 I2 T2 F3 (fun c z => by unfold zsU jn; omega) f00
  have no : jE (jc_I (jm_D (d + 6) mX13_no [.ref m, .int 2] h3) (fun x15 h13 => some (.inl (some (.int x15)), h13)) jx) (zO h m b B G tp er (.inr 0) 2) := by
    refine jE_I (z_no (d := d + 5) 2 I3) ?_
    rintro h4 ⟨F4, I4, T4⟩
    exact jE_end ⟨rfl, zPS_tr P3 F4, I4, T4⟩
  cases q : ry_r (G.1.1 p) with
  | none =>
    rw [jp_F (ry_can_none q), if_pos rfl]
    simp only [jm_O_eq (zB_ob K3.1)]
    exact no
  | some k =>
    by_cases c : ry_sz (G.1.1 p) k ≤ 150
    · rw [jp_T ((ry_can_iff q).mpr c), if_neg (by decide)]
      simp only [jm_O_eq (zB_ob K3.1), if_pos c]
      refine jE_I (z_take (d := d) hR q c K3) ?_
      rintro h4 ⟨F4, -⟩
      exact jE_end ⟨rfl, zI_2 P3 I3 T3 F4 zU_s f19⟩
    · rw [jp_F (fun z => c ((ry_can_iff q).mp z)), if_pos rfl]
      simp only [jm_O_eq (zB_ob K3.1), if_neg c]
      exact no
theorem m_stepsToFinish (I : zI h m b B G tp er) : ∀ a : aA, a = (match aqp B.2.1.length i with | none => .inr 2 | some p => if ry_uf 40 (G.1.1 p) < 0 then .inr 0 else .inl (Int32.ofInt (ry_uf 40 (G.1.1 p)))) → jE (jm_D (d + 9) mX13_stepsToFinish [.ref m, .int i] h) (zO h m b B G tp er a (zk a)) := by
  rintro a rfl
  refine jE_of (fun r => gX13_stepsToFinish) ?_
  refine z_pubI (d := d + 6) I (fun e h1 F1 I1 T1 => by rw [e]; exact ⟨rfl, F1, I1, T1⟩) fun p h1 e ei hp F1 I1 T1 => ?_
  rw [e, ei]
  have hR := I1.2.1 p hp
  have hb := ry_uf_b 40 (G.1.1 p)
  simp only [jm_O_eq (zB_ob I1.1.1)]
  refine jE_V (z_takeUp (d := d + 7) hp I1.1.1 I1.1.2.2.2.1) ?_
  rintro h2 ⟨F2, K2⟩
  obtain ⟨P2, I2, T2⟩ := zI_2 F1 I1 T1 F2 (fun c z => by unfold zsU jn; omega) f19
  simp only [jm_O_eq (zB_ob K2.1)]
  refine jE_I (z_left (d := d) hR K2) ?_
  rintro h3 ⟨F3, l3, K3⟩
  obtain ⟨P3, I3, T3⟩ := zI_2 P2 I2 T2 F3 zU_s f19
  have en : Int32.ofInt (ry_uf 40 (G.1.1 p)) = -1 ↔ ry_uf 40 (G.1.1 p) < 0 := by
    rw [← Int32.toInt_inj, jw_z (by omega) (by omega), show (-1 : Int32).toInt = -1 from rfl]
    omega
  by_cases c : ry_uf 40 (G.1.1 p) < 0
  · rw [if_pos (en.mpr c)]
    simp only [jm_O_eq (zB_ob K3.1), if_pos c]
    refine jE_I (z_no (d := d + 7) 2 I3) ?_
    rintro h4 ⟨F4, I4, T4⟩
    exact jE_end ⟨rfl, zPS_tr P3 F4, I4, T4⟩
  · rw [if_neg (fun z => c (en.mp z))]
    simp only [if_neg c]
    exact jE_end ⟨rfl, P3, I3, T3⟩
theorem m_sizeAfterSteps (I : zI h m b B G tp er) : ∀ a : aA, a = (match aqp B.2.1.length i with | none => .inr 2 | some p => (match aqp 41 j with | none => .inr 1 | some n => .inl (Int32.ofNat (ry_go n (G.1.1 p)).length))) → jE (jm_D (d + 8) mX13_sizeAfterSteps [.ref m, .int i, .int j] h) (zO h m b B G tp er a (zk a)) := by
  rintro a rfl
  refine jE_of (fun r => gX13_sizeAfterSteps) ?_
  refine z_pubI (d := d + 5) I (fun e h1 F1 I1 T1 => by rw [e]; exact ⟨rfl, F1, I1, T1⟩) fun p h1 e ei hp F1 I1 T1 => ?_
  rw [e, ei]
  have hR := I1.2.1 p hp
  have hj := z_inA (n := 41) (by omega) j
  rw [show Int32.ofNat 41 - 1 = 40 from rfl] at hj
  simp only [z_isIn, jc_I_eq]
  rcases hj with ⟨q, q1, q2, q3, q4⟩ | ⟨q1, q4⟩
  · rw [q1, if_pos q4, if_neg (by decide), q2]
    simp only [jm_O_eq (zB_ob I1.1.1)]
    refine jE_V (z_takeUp (d := d + 6) hp I1.1.1 I1.1.2.2.2.1) ?_
    rintro h2 ⟨F2, K2⟩
    obtain ⟨P2, I2, T2⟩ := zI_2 F1 I1 T1 F2 (fun c z => by unfold zsU jn; omega) f19
    simp only [jm_O_eq (zB_ob K2.1)]
    refine jE_I (z_on (d := d) (n := q) (by omega) hR K2) ?_
    rintro h3 ⟨F3, K3⟩
    simp only [K3.2.1, Option.bind_some]
    exact jE_end ⟨rfl, zI_2 P2 I2 T2 F3 zU_s f19⟩
  · rw [q1, if_neg q4, if_pos rfl]
    simp only [jm_O_eq (zB_ob I1.1.1)]
    refine jE_I (z_no (d := d + 6) 2 I1) ?_
    rintro h2 ⟨F2, I2, T2⟩
    exact jE_end ⟨rfl, zPS_tr F1 F2, I2, T2⟩
theorem m_endSame (I : zI h m b B G tp er) : ∀ a : aA, a = (match aqp B.2.1.length i, aqp B.2.1.length j with | some p, some q => .inl (jp (ry_like (ry_go 40 (G.1.1 p)) (ry_go 40 (G.1.1 q)))) | _, _ => .inr 2) → jE (jm_D (d + 9) mX13_endSame [.ref m, .int i, .int j] h) (zO h m b B G tp er a (zk a)) := by
  rintro a rfl
  refine jE_of (fun r => gX13_endSame) ?_
  refine z_pubB (d := d + 6) I (fun e h1 F1 I1 T1 => by rw [e]; exact ⟨rfl, F1, I1, T1⟩) fun p h1 e ei hp F1 I1 T1 => ?_
  refine z_onB (d := d + 6) I1 (fun e2 h2 F2 I2 T2 => by rw [e, e2]; exact ⟨rfl, zPS_tr F1 F2, I2, T2⟩) fun q e2 ei2 hq => ?_
  rw [e, e2, ei, ei2]
  have hR := I1.2.1 p hp
  have hR2 := I1.2.1 q hq
  simp only [jm_O_eq (zB_ob I1.1.1)]
  have key : jF (jm_D (d + 8) mX13_endsSame [.ref m, .int (Int32.ofNat p), .int (Int32.ofNat q)] h1) (.inl (some (.int (jp (ry_like (ry_go 40 (G.1.1 p)) (ry_go 40 (G.1.1 q))))))) fun h' => zPS m h h' ∧ zI h' m b B G tp er ∧ jr_I h' m 12 0 0 = some 0 := by
    refine jE_of (fun r => gX13_endsSame) ?_
    simp only [jm_O_eq (zB_ob I1.1.1)]
    refine jE_V (z_takeUp (d := d + 6) hp I1.1.1 I1.1.2.2.2.1) ?_
    rintro h2 ⟨F2, K2⟩
    obtain ⟨P2, I2, T2⟩ := zI_2 F1 I1 T1 F2 (fun c z => by unfold zsU jn; omega) f19
    simp only [jm_O_eq (zB_ob K2.1)]
    refine jE_I (z_on (d := d) (n := 40) (by omega) hR K2) ?_
    rintro h3 ⟨F3, K3⟩
    obtain ⟨P3, I3, T3⟩ := zI_2 P2 I2 T2 F3 zU_s f19
    simp only [jm_O_eq (zB_ob K3.1)]
    refine jE_I (z_aside (d := d + 6) K3) ?_
    rintro h4 ⟨F4, K4, V4⟩
    obtain ⟨P4, I4, T4⟩ := zI_2 P3 I3 T3 F4 (fun c z => by unfold zsU jn; omega) f00
    simp only [jm_O_eq (zB_ob K4.1)]
    refine jE_V (z_takeUp (d := d + 6) hq I4.1.1 I4.1.2.2.2.1) ?_
    rintro h5 ⟨F5, K5⟩
    obtain ⟨P5, I5, T5⟩ := zI_2 P4 I4 T4 F5 (fun c z => by unfold zsU jn; omega) f19
    simp only [jm_O_eq (zB_ob K5.1)]
    refine jE_I (z_on (d := d) (n := 40) (by omega) hR2 K5) ?_
    rintro h6 ⟨F6, K6⟩
    obtain ⟨P6, I6, T6⟩ := zI_2 P5 I5 T5 F6 zU_s f19
    have V6 := vR_z (vR_z V4 F5 (by omega) (by omega)) F6 (by omega) (by unfold zU; omega)
    simp only [jm_O_eq (zB_ob K6.1), z_alike (d := d + 4) (gR_go 40 hR2) (gR_go 40 hR) K6 V6, jc_I_eq, jp_Y]
    rw [jp_cg (show ry_like (ry_go 40 (G.1.1 q)) (ry_go 40 (G.1.1 p)) ↔ ry_like (ry_go 40 (G.1.1 p)) (ry_go 40 (G.1.1 q)) from ⟨ry_like_sy, ry_like_sy⟩)]
    exact jF_end ⟨P6, I6, T6⟩
  refine jE_I key ?_
  rintro h2 ⟨P2, I2, T2⟩
  rw [jp_Y]
  exact jE_end ⟨rfl, P2, I2, T2⟩
/-! by hand -/
theorem zI_S (I : zI h m b B G tp er) (A : zS m U F h h') (p : ∀ c, U c → jn (m + 21) 14 c) (q : ∀ k, F k → zsF k) (g : zG h' (m + 21) B.2.1.length S') (gs : gS B S') : zI h' m b B (S', G.2) tp er := by
  obtain ⟨E, c1, c2, c3, c4, TP, c5, c6⟩ := I
  have q2 : ¬ F 2 := fun z => by have := q 2 z; unfold zsF at this; omega
  have q3 : ¬ F 3 := fun z => by have := q 3 z; unfold zsF at this; omega
  exact ⟨zE_S E A p q g, gs, (zS_I A q2).trans c2, (zS_I A q3).trans c3, c4, TP, aC_z c5 A (by omega) (fun z => by have := p _ z; unfold jn at this; omega), c6⟩
theorem jnP : ∀ c, jn (m + 21) 14 c → zPU2 m c := fun c z => Or.inr z
/-- other rows behind a call's start -/
theorem zI_3 (P : zPS m h h1) (I : zI h1 m b B G tp er) (T : jr_I h1 m 12 0 0 = some x) (A : zS m U F h1 h2) (p : ∀ c, U c → jn (m + 21) 14 c) (q : ∀ k, F k → zsF k ∧ k ≠ 0) (g : zG h2 (m + 21) B.2.1.length S') (gs : gS B S') : zPS m h h2 ∧ zI h2 m b B (S', G.2) tp er ∧ jr_I h2 m 12 0 0 = some x :=
  ⟨zPS_tr P (zPS_of A fun c z => jnP c (p c z)), zI_S I A p (fun k z => (q k z).1) g gs, (zS_I A fun z => (q 0 z).2 rfl).trans T⟩
theorem gS_up' {S : aS} {T : Nat → Int32} (hS : gS B S) (hl : gR l) : gS B (aup S.1 p l, T) := gS_up (R := S.1) (T := S.2) hS hl
theorem m_doStep (I : zI h m b B G tp er) : ∀ (a : aA) (S' : aS), (a, S') = (match aqp B.2.1.length i with | none => (.inr 2, G.1) | some p => (match ry_r (G.1.1 p) with | none => (.inr 0, G.1) | some k => if ry_sz (G.1.1 p) k ≤ 150 then (.inl (Int32.ofNat (ry_st (G.1.1 p) k).length), (aco B (4, p, 0, none) G.1).2) else (.inr 0, G.1))) → jE (jm_D (d + 8) mX13_doStep [.ref m, .int i] h) (zO h m b B (S', G.2) tp er a (zk a)) := by
  rintro a S' ha
  refine jE_of (fun r => gX13_doStep) ?_
  refine z_pubI (d := d + 5) I (fun e h1 F1 I1 T1 => by rw [e] at ha; cases ha; exact ⟨rfl, F1, I1, T1⟩) fun p h1 e ei hp F1 I1 T1 => ?_
  rw [e] at ha
  simp only [] at ha
  rw [ei]
  have hR := I1.2.1 p hp
  simp only [jm_O_eq (zB_ob I1.1.1)]
  refine jE_V (z_takeUp (d := d + 6) hp I1.1.1 I1.1.2.2.2.1) ?_
  rintro h2 ⟨F2, K2⟩
  obtain ⟨P2, I2, T2⟩ := zI_2 F1 I1 T1 F2 (fun c z => by unfold zsU jn; omega) f19
  simp only [jm_O_eq (zB_ob K2.1)]
  refine jE_I (z_can (d := d + 2) hR K2) ?_
  intro h3 F3
  have K3 := zK_0 K2 F3 (by omega)
  obtain ⟨P3, I3, T3⟩ := zI_2 P2 I2 T2 F3 (fun c z => by unfold zsU jn; omega) f00
  have no : jE (jc_I (jm_D (d + 7) mX13_no [.ref m, .int 2] h3) (fun x15 h13 => some (.inl (some (.int x15)), h13)) jx) (zO h m b B (G.1, G.2) tp er (.inr 0) 2) := by
    refine jE_I (z_no (d := d + 6) 2 I3) ?_
    rintro h4 ⟨F4, I4, T4⟩
    exact jE_end ⟨rfl, zPS_tr P3 F4, I4, T4⟩
  cases q : ry_r (G.1.1 p) with
  | none =>
    rw [q] at ha
    cases ha
    rw [jp_F (ry_can_none q), if_pos rfl]
    simp only [jm_O_eq (zB_ob K3.1)]
    exact no
  | some k =>
    rw [q] at ha
    simp only [] at ha
    by_cases c : ry_sz (G.1.1 p) k ≤ 150
    · rw [if_pos c] at ha
      have ea : (aco B (4, p, 0, none) G.1).2 = (aup G.1.1 p (ry_st (G.1.1 p) k), aup G.1.2 p (G.1.2 p + 1)) := by
        show (match ry_r (G.1.1 p) with
          | none => (false, G.1)
          | some k => if ry_sz (G.1.1 p) k ≤ 150 then (!decide (ry_st (G.1.1 p) k = G.1.1 p), aup G.1.1 p (ry_st (G.1.1 p) k), aup G.1.2 p (G.1.2 p + 1)) else (false, G.1)).2 = _
        rw [q]
        simp only [if_pos c]
      rw [ea] at ha
      cases ha
      rw [jp_T ((ry_can_iff q).mpr c), if_neg (by decide)]
      have hR2 := gR_st hR q c
      simp only [jm_O_eq (zB_ob K3.1)]
      refine jE_V (z_stepWork (d := d) hp hR q c K3 I3.1.2.2.2.1) ?_
      rintro h4 ⟨F4, K4, G4⟩
      obtain ⟨P4, I4, T4⟩ := zI_3 (S' := (G.1.1, aup G.1.2 p (G.1.2 p + 1))) P3 I3 T3 F4 (fun c z => by unfold zU at z; unfold jn; omega) f19 G4 I3.2.1
      simp only [jm_O_eq (zB_ob K4.1)]
      refine jE_V (zG_put (d := d + 6) hp hR2.2.2 K4.1 K4 I4.1.2.2.2.1) ?_
      rintro h5 ⟨F5, K5, G5⟩
      obtain ⟨P5, I5, T5⟩ := zI_3 (S' := (aup G.1.1 p (ry_st (G.1.1 p) k), aup G.1.2 p (G.1.2 p + 1))) P4 I4 T4 F5 (fun c z => by unfold jn at *; omega) f00 G5 (gS_up' I3.2.1 hR2)
      simp only [K5.2.1, Option.bind_some]
      exact jE_end ⟨rfl, P5, I5, T5⟩
    · rw [if_neg c] at ha
      cases ha
      rw [jp_F (fun z => c ((ry_can_iff q).mp z)), if_pos rfl]
      simp only [jm_O_eq (zB_ob K3.1)]
      exact no
theorem m_give (I : zI h m b B G tp er) : ∀ (a : aA) (S' : aS), (a, S') = (match aqp B.2.1.length i, aqp B.2.1.length j with | some p, some q => if 1 + (G.1.1 q).length + (G.1.1 p).length ≤ 150 then (.inl (Int32.ofNat (1 + (G.1.1 q).length + (G.1.1 p).length)), (aco B (5, q, p, none) G.1).2) else (.inr 0, G.1) | _, _ => (.inr 2, G.1)) → jE (jm_D (d + 3) mX13_give [.ref m, .int i, .int j] h) (zO h m b B (S', G.2) tp er a (zk a)) := by
  rintro a S' ha
  refine jE_of (fun r => gX13_give) ?_
  refine z_pubI (d := d) I (fun e h1 F1 I1 T1 => by rw [e] at ha; cases ha; exact ⟨rfl, F1, I1, T1⟩) fun p h1 e ei hp F1 I1 T1 => ?_
  refine z_onI (d := d) I1 (fun e2 h2 F2 I2 T2 => by rw [e, e2] at ha; cases ha; exact ⟨rfl, zPS_tr F1 F2, I2, T2⟩) fun q e2 ei2 hq => ?_
  rw [e, e2] at ha
  rw [ei, ei2]
  simp only [] at ha
  simp only [jm_O_eq (zB_ob I1.1.1), z_canGive (d := d + 1) hp hq I1.1.1 I1.1.2.2.2.1, jc_I_eq]
  by_cases c : 1 + (G.1.1 q).length + (G.1.1 p).length ≤ 150
  · rw [if_pos c] at ha
    have ea : (aco B (5, q, p, none) G.1).2 = (aup G.1.1 q (0 :: G.1.1 q ++ G.1.1 p), G.1.2) := by
      show (if 1 + (G.1.1 q).length + (G.1.1 p).length ≤ 150 then (true, aup G.1.1 q (0 :: G.1.1 q ++ G.1.1 p), G.1.2) else (false, G.1)).2 = _
      simp only [if_pos c]
    rw [ea] at ha
    cases ha
    rw [if_pos c, if_neg (by decide)]
    refine jE_V (z_gift (d := d + 1) hp hq c I1.1.1 I1.1.2.2.2.1) ?_
    rintro h2 ⟨F2, K2⟩
    obtain ⟨P2, I2, T2⟩ := zI_2 F1 I1 T1 F2 (fun c z => by unfold zsU jn; omega) f19
    have hl2 : (0 :: G.1.1 q ++ G.1.1 p).length = 1 + (G.1.1 q).length + (G.1.1 p).length := by
      rw [List.length_append, List.length_cons]; omega
    simp only [jm_O_eq (zB_ob K2.1)]
    refine jE_V (zG_put (d := d + 1) hq (by omega) K2.1 K2 I2.1.2.2.2.1) ?_
    rintro h3 ⟨F3, K3, G3⟩
    obtain ⟨P3, I3, T3⟩ := zI_3 (S' := (aup G.1.1 q (0 :: G.1.1 q ++ G.1.1 p), G.1.2)) P2 I2 T2 F3 (fun c z => by unfold jn at *; omega) f00 G3 (gS_up' I1.2.1 (gR_give (I1.2.1 q hq) (I1.2.1 p hp) c))
    simp only [K3.2.1, hl2, Option.bind_some]
    exact jE_end ⟨rfl, P3, I3, T3⟩
  · rw [if_neg c] at ha
    cases ha
    rw [if_neg c, if_pos rfl]
    refine jE_I (z_no (d := d + 1) 2 I1) ?_
    rintro h2 ⟨F2, I2, T2⟩
    exact jE_end ⟨rfl, zPS_tr F1 F2, I2, T2⟩
theorem m_renew (I : zI h m b B G tp er) : ∀ (a : aA) (S' : aS), (a, S') = (match aqp B.2.1.length i with | none => (.inr 2, G.1) | some p => (.inl (Int32.ofNat (B.2.2.1 p).length), (aco B (7, p, 0, none) G.1).2)) → jE (jm_D (d + 3) mX13_renew [.ref m, .int i] h) (zO h m b B (S', G.2) tp er a (zk a)) := by
  rintro a S' ha
  refine jE_of (fun r => gX13_renew) ?_
  refine z_pubI (d := d) I (fun e h1 F1 I1 T1 => by rw [e] at ha; cases ha; exact ⟨rfl, F1, I1, T1⟩) fun p h1 e ei hp F1 I1 T1 => ?_
  rw [e] at ha
  simp only [] at ha
  have ea : (aco B (7, p, 0, none) G.1).2 = (aup G.1.1 p (B.2.2.1 p), G.1.2) := rfl
  rw [ea] at ha
  cases ha
  rw [ei]
  have hT := (zD_g I1.1.2.2.1).2.2.2.2.2.1 p hp
  simp only [jm_O_eq (zB_ob I1.1.1)]
  refine jE_V (z_told (d := d + 1) hp I1.1.1 I1.1.2.1 I1.1.2.2.2.2.2.2 I1.1.2.2.1) ?_
  rintro h2 ⟨F2, K2⟩
  obtain ⟨P2, I2, T2⟩ := zI_2 F1 I1 T1 F2 (fun c z => by unfold zsU jn; omega) f19
  simp only [jm_O_eq (zB_ob K2.1)]
  refine jE_V (zG_put (d := d + 1) hp hT.2.2 K2.1 K2 I2.1.2.2.2.1) ?_
  rintro h3 ⟨F3, K3, G3⟩
  obtain ⟨P3, I3, T3⟩ := zI_3 (S' := (aup G.1.1 p (B.2.2.1 p), G.1.2)) P2 I2 T2 F3 (fun c z => by unfold jn at *; omega) f00 G3 (gS_up' I1.2.1 hT)
  simp only [K3.2.1, Option.bind_some]
  exact jE_end ⟨rfl, P3, I3, T3⟩
end ZI
