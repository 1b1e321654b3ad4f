/-! ===== LEVEL 3: the law: feed, trim, teach and calls that only look ===== -/
section ZL
variable {h h' h1 : jm_H} {d x b n s k : Nat} {B : aB} {G G' : aG} {tp tp' : List Nat} {er : Int} {sc : Nat × (Nat → Int32)} {Z : Nat → Int64} {i4 t v w w2 w3 w4 w5 : Int32} {a : aA} {R R2 : Option jm_R} {o5 o6 o7 o8 : Option Value} {mL mM : jm_M} {Q : (Option Value ⊕ Nat) → jm_H → Prop}
theorem l_trim (S : lI h x b B G tp er sc Z) (A1 : lA sc (i4 + 1) w) (g : lG (d + 90) sc x i4 h Q) : jE (kL_law_304 (d + 90) 82 x (x + 369) (x + 404) i4 o5 o6 o7 o8 h) Q := by
  refine jE_of (fun r => gL_law_304) ?_
  by_cases c : w.toInt < 0 ∨ (tp.length : Int) < w.toInt
  · have hC := c_trim (d := d + 88) (n := w) S.1
    simp only [if_pos c] at hC
    have hM : ∀ h1, zI h1 (x + 369) b B G tp er → jE (jm_D (d + 90) mX13_trim [.ref (x + 369), .int w] h1) (zOA h1 0 0 (x + 369) b B G tp er (.inr 1) 1) := fun h1 I1 => by
      have := m_trim (d := d + 88) (n := w) I1
      simp only [if_pos c] at this
      exact this
    exact l_1I (n := 0) (s := 0) (a := .inr 1) (t := zk1 (.inr 1)) S A1 (jE_of (fun r => gL_trim) (l_wI (a := .inr 1) S hC zk1_0 (l_x1 (fun e z => by cases z; rfl)))) zk1_0 zk1_n (Nat.le_of_ble_eq_true rfl) (Nat.le_of_ble_eq_true rfl) (fun h1 K1 _ I1 => hM h1 I1) g
  · have hC := c_trim (d := d + 88) (n := w) S.1
    simp only [if_neg c] at hC
    have hM : ∀ h1, zI h1 (x + 369) b B G tp er → jE (jm_D (d + 90) mX13_trim [.ref (x + 369), .int w] h1) (zOA h1 0 0 (x + 369) b B G (tp.take w.toInt.toNat) er (.inl w) 0) := fun h1 I1 => by
      have := m_trim (d := d + 88) (n := w) I1
      simp only [if_neg c] at this
      exact this
    exact l_1I (n := 0) (s := 0) (a := .inl w) (t := zk1 (.inl w)) S A1 (jE_of (fun r => gL_trim) (l_wI (a := .inl w) S hC zk1_0 (l_x1 (fun e z => by cases z)))) zk1_0 zk1_n (Nat.le_of_ble_eq_true rfl) (Nat.le_of_ble_eq_true rfl) (fun h1 K1 _ I1 => hM h1 I1) g
theorem l_feed (S : lI h x b B G tp er sc Z) (A1 : lA sc (i4 + 1) w) (A2 : lA sc (i4 + 2) w2) (A3 : lA sc (i4 + 3) w3) (A4 : lA sc (i4 + 4) w4) (A5 : lA sc (i4 + 5) w5) (g : lG (d + 90) sc x i4 h Q) : jE (kL_law_200 (d + 90) 82 x (x + 369) (x + 404) i4 o5 o6 o7 o8 h) Q := by
  refine jE_of (fun r => gL_law_200) ?_
  have K := kO_C S.1
  rw [A1 h K, Option.bind_some, A2 h K, Option.bind_some, A3 h K, Option.bind_some, A4 h K, Option.bind_some, A5 h K, Option.bind_some]
  have s4 := S.2.2.2
  by_cases c : 2000 < tp.length + 20
  · have hC := c_feed (d := d + 87) (a := w) (b := w2) (c := w3) (e := w4) (f := w5) S.1
    simp only [if_pos c] at hC
    refine jE_I (jE_of (fun r => gL_feed) (l_wI (a := .inr 0) (t := zk1 (.inr 0)) S hC zk1_0 (l_x0 (fun e z => by cases z; rfl)))) ?_
    intro h1 P
    have K1 := kO_C P.2.1
    have n1 : h1.1 = h.1 + rg (.inr 0) := P.1.1
    rw [A1 h1 K1, Option.bind_some, A2 h1 K1, Option.bind_some, A3 h1 K1, Option.bind_some, A4 h1 K1, Option.bind_some, A5 h1 K1, Option.bind_some]
    have hM : jE (jm_D (d + 90) mX13_feed [.ref (x + 369), .int w, .int w2, .int w3, .int w4, .int w5] h1) (zOA h1 0 0 (x + 369) b B G tp er (.inr 0) 1) := by
      have := m_feed (d := d + 88) (i1 := w) (i2 := w2) (i3 := w3) (i4 := w4) (i5 := w5) (show x + 369 + 35 ≤ h1.1 by omega) (show b + 19 ≤ h1.1 by omega) P.2.2.1
      simp only [if_pos c] at this
      exact this
    exact l_finI (n := 0) (s := 0) (a := .inr 0) (t := zk1 (.inr 0)) S P zk1_0 zk1_n (Nat.le_of_ble_eq_true rfl) (Nat.le_of_ble_eq_true rfl) hM g
  · have hC := c_feed (d := d + 87) (a := w) (b := w2) (c := w3) (e := w4) (f := w5) S.1
    simp only [if_neg c] at hC
    refine jE_I (jE_of (fun r => gL_feed) (l_wI (a := .inl (Int32.ofNat (tp.length + 20))) (t := zk1 (.inl (Int32.ofNat (tp.length + 20)))) S hC zk1_0 (l_x0 (fun e z => by cases z)))) ?_
    intro h1 P
    have K1 := kO_C P.2.1
    have n1 : h1.1 = h.1 + rg (.inl (Int32.ofNat (tp.length + 20))) := P.1.1
    rw [A1 h1 K1, Option.bind_some, A2 h1 K1, Option.bind_some, A3 h1 K1, Option.bind_some, A4 h1 K1, Option.bind_some, A5 h1 K1, Option.bind_some]
    have hM : jE (jm_D (d + 90) mX13_feed [.ref (x + 369), .int w, .int w2, .int w3, .int w4, .int w5] h1) (zOA h1 1 5 (x + 369) b B G (tp ++ (yB w ++ yB w2 ++ yB w3 ++ yB w4 ++ yB w5)) er (.inl (Int32.ofNat (tp.length + 20))) 0) := by
      have := m_feed (d := d + 88) (i1 := w) (i2 := w2) (i3 := w3) (i4 := w4) (i5 := w5) (show x + 369 + 35 ≤ h1.1 by omega) (show b + 19 ≤ h1.1 by omega) P.2.2.1
      simp only [if_neg c] at this
      exact this
    exact l_finI (n := 1) (s := 5) (a := .inl (Int32.ofNat (tp.length + 20))) (t := zk1 (.inl (Int32.ofNat (tp.length + 20)))) S P zk1_0 zk1_n (Nat.le_of_ble_eq_true rfl) (Nat.le_of_ble_eq_true rfl) hM g
theorem l_teach (S : lI h x b B G tp er sc Z) (g : lG (d + 90) sc x i4 h Q) : jE (kL_law_360 (d + 90) 82 x (x + 369) (x + 404) i4 o5 o6 o7 o8 h) Q := by
  refine jE_of (fun r => gL_law_360) ?_
  rw [jm_O_eq (CB_ob S.1.1)]
  have s4 := S.2.2.2
  refine jE_I (c_teach (d := d + 18) S.1) ?_
  rintro h1 ⟨F, C⟩
  obtain ⟨L1, I1⟩ := l_at S (jG_0 F)
  have n1 := F.1
  have n2 := F.2.1
  rw [jm_O_eq (zB_ob I1.1.1)]
  have K1 : kO h1 sc := kO_tr (kO_C S.1) F (fun c z => by have := CB_x S.1.1; unfold jn at z; omega)
  have M := m_teach (d := d + 4) (show x + 369 + 36 ≤ h1.1 by omega) (show b + 19 ≤ h1.1 by omega) K1 I1
  cases e : aTe tp with
  | inl q =>
    rw [e] at C
    simp only [e] at M
    refine jE_I (P := fun h2 => jA (fun c => jn (x + 369) 35 c) 19 6740 h1 h2 ∧ zI h2 (x + 369) b B G [] (q.2 : Int) ∧ jr_I h2 (x + 369) 12 0 0 = some 0) M ?_
    rintro h2 ⟨M1, M2, M3⟩
    have C2 : CI h2 x B G [] (q.2 : Int) sc := CI_A C M1 (by omega) (fun y z => by unfold jn at z; omega)
    have L2 : lC h2 (x + 404) 1 Z := ⟨(M1.2.2 _ (by omega) (fun z => by unfold jn at z; omega)).trans L1.1, L1.2⟩
    refine jE_if (fun _ => ?_) (fun z => absurd rfl z)
    exact g _ _ _ _ _ ⟨b, B, G, [], _, Z, C2, M2, L2, s4.1, by rw [M1.1]; omega, by rw [M1.1]; omega⟩ (by rw [M1.1]; omega) (by rw [M1.2.1]; omega)
  | inr B' =>
    rw [e] at C
    simp only [e] at M
    refine jE_I (P := fun h2 => jA (fun c => jn (x + 369) 35 c) 19 6740 h1 h2 ∧ zI h2 (x + 369) h1.1 B' ((B'.2.2.1, fun _ => 0), 0, 0) [] (-1) ∧ jr_I h2 (x + 369) 12 0 0 = some 0) M ?_
    rintro h2 ⟨M1, M2, M3⟩
    have C2 : CI h2 x B' ((B'.2.2.1, fun _ => 0), 0, 0) [] (-1) sc := CI_A C M1 (by omega) (fun y z => by unfold jn at z; omega)
    have L2 : lC h2 (x + 404) 1 Z := ⟨(M1.2.2 _ (by omega) (fun z => by unfold jn at z; omega)).trans L1.1, L1.2⟩
    refine jE_if (fun _ => ?_) (fun z => absurd rfl z)
    exact g _ _ _ _ _ ⟨h1.1, B', _, [], _, Z, C2, M2, L2, Or.inr (by omega), by rw [M1.1]; omega, by rw [M1.1]; omega⟩ (by rw [M1.1]; omega) (by rw [M1.2.1]; omega)
theorem l_digest (S : lI h x b B G tp er sc Z) (g : lG (d + 90) sc x i4 h Q) : jE (kL_law_1968 (d + 90) 82 x (x + 369) (x + 404) i4 o5 o6 o7 o8 h) Q := by
  refine jE_of (fun r => gL_law_1968) ?_
  rw [jm_O_eq (CB_ob S.1.1)]
  have s4 := S.2.2.2
  refine jE_L (c_digest (d := d + 81) S.1) ?_
  rintro h1 ⟨F, C⟩
  have F1 : jG (jn x 369) 0 h h1 := jG_mn (jG_0 F) fun c y => by unfold wS at y; unfold jn; omega
  have P := l_Pn S F1 C
  have n1 := F.1
  have I1 := P.2.2.1
  rw [jm_O_eq (zB_ob I1.1.1)]
  refine jE_L (m_digest (d := d + 82) (kO_C C) (show x + 369 + 35 ≤ h1.1 by omega) (show b + 19 ≤ h1.1 by omega) I1) ?_
  rintro h2 ⟨M1, M2⟩
  obtain ⟨S2, e1, e2, -⟩ := l_two S P M1 M2
  refine jE_if (fun _ => ?_) (fun z => absurd lg_self z)
  exact g _ _ _ _ _ S2 (by omega) (by omega)
theorem l_meanSize (S : lI h x b B G tp er sc Z) (g : lG (d + 90) sc x i4 h Q) : jE (kL_law_1927 (d + 90) 82 x (x + 369) (x + 404) i4 o5 o6 o7 o8 h) Q := by
  refine jE_of (fun r => gL_law_1927) ?_
  rw [jm_O_eq (CB_ob S.1.1), c_meanSize S.1, jc_D_eq, jm_O_eq (zB_ob S.2.1.1.1)]
  refine jE_D (m_meanSize (d := d + 89) S.2.1) ?_
  rintro h2 ⟨M1, M2⟩
  have P : lP h x b B G tp er G tp sc 0 none h := ⟨⟨rfl, rfl, fun _ _ _ => rfl⟩, S.1, S.2.1, Z, S.2.2.1, fun y e => by cases e⟩
  obtain ⟨S2, e1, e2, -⟩ := l_two S P (zPS_A M1) M2
  refine jE_if (fun _ => g _ _ _ _ _ S2 (by omega) (by omega)) (fun z => ?_)
  refine jE_if (fun y => absurd y z) (fun _ => ?_)
  refine jE_if (fun y => absurd y z) (fun _ => ?_)
  exact g _ _ _ _ _ S2 (by omega) (by omega)
theorem l_errorAt (S : lI h x b B G tp er sc Z) (g : lG (d + 90) sc x i4 h Q) : jE (kL_law_373 (d + 90) 82 x (x + 369) (x + 404) i4 o5 o6 o7 o8 h) Q :=
  jE_of (fun r => gL_law_373) (l_0 S (c_errorAt S.1) (m_errorAt (d := d + 88) S.2.1) g)
theorem l_actors (S : lI h x b B G tp er sc Z) (g : lG (d + 90) sc x i4 h Q) : jE (kL_law_386 (d + 90) 82 x (x + 369) (x + 404) i4 o5 o6 o7 o8 h) Q :=
  jE_of (fun r => gL_law_386) (l_0 S (c_actors S.1) (m_actors (d := d + 88) S.2.1) g)
theorem l_plays (S : lI h x b B G tp er sc Z) (g : lG (d + 90) sc x i4 h Q) : jE (kL_law_399 (d + 90) 82 x (x + 369) (x + 404) i4 o5 o6 o7 o8 h) Q :=
  jE_of (fun r => gL_law_399) (l_0 S (c_plays S.1) (m_plays (d := d + 88) S.2.1) g)
theorem l_notes (S : lI h x b B G tp er sc Z) (g : lG (d + 90) sc x i4 h Q) : jE (kL_law_412 (d + 90) 82 x (x + 369) (x + 404) i4 o5 o6 o7 o8 h) Q :=
  jE_of (fun r => gL_law_412) (l_0 S (c_notes S.1) (m_notes (d := d + 88) S.2.1) g)
theorem l_evenings (S : lI h x b B G tp er sc Z) (g : lG (d + 90) sc x i4 h Q) : jE (kL_law_425 (d + 90) 82 x (x + 369) (x + 404) i4 o5 o6 o7 o8 h) Q :=
  jE_of (fun r => gL_law_425) (l_0 S (c_evenings S.1) (m_evenings (d := d + 88) S.2.1) g)
theorem l_carried (S : lI h x b B G tp er sc Z) (g : lG (d + 90) sc x i4 h Q) : jE (kL_law_438 (d + 90) 82 x (x + 369) (x + 404) i4 o5 o6 o7 o8 h) Q :=
  jE_of (fun r => gL_law_438) (l_0 S (c_carried S.1) (m_carried (d := d + 88) S.2.1) g)
theorem l_tapeBytes (S : lI h x b B G tp er sc Z) (g : lG (d + 90) sc x i4 h Q) : jE (kL_law_451 (d + 90) 82 x (x + 369) (x + 404) i4 o5 o6 o7 o8 h) Q :=
  jE_of (fun r => gL_law_451) (l_0 S (c_tapeBytes S.1) (m_tapeBytes (d := d + 88) S.2.1) g)
end ZL
