/-! ===== LEVEL 3: the law: both have answered ===== -/
section ZL
variable {h h' h1 : jm_H} {d x b n s k : Nat} {B : aB} {G G' : aG} {tp tp' : List Nat} {er : Int} {sc : Nat × (Nat → Int32)} {Z : Nat → Int64} {i4 t v w w2 : Int32} {a : aA} {R R2 : Option jm_R} {o5 o6 o7 o8 : Option Value} {mL mM : jm_M} {Q : (Option Value ⊕ Nat) → jm_H → Prop}
theorem l_two {z : Option Int64} {h2 : jm_H} (S : lI h x b B G tp er sc Z) (P : lP h x b B G tp er G' tp' sc k z h1) (M1 : jA (fun c => jn (x + 369) 35 c) n s h1 h2) (M2 : zI h2 (x + 369) b B G' tp' er) : lS h2 x sc ∧ h2.1 = h.1 + k + n ∧ h2.2.1 = h.2.1 + 6 * k + s ∧ ∃ Z', lC h2 (x + 404) 1 Z' ∧ ∀ y, z = some y → Z' 0 = y := by
  obtain ⟨s1, s2, s3, s4, s5, s6⟩ := S
  obtain ⟨p1, p2, p3, Z', p4, p5⟩ := P
  have n1 : h1.1 = h.1 + k := p1.1
  have L2 : lC h2 (x + 404) 1 Z' := ⟨(M1.2.2 _ (by omega) (fun z => by unfold jn at z; omega)).trans p4.1, p4.2⟩
  have C2 : CI h2 x B G' tp' er sc := CI_A p2 M1 (by omega) (fun y z => by unfold jn at z; omega)
  refine ⟨⟨b, B, G', tp', er, Z', C2, M2, L2, s4, by rw [M1.1]; omega, by rw [M1.1]; omega⟩, by rw [M1.1, n1], by rw [M1.2.1, p1.2.1], Z', L2, p5⟩
theorem l_thr (I : zI h x b B G tp er) (e : jr_I h x 12 0 0 = some t) : jF (jm_D (d + 1) mX13_thrown [.ref x] h) (.inl (some (.int t))) fun h' => h' = h :=
  jF_eq (gX13_thrown (by rw [e]; rfl)) rfl
theorem lg_self {y : Int64} : lg_cmp y y = 0 := by simp [lg_cmp]
theorem l_finI (S : lI h x b B G tp er sc Z) (P : lP h x b B G tp er G' tp' sc k (zz a) h1) (t0 : ∀ v, a = .inl v → t = 0) (ht : ∀ e, a = .inr e → ¬ t = 0) (hk : k + n ≤ 19) (hs : 6 * k + s ≤ 6740) (M : jE R2 (zOA h1 n s (x + 369) b B G' tp' er a t)) (g : lG (d + 1) sc x i4 h Q) : jE (jm_O h1 (x + 369) 13 (jc_I R2 (fun x97 h95 => jm_O h95 (x + 369) 13 (jc_I (jm_D (d + 1) mX13_thrown [.ref (x + 369)] h95) (fun x100 h98 => (if x100 = t then (if t = 0 then (jm_all h98 (x + 404) 0).bind fun y103 => (if (lg_cmp y103 x97.toInt64) = 0 then kL_law_1982 (d + 1) 82 x (x + 369) (x + 404) i4 (some (.int t)) (some (.int x97)) o7 o8 h98 else some (.inl (some (.int 0)), h98)) else kL_law_1982 (d + 1) 82 x (x + 369) (x + 404) i4 (some (.int t)) (some (.int x97)) o7 o8 h98) else some (.inl (some (.int 0)), h98))) jx)) jx)) Q := by
  rw [jm_O_eq (zB_ob P.2.2.1.1.1)]
  refine jE_I (P := fun h2 => jA (fun c => jn (x + 369) 35 c) n s h1 h2 ∧ zI h2 (x + 369) b B G' tp' er ∧ jr_I h2 (x + 369) 12 0 0 = some t) M ?_
  rintro h2 ⟨M1, M2, M3⟩
  obtain ⟨S2, e1, e2, Z', L2, hZ⟩ := l_two S P M1 M2
  rw [jm_O_eq (zB_ob M2.1.1)]
  refine jE_I (l_thr M2 M3) ?_
  rintro _ rfl
  refine jE_if (fun _ => ?_) (fun z => absurd rfl z)
  have e3 : jm_all _ (x + 404) 0 = some (Z' 0) := lC_at (i := 0) L2 (by omega) (by omega)
  cases a with
  | inl v =>
    refine jE_if (fun _ => ?_) (fun z => absurd (t0 v rfl) z)
    rw [e3, Option.bind_some, hZ _ rfl]
    refine jE_if (fun _ => ?_) (fun z => absurd lg_self z)
    exact g _ _ _ _ _ S2 (by omega) (by omega)
  | inr e =>
    refine jE_if (fun z => absurd z (ht e rfl)) (fun _ => ?_)
    exact g _ _ _ _ _ S2 (by omega) (by omega)
theorem l_finB (S : lI h x b B G tp er sc Z) (P : lP h x b B G tp er G' tp' sc k (zb2 a) h1) (t0 : ∀ v, a = .inl v → t = 0) (ht : ∀ e, a = .inr e → ¬ t = 0) (hk : k + n ≤ 19) (hs : 6 * k + s ≤ 6740) (M : jE R2 (zOA h1 n s (x + 369) b B G' tp' er a t)) (g : lG (d + 1) sc x i4 h Q) : jE (jm_O h1 (x + 369) 13 (jc_I R2 (fun x97 h95 => jm_O h95 (x + 369) 13 (jc_I (jm_D (d + 1) mX13_thrown [.ref (x + 369)] h95) (fun x100 h98 => (if x100 = t then (if t = 0 then (jm_all h98 (x + 404) 0).bind fun y103 => (if x97 = 0 then (if (lg_cmp y103 0) = 0 then kL_law_1982 (d + 1) 82 x (x + 369) (x + 404) i4 (some (.int t)) (some (.int x97)) o7 o8 h98 else some (.inl (some (.int 0)), h98)) else (if (lg_cmp y103 1) = 0 then kL_law_1982 (d + 1) 82 x (x + 369) (x + 404) i4 (some (.int t)) (some (.int x97)) o7 o8 h98 else some (.inl (some (.int 0)), h98))) else kL_law_1982 (d + 1) 82 x (x + 369) (x + 404) i4 (some (.int t)) (some (.int x97)) o7 o8 h98) else some (.inl (some (.int 0)), h98))) jx)) jx)) Q := by
  rw [jm_O_eq (zB_ob P.2.2.1.1.1)]
  refine jE_I (P := fun h2 => jA (fun c => jn (x + 369) 35 c) n s h1 h2 ∧ zI h2 (x + 369) b B G' tp' er ∧ jr_I h2 (x + 369) 12 0 0 = some t) M ?_
  rintro h2 ⟨M1, M2, M3⟩
  obtain ⟨S2, e1, e2, Z', L2, hZ⟩ := l_two S P M1 M2
  rw [jm_O_eq (zB_ob M2.1.1)]
  refine jE_I (l_thr M2 M3) ?_
  rintro _ rfl
  refine jE_if (fun _ => ?_) (fun z => absurd rfl z)
  have e3 : jm_all _ (x + 404) 0 = some (Z' 0) := lC_at (i := 0) L2 (by omega) (by omega)
  cases a with
  | inl v =>
    refine jE_if (fun _ => ?_) (fun z => absurd (t0 v rfl) z)
    rw [e3, Option.bind_some]
    have e4 : Z' 0 = if v = 0 then 0 else 1 := hZ _ rfl
    refine jE_if (fun z => ?_) (fun z => ?_)
    · have z' : v = 0 := z
      rw [e4, if_pos z']
      refine jE_if (fun _ => ?_) (fun z => absurd lg_self z)
      exact g _ _ _ _ _ S2 (by omega) (by omega)
    · have z' : ¬ v = 0 := z
      rw [e4, if_neg z']
      refine jE_if (fun _ => ?_) (fun z => absurd lg_self z)
      exact g _ _ _ _ _ S2 (by omega) (by omega)
  | inr e =>
    refine jE_if (fun z => absurd z (ht e rfl)) (fun _ => ?_)
    exact g _ _ _ _ _ S2 (by omega) (by omega)
/-- the script is read -/
def lA (sc : Nat × (Nat → Int32)) (i w : Int32) : Prop := ∀ h, kO h sc → jm_ali h 82 0 i = some w
theorem l_1I (S : lI h x b B G tp er sc Z) (A1 : lA sc (i4 + 1) w) (hC : jF (jm_D (d + 1) mL [.ref x, .int w, .ref (x + 404)] h) (.inl (some (.int t))) (lP h x b B G tp er G' tp' sc k (zz a))) (t0 : ∀ v, a = .inl v → t = 0) (ht : ∀ e, a = .inr e → ¬ t = 0) (hk : k + n ≤ 19) (hs : 6 * k + s ≤ 6740) (hM : ∀ h1, kO h1 sc → h.1 ≤ h1.1 → zI h1 (x + 369) b B G tp er → jE (jm_D (d + 1) mM [.ref (x + 369), .int w] h1) (zOA h1 n s (x + 369) b B G' tp' er a t)) (g : lG (d + 1) sc x i4 h Q) : jE ((jm_ali h 82 0 (i4 + 1)).bind fun x88 => jc_I (jm_D (d + 1) mL [.ref x, .int x88, .ref (x + 404)] h) (fun x92 h90 => (jm_ali h90 82 0 (i4 + 1)).bind fun x93 => jm_O h90 (x + 369) 13 (jc_I (jm_D (d + 1) mM [.ref (x + 369), .int x93] h90) (fun x97 h95 => jm_O h95 (x + 369) 13 (jc_I (jm_D (d + 1) mX13_thrown [.ref (x + 369)] h95) (fun x100 h98 => (if x100 = x92 then (if x92 = 0 then (jm_all h98 (x + 404) 0).bind fun y103 => (if (lg_cmp y103 x97.toInt64) = 0 then kL_law_1982 (d + 1) 82 x (x + 369) (x + 404) i4 (some (.int x92)) (some (.int x97)) o7 o8 h98 else some (.inl (some (.int 0)), h98)) else kL_law_1982 (d + 1) 82 x (x + 369) (x + 404) i4 (some (.int x92)) (some (.int x97)) o7 o8 h98) else some (.inl (some (.int 0)), h98))) jx)) jx)) jx) Q := by
  rw [A1 h (kO_C S.1), Option.bind_some]
  refine jE_I hC ?_
  intro h1 P
  rw [A1 h1 (kO_C P.2.1), Option.bind_some]
  exact l_finI S P t0 ht hk hs (hM h1 (kO_C P.2.1) (by rw [P.1.1]; omega) P.2.2.1) g
theorem l_1B (S : lI h x b B G tp er sc Z) (A1 : lA sc (i4 + 1) w) (hC : jF (jm_D (d + 1) mL [.ref x, .int w, .ref (x + 404)] h) (.inl (some (.int t))) (lP h x b B G tp er G' tp' sc k (zb2 a))) (t0 : ∀ v, a = .inl v → t = 0) (ht : ∀ e, a = .inr e → ¬ t = 0) (hk : k + n ≤ 19) (hs : 6 * k + s ≤ 6740) (hM : ∀ h1, kO h1 sc → h.1 ≤ h1.1 → zI h1 (x + 369) b B G tp er → jE (jm_D (d + 1) mM [.ref (x + 369), .int w] h1) (zOA h1 n s (x + 369) b B G' tp' er a t)) (g : lG (d + 1) sc x i4 h Q) : jE ((jm_ali h 82 0 (i4 + 1)).bind fun x88 => jc_I (jm_D (d + 1) mL [.ref x, .int x88, .ref (x + 404)] h) (fun x92 h90 => (jm_ali h90 82 0 (i4 + 1)).bind fun x93 => jm_O h90 (x + 369) 13 (jc_I (jm_D (d + 1) mM [.ref (x + 369), .int x93] h90) (fun x97 h95 => jm_O h95 (x + 369) 13 (jc_I (jm_D (d + 1) mX13_thrown [.ref (x + 369)] h95) (fun x100 h98 => (if x100 = x92 then (if x92 = 0 then (jm_all h98 (x + 404) 0).bind fun y103 => (if x97 = 0 then (if (lg_cmp y103 0) = 0 then kL_law_1982 (d + 1) 82 x (x + 369) (x + 404) i4 (some (.int x92)) (some (.int x97)) o7 o8 h98 else some (.inl (some (.int 0)), h98)) else (if (lg_cmp y103 1) = 0 then kL_law_1982 (d + 1) 82 x (x + 369) (x + 404) i4 (some (.int x92)) (some (.int x97)) o7 o8 h98 else some (.inl (some (.int 0)), h98))) else kL_law_1982 (d + 1) 82 x (x + 369) (x + 404) i4 (some (.int x92)) (some (.int x97)) o7 o8 h98) else some (.inl (some (.int 0)), h98))) jx)) jx)) jx) Q := by
  rw [A1 h (kO_C S.1), Option.bind_some]
  refine jE_I hC ?_
  intro h1 P
  rw [A1 h1 (kO_C P.2.1), Option.bind_some]
  exact l_finB S P t0 ht hk hs (hM h1 (kO_C P.2.1) (by rw [P.1.1]; omega) P.2.2.1) g
theorem l_2I (S : lI h x b B G tp er sc Z) (A1 : lA sc (i4 + 1) w) (A2 : lA sc (i4 + 2) w2) (hC : jF (jm_D (d + 1) mL [.ref x, .int w, .int w2, .ref (x + 404)] h) (.inl (some (.int t))) (lP h x b B G tp er G' tp' sc k (zz a))) (t0 : ∀ v, a = .inl v → t = 0) (ht : ∀ e, a = .inr e → ¬ t = 0) (hk : k + n ≤ 19) (hs : 6 * k + s ≤ 6740) (hM : ∀ h1, kO h1 sc → h.1 ≤ h1.1 → zI h1 (x + 369) b B G tp er → jE (jm_D (d + 1) mM [.ref (x + 369), .int w, .int w2] h1) (zOA h1 n s (x + 369) b B G' tp' er a t)) (g : lG (d + 1) sc x i4 h Q) : jE ((jm_ali h 82 0 (i4 + 1)).bind fun x88 => (jm_ali h 82 0 (i4 + 2)).bind fun x89 => jc_I (jm_D (d + 1) mL [.ref x, .int x88, .int x89, .ref (x + 404)] h) (fun x92 h90 => (jm_ali h90 82 0 (i4 + 1)).bind fun x93 => (jm_ali h90 82 0 (i4 + 2)).bind fun x94 => jm_O h90 (x + 369) 13 (jc_I (jm_D (d + 1) mM [.ref (x + 369), .int x93, .int x94] h90) (fun x97 h95 => jm_O h95 (x + 369) 13 (jc_I (jm_D (d + 1) mX13_thrown [.ref (x + 369)] h95) (fun x100 h98 => (if x100 = x92 then (if x92 = 0 then (jm_all h98 (x + 404) 0).bind fun y103 => (if (lg_cmp y103 x97.toInt64) = 0 then kL_law_1982 (d + 1) 82 x (x + 369) (x + 404) i4 (some (.int x92)) (some (.int x97)) o7 o8 h98 else some (.inl (some (.int 0)), h98)) else kL_law_1982 (d + 1) 82 x (x + 369) (x + 404) i4 (some (.int x92)) (some (.int x97)) o7 o8 h98) else some (.inl (some (.int 0)), h98))) jx)) jx)) jx) Q := by
  rw [A1 h (kO_C S.1), Option.bind_some, A2 h (kO_C S.1), Option.bind_some]
  refine jE_I hC ?_
  intro h1 P
  rw [A1 h1 (kO_C P.2.1), Option.bind_some, A2 h1 (kO_C P.2.1), Option.bind_some]
  exact l_finI S P t0 ht hk hs (hM h1 (kO_C P.2.1) (by rw [P.1.1]; omega) P.2.2.1) g
theorem l_2B (S : lI h x b B G tp er sc Z) (A1 : lA sc (i4 + 1) w) (A2 : lA sc (i4 + 2) w2) (hC : jF (jm_D (d + 1) mL [.ref x, .int w, .int w2, .ref (x + 404)] h) (.inl (some (.int t))) (lP h x b B G tp er G' tp' sc k (zb2 a))) (t0 : ∀ v, a = .inl v → t = 0) (ht : ∀ e, a = .inr e → ¬ t = 0) (hk : k + n ≤ 19) (hs : 6 * k + s ≤ 6740) (hM : ∀ h1, kO h1 sc → h.1 ≤ h1.1 → zI h1 (x + 369) b B G tp er → jE (jm_D (d + 1) mM [.ref (x + 369), .int w, .int w2] h1) (zOA h1 n s (x + 369) b B G' tp' er a t)) (g : lG (d + 1) sc x i4 h Q) : jE ((jm_ali h 82 0 (i4 + 1)).bind fun x88 => (jm_ali h 82 0 (i4 + 2)).bind fun x89 => jc_I (jm_D (d + 1) mL [.ref x, .int x88, .int x89, .ref (x + 404)] h) (fun x92 h90 => (jm_ali h90 82 0 (i4 + 1)).bind fun x93 => (jm_ali h90 82 0 (i4 + 2)).bind fun x94 => jm_O h90 (x + 369) 13 (jc_I (jm_D (d + 1) mM [.ref (x + 369), .int x93, .int x94] h90) (fun x97 h95 => jm_O h95 (x + 369) 13 (jc_I (jm_D (d + 1) mX13_thrown [.ref (x + 369)] h95) (fun x100 h98 => (if x100 = x92 then (if x92 = 0 then (jm_all h98 (x + 404) 0).bind fun y103 => (if x97 = 0 then (if (lg_cmp y103 0) = 0 then kL_law_1982 (d + 1) 82 x (x + 369) (x + 404) i4 (some (.int x92)) (some (.int x97)) o7 o8 h98 else some (.inl (some (.int 0)), h98)) else (if (lg_cmp y103 1) = 0 then kL_law_1982 (d + 1) 82 x (x + 369) (x + 404) i4 (some (.int x92)) (some (.int x97)) o7 o8 h98 else some (.inl (some (.int 0)), h98))) else kL_law_1982 (d + 1) 82 x (x + 369) (x + 404) i4 (some (.int x92)) (some (.int x97)) o7 o8 h98) else some (.inl (some (.int 0)), h98))) jx)) jx)) jx) Q := by
  rw [A1 h (kO_C S.1), Option.bind_some, A2 h (kO_C S.1), Option.bind_some]
  refine jE_I hC ?_
  intro h1 P
  rw [A1 h1 (kO_C P.2.1), Option.bind_some, A2 h1 (kO_C P.2.1), Option.bind_some]
  exact l_finB S P t0 ht hk hs (hM h1 (kO_C P.2.1) (by rw [P.1.1]; omega) P.2.2.1) g
/-- a call that only looks -/
theorem l_0 {mC : jm_M} (S : lI h x b B G tp er sc Z) (hC : jm_D d mC [.ref x] h = some (.inl (some (.int v)), h)) (hM : jE (jm_D d mM [.ref (x + 369)] h) (zO h (x + 369) b B G tp er (.inl v) 0)) (g : lG d sc x i4 h Q) : jE (jm_O h x 11 (jc_I (jm_D d mC [.ref x] h) (fun x752 h750 => jm_O h750 (x + 369) 13 (jc_I (jm_D d mM [.ref (x + 369)] h750) (fun x755 h753 => (if x752 = x755 then kL_law_1982 d 82 x (x + 369) (x + 404) i4 o5 o6 o7 o8 h753 else some (.inl (some (.int 0)), h753))) jx)) jx)) Q := by
  rw [jm_O_eq (CB_ob S.1.1), hC, jc_I_eq, jm_O_eq (zB_ob S.2.1.1.1)]
  refine jE_I (P := fun h2 => zPS (x + 369) h h2 ∧ zI h2 (x + 369) b B G tp er ∧ jr_I h2 (x + 369) 12 0 0 = some 0) hM ?_
  rintro h2 ⟨M1, M2, M3⟩
  have P : lP h x b B G tp er G tp sc 0 none h := ⟨⟨rfl, rfl, fun _ _ _ => rfl⟩, S.1, S.2.1, Z, S.2.2.1, fun y e => by cases e⟩
  obtain ⟨S2, e1, e2, -⟩ := l_two S P (zPS_A M1) M2
  refine jE_if (fun _ => ?_) (fun z => absurd rfl z)
  exact g _ _ _ _ _ S2 (by omega) (by omega)
end ZL
