/-! ===== LEVEL 3: the law: the calls, one by one ===== -/
section ZL
variable {h h' h1 : jm_H} {d x b n s k : Nat} {B : aB} {G G' : aG} {tp tp' : List Nat} {er : Int} {sc : Nat × (Nat → Int32)} {Z : Nat → Int64} {i4 t v w w2 : Int32} {a : aA} {R R2 : Option jm_R} {o5 o6 o7 o8 : Option Value} {mL mM : jm_M} {Q : (Option Value ⊕ Nat) → jm_H → Prop}
theorem rg_1 (a : aA) : rg a ≤ 1 := by cases a <;> exact Nat.le_of_ble_eq_true rfl
theorem l_c0 (S : lI h x b B G tp er sc Z) : jG (jn x 369) 0 h h ∧ CI h x B G tp er sc := ⟨jG_0 jS_rf, S.1⟩
theorem l_c1 (S : lI h x b B G tp er sc Z) : jG (jn x 369) 1 h (jm_gap h) ∧ CI (jm_gap h) x B G tp er sc := ⟨jG_1 jS_rf, CI_A (S := fun _ => False) (n := 1) (k := 6) S.1 ⟨rfl, rfl, fun _ _ _ => rfl⟩ (by have := S.2.2.2.2.2; omega) (fun y z => z.elim)⟩
theorem lw_S (H : jF R (rv a) fun h' => jG (wS x) (rg a) h h' ∧ CI h' x B G' tp er sc) : jF R (rv a) fun h' => jG (jn x 369) (rg a) h h' ∧ CI h' x B G' tp er sc :=
  jF_mono H fun h' z => ⟨jG_mn z.1 fun c y => by unfold wS at y; unfold jn; omega, z.2⟩
theorem lw_G (H : jF R (rv a) fun h' => jG (wG x) (rg a) h h' ∧ CI h' x B G' tp er sc) : jF R (rv a) fun h' => jG (jn x 369) (rg a) h h' ∧ CI h' x B G' tp er sc :=
  jF_mono H fun h' z => ⟨jG_mn z.1 fun c y => by unfold wG wS at y; unfold jn; omega, z.2⟩
theorem l_sizeOf (S : lI h x b B G tp er sc Z) (A1 : lA sc (i4 + 1) w) (g : lG (d + 90) sc x i4 h Q) : jE (kL_law_464 (d + 90) 82 x (x + 369) (x + 404) i4 o5 o6 o7 o8 h) Q := by
  obtain ⟨a, ea⟩ : ∃ a : aA, a = (match aqp B.2.1.length w with | none => .inr 2 | some p => .inl (Int32.ofNat (G.1.1 p).length)) := ⟨_, rfl⟩
  have he : ∀ e, a = .inr e → e = 2 := by
    intro e z
    rw [ea] at z
    repeat' split at z
    all_goals (cases z <;> first | rfl | exact Or.inl rfl | exact Or.inr rfl)
  have hC : jF (jm_D (d + 89) mX11_sizeOf [.ref x, .int w] h) (rv a) fun h' => jG (jn x 369) (rg a) h h' ∧ CI h' x B G tp er sc := by
    rw [c_sizeOf S.1, ea]
    cases aqp B.2.1.length w <;> first | exact jF_end (l_c1 S) | exact jF_end (l_c0 S)
  refine jE_of (fun r => gL_law_464) ?_
  exact l_1I (n := 0) (s := 0) S A1 (jE_of (fun r => gL_sizeOf) (l_wI S hC zk_0 (l_x2 he))) zk_0 zk_n (by have := rg_1 a; omega) (by have := rg_1 a; omega) (fun h1 K1 _ I1 => jE_mono (m_sizeOf I1 a ea) fun v h' z => zO_A z) g
theorem l_masksIn (S : lI h x b B G tp er sc Z) (A1 : lA sc (i4 + 1) w) (g : lG (d + 90) sc x i4 h Q) : jE (kL_law_520 (d + 90) 82 x (x + 369) (x + 404) i4 o5 o6 o7 o8 h) Q := by
  obtain ⟨a, ea⟩ : ∃ a : aA, a = (match aqp B.2.1.length w with | none => .inr 2 | some p => .inl (Int32.ofNat (ry_cm (G.1.1 p)))) := ⟨_, rfl⟩
  have he : ∀ e, a = .inr e → e = 2 := by
    intro e z
    rw [ea] at z
    repeat' split at z
    all_goals (cases z <;> first | rfl | exact Or.inl rfl | exact Or.inr rfl)
  have hC : jF (jm_D (d + 89) mX11_masksIn [.ref x, .int w] h) (rv a) fun h' => jG (jn x 369) (rg a) h h' ∧ CI h' x B G tp er sc := by
    rw [c_masksIn S.1, ea]
    cases aqp B.2.1.length w <;> first | exact jF_end (l_c1 S) | exact jF_end (l_c0 S)
  refine jE_of (fun r => gL_law_520) ?_
  exact l_1I (n := 0) (s := 0) S A1 (jE_of (fun r => gL_masksIn) (l_wI S hC zk_0 (l_x2 he))) zk_0 zk_n (by have := rg_1 a; omega) (by have := rg_1 a; omega) (fun h1 K1 _ I1 => jE_mono (m_masksIn I1 a ea) fun v h' z => zO_A z) g
theorem l_scenesIn (S : lI h x b B G tp er sc Z) (A1 : lA sc (i4 + 1) w) (g : lG (d + 90) sc x i4 h Q) : jE (kL_law_576 (d + 90) 82 x (x + 369) (x + 404) i4 o5 o6 o7 o8 h) Q := by
  obtain ⟨a, ea⟩ : ∃ a : aA, a = (match aqp B.2.1.length w with | none => .inr 2 | some p => .inl (Int32.ofNat (ry_cs (G.1.1 p)))) := ⟨_, rfl⟩
  have he : ∀ e, a = .inr e → e = 2 := by
    intro e z
    rw [ea] at z
    repeat' split at z
    all_goals (cases z <;> first | rfl | exact Or.inl rfl | exact Or.inr rfl)
  have hC : jF (jm_D (d + 89) mX11_scenesIn [.ref x, .int w] h) (rv a) fun h' => jG (jn x 369) (rg a) h h' ∧ CI h' x B G tp er sc := by
    rw [c_scenesIn S.1, ea]
    cases aqp B.2.1.length w <;> first | exact jF_end (l_c1 S) | exact jF_end (l_c0 S)
  refine jE_of (fun r => gL_law_576) ?_
  exact l_1I (n := 0) (s := 0) S A1 (jE_of (fun r => gL_scenesIn) (l_wI S hC zk_0 (l_x2 he))) zk_0 zk_n (by have := rg_1 a; omega) (by have := rg_1 a; omega) (fun h1 K1 _ I1 => jE_mono (m_scenesIn I1 a ea) fun v h' z => zO_A z) g
theorem l_mostMasksAround (S : lI h x b B G tp er sc Z) (A1 : lA sc (i4 + 1) w) (g : lG (d + 90) sc x i4 h Q) : jE (kL_law_632 (d + 90) 82 x (x + 369) (x + 404) i4 o5 o6 o7 o8 h) Q := by
  obtain ⟨a, ea⟩ : ∃ a : aA, a = (match aqp B.2.1.length w with | none => .inr 2 | some p => .inl (Int32.ofNat (ry_mm (G.1.1 p) (G.1.1 p).length))) := ⟨_, rfl⟩
  have he : ∀ e, a = .inr e → e = 2 := by
    intro e z
    rw [ea] at z
    repeat' split at z
    all_goals (cases z <;> first | rfl | exact Or.inl rfl | exact Or.inr rfl)
  have hC : jF (jm_D (d + 89) mX11_mostMasksAround [.ref x, .int w] h) (rv a) fun h' => jG (jn x 369) (rg a) h h' ∧ CI h' x B G tp er sc := by
    rw [c_mostMasks S.1, ea]
    cases aqp B.2.1.length w <;> first | exact jF_end (l_c1 S) | exact jF_end (l_c0 S)
  refine jE_of (fun r => gL_law_632) ?_
  exact l_1I (n := 0) (s := 0) S A1 (jE_of (fun r => gL_mostMasksAround) (l_wI S hC zk_0 (l_x2 he))) zk_0 zk_n (by have := rg_1 a; omega) (by have := rg_1 a; omega) (fun h1 K1 _ I1 => jE_mono (m_mostMasks I1 a ea) fun v h' z => zO_A z) g
theorem l_standsIn (S : lI h x b B G tp er sc Z) (A1 : lA sc (i4 + 1) w) (A2 : lA sc (i4 + 2) w2) (g : lG (d + 90) sc x i4 h Q) : jE (kL_law_688 (d + 90) 82 x (x + 369) (x + 404) i4 o5 o6 o7 o8 h) Q := by
  obtain ⟨a, ea⟩ : ∃ a : aA, a = (match aqp B.2.1.length w, aqp B.1.length w2 with | some p, some q => .inl (Int32.ofNat (zst (G.1.1 p) (B.1.getD q 0 : Nat) (G.1.1 p).length)) | _, _ => .inr 2) := ⟨_, rfl⟩
  have he : ∀ e, a = .inr e → e = 2 := by
    intro e z
    rw [ea] at z
    repeat' split at z
    all_goals (cases z <;> first | rfl | exact Or.inl rfl | exact Or.inr rfl)
  have hC : jF (jm_D (d + 89) mX11_standsIn [.ref x, .int w, .int w2] h) (rv a) fun h' => jG (jn x 369) (rg a) h h' ∧ CI h' x B G tp er sc := by
    rw [c_standsIn S.1, ea]
    cases aqp B.2.1.length w <;> cases aqp B.1.length w2 <;> first | exact jF_end (l_c1 S) | exact jF_end (l_c0 S)
  refine jE_of (fun r => gL_law_688) ?_
  exact l_2I (n := 0) (s := 0) S A1 A2 (jE_of (fun r => gL_standsIn) (l_wI S hC zk_0 (l_x2 he))) zk_0 zk_n (by have := rg_1 a; omega) (by have := rg_1 a; omega) (fun h1 K1 _ I1 => jE_mono (m_standsIn I1 a ea) fun v h' z => zO_A z) g
theorem l_stepsDone (S : lI h x b B G tp er sc Z) (A1 : lA sc (i4 + 1) w) (g : lG (d + 90) sc x i4 h Q) : jE (kL_law_756 (d + 90) 82 x (x + 369) (x + 404) i4 o5 o6 o7 o8 h) Q := by
  obtain ⟨a, ea⟩ : ∃ a : aA, a = (match aqp B.2.1.length w with | none => .inr 2 | some p => .inl (G.1.2 p)) := ⟨_, rfl⟩
  have he : ∀ e, a = .inr e → e = 2 := by
    intro e z
    rw [ea] at z
    repeat' split at z
    all_goals (cases z <;> first | rfl | exact Or.inl rfl | exact Or.inr rfl)
  have hC : jF (jm_D (d + 89) mX11_stepsDone [.ref x, .int w] h) (rv a) fun h' => jG (jn x 369) (rg a) h h' ∧ CI h' x B G tp er sc := by
    rw [c_stepsDone S.1, ea]
    cases aqp B.2.1.length w <;> first | exact jF_end (l_c1 S) | exact jF_end (l_c0 S)
  refine jE_of (fun r => gL_law_756) ?_
  exact l_1I (n := 0) (s := 0) S A1 (jE_of (fun r => gL_stepsDone) (l_wI S hC zk_0 (l_x2 he))) zk_0 zk_n (by have := rg_1 a; omega) (by have := rg_1 a; omega) (fun h1 K1 _ I1 => jE_mono (m_stepsDone I1 a ea) fun v h' z => zO_A z) g
theorem l_isFinished (S : lI h x b B G tp er sc Z) (A1 : lA sc (i4 + 1) w) (g : lG (d + 90) sc x i4 h Q) : jE (kL_law_812 (d + 90) 82 x (x + 369) (x + 404) i4 o5 o6 o7 o8 h) Q := by
  obtain ⟨a, ea⟩ : ∃ a : aA, a = (match aqp B.2.1.length w with | none => .inr 2 | some p => .inl (jp (ry_r (G.1.1 p) = none))) := ⟨_, rfl⟩
  have he : ∀ e, a = .inr e → e = 2 := by
    intro e z
    rw [ea] at z
    repeat' split at z
    all_goals (cases z <;> first | rfl | exact Or.inl rfl | exact Or.inr rfl)
  have hC : jF (jm_D (d + 89) mX11_isFinished [.ref x, .int w] h) (rv a) fun h' => jG (jn x 369) (rg a) h h' ∧ CI h' x B G tp er sc := by
    rw [c_isFinished S.1, ea]
    cases aqp B.2.1.length w <;> first | exact jF_end (l_c1 S) | exact jF_end (l_c0 S)
  refine jE_of (fun r => gL_law_812) ?_
  exact l_1B (n := 0) (s := 0) S A1 (jE_of (fun r => gL_isFinished) (l_wB S hC zk_0 (l_x2 he))) zk_0 zk_n (by have := rg_1 a; omega) (by have := rg_1 a; omega) (fun h1 K1 _ I1 => jE_mono (m_isFinished I1 a ea) fun v h' z => zO_A z) g
theorem l_canStep (S : lI h x b B G tp er sc Z) (A1 : lA sc (i4 + 1) w) (g : lG (d + 90) sc x i4 h Q) : jE (kL_law_875 (d + 90) 82 x (x + 369) (x + 404) i4 o5 o6 o7 o8 h) Q := by
  obtain ⟨a, ea⟩ : ∃ a : aA, a = (match aqp B.2.1.length w with | none => .inr 2 | some p => .inl (jp (ry_can (G.1.1 p)))) := ⟨_, rfl⟩
  have he : ∀ e, a = .inr e → e = 2 := by
    intro e z
    rw [ea] at z
    repeat' split at z
    all_goals (cases z <;> first | rfl | exact Or.inl rfl | exact Or.inr rfl)
  have hC : jF (jm_D (d + 89) mX11_canStep [.ref x, .int w] h) (rv a) fun h' => jG (jn x 369) (rg a) h h' ∧ CI h' x B G tp er sc := by
    rw [ea]
    exact jF_mono (c_canStep S.1) fun h' z => ⟨jG_mn z.1 (fun c y => by unfold wS at y; unfold jn; omega), z.2⟩
  refine jE_of (fun r => gL_law_875) ?_
  exact l_1B (n := 0) (s := 0) S A1 (jE_of (fun r => gL_canStep) (l_wB S hC zk_0 (l_x2 he))) zk_0 zk_n (by have := rg_1 a; omega) (by have := rg_1 a; omega) (fun h1 K1 _ I1 => jE_mono (m_canStep I1 a ea) fun v h' z => zO_A z) g
theorem l_textLength (S : lI h x b B G tp er sc Z) (A1 : lA sc (i4 + 1) w) (g : lG (d + 90) sc x i4 h Q) : jE (kL_law_938 (d + 90) 82 x (x + 369) (x + 404) i4 o5 o6 o7 o8 h) Q := by
  obtain ⟨a, ea⟩ : ∃ a : aA, a = (match aqp B.2.1.length w with | none => .inr 2 | some p => .inl (Int32.ofNat (txs (G.1.1 p) (G.1.1 p).length))) := ⟨_, rfl⟩
  have he : ∀ e, a = .inr e → e = 2 := by
    intro e z
    rw [ea] at z
    repeat' split at z
    all_goals (cases z <;> first | rfl | exact Or.inl rfl | exact Or.inr rfl)
  have hC : jF (jm_D (d + 89) mX11_textLength [.ref x, .int w] h) (rv a) fun h' => jG (jn x 369) (rg a) h h' ∧ CI h' x B G tp er sc := by
    rw [ea]
    exact jF_mono (c_textLength S.1) fun h' z => ⟨jG_mn z.1 (fun c y => by unfold wS at y; unfold jn; omega), z.2.1⟩
  refine jE_of (fun r => gL_law_938) ?_
  exact l_1I (n := 0) (s := 0) S A1 (jE_of (fun r => gL_textLength) (l_wI S hC zk_0 (l_x2 he))) zk_0 zk_n (by have := rg_1 a; omega) (by have := rg_1 a; omega) (fun h1 K1 _ I1 => jE_mono (m_textLength I1 a ea) fun v h' z => zO_A z) g
theorem l_letterAt (S : lI h x b B G tp er sc Z) (A1 : lA sc (i4 + 1) w) (A2 : lA sc (i4 + 2) w2) (g : lG (d + 90) sc x i4 h Q) : jE (kL_law_994 (d + 90) 82 x (x + 369) (x + 404) i4 o5 o6 o7 o8 h) Q := by
  obtain ⟨a, ea⟩ : ∃ a : aA, a = (match aqp B.2.1.length w with | none => .inr 2 | some p => (match aqp (txs (G.1.1 p) (G.1.1 p).length) w2 with | none => .inr 2 | some k => .inl (Int32.ofNat ((tx (G.1.1 p) (G.1.1 p).length).1.getD k 0)))) := ⟨_, rfl⟩
  have he : ∀ e, a = .inr e → e = 2 := by
    intro e z
    rw [ea] at z
    repeat' split at z
    all_goals (cases z <;> first | rfl | exact Or.inl rfl | exact Or.inr rfl)
  refine jE_of (fun r => gL_law_994) ?_
  exact l_2I (n := 0) (s := 0) S A1 A2 (jE_of (fun r => gL_letterAt) (l_wI S (lw_S (c_letterAt S.1 a ea)) zk_0 (l_x2 he))) zk_0 zk_n (by have := rg_1 a; omega) (by have := rg_1 a; omega) (fun h1 K1 _ I1 => jE_mono (m_letterAt K1 I1 a ea) fun v h' z => zO_A z) g
theorem l_nextSceneAt (S : lI h x b B G tp er sc Z) (A1 : lA sc (i4 + 1) w) (g : lG (d + 90) sc x i4 h Q) : jE (kL_law_1062 (d + 90) 82 x (x + 369) (x + 404) i4 o5 o6 o7 o8 h) Q := by
  obtain ⟨a, ea⟩ : ∃ a : aA, a = (match aqp B.2.1.length w with | none => .inr 2 | some p => (match ry_r (G.1.1 p) with | none => .inr 0 | some k => .inl (Int32.ofNat (tx (G.1.1 p) k).1.length))) := ⟨_, rfl⟩
  have he : ∀ e, a = .inr e → e = 2 ∨ e = 0 := by
    intro e z
    rw [ea] at z
    repeat' split at z
    all_goals (cases z <;> first | rfl | exact Or.inl rfl | exact Or.inr rfl)
  refine jE_of (fun r => gL_law_1062) ?_
  exact l_1I (n := 0) (s := 0) S A1 (jE_of (fun r => gL_nextSceneAt) (l_wI S (lw_S (c_nextSceneAt S.1 a ea)) zk_0 (l_x20 he))) zk_0 zk_n (by have := rg_1 a; omega) (by have := rg_1 a; omega) (fun h1 K1 _ I1 => jE_mono (m_nextSceneAt K1 I1 a ea) fun v h' z => zO_A z) g
theorem l_renamedByStep (S : lI h x b B G tp er sc Z) (A1 : lA sc (i4 + 1) w) (g : lG (d + 90) sc x i4 h Q) : jE (kL_law_1118 (d + 90) 82 x (x + 369) (x + 404) i4 o5 o6 o7 o8 h) Q := by
  obtain ⟨a, ea⟩ : ∃ a : aA, a = (match aqp B.2.1.length w with | none => .inr 2 | some p => (match ry_r (G.1.1 p) with | none => .inr 0 | some k => if ry_sz (G.1.1 p) k ≤ 150 then .inl (Int32.ofNat (ry_sc (G.1.1 p) k)) else .inr 0)) := ⟨_, rfl⟩
  have he : ∀ e, a = .inr e → e = 2 ∨ e = 0 := by
    intro e z
    rw [ea] at z
    repeat' split at z
    all_goals (cases z <;> first | rfl | exact Or.inl rfl | exact Or.inr rfl)
  refine jE_of (fun r => gL_law_1118) ?_
  exact l_1I (n := 0) (s := 0) S A1 (jE_of (fun r => gL_renamedByStep) (l_wI S (lw_S (c_renamedByStep S.1 a ea)) zk_0 (l_x20 he))) zk_0 zk_n (by have := rg_1 a; omega) (by have := rg_1 a; omega) (fun h1 K1 _ I1 => jE_mono (m_renamedByStep I1 a ea) fun v h' z => zO_A z) g
theorem l_isSame (S : lI h x b B G tp er sc Z) (A1 : lA sc (i4 + 1) w) (A2 : lA sc (i4 + 2) w2) (g : lG (d + 90) sc x i4 h Q) : jE (kL_law_1174 (d + 90) 82 x (x + 369) (x + 404) i4 o5 o6 o7 o8 h) Q := by
  obtain ⟨a, ea⟩ : ∃ a : aA, a = (match aqp B.2.1.length w, aqp B.2.1.length w2 with | some p, some q => .inl (jp (ry_like (G.1.1 p) (G.1.1 q))) | _, _ => .inr 2) := ⟨_, rfl⟩
  have he : ∀ e, a = .inr e → e = 2 := by
    intro e z
    rw [ea] at z
    repeat' split at z
    all_goals (cases z <;> first | rfl | exact Or.inl rfl | exact Or.inr rfl)
  have hC : jF (jm_D (d + 89) mX11_isSame [.ref x, .int w, .int w2] h) (rv a) fun h' => jG (jn x 369) (rg a) h h' ∧ CI h' x B G tp er sc := by
    rw [c_isSame S.1, ea]
    cases aqp B.2.1.length w <;> cases aqp B.2.1.length w2 <;> first | exact jF_end (l_c1 S) | exact jF_end (l_c0 S)
  refine jE_of (fun r => gL_law_1174) ?_
  exact l_2B (n := 0) (s := 0) S A1 A2 (jE_of (fun r => gL_isSame) (l_wB S hC zk_0 (l_x2 he))) zk_0 zk_n (by have := rg_1 a; omega) (by have := rg_1 a; omega) (fun h1 K1 _ I1 => jE_mono (m_isSame I1 a ea) fun v h' z => zO_A z) g
theorem l_isAsTold (S : lI h x b B G tp er sc Z) (A1 : lA sc (i4 + 1) w) (g : lG (d + 90) sc x i4 h Q) : jE (kL_law_1249 (d + 90) 82 x (x + 369) (x + 404) i4 o5 o6 o7 o8 h) Q := by
  obtain ⟨a, ea⟩ : ∃ a : aA, a = (match aqp B.2.1.length w with | none => .inr 2 | some p => .inl (jp (ry_like (G.1.1 p) (B.2.2.1 p)))) := ⟨_, rfl⟩
  have he : ∀ e, a = .inr e → e = 2 := by
    intro e z
    rw [ea] at z
    repeat' split at z
    all_goals (cases z <;> first | rfl | exact Or.inl rfl | exact Or.inr rfl)
  have hC : jF (jm_D (d + 89) mX11_isAsTold [.ref x, .int w] h) (rv a) fun h' => jG (jn x 369) (rg a) h h' ∧ CI h' x B G tp er sc := by
    rw [c_isAsTold S.1, ea]
    cases aqp B.2.1.length w <;> first | exact jF_end (l_c1 S) | exact jF_end (l_c0 S)
  refine jE_of (fun r => gL_law_1249) ?_
  exact l_1B (n := 0) (s := 0) S A1 (jE_of (fun r => gL_isAsTold) (l_wB S hC zk_0 (l_x2 he))) zk_0 zk_n (by have := rg_1 a; omega) (by have := rg_1 a; omega) (fun h1 K1 _ I1 => jE_mono (m_isAsTold I1 a ea) fun v h' z => zO_A z) g
theorem l_doStep (S : lI h x b B G tp er sc Z) (A1 : lA sc (i4 + 1) w) (g : lG (d + 90) sc x i4 h Q) : jE (kL_law_1312 (d + 90) 82 x (x + 369) (x + 404) i4 o5 o6 o7 o8 h) Q := by
  obtain ⟨⟨a, S'⟩, ea⟩ : ∃ q : aA × aS, q = (match aqp B.2.1.length w with | none => (.inr 2, G.1) | some p => (match ry_r (G.1.1 p) with | none => (.inr 0, G.1) | some k => if ry_sz (G.1.1 p) k ≤ 150 then (.inl (Int32.ofNat (ry_st (G.1.1 p) k).length), (aco B (4, p, 0, none) G.1).2) else (.inr 0, G.1))) := ⟨_, rfl⟩
  have he : ∀ e, a = .inr e → e = 2 ∨ e = 0 := by
    intro e z
    rw [z] at ea
    repeat' split at ea
    all_goals (cases ea <;> first | rfl | exact Or.inl rfl | exact Or.inr rfl)
  refine jE_of (fun r => gL_law_1312) ?_
  exact l_1I (n := 0) (s := 0) S A1 (jE_of (fun r => gL_doStep) (l_wI S (lw_G (c_doStep S.1 a S' ea)) zk_0 (l_x20 he))) zk_0 zk_n (by have := rg_1 a; omega) (by have := rg_1 a; omega) (fun h1 K1 _ I1 => jE_mono (m_doStep I1 a S' ea) fun v h' z => zO_A z) g
theorem l_give (S : lI h x b B G tp er sc Z) (A1 : lA sc (i4 + 1) w) (A2 : lA sc (i4 + 2) w2) (g : lG (d + 90) sc x i4 h Q) : jE (kL_law_1368 (d + 90) 82 x (x + 369) (x + 404) i4 o5 o6 o7 o8 h) Q := by
  obtain ⟨⟨a, S'⟩, ea⟩ : ∃ q : aA × aS, q = (match aqp B.2.1.length w, aqp B.2.1.length w2 with | some p, some q => if 1 + (G.1.1 q).length + (G.1.1 p).length ≤ 150 then (.inl (Int32.ofNat (1 + (G.1.1 q).length + (G.1.1 p).length)), (aco B (5, q, p, none) G.1).2) else (.inr 0, G.1) | _, _ => (.inr 2, G.1)) := ⟨_, rfl⟩
  have he : ∀ e, a = .inr e → e = 2 ∨ e = 0 := by
    intro e z
    rw [z] at ea
    repeat' split at ea
    all_goals (cases ea <;> first | rfl | exact Or.inl rfl | exact Or.inr rfl)
  refine jE_of (fun r => gL_law_1368) ?_
  exact l_2I (n := 0) (s := 0) S A1 A2 (jE_of (fun r => gL_give) (l_wI S (lw_G (c_give S.1 a S' ea)) zk_0 (l_x20 he))) zk_0 zk_n (by have := rg_1 a; omega) (by have := rg_1 a; omega) (fun h1 K1 _ I1 => jE_mono (m_give I1 a S' ea) fun v h' z => zO_A z) g
theorem l_renew (S : lI h x b B G tp er sc Z) (A1 : lA sc (i4 + 1) w) (g : lG (d + 90) sc x i4 h Q) : jE (kL_law_1436 (d + 90) 82 x (x + 369) (x + 404) i4 o5 o6 o7 o8 h) Q := by
  obtain ⟨⟨a, S'⟩, ea⟩ : ∃ q : aA × aS, q = (match aqp B.2.1.length w with | none => (.inr 2, G.1) | some p => (.inl (Int32.ofNat (B.2.2.1 p).length), (aco B (7, p, 0, none) G.1).2)) := ⟨_, rfl⟩
  have he : ∀ e, a = .inr e → e = 2 := by
    intro e z
    rw [z] at ea
    repeat' split at ea
    all_goals (cases ea <;> first | rfl | exact Or.inl rfl | exact Or.inr rfl)
  refine jE_of (fun r => gL_law_1436) ?_
  exact l_1I (n := 0) (s := 0) S A1 (jE_of (fun r => gL_renew) (l_wI S (lw_G (c_renew S.1 a S' ea)) zk_0 (l_x2 he))) zk_0 zk_n (by have := rg_1 a; omega) (by have := rg_1 a; omega) (fun h1 K1 _ I1 => jE_mono (m_renew I1 a S' ea) fun v h' z => zO_A z) g
theorem l_passEvenings (S : lI h x b B G tp er sc Z) (A1 : lA sc (i4 + 1) w) (g : lG (d + 90) sc x i4 h Q) : jE (kL_law_1492 (d + 90) 82 x (x + 369) (x + 404) i4 o5 o6 o7 o8 h) Q := by
  obtain ⟨⟨a, S'⟩, ea⟩ : ∃ q : aA × aG, q = (match aqe w with | none => (.inr 1, G) | some n => (.inl (aes B n G 0).2, (aes B n G 0).1)) := ⟨_, rfl⟩
  have he : ∀ e, a = .inr e → e = 1 := by
    intro e z
    rw [z] at ea
    repeat' split at ea
    all_goals (cases ea <;> first | rfl | exact Or.inl rfl | exact Or.inr rfl)
  refine jE_of (fun r => gL_law_1492) ?_
  exact l_1I (n := 0) (s := 0) S A1 (jE_of (fun r => gL_passEvenings) (l_wI S (lw_G (c_passEvenings S.1 a S' ea)) zk1_0 (l_x1 he))) zk1_0 zk1_n (by have := rg_1 a; omega) (by have := rg_1 a; omega) (fun h1 K1 _ I1 => jE_mono (m_passEvenings I1 a S' ea) fun v h' z => zO_A z) g
theorem l_stepsToFinish (S : lI h x b B G tp er sc Z) (A1 : lA sc (i4 + 1) w) (g : lG (d + 90) sc x i4 h Q) : jE (kL_law_1548 (d + 90) 82 x (x + 369) (x + 404) i4 o5 o6 o7 o8 h) Q := by
  obtain ⟨a, ea⟩ : ∃ a : aA, a = (match aqp B.2.1.length w with | none => .inr 2 | some p => if ry_uf 40 (G.1.1 p) < 0 then .inr 0 else .inl (Int32.ofInt (ry_uf 40 (G.1.1 p)))) := ⟨_, rfl⟩
  have he : ∀ e, a = .inr e → e = 2 ∨ e = 0 := by
    intro e z
    rw [ea] at z
    repeat' split at z
    all_goals (cases z <;> first | rfl | exact Or.inl rfl | exact Or.inr rfl)
  refine jE_of (fun r => gL_law_1548) ?_
  exact l_1I (n := 0) (s := 0) S A1 (jE_of (fun r => gL_stepsToFinish) (l_wI S (lw_S (c_stepsToFinish S.1 a ea)) zk_0 (l_x20 he))) zk_0 zk_n (by have := rg_1 a; omega) (by have := rg_1 a; omega) (fun h1 K1 _ I1 => jE_mono (m_stepsToFinish I1 a ea) fun v h' z => zO_A z) g
theorem l_sizeAfterSteps (S : lI h x b B G tp er sc Z) (A1 : lA sc (i4 + 1) w) (A2 : lA sc (i4 + 2) w2) (g : lG (d + 90) sc x i4 h Q) : jE (kL_law_1604 (d + 90) 82 x (x + 369) (x + 404) i4 o5 o6 o7 o8 h) Q := by
  obtain ⟨a, ea⟩ : ∃ a : aA, a = (match aqp B.2.1.length w with | none => .inr 2 | some p => (match aqp 41 w2 with | none => .inr 1 | some n => .inl (Int32.ofNat (ry_go n (G.1.1 p)).length))) := ⟨_, rfl⟩
  have he : ∀ e, a = .inr e → e = 2 ∨ e = 1 := by
    intro e z
    rw [ea] at z
    repeat' split at z
    all_goals (cases z <;> first | rfl | exact Or.inl rfl | exact Or.inr rfl)
  refine jE_of (fun r => gL_law_1604) ?_
  exact l_2I (n := 0) (s := 0) S A1 A2 (jE_of (fun r => gL_sizeAfterSteps) (l_wI S (lw_S (c_sizeAfterSteps S.1 a ea)) zk_0 (l_x21 he))) zk_0 zk_n (by have := rg_1 a; omega) (by have := rg_1 a; omega) (fun h1 K1 _ I1 => jE_mono (m_sizeAfterSteps I1 a ea) fun v h' z => zO_A z) g
theorem l_endSame (S : lI h x b B G tp er sc Z) (A1 : lA sc (i4 + 1) w) (A2 : lA sc (i4 + 2) w2) (g : lG (d + 90) sc x i4 h Q) : jE (kL_law_1672 (d + 90) 82 x (x + 369) (x + 404) i4 o5 o6 o7 o8 h) Q := by
  obtain ⟨a, ea⟩ : ∃ a : aA, a = (match aqp B.2.1.length w, aqp B.2.1.length w2 with | some p, some q => .inl (jp (ry_like (ry_go 40 (G.1.1 p)) (ry_go 40 (G.1.1 q)))) | _, _ => .inr 2) := ⟨_, rfl⟩
  have he : ∀ e, a = .inr e → e = 2 := by
    intro e z
    rw [ea] at z
    repeat' split at z
    all_goals (cases z <;> first | rfl | exact Or.inl rfl | exact Or.inr rfl)
  refine jE_of (fun r => gL_law_1672) ?_
  exact l_2B (n := 0) (s := 0) S A1 A2 (jE_of (fun r => gL_endSame) (l_wB S (lw_S (c_endSame S.1 a ea)) zk_0 (l_x2 he))) zk_0 zk_n (by have := rg_1 a; omega) (by have := rg_1 a; omega) (fun h1 K1 _ I1 => jE_mono (m_endSame I1 a ea) fun v h' z => zO_A z) g
theorem l_sizeAfterEvenings (S : lI h x b B G tp er sc Z) (A1 : lA sc (i4 + 1) w) (A2 : lA sc (i4 + 2) w2) (g : lG (d + 90) sc x i4 h Q) : jE (kL_law_1747 (d + 90) 82 x (x + 369) (x + 404) i4 o5 o6 o7 o8 h) Q := by
  obtain ⟨a, ea⟩ : ∃ a : aA, a = (match aqp B.2.1.length w with | none => .inr 2 | some p => (match aqe w2 with | none => .inr 1 | some n => .inl (Int32.ofNat ((aes B n G 0).1.1.1 p).length))) := ⟨_, rfl⟩
  have he : ∀ e, a = .inr e → e = 2 ∨ e = 1 := by
    intro e z
    rw [ea] at z
    repeat' split at z
    all_goals (cases z <;> first | rfl | exact Or.inl rfl | exact Or.inr rfl)
  refine jE_of (fun r => gL_law_1747) ?_
  exact l_2I (n := 0) (s := 0) S A1 A2 (jE_of (fun r => gL_sizeAfterEvenings) (l_wI S (lw_S (c_sizeAfterEvenings S.1 a ea)) zk_0 (l_x21 he))) zk_0 zk_n (by have := rg_1 a; omega) (by have := rg_1 a; omega) (fun h1 K1 _ I1 => jE_mono (m_sizeAfterEvenings I1 a ea) fun v h' z => zO_A z) g
theorem l_eveningsUntilFinished (S : lI h x b B G tp er sc Z) (A1 : lA sc (i4 + 1) w) (g : lG (d + 90) sc x i4 h Q) : jE (kL_law_1815 (d + 90) 82 x (x + 369) (x + 404) i4 o5 o6 o7 o8 h) Q := by
  obtain ⟨a, ea⟩ : ∃ a : aA, a = (match aqp B.2.1.length w with | none => .inr 2 | some p => .inl (Int32.ofInt (auf B p 20 0 G))) := ⟨_, rfl⟩
  have he : ∀ e, a = .inr e → e = 2 := by
    intro e z
    rw [ea] at z
    repeat' split at z
    all_goals (cases z <;> first | rfl | exact Or.inl rfl | exact Or.inr rfl)
  refine jE_of (fun r => gL_law_1815) ?_
  exact l_1I (n := 0) (s := 0) S A1 (jE_of (fun r => gL_eveningsUntilFinished) (l_wI S (lw_S (c_untilFinished S.1 a ea)) zk_0 (l_x2 he))) zk_0 zk_n (by have := rg_1 a; omega) (by have := rg_1 a; omega) (fun h1 K1 _ I1 => jE_mono (m_untilFinished I1 a ea) fun v h' z => zO_A z) g
theorem l_bestGift (S : lI h x b B G tp er sc Z) (A1 : lA sc (i4 + 1) w) (g : lG (d + 90) sc x i4 h Q) : jE (kL_law_1871 (d + 90) 82 x (x + 369) (x + 404) i4 o5 o6 o7 o8 h) Q := by
  obtain ⟨a, ea⟩ : ∃ a : aA, a = (match aqp B.2.1.length w with | none => .inr 2 | some p => .inl (Int32.ofInt (abg G.1 p B.2.1.length).1)) := ⟨_, rfl⟩
  have he : ∀ e, a = .inr e → e = 2 := by
    intro e z
    rw [ea] at z
    repeat' split at z
    all_goals (cases z <;> first | rfl | exact Or.inl rfl | exact Or.inr rfl)
  refine jE_of (fun r => gL_law_1871) ?_
  exact l_1I (n := 0) (s := 0) S A1 (jE_of (fun r => gL_bestGift) (l_wI S (lw_S (c_bestGift S.1 a ea)) zk_0 (l_x2 he))) zk_0 zk_n (by have := rg_1 a; omega) (by have := rg_1 a; omega) (fun h1 K1 _ I1 => jE_mono (m_bestGift I1 a ea) fun v h' z => zO_A z) g
end ZL
