/-! ===== LEVEL 3: MaskPlays, what it holds ===== -/
/-- a book, whatever it holds -/
def bZ (h : jm_H) (b : Nat) : Prop := ∃ as ps nc cs, bC h b as ps nc cs ∧ (∀ p, p < 12 → ∃ l, pU h (b + 13 + 5 * p) l) ∧ ∀ n, n < 16 → ∃ x1 x2 x3 x4, oC h (b + 73 + n) 2 [.int x1, .int x2, .int x3, .int x4]
/-- the keywords as numbers -/
def kwn (i : Nat) : Nat := [2054073, 826938, 352, 660572, 989988, 367711, 755, 34007537, 1176170, 14364291892, 975695, 24441183, 36629575, 593671456874, 964262, 19741, 1891, 573, 18144, 17858].getD i 0
/-- the tokens -/
def kT (h : jm_H) (x : Nat) (cn ln : Int32) (KD PL : Nat → Int32) (WD : Nat → Int64) (VL MK : Nat → Int32) : Prop := ∃ KW, oC h (x + 105) 9 [.ref (x + 106), .ref (x + 107), .ref (x + 108), .ref (x + 109), .ref (x + 110), .ref (x + 111), .int cn, .ref (x + 104), .int ln] ∧ lC h (x + 106) 20 KW ∧ (∀ i, i < 20 → KW i = nm (kwn i : Nat)) ∧ aC h (x + 107) 0 401 KD ∧ aC h (x + 108) 0 401 PL ∧ lC h (x + 109) 401 WD ∧ aC h (x + 110) 0 401 VL ∧ aC h (x + 111) 0 401 MK
/-- what reads: tokens, grammar, telling -/
def kZ (h : jm_H) (x : Nat) : Prop := (∃ cn ln KD PL WD VL MK, kT h x cn ln KD PL WD VL MK) ∧ (∃ bb at', oC h (x + 216) 1 [.ref (x + 105), .ref bb, .int at']) ∧ ∃ (st : List Nat) (pt bb i : Nat) (MA : Nat → Int64), oC h (x + 217) 6 [.ref (x + 105), .ref (x + 218), .int (Int32.ofNat st.length), .int (Int32.ofNat pt), .ref bb, .int (Int32.ofNat i)] ∧ lC h (x + 218) 8 MA ∧ (∀ k, k < st.length → MA k = nm (st.getD (st.length - 1 - k) 0 : Nat)) ∧ ∀ w ∈ st, w < q10
def CF (x bk sp tl : Nat) (er : Int) : List Value := [.ref (x + 104), .int (Int32.ofNat tl), .int (Int32.ofInt er), .ref (x + 105), .ref (x + 216), .ref (x + 217), .ref bk, .ref sp, .ref (x + 201), .ref (x + 219), .ref (x + 294), .ref (x + 90), .ref (x + 95), .ref (x + 100)]
/-- the tape -/
def tpR (tp : List Nat) (TP : Nat → Int32) : Prop := tp.length ≤ 2000 ∧ ∀ i, i < tp.length → tp.getD i 0 < 256 ∧ TP i &&& 255 = Int32.ofNat (tp.getD i 0)
/-- what only reading changes -/
def CB (h : jm_H) (x : Nat) (B : aB) (tp : List Nat) (er : Int) (sc : Nat × (Nat → Int32)) : Prop :=
  ∃ bk sp TP, (bk = x + 1 ∧ sp = x + 112 ∨ bk = x + 112 ∧ sp = x + 1) ∧ oC h x 10 (CF x bk sp tp.length er) ∧ aC h (x + 104) 2 2000 TP ∧ tpR tp TP ∧ bA h bk B ∧ bZ h sp ∧ kZ h x ∧ kO h sc
/-- what serves for one call -/
def CS (h : jm_H) (x : Nat) : Prop := tI h (x + 201) ∧ (∃ S e d, sA h (x + 294) (x + 201) S e d 0) ∧ (∃ l, pU h (x + 90) l) ∧ (∃ l, pU h (x + 95) l) ∧ eI h (x + 100)
/-- a MaskPlays -/
def CI (h : jm_H) (x : Nat) (B : aB) (G : aG) (tp : List Nat) (er : Int) (sc : Nat × (Nat → Int32)) : Prop :=
  CB h x B tp er sc ∧ sA h (x + 219) (x + 201) G.1 G.2.1 G.2.2 B.2.1.length ∧ CS h x ∧ gS B G.1
/-- nothing but some cells has changed, and so many exceptions were made -/
def jG (U : Nat → Prop) (k : Nat) (h h' : jm_H) : Prop := h'.1 = h.1 + k ∧ h'.2.1 = h.2.1 + 6 * k ∧ ∀ a, ¬ U a → h'.2.2 a = h.2.2 a
theorem jG_0 {U : Nat → Prop} {h h' : jm_H} (F : jS U h h') : jG U 0 h h' := ⟨F.1, F.2.1, F.2.2⟩
theorem jG_1 {U : Nat → Prop} {h h' : jm_H} (F : jS U h h') : jG U 1 h (jm_gap h') := ⟨congrArg (· + 1) F.1, congrArg (· + 6) F.2.1, F.2.2⟩
/-- the cells that serve -/
def wS (x a : Nat) : Prop := (x + 90 ≤ a ∧ a < x + 104) ∨ (x + 201 ≤ a ∧ a < x + 216) ∨ (x + 294 ≤ a ∧ a < x + 369)
/-- those, and the stage -/
def wG (x a : Nat) : Prop := wS x a ∨ (x + 219 ≤ a ∧ a < x + 294)
section CL
variable {h h' : jm_H} {d x : Nat} {B : aB} {G : aG} {tp : List Nat} {er : Int} {sc : Nat × (Nat → Int32)} {U : Nat → Prop} {i j : Int32}
theorem bZ_tr {b : Nat} (H : bZ h b) (F : jS U h h') (D : ∀ y, U y → jn b 89 y → False) : bZ h' b := by
  obtain ⟨as, ps, nc, cs, a1, a2, a3⟩ := H
  refine ⟨as, ps, nc, cs, bC_tr a1 F fun y z1 z2 => D y z1 (by unfold jn at *; omega), fun p hp => ?_, fun n hn => ?_⟩
  · obtain ⟨l, q⟩ := a2 p hp
    exact ⟨l, pU_tr q F fun y z1 z2 => D y z1 (by unfold jn at *; omega)⟩
  · obtain ⟨x1, x2, x3, x4, q⟩ := a3 n hn
    exact ⟨x1, x2, x3, x4, oC_tr q F fun z => D _ z (by unfold jn at *; omega)⟩
theorem kT_tr {cn ln : Int32} {KD PL : Nat → Int32} {WD : Nat → Int64} {VL MK : Nat → Int32} (H : kT h x cn ln KD PL WD VL MK) (F : jS U h h') (D : ∀ y, U y → jn (x + 105) 7 y → False) : kT h' x cn ln KD PL WD VL MK := by
  obtain ⟨KW, a1, a2, a3, a4, a5, a6, a7, a8⟩ := H
  exact ⟨KW, oC_tr a1 F fun z => D _ z (by unfold jn; omega), lC_tr a2 F fun z => D _ z (by unfold jn; omega), a3, aC_tr a4 F fun z => D _ z (by unfold jn; omega), aC_tr a5 F fun z => D _ z (by unfold jn; omega), lC_tr a6 F fun z => D _ z (by unfold jn; omega), aC_tr a7 F fun z => D _ z (by unfold jn; omega), aC_tr a8 F fun z => D _ z (by unfold jn; omega)⟩
theorem kZ_tr (H : kZ h x) (F : jS U h h') (D : ∀ y, U y → (jn (x + 105) 7 y ∨ jn (x + 216) 3 y) → False) : kZ h' x := by
  obtain ⟨⟨cn, ln, KD, PL, WD, VL, MK, a1⟩, ⟨bb, at', a2⟩, mo, pt, b3, t3, MA, a3, a4, a5⟩ := H
  exact ⟨⟨cn, ln, KD, PL, WD, VL, MK, kT_tr a1 F fun y z1 z2 => D y z1 (Or.inl z2)⟩, ⟨bb, at', oC_tr a2 F fun z => D _ z (Or.inr (by unfold jn; omega))⟩, mo, pt, b3, t3, MA, oC_tr a3 F fun z => D _ z (Or.inr (by unfold jn; omega)), lC_tr a4 F fun z => D _ z (Or.inr (by unfold jn; omega)), a5⟩
theorem CB_tr (H : CB h x B tp er sc) (F : jS U h h') (D : ∀ y, U y → wG x y) : CB h' x B tp er sc := by
  obtain ⟨bk, sp, TP, a1, a2, a3, a4, a5, a6, a7, a8⟩ := H
  have e : ∀ y, U y → ¬ (y = x ∨ jn (x + 1) 89 y ∨ y = x + 104 ∨ jn (x + 105) 7 y ∨ jn (x + 112) 89 y ∨ jn (x + 216) 3 y ∨ y < 128) := fun y z1 z2 => by
    have := D y z1
    have h8 := a2.2
    unfold wG wS at this
    unfold jn at z2
    omega
  refine ⟨bk, sp, TP, a1, oC_tr a2 F fun z => e _ z (Or.inl rfl), aC_tr a3 F fun z => e _ z (by unfold jn; omega), a4, bA_tr a5 F fun y z1 z2 => e y z1 ?_, bZ_tr a6 F fun y z1 z2 => e y z1 ?_, kZ_tr a7 F fun y z1 z2 => e y z1 ?_, kO_tr a8 F fun y z1 => by have := e y z1; omega⟩
  · rcases a1 with ⟨rfl, rfl⟩ | ⟨rfl, rfl⟩
    · exact Or.inr (Or.inl z2)
    · exact Or.inr (Or.inr (Or.inr (Or.inr (Or.inl z2))))
  · rcases a1 with ⟨rfl, rfl⟩ | ⟨rfl, rfl⟩
    · exact Or.inr (Or.inr (Or.inr (Or.inr (Or.inl z2))))
    · exact Or.inr (Or.inl z2)
  · rcases z2 with z2 | z2
    · exact Or.inr (Or.inr (Or.inr (Or.inl z2)))
    · exact Or.inr (Or.inr (Or.inr (Or.inr (Or.inr (Or.inl z2)))))
theorem CB_ob (H : CB h x B tp er sc) : jm_ob h x 11 = true := by
  obtain ⟨bk, sp, TP, a1, a2, -⟩ := H
  exact oC_ob a2 rfl
theorem CB_x (H : CB h x B tp er sc) : 128 ≤ x := by
  obtain ⟨bk, sp, TP, a1, a2, -⟩ := H
  exact a2.2
theorem CB_g (H : CB h x B tp er sc) : gB B := by
  obtain ⟨bk, sp, TP, a1, a2, a3, a4, a5, -⟩ := H
  exact bA_g a5
theorem CB_bk (H : CB h x B tp er sc) : ∃ bk, jr_R h x 10 6 2 = some bk ∧ bA h bk B ∧ (bk = x + 1 ∨ bk = x + 112) := by
  obtain ⟨bk, sp, TP, a1, a2, a3, a4, a5, a6⟩ := H
  exact ⟨bk, oC_R a2 rfl, a5, by omega⟩
theorem CB_st (H : CB h x B tp er sc) : jr_R h x 10 8 2 = some (x + 201) ∧ jr_R h x 10 9 2 = some (x + 219) ∧ jr_R h x 10 10 2 = some (x + 294) ∧ jr_R h x 10 11 2 = some (x + 90) ∧ jr_R h x 10 12 2 = some (x + 95) ∧ jr_R h x 10 13 2 = some (x + 100) := by
  obtain ⟨bk, sp, TP, a1, a2, -⟩ := H
  exact ⟨oC_R a2 rfl, oC_R a2 rfl, oC_R a2 rfl, oC_R a2 rfl, oC_R a2 rfl, oC_R a2 rfl⟩
theorem CB_K (H : CB h x B tp er sc) : kO h sc := by
  obtain ⟨bk, sp, TP, a1, a2, a3, a4, a5, a6, a7, a8⟩ := H
  exact a8
/-- a number of a play -/
def aqp (pc : Nat) (i : Int32) : Option Nat := if 0 ≤ i.toInt ∧ i.toInt < pc then some i.toInt.toNat else none
theorem aqp_s {pc p : Nat} (h : aqp pc i = some p) (hb : pc < 1000) : i = Int32.ofNat p ∧ p < pc := by
  unfold aqp at h
  split at h
  · cases h
    rename_i q
    refine ⟨?_, by omega⟩
    rw [← Int32.toInt_inj, jw_i (by omega)]
    omega
  · cases h
theorem aqp_n {pc : Nat} (h : aqp pc i = none) (hb : pc < 1000) : ¬ (¬ i < 0 ∧ i < Int32.ofNat pc) := by
  unfold aqp at h
  split at h
  · cases h
  · rename_i q
    rw [Int32.lt_iff_toInt_lt, Int32.lt_iff_toInt_lt, jw_i (by omega)]
    have e0 : (0 : Int32).toInt = 0 := rfl
    rw [e0]
    omega
/-- an answer: a number, or what is thrown -/
abbrev aA : Type := Int32 ⊕ Nat
def rv : aA → Option Value ⊕ Nat
  | .inl a => .inl (some (.int a))
  | .inr n => .inr n
def rg : aA → Nat
  | .inl _ => 0
  | .inr _ => 1
theorem bA_1 {b : Nat} (H : bA h b B) : jr_I h b 0 1 0 = some (Int32.ofNat B.2.1.length) := by
  obtain ⟨cs, a1, -⟩ := H
  exact bC_1 a1
theorem bA_0 {b : Nat} (H : bA h b B) : jr_I h b 0 0 0 = some (Int32.ofNat B.1.length) := by
  obtain ⟨cs, a1, -⟩ := H
  exact bC_0 a1
theorem bA_2 {b : Nat} (H : bA h b B) : jr_I h b 0 2 0 = some (Int32.ofNat B.2.2.2.length) := by
  obtain ⟨cs, a1, -⟩ := H
  exact bC_2 a1
theorem c_checkNo (H : CB h x B tp er sc) (hi : aqp B.2.1.length i = none) : jm_D (d + 1) mX11_checkPlay [.ref x, .int i] h = some (.inr 2, jm_gap h) := by
  obtain ⟨bk, e1, HB, -⟩ := CB_bk H
  have hq := aqp_n hi (by have := (CB_g H).2.1; omega)
  apply gX11_checkPlay
  simp only [e1, bA_1 HB, Option.bind_some]
  by_cases c : i < 0
  · rw [if_pos c]
  · rw [if_neg c, if_neg (fun z => hq ⟨c, z⟩)]
theorem c_check {p : Nat} (H : CB h x B tp er sc) (hp : p < B.2.1.length) : jm_D (d + 1) mX11_checkPlay [.ref x, .int (Int32.ofNat p)] h = some (.inl none, h) := by
  obtain ⟨bk, e1, HB, -⟩ := CB_bk H
  have := (CB_g H).2.1
  apply gX11_checkPlay
  simp only [e1, bA_1 HB, Option.bind_some]
  rw [if_neg (by rw [jw_neg (by omega)]; exact id), if_pos (by rw [jw_lt (by omega) (by omega)]; exact hp)]
theorem jc_Vx {o : Option jm_R} {n : Nat} {h' : jm_H} {k : jm_H → Option jm_R} (e : o = some (.inr n, h')) : jc_V o k jx = some (.inr n, h') := by rw [e]; rfl
theorem jc_Rx {o : Option jm_R} {n : Nat} {h' : jm_H} {k : Nat → jm_H → Option jm_R} (e : o = some (.inr n, h')) : jc_R o k jx = some (.inr n, h') := by rw [e]; rfl
theorem jc_Ix {o : Option jm_R} {n : Nat} {h' : jm_H} {k : Int32 → jm_H → Option jm_R} (e : o = some (.inr n, h')) : jc_I o k jx = some (.inr n, h') := by rw [e]; rfl
theorem c_partNo (H : CB h x B tp er sc) (hi : aqp B.2.1.length i = none) : jm_D (d + 2) mX11_partOf [.ref x, .int i] h = some (.inr 2, jm_gap h) := by
  apply gX11_partOf
  rw [jm_O_eq (CB_ob H), jc_Vx (c_checkNo H hi)]
theorem c_part {p : Nat} (H : CI h x B G tp er sc) (hp : p < B.2.1.length) : jm_D (d + 2) mX11_partOf [.ref x, .int (Int32.ofNat p)] h = some (.inl (some (.ref (x + 234 + 5 * p))), h) := by
  have h12 := (CB_g H.1).2.1
  obtain ⟨e8, e9, -⟩ := CB_st H.1
  apply gX11_partOf
  simp only [jm_O_eq (CB_ob H.1), c_check H.1 hp, jc_V_eq, e9, Option.bind_some, jm_O_eq (sA_ob H.2.1), g_partAt H.2.1.1 (show p < 12 by omega), jc_R_eq]
theorem CI_part {p : Nat} (H : CI h x B G tp er sc) (hp : p < B.2.1.length) : pL h (x + 234 + 5 * p) (G.1.1 p) := gC_part H.2.1.1 hp
theorem CI_gR {p : Nat} (H : CI h x B G tp er sc) (hp : p < B.2.1.length) : gR (G.1.1 p) := H.2.2.2 p hp
theorem CI_12 (H : CI h x B G tp er sc) : B.2.1.length ≤ 12 := (CB_g H.1).2.1
/-- readers of one play -/
theorem c_sizeOf (H : CI h x B G tp er sc) : jm_D (d + 3) mX11_sizeOf [.ref x, .int i] h = some (match aqp B.2.1.length i with | none => (.inr 2, jm_gap h) | some p => (.inl (some (.int (Int32.ofNat (G.1.1 p).length))), h)) := by
  have h12 := CI_12 H
  apply gX11_sizeOf
  rw [jm_O_eq (CB_ob H.1)]
  cases q : aqp B.2.1.length i with
  | none => rw [jc_Rx (c_partNo H.1 q)]
  | some p =>
    obtain ⟨rfl, hp⟩ := aqp_s q (by omega)
    simp only [c_part H hp, jc_R_eq, pU_n (pL_U (CI_part H hp)), Option.bind_some]
theorem c_masksIn (H : CI h x B G tp er sc) : jm_D (d + 3) mX11_masksIn [.ref x, .int i] h = some (match aqp B.2.1.length i with | none => (.inr 2, jm_gap h) | some p => (.inl (some (.int (Int32.ofNat (ry_cm (G.1.1 p))))), h)) := by
  have h12 := CI_12 H
  apply gX11_masksIn
  rw [jm_O_eq (CB_ob H.1)]
  cases q : aqp B.2.1.length i with
  | none => rw [jc_Rx (c_partNo H.1 q)]
  | some p =>
    obtain ⟨rfl, hp⟩ := aqp_s q (by omega)
    simp only [c_part H hp, jc_R_eq, jm_O_eq (pU_ob (pL_U (CI_part H hp))), pU_countOf (pL_U (CI_part H hp)), ky_mask, jc_I_eq]
theorem c_scenesIn (H : CI h x B G tp er sc) : jm_D (d + 3) mX11_scenesIn [.ref x, .int i] h = some (match aqp B.2.1.length i with | none => (.inr 2, jm_gap h) | some p => (.inl (some (.int (Int32.ofNat (ry_cs (G.1.1 p))))), h)) := by
  have h12 := CI_12 H
  apply gX11_scenesIn
  rw [jm_O_eq (CB_ob H.1)]
  cases q : aqp B.2.1.length i with
  | none => rw [jc_Rx (c_partNo H.1 q)]
  | some p =>
    obtain ⟨rfl, hp⟩ := aqp_s q (by omega)
    simp only [c_part H hp, jc_R_eq, jm_O_eq (pU_ob (pL_U (CI_part H hp))), pU_countOf (pL_U (CI_part H hp)), ky_scene, jc_I_eq]
theorem c_mostMasks (H : CI h x B G tp er sc) : jm_D (d + 4) mX11_mostMasksAround [.ref x, .int i] h = some (match aqp B.2.1.length i with | none => (.inr 2, jm_gap h) | some p => (.inl (some (.int (Int32.ofNat (ry_mm (G.1.1 p) (G.1.1 p).length)))), h)) := by
  have h12 := CI_12 H
  apply gX11_mostMasksAround
  rw [jm_O_eq (CB_ob H.1)]
  cases q : aqp B.2.1.length i with
  | none => rw [jc_Rx (c_partNo (d := d + 1) H.1 q)]
  | some p =>
    obtain ⟨rfl, hp⟩ := aqp_s q (by omega)
    simp only [c_part (d := d + 1) H hp, jc_R_eq, jm_O_eq (pU_ob (pL_U (CI_part H hp))), pL_mostMasks (CI_part H hp) (CI_gR H hp).1, jc_I_eq]
theorem c_stepsDone (H : CI h x B G tp er sc) : jm_D (d + 2) mX11_stepsDone [.ref x, .int i] h = some (match aqp B.2.1.length i with | none => (.inr 2, jm_gap h) | some p => (.inl (some (.int (G.1.2 p))), h)) := by
  have h12 := CI_12 H
  apply gX11_stepsDone
  rw [jm_O_eq (CB_ob H.1)]
  cases q : aqp B.2.1.length i with
  | none => rw [jc_Vx (c_checkNo H.1 q)]
  | some p =>
    obtain ⟨rfl, hp⟩ := aqp_s q (by omega)
    obtain ⟨e8, e9, -⟩ := CB_st H.1
    simp only [c_check H.1 hp, jc_V_eq, e9, Option.bind_some, jm_O_eq (sA_ob H.2.1), g_stepsAt H.2.1.1 hp, jc_I_eq]
theorem c_isFinished (H : CI h x B G tp er sc) : jm_D (d + 3) mX11_isFinished [.ref x, .int i] h = some (match aqp B.2.1.length i with | none => (.inr 2, jm_gap h) | some p => (.inl (some (.int (jp (ry_r (G.1.1 p) = none)))), h)) := by
  have h12 := CI_12 H
  apply gX11_isFinished
  rw [jm_O_eq (CB_ob H.1)]
  cases q : aqp B.2.1.length i with
  | none => rw [jc_Rx (c_partNo H.1 q)]
  | some p =>
    obtain ⟨rfl, hp⟩ := aqp_s q (by omega)
    simp only [c_part H hp, jc_R_eq, jm_O_eq (pU_ob (pL_U (CI_part H hp))), pU_readyScene (pL_U (CI_part H hp)), jc_I_eq]
    by_cases c4 : ry_r (G.1.1 p) = none
    · rw [if_pos ((ro_neg (CI_gR H hp).2.2).mpr c4), jp_T c4]
    · rw [if_neg (mt (ro_neg (CI_gR H hp).2.2).mp c4), jp_F c4]
theorem c_isAsTold (H : CI h x B G tp er sc) : jm_D (d + 4) mX11_isAsTold [.ref x, .int i] h = some (match aqp B.2.1.length i with | none => (.inr 2, jm_gap h) | some p => (.inl (some (.int (jp (ry_like (G.1.1 p) (B.2.2.1 p))))), h)) := by
  have h12 := CI_12 H
  apply gX11_isAsTold
  rw [jm_O_eq (CB_ob H.1)]
  cases q : aqp B.2.1.length i with
  | none => rw [jc_Rx (c_partNo (d := d + 1) H.1 q)]
  | some p =>
    obtain ⟨rfl, hp⟩ := aqp_s q (by omega)
    obtain ⟨bk, e1, HB, -⟩ := CB_bk H.1
    have hT := (bA_g HB).2.2.2.2.2.1 p hp
    simp only [c_part (d := d + 1) H hp, jc_R_eq, e1, Option.bind_some, jm_O_eq (bA_ob HB), b_told HB (show p < 12 by omega), jm_O_eq (pU_ob (pL_U (CI_part H hp))), pL_isLike (CI_part H hp) (pL_U (bA_part HB hp)) (CI_gR H hp).1 (gW_gN (CI_gR H hp).2.1) (gW_gN hT.2.1), jc_I_eq, jp_Y]
theorem c_isSame (H : CI h x B G tp er sc) : jm_D (d + 4) mX11_isSame [.ref x, .int i, .int j] h = some (match aqp B.2.1.length i, aqp B.2.1.length j with | some p, some q => (.inl (some (.int (jp (ry_like (G.1.1 p) (G.1.1 q))))), h) | _, _ => (.inr 2, jm_gap h)) := by
  have h12 := CI_12 H
  apply gX11_isSame
  rw [jm_O_eq (CB_ob H.1)]
  cases q : aqp B.2.1.length i with
  | none => rw [jc_Rx (c_partNo (d := d + 1) H.1 q)]
  | some p =>
    obtain ⟨rfl, hp⟩ := aqp_s q (by omega)
    simp only [c_part (d := d + 1) H hp, jc_R_eq, jm_O_eq (CB_ob H.1)]
    cases q2 : aqp B.2.1.length j with
    | none => rw [jc_Rx (c_partNo (d := d + 1) H.1 q2)]
    | some p2 =>
      obtain ⟨rfl, hp2⟩ := aqp_s q2 (by omega)
      simp only [c_part (d := d + 1) H hp2, jc_R_eq, jm_O_eq (pU_ob (pL_U (CI_part H hp))), pL_isLike (CI_part H hp) (pL_U (CI_part H hp2)) (CI_gR H hp).1 (gW_gN (CI_gR H hp).2.1) (gW_gN (CI_gR H hp2).2.1), jc_I_eq, jp_Y]
theorem c_standsIn (H : CI h x B G tp er sc) : jm_D (d + 3) mX11_standsIn [.ref x, .int i, .int j] h = some (match aqp B.2.1.length i, aqp B.1.length j with | some p, some q => (.inl (some (.int (Int32.ofNat (jcnt (fun k => decide ((G.1.1 p).getD k 0 = (B.1.getD q 0 : Nat) ∧ ry_w (G.1.1 p) k k < 0)) (G.1.1 p).length)))), h) | _, _ => (.inr 2, jm_gap h)) := by
  have h12 := CI_12 H
  have h8 := (CB_g H.1).1
  apply gX11_standsIn
  rw [jm_O_eq (CB_ob H.1)]
  cases q : aqp B.2.1.length i with
  | none => rw [jc_Rx (c_partNo H.1 q)]
  | some p =>
    obtain ⟨rfl, hp⟩ := aqp_s q (by omega)
    obtain ⟨bk, e1, HB, -⟩ := CB_bk H.1
    simp only [c_part H hp, jc_R_eq, e1, bA_0 HB, Option.bind_some]
    cases q2 : aqp B.1.length j with
    | none =>
      have hq := aqp_n q2 (by omega)
      by_cases c : j < 0
      · rw [if_pos c]
      · rw [if_neg c, if_neg (fun z => hq ⟨c, z⟩)]
    | some a =>
      obtain ⟨rfl, ha⟩ := aqp_s q2 (by omega)
      have hv := (CB_g H.1).2.2.2.1 (B.1.getD a 0) (by rw [List.getD_eq_getElem?_getD, List.getElem?_eq_getElem ha]; exact List.getElem_mem ha)
      obtain ⟨cs, a1, -⟩ := id HB
      rw [if_neg (by rw [jw_neg (by omega)]; exact id), if_pos (by rw [jw_lt (by omega) (by omega)]; exact ha)]
      simp only [jm_O_eq (bA_ob HB), b_actorNameAt a1 ha, jc_L_eq, jm_O_eq (pU_ob (pL_U (CI_part H hp))), pL_countOfOpen (CI_part H hp) (CI_gR H hp).1 (gW_gN (CI_gR H hp).2.1) (x := ((B.1.getD a 0 : Nat) : Int)) (by rw [Int.natAbs_natCast]; exact hv.1.1) (by omega), jc_I_eq]
end CL
/-! ===== LEVEL 3: MaskPlays, what would be ===== -/
section CL
variable {h h' : jm_H} {d x : Nat} {B : aB} {G : aG} {tp : List Nat} {er : Int} {sc : Nat × (Nat → Int32)} {U : Nat → Prop} {i j : Int32}
theorem CI_scr (H : CI h x B G tp er sc) (F : jS U h h') (D : ∀ y, U y → wS x y) (C : CS h' x) : CI h' x B G tp er sc :=
  ⟨CB_tr H.1 F fun y z => Or.inl (D y z), sA_tr H.2.1 F fun y z1 z2 => by have := D y z1; unfold wS at this; unfold jn at z2; omega, C, H.2.2.2⟩
theorem CS_step (H : CS h x) (F : jS (jn (x + 201) 15) h h') (T : tI h' (x + 201)) : CS h' x := by
  obtain ⟨a1, ⟨S, e, dd, a2⟩, ⟨l1, a3⟩, ⟨l2, a4⟩, a5⟩ := H
  exact ⟨T, ⟨S, e, dd, sA_tr a2 F fun y z1 z2 => by unfold jn at *; omega⟩, ⟨l1, pU_tr a3 F fun y z1 z2 => by unfold jn at *; omega⟩, ⟨l2, pU_tr a4 F fun y z1 z2 => by unfold jn at *; omega⟩, eI_tr a5 F fun y z1 z2 => by unfold jn at *; omega⟩
theorem CS_text (H : CS h x) (F : jS (jn (x + 100) 4) h h') (T : eI h' (x + 100)) : CS h' x := by
  obtain ⟨a1, ⟨S, e, dd, a2⟩, ⟨l1, a3⟩, ⟨l2, a4⟩, a5⟩ := H
  exact ⟨tI_tr a1 F fun y z1 z2 => by unfold jn at *; omega, ⟨S, e, dd, sA_tr a2 F fun y z1 z2 => by unfold jn at *; omega⟩, ⟨l1, pU_tr a3 F fun y z1 z2 => by unfold jn at *; omega⟩, ⟨l2, pU_tr a4 F fun y z1 z2 => by unfold jn at *; omega⟩, T⟩
theorem CS_try (H : CS h x) (F : jS (jn (x + 90) 5) h h') (T : ∃ l, pU h' (x + 90) l) : CS h' x := by
  obtain ⟨a1, ⟨S, e, dd, a2⟩, ⟨l1, a3⟩, ⟨l2, a4⟩, a5⟩ := H
  exact ⟨tI_tr a1 F fun y z1 z2 => by unfold jn at *; omega, ⟨S, e, dd, sA_tr a2 F fun y z1 z2 => by unfold jn at *; omega⟩, T, ⟨l2, pU_tr a4 F fun y z1 z2 => by unfold jn at *; omega⟩, eI_tr a5 F fun y z1 z2 => by unfold jn at *; omega⟩
theorem CS_also (H : CS h x) (F : jS (jn (x + 95) 5) h h') (T : ∃ l, pU h' (x + 95) l) : CS h' x := by
  obtain ⟨a1, ⟨S, e, dd, a2⟩, ⟨l1, a3⟩, ⟨l2, a4⟩, a5⟩ := H
  exact ⟨tI_tr a1 F fun y z1 z2 => by unfold jn at *; omega, ⟨S, e, dd, sA_tr a2 F fun y z1 z2 => by unfold jn at *; omega⟩, ⟨l1, pU_tr a3 F fun y z1 z2 => by unfold jn at *; omega⟩, T, eI_tr a5 F fun y z1 z2 => by unfold jn at *; omega⟩
theorem CS_go (H : CS h x) (F : jS (tV (x + 201) (x + 90)) h h') (T : tI h' (x + 201)) (P : ∃ l, pU h' (x + 90) l) : CS h' x := by
  obtain ⟨a1, ⟨S, e, dd, a2⟩, ⟨l1, a3⟩, ⟨l2, a4⟩, a5⟩ := H
  have D : ∀ y, tV (x + 201) (x + 90) y → jn (x + 201) 15 y ∨ jn (x + 90) 5 y := fun y z => z
  exact ⟨T, ⟨S, e, dd, sA_tr a2 F fun y z1 z2 => by have := D y z1; unfold jn at *; omega⟩, P, ⟨l2, pU_tr a4 F fun y z1 z2 => by have := D y z1; unfold jn at *; omega⟩, eI_tr a5 F fun y z1 z2 => by have := D y z1; unfold jn at *; omega⟩
theorem CS_go2 (H : CS h x) (F : jS (tV (x + 201) (x + 95)) h h') (T : tI h' (x + 201)) (P : ∃ l, pU h' (x + 95) l) : CS h' x := by
  obtain ⟨a1, ⟨S, e, dd, a2⟩, ⟨l1, a3⟩, ⟨l2, a4⟩, a5⟩ := H
  have D : ∀ y, tV (x + 201) (x + 95) y → jn (x + 201) 15 y ∨ jn (x + 95) 5 y := fun y z => z
  exact ⟨T, ⟨S, e, dd, sA_tr a2 F fun y z1 z2 => by have := D y z1; unfold jn at *; omega⟩, ⟨l1, pU_tr a3 F fun y z1 z2 => by have := D y z1; unfold jn at *; omega⟩, P, eI_tr a5 F fun y z1 z2 => by have := D y z1; unfold jn at *; omega⟩
theorem wS_st : ∀ y, jn (x + 201) 15 y → wS x y := fun y z => by unfold jn at z; unfold wS; omega
theorem wS_tx : ∀ y, jn (x + 100) 4 y → wS x y := fun y z => by unfold jn at z; unfold wS; omega
theorem wS_tr : ∀ y, jn (x + 90) 5 y → wS x y := fun y z => by unfold jn at z; unfold wS; omega
theorem wS_al : ∀ y, jn (x + 95) 5 y → wS x y := fun y z => by unfold jn at z; unfold wS; omega
theorem wS_go : ∀ y, tV (x + 201) (x + 90) y → wS x y := fun y z => by
  rcases z with z | z
  · exact wS_st y z
  · exact wS_tr y z
theorem wS_go2 : ∀ y, tV (x + 201) (x + 95) y → wS x y := fun y z => by
  rcases z with z | z
  · exact wS_st y z
  · exact wS_al y z
/-- no such play -/
theorem c_no {G' : aG} {k : Nat → jm_H → Option jm_R} {Q : jm_H → Prop} (H : CI h x B G tp er sc) (hq : aqp B.2.1.length i = none) (hQ : jG (wS x) 1 h (jm_gap h) → Q (jm_gap h)) : jF (jc_R (jm_D (d + 2) mX11_partOf [.ref x, .int i] h) k jx) (.inr 2) Q := by
  rw [jc_Rx (c_partNo H.1 hq)]
  exact jF_end (hQ (jG_1 jS_rf))
theorem c_canStep (H : CI h x B G tp er sc) : jF (jm_D (d + 4) mX11_canStep [.ref x, .int i] h) (rv (match aqp B.2.1.length i with | none => .inr 2 | some p => .inl (jp (ry_can (G.1.1 p))))) fun h' => jG (wS x) (rg (match aqp B.2.1.length i with | none => .inr 2 | some p => .inl (jp (ry_can (G.1.1 p))))) h h' ∧ CI h' x B G tp er sc := by
  have h12 := CI_12 H
  obtain ⟨e8, e9, e10, e11, e12, e13⟩ := CB_st H.1
  refine jE_of (fun r => gX11_canStep) ?_
  simp only [e8, Option.bind_some, jm_O_eq (CB_ob H.1)]
  cases q : aqp B.2.1.length i with
  | none => exact c_no (d := d + 1) (G' := G) H q fun z => ⟨z, H⟩
  | some p =>
    obtain ⟨rfl, hp⟩ := aqp_s q (by omega)
    have hR := CI_gR H hp
    simp only [c_part (d := d + 1) H hp, jc_R_eq, jm_O_eq (tI_ob H.2.2.1.1)]
    refine jE_I (tI_can (d := d) (by omega) hR.1 (gW_gN hR.2.1) (CI_part H hp) H.2.2.1.1) ?_
    rintro h1 ⟨F1, T1⟩
    rw [jp_Y]
    exact jF_end ⟨jG_0 (jS_mn F1 wS_st), CI_scr H F1 wS_st (CS_step H.2.2.1 F1 T1)⟩
theorem c_write {p : Nat} (H : CI h x B G tp er sc) (hp : p < B.2.1.length) : jF (jm_D (d + 6) mX8_write [.ref (x + 100), .ref (x + 234 + 5 * p)] h) (.inl none) fun h' => jS (jn (x + 100) 4) h h' ∧ eW h' (x + 100) (G.1.1 p) ∧ CI h' x B G tp er sc := by
  have h12 := CI_12 H
  have hx := CB_x H.1
  refine jF_mono (e_write (d := d) (CI_gR H hp) (by omega) (by omega) (CB_K H.1) (pL_U (CI_part H hp)) H.2.2.1.2.2.2.2) fun h' ⟨F, E⟩ => ⟨F, E, CI_scr H F wS_tx (CS_text H.2.2.1 F (eW_I E))⟩
theorem c_textLength (H : CI h x B G tp er sc) : jF (jm_D (d + 7) mX11_textLength [.ref x, .int i] h) (rv (match aqp B.2.1.length i with | none => .inr 2 | some p => .inl (Int32.ofNat (txs (G.1.1 p) (G.1.1 p).length)))) fun h' => jG (wS x) (rg (match aqp B.2.1.length i with | none => .inr 2 | some p => .inl (Int32.ofNat (txs (G.1.1 p) (G.1.1 p).length)))) h h' ∧ CI h' x B G tp er sc ∧ ∀ p, aqp B.2.1.length i = some p → eW h' (x + 100) (G.1.1 p) := by
  have h12 := CI_12 H
  obtain ⟨e8, e9, e10, e11, e12, e13⟩ := CB_st H.1
  refine jE_of (fun r => gX11_textLength) ?_
  simp only [e13, Option.bind_some, jm_O_eq (CB_ob H.1)]
  cases q : aqp B.2.1.length i with
  | none => exact c_no (d := d + 4) (G' := G) H q fun z => ⟨z, H, fun p hp => by cases hp⟩
  | some p =>
    obtain ⟨rfl, hp⟩ := aqp_s q (by omega)
    simp only [c_part (d := d + 4) H hp, jc_R_eq, jm_O_eq (eI_ob H.2.2.1.2.2.2.2)]
    refine jE_V (c_write (d := d) H hp) ?_
    rintro h1 ⟨F1, E1, C1⟩
    obtain ⟨e8, e9, e10, e11, e12, e13⟩ := CB_st C1.1
    simp only [e13, Option.bind_some, eW_n E1 (CI_gR H hp)]
    exact jF_end ⟨jG_0 (jS_mn F1 wS_tx), C1, fun p' hp' => by cases hp'; exact E1⟩
theorem c_letterAt (H : CI h x B G tp er sc) : ∀ a : aA, a = (match aqp B.2.1.length i with | none => .inr 2 | some p => (match aqp (txs (G.1.1 p) (G.1.1 p).length) j with | none => .inr 2 | some k => .inl (Int32.ofNat ((tx (G.1.1 p) (G.1.1 p).length).1.getD k 0)))) → jF (jm_D (d + 7) mX11_letterAt [.ref x, .int i, .int j] h) (rv a) fun h' => jG (wS x) (rg a) h h' ∧ CI h' x B G tp er sc := by
  intro a ha
  have h12 := CI_12 H
  obtain ⟨e8, e9, e10, e11, e12, e13⟩ := CB_st H.1
  refine jE_of (fun r => gX11_letterAt) ?_
  simp only [e13, Option.bind_some, jm_O_eq (CB_ob H.1)]
  cases q : aqp B.2.1.length i with
  | none =>
    rw [q] at ha
    subst ha
    exact c_no (d := d + 4) (G' := G) H q fun z => ⟨z, H⟩
  | some p =>
    rw [q] at ha
    obtain ⟨rfl, hp⟩ := aqp_s q (by omega)
    have hR := CI_gR H hp
    have hle := txs_le hR.2.1 (G.1.1 p).length
    have hl := hR.2.2
    simp only [c_part (d := d + 4) H hp, jc_R_eq, jm_O_eq (eI_ob H.2.2.1.2.2.2.2)]
    refine jE_V (c_write (d := d) H hp) ?_
    rintro h1 ⟨F1, E1, C1⟩
    obtain ⟨e8, e9, e10, e11, e12, e13⟩ := CB_st C1.1
    simp only [e13, Option.bind_some, eW_n E1 hR]
    simp only [] at ha
    cases q2 : aqp (txs (G.1.1 p) (G.1.1 p).length) j with
    | none =>
      rw [q2] at ha
      subst ha
      have hq : ¬ (¬ j < 0 ∧ j < Int32.ofNat (txs (G.1.1 p) (G.1.1 p).length)) := by
        unfold aqp at q2
        split at q2
        · cases q2
        · rename_i z
          rw [Int32.lt_iff_toInt_lt, Int32.lt_iff_toInt_lt, jw_i (by omega)]
          have e0 : (0 : Int32).toInt = 0 := rfl
          rw [e0]
          omega
      by_cases c : j < 0
      · rw [if_pos c]
        exact jF_end ⟨jG_1 (jS_mn F1 wS_tx), C1⟩
      · rw [if_neg c, if_neg (fun z => hq ⟨c, z⟩)]
        exact jF_end ⟨jG_1 (jS_mn F1 wS_tx), C1⟩
    | some k =>
      rw [q2] at ha
      subst ha
      have hk : j = Int32.ofNat k ∧ k < txs (G.1.1 p) (G.1.1 p).length := by
        unfold aqp at q2
        split at q2
        · cases q2
          rename_i z
          refine ⟨?_, by omega⟩
          rw [← Int32.toInt_inj, jw_i (by omega)]
          omega
        · cases q2
      obtain ⟨rfl, hk⟩ := hk
      rw [if_neg (by rw [jw_neg (by omega)]; exact id), if_pos (by rw [jw_lt (by omega) (by omega)]; exact hk)]
      simp only [jm_O_eq (eI_ob (eW_I E1)), e_letter E1 hR hk, jc_I_eq]
      exact jF_end ⟨jG_0 (jS_mn F1 wS_tx), C1⟩
theorem c_nextSceneAt (H : CI h x B G tp er sc) : ∀ a : aA, a = (match aqp B.2.1.length i with | none => .inr 2 | some p => (match ry_r (G.1.1 p) with | none => .inr 0 | some k => .inl (Int32.ofNat (tx (G.1.1 p) k).1.length))) → jF (jm_D (d + 7) mX11_nextSceneAt [.ref x, .int i] h) (rv a) fun h' => jG (wS x) (rg a) h h' ∧ CI h' x B G tp er sc := by
  intro a ha
  have h12 := CI_12 H
  obtain ⟨e8, e9, e10, e11, e12, e13⟩ := CB_st H.1
  refine jE_of (fun r => gX11_nextSceneAt) ?_
  simp only [jm_O_eq (CB_ob H.1)]
  cases q : aqp B.2.1.length i with
  | none =>
    rw [q] at ha
    subst ha
    exact c_no (d := d + 4) (G' := G) H q fun z => ⟨z, H⟩
  | some p =>
    rw [q] at ha
    obtain ⟨rfl, hp⟩ := aqp_s q (by omega)
    have hR := CI_gR H hp
    simp only [] at ha
    simp only [c_part (d := d + 4) H hp, jc_R_eq, jm_O_eq (pU_ob (pL_U (CI_part H hp))), pU_readyScene (pL_U (CI_part H hp)), jc_I_eq]
    cases q2 : ry_r (G.1.1 p) with
    | none =>
      rw [q2] at ha
      subst ha
      rw [if_pos ((ro_neg hR.2.2).mpr q2)]
      exact jF_end ⟨jG_1 jS_rf, H⟩
    | some k =>
      rw [q2] at ha
      subst ha
      have hk := (ry_r_at q2).2.2
      have hl := hR.2.2
      rw [if_neg (fun z => by have := (ro_neg hl).mp z; rw [q2] at this; cases this)]
      have er' : ry_ro (G.1.1 p) = (k : Int) := by unfold ry_ro; rw [q2]
      simp only [e13, Option.bind_some, jm_O_eq (eI_ob H.2.2.1.2.2.2.2)]
      refine jE_V (c_write (d := d) H hp) ?_
      rintro h1 ⟨F1, E1, C1⟩
      obtain ⟨e8, e9, e10, e11, e12, e13⟩ := CB_st C1.1
      simp only [e13, Option.bind_some, jm_O_eq (eI_ob (eW_I E1)), er', jw_in, e_begin E1 hl (show k < (G.1.1 p).length by omega), jc_I_eq]
      exact jF_end ⟨jG_0 (jS_mn F1 wS_tx), C1⟩
/-- a copy to be tried -/
theorem c_try {p : Nat} (H : CI h x B G tp er sc) (hp : p < B.2.1.length) : jF (jm_D (d + 1) mX3_setTo [.ref (x + 90), .ref (x + 234 + 5 * p)] h) (.inl none) fun h' => jS (jn (x + 90) 5) h h' ∧ pL h' (x + 90) (G.1.1 p) ∧ CI h' x B G tp er sc := by
  have h12 := CI_12 H
  obtain ⟨l1, P1⟩ := H.2.2.1.2.2.1
  exact jF_mono (pL_setTo (d := d) (by omega) P1 (CI_part H hp)) fun h' ⟨F, L⟩ => ⟨F, L, CI_scr H F wS_tr (CS_try H.2.2.1 F ⟨_, pL_U L⟩)⟩
theorem c_ob90 (H : CI h x B G tp er sc) : jm_ob h (x + 90) 3 = true := by
  obtain ⟨l1, P1⟩ := H.2.2.1.2.2.1
  exact pU_ob P1
theorem c_ob95 (H : CI h x B G tp er sc) : jm_ob h (x + 95) 3 = true := by
  obtain ⟨l1, P1⟩ := H.2.2.1.2.2.2.1
  exact pU_ob P1
theorem c_renamedByStep (H : CI h x B G tp er sc) : ∀ a : aA, a = (match aqp B.2.1.length i with | none => .inr 2 | some p => (match ry_r (G.1.1 p) with | none => .inr 0 | some k => if ry_sz (G.1.1 p) k ≤ 150 then .inl (Int32.ofNat (ry_sc (G.1.1 p) k)) else .inr 0)) → jF (jm_D (d + 5) mX11_renamedByStep [.ref x, .int i] h) (rv a) fun h' => jG (wS x) (rg a) h h' ∧ CI h' x B G tp er sc := by
  intro a ha
  have h12 := CI_12 H
  obtain ⟨e8, e9, e10, e11, e12, e13⟩ := CB_st H.1
  refine jE_of (fun r => gX11_renamedByStep) ?_
  simp only [e11, Option.bind_some, jm_O_eq (CB_ob H.1)]
  cases q : aqp B.2.1.length i with
  | none =>
    rw [q] at ha
    subst ha
    exact c_no (d := d + 2) (G' := G) H q fun z => ⟨z, H⟩
  | some p =>
    rw [q] at ha
    obtain ⟨rfl, hp⟩ := aqp_s q (by omega)
    have hR := CI_gR H hp
    simp only [] at ha
    simp only [c_part (d := d + 2) H hp, jc_R_eq, jm_O_eq (c_ob90 H)]
    refine jE_V (c_try (d := d + 3) H hp) ?_
    rintro h1 ⟨F1, L1, C1⟩
    obtain ⟨e8, e9, e10, e11, e12, e13⟩ := CB_st C1.1
    simp only [e8, e11, Option.bind_some, jm_O_eq (tI_ob C1.2.2.1.1)]
    have no : ¬ ry_can (G.1.1 p) → a = .inr 0 → jF (jc_I (jm_D (d + 4) mX5_take [.ref (x + 201), .ref (x + 90)] h1) (fun x14 h12 => (if x14 = 0 then some (.inr 0, jm_gap h12) else (jr_R h12 x 10 8 2).bind fun a16 => (jr_I h12 a16 5 0 0).bind fun x18 => some (.inl (some (.int x18)), h12))) jx) (rv a) fun h' => jG (wS x) (rg a) h h' ∧ CI h' x B G tp er sc := by
      intro hno e
      subst e
      refine jE_I (t_takeNo (d := d) (by omega) hR.1 (gW_gN hR.2.1) L1 C1.2.2.1.1 hno) ?_
      rintro h2 ⟨F2, T2, L2⟩
      rw [if_pos rfl]
      have C2 := CI_scr C1 F2 wS_go (CS_go C1.2.2.1 F2 T2 ⟨_, pL_U L2⟩)
      exact jF_end ⟨jG_1 (jS_tr (jS_mn F1 wS_tr) (jS_mn F2 wS_go)), C2⟩
    cases q2 : ry_r (G.1.1 p) with
    | none =>
      rw [q2] at ha
      exact no (fun z => by obtain ⟨k, z1, -⟩ := z; rw [q2] at z1; cases z1) ha
    | some k =>
      rw [q2] at ha
      simp only [] at ha
      by_cases c : ry_sz (G.1.1 p) k ≤ 150
      · rw [if_pos c] at ha
        subst ha
        refine jE_I (t_takeYes (d := d) (by omega) hR.1 hR.2.1 L1 C1.2.2.1.1 q2 c) ?_
        rintro h2 ⟨F2, T2, L2, E2, -⟩
        have C2 := CI_scr C1 F2 wS_go (CS_go C1.2.2.1 F2 T2 ⟨_, pL_U L2⟩)
        obtain ⟨e8, e9, e10, e11, e12, e13⟩ := CB_st C2.1
        rw [if_neg (by decide)]
        simp only [e8, Option.bind_some, E2]
        exact jF_end ⟨jG_0 (jS_tr (jS_mn F1 wS_tr) (jS_mn F2 wS_go)), C2⟩
      · rw [if_neg c] at ha
        exact no (fun z => by obtain ⟨k', z1, z2⟩ := z; rw [q2] at z1; cases z1; exact c z2) ha
theorem c_stepsToFinish (H : CI h x B G tp er sc) : ∀ a : aA, a = (match aqp B.2.1.length i with | none => .inr 2 | some p => if ry_uf 40 (G.1.1 p) < 0 then .inr 0 else .inl (Int32.ofInt (ry_uf 40 (G.1.1 p)))) → jF (jm_D (d + 6) mX11_stepsToFinish [.ref x, .int i] h) (rv a) fun h' => jG (wS x) (rg a) h h' ∧ CI h' x B G tp er sc := by
  intro a ha
  have h12 := CI_12 H
  obtain ⟨e8, e9, e10, e11, e12, e13⟩ := CB_st H.1
  refine jE_of (fun r => gX11_stepsToFinish) ?_
  simp only [e11, Option.bind_some, jm_O_eq (CB_ob H.1)]
  cases q : aqp B.2.1.length i with
  | none =>
    rw [q] at ha
    subst ha
    exact c_no (d := d + 3) (G' := G) H q fun z => ⟨z, H⟩
  | some p =>
    rw [q] at ha
    obtain ⟨rfl, hp⟩ := aqp_s q (by omega)
    have hR := CI_gR H hp
    simp only [] at ha
    simp only [c_part (d := d + 3) H hp, jc_R_eq, jm_O_eq (c_ob90 H)]
    refine jE_V (c_try (d := d + 4) H hp) ?_
    rintro h1 ⟨F1, L1, C1⟩
    obtain ⟨e8, e9, e10, e11, e12, e13⟩ := CB_st C1.1
    simp only [e8, e11, Option.bind_some, jm_O_eq (tI_ob C1.2.2.1.1)]
    refine jE_I (t_until (d := d) (n := 40) (by omega) (by omega) hR L1 C1.2.2.1.1) ?_
    rintro h2 ⟨F2, T2, l2, L2⟩
    have C2 := CI_scr C1 F2 wS_go (CS_go C1.2.2.1 F2 T2 ⟨_, pL_U L2⟩)
    have hb := ry_uf_b 40 (G.1.1 p)
    have F := jS_tr (jS_mn F1 wS_tr) (jS_mn F2 wS_go)
    by_cases c : ry_uf 40 (G.1.1 p) < 0
    · rw [if_pos c] at ha
      subst ha
      rw [if_pos (by rw [jw_zneg (by omega) (by omega)]; exact c)]
      exact jF_end ⟨jG_1 F, C2⟩
    · rw [if_neg c] at ha
      subst ha
      rw [if_neg (by rw [jw_zneg (by omega) (by omega)]; exact c)]
      exact jF_end ⟨jG_0 F, C2⟩
theorem c_sizeAfterSteps (H : CI h x B G tp er sc) : ∀ a : aA, a = (match aqp B.2.1.length i with | none => .inr 2 | some p => (match aqp 41 j with | none => .inr 1 | some n => .inl (Int32.ofNat (ry_go n (G.1.1 p)).length))) → jF (jm_D (d + 6) mX11_sizeAfterSteps [.ref x, .int i, .int j] h) (rv a) fun h' => jG (wS x) (rg a) h h' ∧ CI h' x B G tp er sc := by
  intro a ha
  have h12 := CI_12 H
  obtain ⟨e8, e9, e10, e11, e12, e13⟩ := CB_st H.1
  refine jE_of (fun r => gX11_sizeAfterSteps) ?_
  simp only [jm_O_eq (CB_ob H.1)]
  cases q : aqp B.2.1.length i with
  | none =>
    rw [q] at ha
    subst ha
    exact c_no (d := d + 3) (G' := G) H q fun z => ⟨z, H⟩
  | some p =>
    rw [q] at ha
    obtain ⟨rfl, hp⟩ := aqp_s q (by omega)
    have hR := CI_gR H hp
    simp only [] at ha
    simp only [c_part (d := d + 3) H hp, jc_R_eq]
    cases q2 : aqp 41 j with
    | none =>
      rw [q2] at ha
      subst ha
      have hq := aqp_n q2 (by omega)
      have e41 : (j < Int32.ofNat 41) ↔ ¬ (40 < j) := by
        rw [Int32.lt_iff_toInt_lt, Int32.lt_iff_toInt_lt, jw_i (by omega)]
        have e0 : (40 : Int32).toInt = 40 := rfl
        rw [e0]
        omega
      by_cases c : j < 0
      · rw [if_pos c]
        exact jF_end ⟨jG_1 jS_rf, H⟩
      · rw [if_neg c, if_pos (Classical.byContradiction fun z => hq ⟨c, e41.mpr z⟩)]
        exact jF_end ⟨jG_1 jS_rf, H⟩
    | some n =>
      rw [q2] at ha
      subst ha
      obtain ⟨rfl, hn⟩ := aqp_s q2 (by omega)
      rw [if_neg (by rw [jw_neg (by omega)]; exact id), if_neg (by rw [show (40 : Int32) = Int32.ofNat 40 from rfl, jw_lt (by omega) (by omega)]; omega)]
      simp only [e11, Option.bind_some, jm_O_eq (c_ob90 H)]
      refine jE_V (c_try (d := d + 4) H hp) ?_
      rintro h1 ⟨F1, L1, C1⟩
      obtain ⟨e8, e9, e10, e11, e12, e13⟩ := CB_st C1.1
      simp only [e8, e11, Option.bind_some, jm_O_eq (tI_ob C1.2.2.1.1)]
      refine jE_V (t_takeUpTo (d := d) (n := n) (by omega) (by omega) hR L1 C1.2.2.1.1) ?_
      rintro h2 ⟨F2, T2, L2⟩
      have C2 := CI_scr C1 F2 wS_go (CS_go C1.2.2.1 F2 T2 ⟨_, pL_U L2⟩)
      obtain ⟨e8, e9, e10, e11, e12, e13⟩ := CB_st C2.1
      simp only [e11, Option.bind_some, pU_n (pL_U L2)]
      exact jF_end ⟨jG_0 (jS_tr (jS_mn F1 wS_tr) (jS_mn F2 wS_go)), C2⟩
theorem c_endSame (H : CI h x B G tp er sc) : ∀ a : aA, a = (match aqp B.2.1.length i, aqp B.2.1.length j with | some p, some q => .inl (jp (ry_like (ry_go 40 (G.1.1 p)) (ry_go 40 (G.1.1 q)))) | _, _ => .inr 2) → jF (jm_D (d + 6) mX11_endSame [.ref x, .int i, .int j] h) (rv a) fun h' => jG (wS x) (rg a) h h' ∧ CI h' x B G tp er sc := by
  intro a ha
  have h12 := CI_12 H
  obtain ⟨e8, e9, e10, e11, e12, e13⟩ := CB_st H.1
  refine jE_of (fun r => gX11_endSame) ?_
  simp only [jm_O_eq (CB_ob H.1)]
  cases q : aqp B.2.1.length i with
  | none =>
    rw [q] at ha
    subst ha
    exact c_no (d := d + 3) (G' := G) H q fun z => ⟨z, H⟩
  | some p =>
    rw [q] at ha
    obtain ⟨rfl, hp⟩ := aqp_s q (by omega)
    have hR := CI_gR H hp
    simp only [c_part (d := d + 3) H hp, jc_R_eq, jm_O_eq (CB_ob H.1)]
    cases q2 : aqp B.2.1.length j with
    | none =>
      rw [q2] at ha
      subst ha
      exact c_no (d := d + 3) (G' := G) H q2 fun z => ⟨z, H⟩
    | some p2 =>
      rw [q2] at ha
      subst ha
      obtain ⟨rfl, hp2⟩ := aqp_s q2 (by omega)
      have hR2 := CI_gR H hp2
      simp only [c_part (d := d + 3) H hp2, jc_R_eq, e11, Option.bind_some, jm_O_eq (c_ob90 H)]
      refine jE_V (c_try (d := d + 4) H hp) ?_
      rintro h1 ⟨F1, L1, C1⟩
      obtain ⟨e8, e9, e10, e11, e12, e13⟩ := CB_st C1.1
      simp only [e8, e11, Option.bind_some, jm_O_eq (tI_ob C1.2.2.1.1)]
      refine jE_V (t_takeUpTo (d := d) (n := 40) (by omega) (by omega) hR L1 C1.2.2.1.1) ?_
      rintro h2 ⟨F2, T2, L2⟩
      have C2 := CI_scr C1 F2 wS_go (CS_go C1.2.2.1 F2 T2 ⟨_, pL_U L2⟩)
      obtain ⟨e8, e9, e10, e11, e12, e13⟩ := CB_st C2.1
      obtain ⟨l5, P5⟩ := C2.2.2.1.2.2.2.1
      simp only [e12, Option.bind_some, jm_O_eq (pU_ob P5)]
      refine jE_V (pL_setTo (d := d + 4) (by omega) P5 (CI_part C2 hp2)) ?_
      rintro h3 ⟨F3, L3⟩
      have C3 := CI_scr C2 F3 wS_al (CS_also C2.2.2.1 F3 ⟨_, pL_U L3⟩)
      have L23 := pL_tr L2 F3 fun y z1 z2 => by unfold jn at *; omega
      obtain ⟨e8, e9, e10, e11, e12, e13⟩ := CB_st C3.1
      simp only [e8, e12, Option.bind_some, jm_O_eq (tI_ob C3.2.2.1.1)]
      refine jE_V (t_takeUpTo (d := d) (n := 40) (by omega) (by omega) hR2 L3 C3.2.2.1.1) ?_
      rintro h4 ⟨F4, T4, L4⟩
      have C4 := CI_scr C3 F4 wS_go2 (CS_go2 C3.2.2.1 F4 T4 ⟨_, pL_U L4⟩)
      have L24 := pL_tr L23 F4 fun y z1 z2 => by
        rcases z1 with z1 | z1 <;> (unfold jn at *; omega)
      obtain ⟨e8, e9, e10, e11, e12, e13⟩ := CB_st C4.1
      have g1 := gR_go 40 hR
      have g2 := gR_go 40 hR2
      simp only [e11, e12, Option.bind_some, jm_O_eq (pU_ob (pL_U L24)), pL_isLike L24 (pL_U L4) g1.1 (gW_gN g1.2.1) (gW_gN g2.2.1), jc_I_eq, jp_Y]
      exact jF_end ⟨jG_0 (jS_tr (jS_mn F1 wS_tr) (jS_tr (jS_mn F2 wS_go) (jS_tr (jS_mn F3 wS_al) (jS_mn F4 wS_go2)))), C4⟩
end CL
/-! ===== LEVEL 3: MaskPlays, by hand and evenings ===== -/
/-- so many evenings: the stage, the notes carried out -/
noncomputable def aes (B : aB) : Nat → aG → Int32 → aG × Int32
  | 0, G, c => (G, c)
  | n + 1, G, c => aes B n (aev B G).1 (c + (aev B G).2)
/-- behind how many evenings a play is finished -/
noncomputable def auf (B : aB) (p : Nat) : Nat → Nat → aG → Int
  | 0, n, G => if ry_r (G.1.1 p) = none then (n : Int) else -1
  | f + 1, n, G => if ry_r (G.1.1 p) = none then (n : Int) else auf B p f (n + 1) (aev B G).1
/-- the best gift among the first ones, and its steps -/
def abg (S : aS) (p : Nat) : Nat → Int × Nat
  | 0 => (-1, 41)
  | j + 1 => if 1 + (S.1 p).length + (S.1 j).length ≤ 150 ∧ 0 < (abg S p j).2 ∧ 0 ≤ ry_uf ((abg S p j).2 - 1) (0 :: S.1 p ++ S.1 j) then ((j : Int), (ry_uf ((abg S p j).2 - 1) (0 :: S.1 p ++ S.1 j)).toNat) else abg S p j
section CL
variable {h h' : jm_H} {d x : Nat} {B : aB} {G : aG} {tp : List Nat} {er : Int} {sc : Nat × (Nat → Int32)} {U : Nat → Prop} {i j : Int32}
theorem wE_G : ∀ y, wE (x + 219) (x + 201) y → wG x y := fun y z => by
  rcases z with z | z
  · exact Or.inr (by unfold jn at z; omega)
  · exact Or.inl (wS_st y z)
theorem CI_stage {G' : aG} (H : CI h x B G tp er sc) (F : jS U h h') (D : ∀ y, U y → wE (x + 219) (x + 201) y) (A : sA h' (x + 219) (x + 201) G'.1 G'.2.1 G'.2.2 B.2.1.length) (T : tI h' (x + 201)) (g : gS B G'.1) : CI h' x B G' tp er sc := by
  obtain ⟨a1, ⟨S, e, dd, a2⟩, ⟨l1, a3⟩, ⟨l2, a4⟩, a5⟩ := H.2.2.1
  have D' : ∀ y, U y → jn (x + 219) 75 y ∨ jn (x + 201) 15 y := fun y z => D y z
  refine ⟨CB_tr H.1 F fun y z => wE_G y (D y z), A, ⟨T, ⟨S, e, dd, sA_tr a2 F fun y z1 z2 => by have := D' y z1; unfold jn at *; omega⟩, ⟨l1, pU_tr a3 F fun y z1 z2 => by have := D' y z1; unfold jn at *; omega⟩, ⟨l2, pU_tr a4 F fun y z1 z2 => by have := D' y z1; unfold jn at *; omega⟩, eI_tr a5 F fun y z1 z2 => by have := D' y z1; unfold jn at *; omega⟩, g⟩
theorem jG_mn {U V : Nat → Prop} {k : Nat} {h h' : jm_H} (p : jG U k h h') (q : ∀ a, U a → V a) : jG V k h h' := ⟨p.1, p.2.1, fun a ha => p.2.2 a fun z => ha (q a z)⟩
theorem c_doStep (H : CI h x B G tp er sc) : ∀ (a : aA) (S' : aS), (a, S') = (match aqp B.2.1.length i with | none => (.inr 2, G.1) | some p => (match ry_r (G.1.1 p) with | none => (.inr 0, G.1) | some k => if ry_sz (G.1.1 p) k ≤ 150 then (.inl (Int32.ofNat (ry_st (G.1.1 p) k).length), (aco B (4, p, 0, none) G.1).2) else (.inr 0, G.1))) → jF (jm_D (d + 6) mX11_doStep [.ref x, .int i] h) (rv a) fun h' => jG (wG x) (rg a) h h' ∧ CI h' x B (S', G.2) tp er sc := by
  intro a S' ha
  have h12 := CI_12 H
  obtain ⟨e8, e9, e10, e11, e12, e13⟩ := CB_st H.1
  refine jE_of (fun r => gX11_doStep) ?_
  simp only [jm_O_eq (CB_ob H.1)]
  cases q : aqp B.2.1.length i with
  | none =>
    rw [q] at ha
    injection ha with ha1 ha2
    subst ha1 ha2
    exact c_no (d := d + 3) (G' := G) H q fun z => ⟨jG_mn z fun _ => Or.inl, H⟩
  | some p =>
    rw [q] at ha
    obtain ⟨rfl, hp⟩ := aqp_s q (by omega)
    have hR := CI_gR H hp
    simp only [] at ha
    simp only [c_part (d := d + 3) H hp, jc_R_eq, e8, Option.bind_some, jm_O_eq (tI_ob H.2.2.1.1)]
    refine jE_I (tI_can (d := d + 2) (by omega) hR.1 (gW_gN hR.2.1) (CI_part H hp) H.2.2.1.1) ?_
    rintro h1 ⟨F1, T1⟩
    have C1 := CI_scr H F1 wS_st (CS_step H.2.2.1 F1 T1)
    have F1' : jS (wG x) h h1 := jS_mn F1 fun y z => Or.inl (wS_st y z)
    have no : ¬ ry_can (G.1.1 p) → (a, S') = (.inr 0, G.1) → jF (if jp (ry_can (G.1.1 p)) = 0 then some (.inr 0, jm_gap h1) else (jr_R h1 x 10 9 2).bind fun a10 => jm_O h1 a10 4 (jc_I (jm_D (d + 5) mX4_stepPlay [.ref a10, .int (Int32.ofNat p)] h1) (fun x14 h12 => (jr_I h12 (x + 234 + 5 * p) 3 0 0).bind fun x15 => some (.inl (some (.int x15)), h12)) jx)) (rv a) fun h' => jG (wG x) (rg a) h h' ∧ CI h' x B (S', G.2) tp er sc := by
      intro hno e
      injection e with e1 e2
      subst e1 e2
      rw [if_pos (jp_0.mpr hno)]
      exact jF_end ⟨jG_1 F1', C1⟩
    cases q2 : ry_r (G.1.1 p) with
    | none =>
      rw [q2] at ha
      exact no (fun z => by obtain ⟨k, z1, -⟩ := z; rw [q2] at z1; cases z1) ha
    | some k =>
      rw [q2] at ha
      simp only [] at ha
      by_cases c : ry_sz (G.1.1 p) k ≤ 150
      · rw [if_pos c] at ha
        injection ha with ha1 ha2
        subst ha1 ha2
        obtain ⟨e8, e9, e10, e11, e12, e13⟩ := CB_st C1.1
        rw [if_neg (mt jp_0.mp (fun z => z ⟨k, q2, c⟩))]
        simp only [e9, Option.bind_some, jm_O_eq (sA_ob C1.2.1)]
        have hgs := g_stepPlay (d := d) (B := B) (s := x + 201) (by omega) hp hR C1.2.1 T1
        refine jE_I hgs ?_
        rintro h2 ⟨F2, A2, T2⟩
        have ea : aco B (4, p, 0, none) G.1 = (!decide (ry_st (G.1.1 p) k = G.1.1 p), aup G.1.1 p (ry_st (G.1.1 p) k), aup G.1.2 p (G.1.2 p + 1)) := by
          have : aco B (4, p, 0, none) G.1 = (match ry_r (G.1.1 p) with
            | none => (false, G.1)
            | some k => if ry_sz (G.1.1 p) k ≤ 150 then (!decide (ry_st (G.1.1 p) k = G.1.1 p), aup G.1.1 p (ry_st (G.1.1 p) k), aup G.1.2 p (G.1.2 p + 1)) else (false, G.1)) := rfl
          rw [this, q2]; exact if_pos c
        have hgS : gS B (aco B (4, p, 0, none) G.1).2 := by
          rw [ea]; exact gS_up H.2.2.2 (gR_st hR q2 c)
        have C2 : CI h2 x B ((aco B (4, p, 0, none) G.1).2, G.2) tp er sc := CI_stage C1 F2 (fun y z => z) A2 T2 hgS
        have L2 := CI_part C2 hp
        have e1 : (aco B (4, p, 0, none) G.1).2.1 p = ry_st (G.1.1 p) k := by rw [ea]; exact if_pos rfl
        have L2' : pL h2 (x + 234 + 5 * p) (ry_st (G.1.1 p) k) := by rw [← e1]; exact L2
        simp only [pU_n (pL_U L2'), Option.bind_some]
        exact jF_end ⟨jG_0 (jS_tr F1' (jS_mn F2 wE_G)), C2⟩
      · rw [if_neg c] at ha
        exact no (fun z => by obtain ⟨k', z1, z2⟩ := z; rw [q2] at z1; cases z1; exact c z2) ha
theorem c_give (H : CI h x B G tp er sc) : ∀ (a : aA) (S' : aS), (a, S') = (match aqp B.2.1.length i, aqp B.2.1.length j with | some p, some q => if 1 + (G.1.1 q).length + (G.1.1 p).length ≤ 150 then (.inl (Int32.ofNat (1 + (G.1.1 q).length + (G.1.1 p).length)), (aco B (5, q, p, none) G.1).2) else (.inr 0, G.1) | _, _ => (.inr 2, G.1)) → jF (jm_D (d + 5) mX11_give [.ref x, .int i, .int j] h) (rv a) fun h' => jG (wG x) (rg a) h h' ∧ CI h' x B (S', G.2) tp er sc := by
  intro a S' ha
  have h12 := CI_12 H
  obtain ⟨e8, e9, e10, e11, e12, e13⟩ := CB_st H.1
  refine jE_of (fun r => gX11_give) ?_
  simp only [jm_O_eq (CB_ob H.1)]
  cases q : aqp B.2.1.length i with
  | none =>
    rw [q] at ha
    injection ha with ha1 ha2
    subst ha1 ha2
    exact c_no (d := d + 2) (G' := G) H q fun z => ⟨jG_mn z fun _ => Or.inl, H⟩
  | some p =>
    rw [q] at ha
    obtain ⟨rfl, hp⟩ := aqp_s q (by omega)
    simp only [c_part (d := d + 2) H hp, jc_R_eq, jm_O_eq (CB_ob H.1)]
    cases q2 : aqp B.2.1.length j with
    | none =>
      rw [q2] at ha
      injection ha with ha1 ha2
      subst ha1 ha2
      exact c_no (d := d + 2) (G' := G) H q2 fun z => ⟨jG_mn z fun _ => Or.inl, H⟩
    | some t =>
      rw [q2] at ha
      obtain ⟨rfl, ht⟩ := aqp_s q2 (by omega)
      have hR := CI_gR H hp
      have hRt := CI_gR H ht
      simp only [] at ha
      simp only [c_part (d := d + 2) H ht, jc_R_eq, pU_fitInScene (pL_U (CI_part H ht)) (pL_U (CI_part H hp)), jc_I_eq]
      by_cases c : 1 + (G.1.1 t).length + (G.1.1 p).length ≤ 150
      · rw [if_pos c] at ha
        injection ha with ha1 ha2
        subst ha1 ha2
        rw [jp_T c, if_neg (by decide)]
        simp only [e9, Option.bind_some, jm_O_eq (sA_ob H.2.1)]
        refine jE_I (g_givePlay (d := d) (B := B) ht hp hRt hR H.2.1) ?_
        rintro h2 ⟨F2, A2⟩
        have ea : aco B (5, t, p, none) G.1 = (true, aup G.1.1 t (0 :: G.1.1 t ++ G.1.1 p), G.1.2) := by
          have : aco B (5, t, p, none) G.1 = if 1 + (G.1.1 t).length + (G.1.1 p).length ≤ 150 then (true, aup G.1.1 t (0 :: G.1.1 t ++ G.1.1 p), G.1.2) else (false, G.1) := rfl
          rw [this]; exact if_pos c
        have hgS : gS B (aco B (5, t, p, none) G.1).2 := by
          rw [ea]; exact gS_up H.2.2.2 (gR_give hRt hR c)
        have C2 : CI h2 x B ((aco B (5, t, p, none) G.1).2, G.2) tp er sc := CI_stage H F2 (fun y z => Or.inl z) A2 (tI_tr H.2.2.1.1 F2 fun y z1 z2 => by unfold jn at *; omega) hgS
        have L2 := CI_part C2 ht
        have e1 : (aco B (5, t, p, none) G.1).2.1 t = 0 :: G.1.1 t ++ G.1.1 p := by rw [ea]; exact if_pos rfl
        have L2' : pL h2 (x + 234 + 5 * t) (0 :: G.1.1 t ++ G.1.1 p) := by rw [← e1]; exact L2
        simp only [pU_n (pL_U L2'), Option.bind_some]
        have elen : (0 :: G.1.1 t ++ G.1.1 p).length = 1 + (G.1.1 t).length + (G.1.1 p).length := by simp; omega
        rw [elen]
        exact jF_end ⟨jG_0 (jS_mn F2 fun y z => Or.inr (by unfold jn at z; omega)), C2⟩
      · rw [if_neg c] at ha
        injection ha with ha1 ha2
        subst ha1 ha2
        rw [jp_F c, if_pos rfl]
        exact jF_end ⟨jG_1 jS_rf, H⟩
theorem c_renew (H : CI h x B G tp er sc) : ∀ (a : aA) (S' : aS), (a, S') = (match aqp B.2.1.length i with | none => (.inr 2, G.1) | some p => (.inl (Int32.ofNat (B.2.2.1 p).length), (aco B (7, p, 0, none) G.1).2)) → jF (jm_D (d + 3) mX11_renew [.ref x, .int i] h) (rv a) fun h' => jG (wG x) (rg a) h h' ∧ CI h' x B (S', G.2) tp er sc := by
  intro a S' ha
  have h12 := CI_12 H
  refine jE_of (fun r => gX11_renew) ?_
  simp only [jm_O_eq (CB_ob H.1)]
  cases q : aqp B.2.1.length i with
  | none =>
    rw [q] at ha
    injection ha with ha1 ha2
    subst ha1 ha2
    exact c_no (d := d) (G' := G) H q fun z => ⟨jG_mn z fun _ => Or.inl, H⟩
  | some p =>
    rw [q] at ha
    injection ha with ha1 ha2
    subst ha1 ha2
    obtain ⟨rfl, hp⟩ := aqp_s q (by omega)
    obtain ⟨bk, e1, HB, hbk⟩ := CB_bk H.1
    have hT := (bA_g HB).2.2.2.2.2.1 p hp
    simp only [c_part (d := d) H hp, jc_R_eq, e1, Option.bind_some, jm_O_eq (bA_ob HB), b_told HB (show p < 12 by omega), jm_O_eq (pU_ob (pL_U (CI_part H hp)))]
    refine jE_V (pL_setTo (d := d + 1) (by omega) (pL_U (CI_part H hp)) (bA_part HB hp)) ?_
    rintro h2 ⟨F2, L2⟩
    have A2 : sA h2 (x + 219) (x + 201) (aup G.1.1 p (B.2.2.1 p), G.1.2) G.2.1 G.2.2 B.2.1.length := sA_part H.2.1 F2 (by omega) L2
    have C2 : CI h2 x B ((aco B (7, p, 0, none) G.1).2, G.2) tp er sc := CI_stage H F2 (fun y z => Or.inl (by unfold jn at *; omega)) A2 (tI_tr H.2.2.1.1 F2 fun y z1 z2 => by unfold jn at *; omega) (gS_up H.2.2.2 hT)
    simp only [pU_n (pL_U L2), Option.bind_some]
    exact jF_end ⟨jG_0 (jS_mn F2 fun y z => Or.inr (by unfold jn at z; omega)), C2⟩
theorem c_checkEv (hj : i.toInt < 1 ∨ 20 < i.toInt) : jm_D (d + 1) mX11_checkEvenings [.ref x, .int i] h = some (.inr 1, jm_gap h) := by
  apply gX11_checkEvenings
  have e1 : (1 : Int32).toInt = 1 := rfl
  have e20 : (20 : Int32).toInt = 20 := rfl
  simp only [Int32.lt_iff_toInt_lt, e1, e20]
  by_cases c : i.toInt < 1
  · rw [if_pos c]
  · rw [if_neg c, if_pos (by omega)]
theorem c_checkEv1 {n : Nat} (h1 : 1 ≤ n) (h2 : n ≤ 20) : jm_D (d + 1) mX11_checkEvenings [.ref x, .int (Int32.ofNat n)] h = some (.inl none, h) := by
  apply gX11_checkEvenings
  have e1 : (1 : Int32).toInt = 1 := rfl
  have e20 : (20 : Int32).toInt = 20 := rfl
  simp only [Int32.lt_iff_toInt_lt, e1, e20, jw_i (show n < 2147483648 by omega)]
  rw [if_neg (by omega), if_neg (by omega)]
/-- a number of evenings -/
def aqe (i : Int32) : Option Nat := if 1 ≤ i.toInt ∧ i.toInt ≤ 20 then some i.toInt.toNat else none
theorem aqe_s {n : Nat} (h : aqe i = some n) : i = Int32.ofNat n ∧ 1 ≤ n ∧ n ≤ 20 := by
  unfold aqe at h
  split at h
  · cases h
    rename_i q
    refine ⟨?_, by omega, by omega⟩
    rw [← Int32.toInt_inj, jw_i (by omega)]
    omega
  · cases h
theorem aqe_n (h : aqe i = none) : i.toInt < 1 ∨ 20 < i.toInt := by
  unfold aqe at h
  split at h
  · cases h
  · omega
/-- one evening of a stage of the two -/
theorem c_evening {g bk : Nat} {S : aS} {ev dn : Int32} (hg : g = x + 219 ∨ g = x + 294) (hbk : bk = x + 1 ∨ bk = x + 112) (hS : gS B S) (A : sA h g (x + 201) S ev dn B.2.1.length) (HB : bA h bk B) (T : tI h (x + 201)) :
    jF (jm_D (d + 7) mX4_passEvening [.ref g, .ref bk] h) (.inl (some (.int (aev B (S, ev, dn)).2))) fun h' => jS (wE g (x + 201)) h h' ∧ sA h' g (x + 201) (aev B (S, ev, dn)).1.1 (aev B (S, ev, dn)).1.2.1 (aev B (S, ev, dn)).1.2.2 B.2.1.length ∧ tI h' (x + 201) :=
  g_passEvening (by omega) (by omega) (by omega) rfl hS A HB T
theorem c_pass_loop {n : Nat} (hn : n ≤ 20) : ∀ (f k : Nat) (G : aG) (c : Int32) (h : jm_H), k + f = n → CI h x B G tp er sc →
    jF (kX11_passEvenings_9 (d + 7) x (Int32.ofNat n) c (Int32.ofNat k) h) (.inl (some (.int (aes B f G c).2))) fun h' => jS (wG x) h h' ∧ CI h' x B (aes B f G c).1 tp er sc := by
  intro f
  induction f with
  | zero =>
    intro k G c h hk H
    refine jE_of (fun r => gX11_passEvenings_9) ?_
    rw [if_neg (by rw [jw_lt (by omega) (by omega)]; omega)]
    exact jF_end ⟨jS_rf, H⟩
  | succ f ih =>
    intro k G c h hk H
    obtain ⟨e8, e9, e10, e11, e12, e13⟩ := CB_st H.1
    obtain ⟨bk, e1, HB, hbk⟩ := CB_bk H.1
    refine jE_of (fun r => gX11_passEvenings_9) ?_
    rw [if_pos (by rw [jw_lt (by omega) (by omega)]; omega)]
    simp only [e9, e1, Option.bind_some, jm_O_eq (sA_ob H.2.1), jw_add1]
    refine jE_I (c_evening (d := d) (Or.inl rfl) hbk H.2.2.2 H.2.1 HB H.2.2.1.1) ?_
    rintro h1 ⟨F1, A1, T1⟩
    have C1 : CI h1 x B (aev B G).1 tp er sc := CI_stage H F1 (fun y z => z) A1 T1 (gS_aev (CB_g H.1) H.2.2.2)
    exact jF_mono (ih (k + 1) _ _ h1 (by omega) C1) fun h2 ⟨F2, q⟩ => ⟨jS_tr (jS_mn F1 wE_G) F2, q⟩
theorem c_passEvenings (H : CI h x B G tp er sc) : ∀ (a : aA) (G' : aG), (a, G') = (match aqe i with | none => (.inr 1, G) | some n => (.inl (aes B n G 0).2, (aes B n G 0).1)) → jF (jm_D (d + 8) mX11_passEvenings [.ref x, .int i] h) (rv a) fun h' => jG (wG x) (rg a) h h' ∧ CI h' x B G' tp er sc := by
  intro a G' ha
  refine jE_of (fun r => gX11_passEvenings) ?_
  rw [jm_O_eq (CB_ob H.1)]
  cases q : aqe i with
  | none =>
    rw [q] at ha
    injection ha with ha1 ha2
    subst ha1 ha2
    rw [jc_Vx (c_checkEv (d := d + 6) (aqe_n q))]
    exact jF_end ⟨jG_1 jS_rf, H⟩
  | some n =>
    rw [q] at ha
    injection ha with ha1 ha2
    subst ha1 ha2
    obtain ⟨rfl, h1, h2⟩ := aqe_s q
    simp only [c_checkEv1 (d := d + 6) h1 h2, jc_V_eq]
    exact jF_mono (c_pass_loop (d := d) h2 n 0 G 0 h (by omega) H) fun h' ⟨F, q⟩ => ⟨jG_0 F, q⟩
/-! evenings that would be -/
/-- the trial as a stage -/
def CT (h : jm_H) (x : Nat) (B : aB) (G : aG) : Prop := sA h (x + 294) (x + 201) G.1 G.2.1 G.2.2 B.2.1.length ∧ gS B G.1
theorem wE_S : ∀ y, wE (x + 294) (x + 201) y → wS x y := fun y z => by
  rcases z with z | z <;> (unfold jn at z; unfold wS; omega)
theorem CI_trial {S' : aS} {e' d' : Int32} {m : Nat} (H : CI h x B G tp er sc) (F : jS U h h') (D : ∀ y, U y → wE (x + 294) (x + 201) y) (A : sA h' (x + 294) (x + 201) S' e' d' m) (T : tI h' (x + 201)) : CI h' x B G tp er sc := by
  obtain ⟨a1, ⟨S, e, dd, a2⟩, ⟨l1, a3⟩, ⟨l2, a4⟩, a5⟩ := H.2.2.1
  have D' : ∀ y, U y → jn (x + 294) 75 y ∨ jn (x + 201) 15 y := fun y z => D y z
  exact CI_scr H F (fun y z => wE_S y (D y z)) ⟨T, ⟨S', e', d', sA_any A (Nat.zero_le _)⟩, ⟨l1, pU_tr a3 F fun y z1 z2 => by have := D' y z1; unfold jn at *; omega⟩, ⟨l2, pU_tr a4 F fun y z1 z2 => by have := D' y z1; unfold jn at *; omega⟩, eI_tr a5 F fun y z1 z2 => by have := D' y z1; unfold jn at *; omega⟩
theorem c_trial (H : CI h x B G tp er sc) : jF (jm_D (d + 3) mX4_setTo [.ref (x + 294), .ref (x + 219), .int (Int32.ofNat B.2.1.length)] h) (.inl none) fun h' => jS (wS x) h h' ∧ CI h' x B G tp er sc ∧ CT h' x B G := by
  obtain ⟨S, e, dd, a2⟩ := H.2.2.1.2.1
  refine jF_mono (g_setTo (d := d) (by omega) a2 H.2.1) fun h' ⟨F, A⟩ => ?_
  have D : ∀ y, jn (x + 294) 75 y → wE (x + 294) (x + 201) y := fun y z => Or.inl z
  exact ⟨jS_mn F fun y z => wE_S y (D y z), CI_trial H F D A (tI_tr H.2.2.1.1 F fun y z1 z2 => by unfold jn at *; omega), A, H.2.2.2⟩
theorem c_trialEv {G1 : aG} (H : CI h x B G tp er sc) (C : CT h x B G1) : ∃ bk, jr_R h x 10 6 2 = some bk ∧ jF (jm_D (d + 7) mX4_passEvening [.ref (x + 294), .ref bk] h) (.inl (some (.int (aev B G1).2))) fun h' => jS (wS x) h h' ∧ CI h' x B G tp er sc ∧ CT h' x B (aev B G1).1 := by
  obtain ⟨bk, e1, HB, hbk⟩ := CB_bk H.1
  refine ⟨bk, e1, jF_mono (c_evening (d := d) (Or.inr rfl) hbk C.2 C.1 HB H.2.2.1.1) fun h' ⟨F, A, T⟩ => ⟨jS_mn F wE_S, CI_trial H F (fun y z => z) A T, A, gS_aev (CB_g H.1) C.2⟩⟩
theorem c_sizeEv_loop {n p : Nat} (hn : n ≤ 20) (hp : p < B.2.1.length) : ∀ (f k : Nat) (G1 : aG) (c : Int32) (h : jm_H), k + f = n → CI h x B G tp er sc → CT h x B G1 →
    jF (kX11_sizeAfterEvenings_30 (d + 7) x (Int32.ofNat p) (Int32.ofNat n) (Int32.ofNat k) h) (.inl (some (.int (Int32.ofNat ((aes B f G1 c).1.1.1 p).length)))) fun h' => jS (wS x) h h' ∧ CI h' x B G tp er sc := by
  intro f
  induction f with
  | zero =>
    intro k G1 c h hk H C
    have h12 := CI_12 H
    obtain ⟨e8, e9, e10, e11, e12, e13⟩ := CB_st H.1
    refine jE_of (fun r => gX11_sizeAfterEvenings_30) ?_
    rw [if_neg (by rw [jw_lt (by omega) (by omega)]; omega)]
    simp only [e10, Option.bind_some, jm_O_eq (sA_ob C.1), g_partAt C.1.1 (show p < 12 by omega), jc_R_eq, pU_n (pL_U (gC_part C.1.1 hp))]
    exact jF_end ⟨jS_rf, H⟩
  | succ f ih =>
    intro k G1 c h hk H C
    obtain ⟨e8, e9, e10, e11, e12, e13⟩ := CB_st H.1
    obtain ⟨bk, e1, hev⟩ := c_trialEv (d := d) H C
    refine jE_of (fun r => gX11_sizeAfterEvenings_30) ?_
    rw [if_pos (by rw [jw_lt (by omega) (by omega)]; omega)]
    simp only [e10, e1, Option.bind_some, jm_O_eq (sA_ob C.1), jw_add1]
    refine jE_I hev ?_
    rintro h1 ⟨F1, H1, C1⟩
    exact jF_mono (ih (k + 1) _ _ h1 (by omega) H1 C1) fun h2 ⟨F2, q⟩ => ⟨jS_tr F1 F2, q⟩
theorem c_sizeAfterEvenings (H : CI h x B G tp er sc) : ∀ a : aA, a = (match aqp B.2.1.length i with | none => .inr 2 | some p => (match aqe j with | none => .inr 1 | some n => .inl (Int32.ofNat ((aes B n G 0).1.1.1 p).length))) → jF (jm_D (d + 8) mX11_sizeAfterEvenings [.ref x, .int i, .int j] h) (rv a) fun h' => jG (wS x) (rg a) h h' ∧ CI h' x B G tp er sc := by
  intro a ha
  have h12 := CI_12 H
  obtain ⟨e8, e9, e10, e11, e12, e13⟩ := CB_st H.1
  refine jE_of (fun r => gX11_sizeAfterEvenings) ?_
  rw [jm_O_eq (CB_ob H.1)]
  cases q : aqp B.2.1.length i with
  | none =>
    rw [q] at ha
    subst ha
    rw [jc_Vx (c_checkNo (d := d + 6) H.1 q)]
    exact jF_end ⟨jG_1 jS_rf, H⟩
  | some p =>
    rw [q] at ha
    obtain ⟨rfl, hp⟩ := aqp_s q (by omega)
    simp only [] at ha
    simp only [c_check (d := d + 6) H.1 hp, jc_V_eq, jm_O_eq (CB_ob H.1)]
    cases q2 : aqe j with
    | none =>
      rw [q2] at ha
      subst ha
      rw [jc_Vx (c_checkEv (d := d + 6) (aqe_n q2))]
      exact jF_end ⟨jG_1 jS_rf, H⟩
    | some n =>
      rw [q2] at ha
      subst ha
      obtain ⟨rfl, h1, h2⟩ := aqe_s q2
      obtain ⟨bk, e1, HB, hbk⟩ := CB_bk H.1
      obtain ⟨S, e, dd, a2⟩ := H.2.2.1.2.1
      simp only [c_checkEv1 (d := d + 6) h1 h2, jc_V_eq, e10, e9, e1, Option.bind_some, bA_1 HB, jm_O_eq (sA_ob a2)]
      refine jE_V (c_trial (d := d + 4) H) ?_
      rintro h1 ⟨F1, H1, C1⟩
      exact jF_mono (c_sizeEv_loop (d := d) h2 hp n 0 G 0 h1 (by omega) H1 C1) fun h2 ⟨F2, q⟩ => ⟨jG_0 (jS_tr F1 F2), q⟩
theorem c_until_loop {p : Nat} (hp : p < B.2.1.length) : ∀ (f k : Nat) (G1 : aG) (h : jm_H), k + f = 20 → CI h x B G tp er sc → CT h x B G1 →
    jF (kX11_eveningsUntilFinished_25 (d + 7) x (Int32.ofNat p) (Int32.ofNat k) h) (.inl (some (.int (Int32.ofInt (auf B p f k G1))))) fun h' => jS (wS x) h h' ∧ CI h' x B G tp er sc := by
  intro f
  induction f with
  | zero =>
    intro k G1 h hk H C
    have h12 := CI_12 H
    obtain ⟨e8, e9, e10, e11, e12, e13⟩ := CB_st H.1
    have hP := gC_part C.1.1 hp
    have hl := (C.2 p hp).2.2
    refine jE_of (fun r => gX11_eveningsUntilFinished_25) ?_
    rw [if_neg (by rw [show (20 : Int32) = Int32.ofNat 20 from rfl, jw_lt (by omega) (by omega)]; omega)]
    simp only [e10, Option.bind_some, jm_O_eq (sA_ob C.1), g_partAt C.1.1 (show p < 12 by omega), jc_R_eq, jm_O_eq (pU_ob (pL_U hP)), pU_readyScene (pL_U hP), jc_I_eq]
    unfold auf
    have : k = 20 := by omega
    subst this
    by_cases c : ry_r (G1.1.1 p) = none
    · rw [if_pos ((ro_neg hl).mpr c), if_pos c]
      exact jF_end ⟨jS_rf, H⟩
    · rw [if_neg (mt (ro_neg hl).mp c), if_neg c]
      exact jF_end ⟨jS_rf, H⟩
  | succ f ih =>
    intro k G1 h hk H C
    have h12 := CI_12 H
    obtain ⟨e8, e9, e10, e11, e12, e13⟩ := CB_st H.1
    have hP := gC_part C.1.1 hp
    have hl := (C.2 p hp).2.2
    obtain ⟨bk, e1, hev⟩ := c_trialEv (d := d) H C
    refine jE_of (fun r => gX11_eveningsUntilFinished_25) ?_
    rw [if_pos (by rw [show (20 : Int32) = Int32.ofNat 20 from rfl, jw_lt (by omega) (by omega)]; omega)]
    simp only [e10, Option.bind_some, jm_O_eq (sA_ob C.1), g_partAt C.1.1 (show p < 12 by omega), jc_R_eq, jm_O_eq (pU_ob (pL_U hP)), pU_readyScene (pL_U hP), jc_I_eq, e1, jw_add1]
    unfold auf
    by_cases c : ry_r (G1.1.1 p) = none
    · rw [if_pos ((ro_neg hl).mpr c), if_pos c, jw_in]
      exact jF_end ⟨jS_rf, H⟩
    · rw [if_neg (mt (ro_neg hl).mp c), if_neg c]
      refine jE_I hev ?_
      rintro h1 ⟨F1, H1, C1⟩
      exact jF_mono (ih (k + 1) _ h1 (by omega) H1 C1) fun h2 ⟨F2, q⟩ => ⟨jS_tr F1 F2, q⟩
theorem c_untilFinished (H : CI h x B G tp er sc) : ∀ a : aA, a = (match aqp B.2.1.length i with | none => .inr 2 | some p => .inl (Int32.ofInt (auf B p 20 0 G))) → jF (jm_D (d + 8) mX11_eveningsUntilFinished [.ref x, .int i] h) (rv a) fun h' => jG (wS x) (rg a) h h' ∧ CI h' x B G tp er sc := by
  intro a ha
  have h12 := CI_12 H
  obtain ⟨e8, e9, e10, e11, e12, e13⟩ := CB_st H.1
  refine jE_of (fun r => gX11_eveningsUntilFinished) ?_
  rw [jm_O_eq (CB_ob H.1)]
  cases q : aqp B.2.1.length i with
  | none =>
    rw [q] at ha
    subst ha
    rw [jc_Vx (c_checkNo (d := d + 6) H.1 q)]
    exact jF_end ⟨jG_1 jS_rf, H⟩
  | some p =>
    rw [q] at ha
    subst ha
    obtain ⟨rfl, hp⟩ := aqp_s q (by omega)
    obtain ⟨bk, e1, HB, hbk⟩ := CB_bk H.1
    obtain ⟨S, e, dd, a2⟩ := H.2.2.1.2.1
    simp only [c_check (d := d + 6) H.1 hp, jc_V_eq, e10, e9, e1, Option.bind_some, bA_1 HB, jm_O_eq (sA_ob a2)]
    refine jE_V (c_trial (d := d + 4) H) ?_
    rintro h1 ⟨F1, H1, C1⟩
    exact jF_mono (c_until_loop (d := d) hp 20 0 G h1 (by omega) H1 C1) fun h2 ⟨F2, q⟩ => ⟨jG_0 (jS_tr F1 F2), q⟩
end CL
