/-! ===== LEVEL 3: Stage ===== -/
/-- a note's cells -/
def nA (h : jm_H) (a : Nat) (cs : List (Nat × Nat)) (n : aN) : Prop := ∃ gi c, oC h a 2 [.int (Int32.ofNat n.1), .int (Int32.ofNat n.2.1), .int gi, .int c] ∧ (n.1 = 5 → gi = Int32.ofNat n.2.2.1) ∧ cP cs n.2.2.2 c
def n0 : aN := (0, 0, 0, none)
/-- a book that is told -/
def bA (h : jm_H) (b : Nat) (B : aB) : Prop := ∃ cs, bC h b B.1 B.2.1 B.2.2.2.length cs ∧ (∀ p, p < 12 → ∃ l, pU h (b + 13 + 5 * p) l) ∧ (∀ p, p < B.2.1.length → pL h (b + 13 + 5 * p) (B.2.2.1 p)) ∧ (∀ n, n < 16 → ∃ x1 x2 x3 x4, oC h (b + 73 + n) 2 [.int x1, .int x2, .int x3, .int x4]) ∧ (∀ n, n < B.2.2.2.length → nA h (b + 73 + n) cs (B.2.2.2.getD n n0)) ∧ gB B
/-- a stage -/
def sA (h : jm_H) (g s : Nat) (S : aS) (ev dn : Int32) (pc : Nat) : Prop := gC h g s S ev dn pc ∧ (∀ p, p < 12 → ∃ l, pU h (g + 15 + 5 * p) l) ∧ (∃ l, pU h (g + 8) l) ∧ ∃ st, qC h (g + 13) st
section SG
variable {h h' : jm_H} {d g s b p pc : Nat} {S : aS} {ev dn : Int32} {U : Nat → Prop} {B : aB}
theorem nA_tr {a : Nat} {cs : List (Nat × Nat)} {n : aN} (H : nA h a cs n) (F : jS U h h') (D : ¬ U a) : nA h' a cs n := by
  obtain ⟨gi, c, a1, a2⟩ := H
  exact ⟨gi, c, oC_tr a1 F D, a2⟩
theorem bA_tr (H : bA h b B) (F : jS U h h') (D : ∀ x, U x → jn b 89 x → False) : bA h' b B := by
  obtain ⟨cs, a1, a2, a3, a4, a5, a6⟩ := H
  refine ⟨cs, bC_tr a1 F fun x z1 z2 => D x z1 (by unfold jn at *; omega), fun p hp => ?_, fun p hp => pL_tr (a3 p hp) F fun x z1 z2 => D x z1 (by have := (bC_le a1).2.1; unfold jn at *; omega), fun n hn => ?_, fun n hn => nA_tr (a5 n hn) F fun z => D _ z (by have := (bC_le a1).2.2.1; unfold jn at *; omega), a6⟩
  · obtain ⟨l, q⟩ := a2 p hp
    exact ⟨l, pU_tr q F fun x z1 z2 => D x z1 (by unfold jn at *; omega)⟩
  · obtain ⟨x1, x2, x3, x4, q⟩ := a4 n hn
    exact ⟨x1, x2, x3, x4, oC_tr q F fun z => D _ z (by unfold jn at *; omega)⟩
theorem bA_ob (H : bA h b B) : jm_ob h b 0 = true := by
  obtain ⟨cs, a1, -⟩ := H
  exact bC_ob a1
theorem sA_tr (H : sA h g s S ev dn pc) (F : jS U h h') (D : ∀ x, U x → jn g 75 x → False) : sA h' g s S ev dn pc := by
  obtain ⟨a1, a2, ⟨l, a3⟩, st, a4⟩ := H
  refine ⟨gC_tr a1 F fun x z1 z2 => D x z1 (by unfold jn at *; omega), fun p hp => ?_, ⟨l, pU_tr a3 F fun x z1 z2 => D x z1 (by unfold jn at *; omega)⟩, st, qC_tr a4 F fun x z1 z2 => D x z1 (by unfold jn at *; omega)⟩
  obtain ⟨l, q⟩ := a2 p hp
  exact ⟨l, pU_tr q F fun x z1 z2 => D x z1 (by unfold jn at *; omega)⟩
theorem sA_ob (H : sA h g s S ev dn pc) : jm_ob h g 4 = true := gC_ob H.1
theorem sA_12 (H : sA h g s S ev dn pc) : pc ≤ 12 := by
  obtain ⟨⟨u, T, a1, a2, a3, a4, a5, a6, a7⟩, -⟩ := H
  exact a7
theorem sA_5 (H : sA h g s S ev dn pc) : jr_R h g 4 5 2 = some (g + 8) := by
  obtain ⟨⟨u, T, a1, -⟩, -⟩ := H
  exact oC_R a1 rfl
theorem sA_6 (H : sA h g s S ev dn pc) : jr_R h g 4 6 2 = some s := by
  obtain ⟨⟨u, T, a1, -⟩, -⟩ := H
  exact oC_R a1 rfl
theorem sA_7 (H : sA h g s S ev dn pc) : jr_R h g 4 7 2 = some (g + 13) := by
  obtain ⟨⟨u, T, a1, -⟩, -⟩ := H
  exact oC_R a1 rfl
theorem sA_0 (H : sA h g s S ev dn pc) : jr_I h g 4 0 0 = some ev := by
  obtain ⟨⟨u, T, a1, -⟩, -⟩ := H
  exact oC_I a1 rfl
theorem sA_1 (H : sA h g s S ev dn pc) : jr_I h g 4 1 0 = some dn := by
  obtain ⟨⟨u, T, a1, -⟩, -⟩ := H
  exact oC_I a1 rfl
/-- a play has another row -/
theorem sA_part {l : List Int} (H : sA h g s S ev dn pc) (F : jS (jn (g + 15 + 5 * p) 5) h h') (hp : p < 12) (Hp : pL h' (g + 15 + 5 * p) l) : sA h' g s (aup S.1 p l, S.2) ev dn pc := by
  obtain ⟨⟨u, T, a1, a2, a3, a4, a5, a6, a7⟩, b1, ⟨l2, b2⟩, st, b3⟩ := H
  refine ⟨⟨u, T, oC_tr a1 F (by unfold jn; omega), rC_tr a2 F (by unfold jn; omega), a3, aC_tr a4 F (by unfold jn; omega), a5, fun q hq => ?_, a7⟩, fun q hq => ?_, ⟨l2, pU_tr b2 F fun x z1 z2 => by unfold jn at *; omega⟩, st, qC_tr b3 F fun x z1 z2 => by unfold jn at *; omega⟩
  · by_cases e : q = p
    · subst e
      rw [show (aup S.1 q l, S.2).1 q = l from if_pos rfl]
      exact Hp
    · rw [show (aup S.1 p l, S.2).1 q = S.1 q from if_neg e]
      exact pL_tr (a6 q hq) F fun x z1 z2 => by unfold jn at *; omega
  · by_cases e : q = p
    · subst e
      exact ⟨l, pL_U Hp⟩
    · obtain ⟨l3, b4⟩ := b1 q hq
      exact ⟨l3, pU_tr b4 F fun x z1 z2 => by unfold jn at *; omega⟩
theorem g_setSteps {x : Int32} (hp : p < 12) (H : sA h g s S ev dn pc) : jF (jm_D (d + 1) mX4_setSteps [.ref g, .int (Int32.ofNat p), .int x] h) (.inl none) fun h' => jS (jn (g + 2) 1) h h' ∧ sA h' g s (S.1, aup S.2 p x) ev dn pc := by
  obtain ⟨⟨u, T, a1, a2, a3, a4, a5, a6, a7⟩, b1, ⟨l2, b2⟩, st, b3⟩ := H
  refine jE_of (fun r => gX4_setSteps) ?_
  obtain ⟨h1, e1, F1, H1⟩ := aC_w (x := x) a4 hp (by omega)
  rw [nar0] at H1
  simp only [oC_R a1 (k := 3) rfl, aC_len a4, e1, Option.bind_some]
  rw [if_neg (by rw [jw_neg (by omega)]; exact id), if_pos (by rw [jw_lt (by omega) (by omega)]; omega)]
  refine jF_end ⟨F1, ⟨u, upd T p x, oC_tr a1 F1 (by unfold jn; omega), rC_tr a2 F1 (by unfold jn; omega), a3, H1, fun i hi => ?_, fun q hq => pL_tr (a6 q hq) F1 fun x z1 z2 => by unfold jn at *; omega, a7⟩, fun q hq => ?_, ⟨l2, pU_tr b2 F1 fun x z1 z2 => by unfold jn at *; omega⟩, st, qC_tr b3 F1 fun x z1 z2 => by unfold jn at *; omega⟩
  · show (if i = p then x else T i) = if i = p then x else S.2 i
    split
    · rfl
    · exact a5 i hi
  · obtain ⟨l3, b4⟩ := b1 q hq
    exact ⟨l3, pU_tr b4 F1 fun x z1 z2 => by unfold jn at *; omega⟩
theorem b_told (H : bA h b B) (hp : p < 12) : jm_D (d + 1) mX0_toldAt [.ref b, .int (Int32.ofNat p)] h = some (.inl (some (.ref (b + 13 + 5 * p))), h) := by
  obtain ⟨cs, a1, -⟩ := H
  exact b_toldAt a1 hp
theorem bA_part (H : bA h b B) (hp : p < B.2.1.length) : pL h (b + 13 + 5 * p) (B.2.2.1 p) := by
  obtain ⟨cs, a1, a2, a3, -⟩ := H
  exact a3 p hp
theorem bA_g (H : bA h b B) : gB B := by
  obtain ⟨cs, a1, a2, a3, a4, a5, a6⟩ := H
  exact a6
/-- the cells that evenings write -/
def wE (g s x : Nat) : Prop := jn g 75 x ∨ jn s 15 x
theorem g_stepPlay (hd : g + 75 ≤ s ∨ s + 15 ≤ g) (hp : p < pc) (hR : gR (S.1 p)) (H : sA h g s S ev dn pc) (T : tI h s) :
    jF (jm_D (d + 5) mX4_stepPlay [.ref g, .int (Int32.ofNat p)] h) (.inl (some (.int (if (aco B (4, p, 0, none) S).1 = true then 1 else 0)))) fun h' => jS (wE g s) h h' ∧ sA h' g s (aco B (4, p, 0, none) S).2 ev dn pc ∧ tI h' s := by
  have h12 := sA_12 H
  have hL := gC_part H.1 hp
  have dP : g + 15 + 5 * p + 5 ≤ s ∨ s + 15 ≤ g + 15 + 5 * p := by omega
  have wV : ∀ x, tV s (g + 15 + 5 * p) x → wE g s x := fun x z => by
    rcases z with z | z
    · exact Or.inr z
    · exact Or.inl (by unfold jn at *; omega)
  have ea : aco B (4, p, 0, none) S = (match ry_r (S.1 p) with
    | none => (false, S)
    | some k => if ry_sz (S.1 p) k ≤ 150 then (!decide (ry_st (S.1 p) k = S.1 p), aup S.1 p (ry_st (S.1 p) k), aup S.2 p (S.2 p + 1)) else (false, S)) := rfl
  refine jE_of (fun r => gX4_stepPlay) ?_
  simp only [sA_6 H, Option.bind_some, jm_O_eq (sA_ob H), g_partAt H.1 (show p < 12 by omega), jc_R_eq, jm_O_eq (tI_ob T)]
  have no : ¬ ry_can (S.1 p) → aco B (4, p, 0, none) S = (false, S) → jE (jc_I (jm_D (d + 4) mX5_take [.ref s, .ref (g + 15 + 5 * p)] h) (fun x8 h6 => (if x8 = 0 then some (.inl (some (.int 0)), h6) else jm_O h6 g 4 (jc_I (jm_D (d + 4) mX4_stepsAt [.ref g, .int (Int32.ofNat p)] h6) (fun x12 h10 => jm_O h10 g 4 (jc_V (jm_D (d + 4) mX4_setSteps [.ref g, .int (Int32.ofNat p), .int (x12 + 1)] h10) (fun h13 => (jr_R h13 g 4 6 2).bind fun a15 => (jr_I h13 a15 5 1 4).bind fun x17 => jm_Y .boolean x17 (some (.inl (some (.int x17)), h13))) jx)) jx))) jx) fun w h' => w = .inl (some (.int (if (aco B (4, p, 0, none) S).1 = true then 1 else 0))) ∧ jS (wE g s) h h' ∧ sA h' g s (aco B (4, p, 0, none) S).2 ev dn pc ∧ tI h' s := by
    intro hno e
    rw [e]
    refine jE_I (t_takeNo dP hR.1 (gW_gN hR.2.1) hL T hno) ?_
    rintro h1 ⟨F1, T1, L1⟩
    rw [if_pos rfl]
    refine jF_end ⟨jS_mn F1 wV, ?_, T1⟩
    have F1s : jS (fun x => jn s 15 x ∨ jn (g + 15 + 5 * p) 5 x) h h1 := F1
    -- the part is as it was
    obtain ⟨⟨u, T', a1, a2, a3, a4, a5, a6, a7⟩, b1, ⟨l2, b2⟩, st, b3⟩ := H
    have D : ∀ x, tV s (g + 15 + 5 * p) x → jn g 15 x → False := fun x z1 z2 => by
      rcases z1 with z1 | z1 <;> (unfold jn at *; omega)
    refine ⟨⟨u, T', oC_tr a1 F1 fun z => D _ z (by unfold jn; omega), rC_tr a2 F1 fun z => D _ z (by unfold jn; omega), a3, aC_tr a4 F1 fun z => D _ z (by unfold jn; omega), a5, fun q hq => ?_, a7⟩, fun q hq => ?_, ⟨l2, pU_tr b2 F1 fun x z1 z2 => D x z1 (by unfold jn at *; omega)⟩, st, qC_tr b3 F1 fun x z1 z2 => D x z1 (by unfold jn at *; omega)⟩
    · by_cases e : q = p
      · subst e; exact L1
      · exact pL_tr (a6 q hq) F1 fun x z1 z2 => by rcases z1 with z1 | z1 <;> (unfold jn at *; omega)
    · by_cases e : q = p
      · subst e; exact ⟨_, pL_U L1⟩
      · obtain ⟨l3, b4⟩ := b1 q hq
        exact ⟨l3, pU_tr b4 F1 fun x z1 z2 => by rcases z1 with z1 | z1 <;> (unfold jn at *; omega)⟩
  cases q : ry_r (S.1 p) with
  | none =>
    refine no (fun z => by obtain ⟨k, z1, -⟩ := z; rw [q] at z1; cases z1) ?_
    rw [ea, q]
  | some k =>
    by_cases c : ry_sz (S.1 p) k ≤ 150
    · have ea2 : aco B (4, p, 0, none) S = (!decide (ry_st (S.1 p) k = S.1 p), aup S.1 p (ry_st (S.1 p) k), aup S.2 p (S.2 p + 1)) := by rw [ea, q]; exact if_pos c
      rw [ea2]
      refine jE_I (t_takeYes dP hR.1 hR.2.1 hL T q c) ?_
      rintro h1 ⟨F1, T1, L1, -, E1⟩
      rw [if_neg (by decide)]
      -- the stage behind the step: ahead of the part's change nothing but the Step's cells
      have H1 : sA h1 g s (aup S.1 p (ry_st (S.1 p) k), S.2) ev dn pc := by
        obtain ⟨⟨u, T', a1, a2, a3, a4, a5, a6, a7⟩, b1, ⟨l2, b2⟩, st, b3⟩ := H
        have D : ∀ x, tV s (g + 15 + 5 * p) x → jn g 15 x → False := fun x z1 z2 => by
          rcases z1 with z1 | z1 <;> (unfold jn at *; omega)
        refine ⟨⟨u, T', oC_tr a1 F1 fun z => D _ z (by unfold jn; omega), rC_tr a2 F1 fun z => D _ z (by unfold jn; omega), a3, aC_tr a4 F1 fun z => D _ z (by unfold jn; omega), a5, fun i hi => ?_, a7⟩, fun i hi => ?_, ⟨l2, pU_tr b2 F1 fun x z1 z2 => D x z1 (by unfold jn at *; omega)⟩, st, qC_tr b3 F1 fun x z1 z2 => D x z1 (by unfold jn at *; omega)⟩
        · by_cases e : i = p
          · subst e
            rw [show (aup S.1 i (ry_st (S.1 i) k), S.2).1 i = ry_st (S.1 i) k from if_pos rfl]
            exact L1
          · rw [show (aup S.1 p (ry_st (S.1 p) k), S.2).1 i = S.1 i from if_neg e]
            exact pL_tr (a6 i hi) F1 fun x z1 z2 => by rcases z1 with z1 | z1 <;> (unfold jn at *; omega)
        · by_cases e : i = p
          · subst e; exact ⟨_, pL_U L1⟩
          · obtain ⟨l3, b4⟩ := b1 i hi
            exact ⟨l3, pU_tr b4 F1 fun x z1 z2 => by rcases z1 with z1 | z1 <;> (unfold jn at *; omega)⟩
      simp only [jm_O_eq (sA_ob H1), g_stepsAt H1.1 hp, jc_I_eq]
      refine jE_V (g_setSteps (d := d + 3) (by omega) H1) ?_
      rintro h2 ⟨F2, H2⟩
      have E2 : jr_I h2 s 5 1 4 = some (jp (¬ ry_st (S.1 p) k = S.1 p)) := by
        have : h2.2.2 s = h1.2.2 s := F2.2.2 s (by unfold jn; omega)
        unfold jr_I jm_gf at E1 ⊢
        rw [this]
        exact E1
      simp only [sA_6 H2, Option.bind_some, E2, jp_Y]
      have ej : jp (¬ ry_st (S.1 p) k = S.1 p) = if (!decide (ry_st (S.1 p) k = S.1 p)) = true then 1 else 0 := by
        by_cases c2 : ry_st (S.1 p) k = S.1 p
        · rw [jp_F (fun z => z c2), if_neg (by rw [decide_eq_true c2]; decide)]
        · rw [jp_T c2, if_pos (by rw [decide_eq_false c2]; rfl)]
      rw [ej]
      exact jF_end ⟨jS_tr (jS_mn F1 wV) (jS_mn F2 fun x z => Or.inl (by unfold jn at *; omega)), H2, tI_tr T1 F2 fun x z1 z2 => by unfold jn at *; omega⟩
    · refine no (fun z => by obtain ⟨k', z1, z2⟩ := z; rw [q] at z1; cases z1; exact c z2) ?_
      rw [ea, q]
      exact if_neg c
end SG
/-! ===== LEVEL 3: Stage, notes and evenings ===== -/
section SG
variable {h h' : jm_H} {d g s b p q pc : Nat} {S : aS} {ev dn : Int32} {U : Nat → Prop} {B : aB}
theorem pU_setTo {k m : List Int} (hd : p + 5 ≤ q ∨ q + 5 ≤ p) (Hp : pU h p k) (Hq : pU h q m) : jF (jm_D (d + 1) mX3_setTo [.ref p, .ref q] h) (.inl none) fun h' => jS (jn p 5) h h' ∧ pU h' p m := by
  obtain ⟨K', N', E', O', Hp, -⟩ := Hp
  obtain ⟨K, N, E, O, Hq, hR⟩ := Hq
  refine jF_mono (pC_setTo hd Hp Hq) fun h' ⟨F, H⟩ => ⟨F, _, _, _, _, H, fun i hi => ?_⟩
  rw [va_cpy0 hi, va_cpy0 hi]; exact hR i hi
theorem sA_made {l : List Int} (H : sA h g s S ev dn pc) (F : jS (jn (g + 8) 5) h h') (Hp : pU h' (g + 8) l) : sA h' g s S ev dn pc := by
  obtain ⟨a1, a2, a3, st, a4⟩ := H
  refine ⟨gC_tr a1 F fun x z1 z2 => by unfold jn at *; omega, fun p hp => ?_, ⟨l, Hp⟩, st, qC_tr a4 F fun x z1 z2 => by unfold jn at *; omega⟩
  obtain ⟨l3, q⟩ := a2 p hp
  exact ⟨l3, pU_tr q F fun x z1 z2 => by unfold jn at *; omega⟩
theorem jI_if {P : Prop} [Decidable P] : jp P = if P then 1 else 0 := by
  by_cases h : P
  · rw [jp_T h, if_pos h]
  · rw [jp_F h, if_neg h]
theorem g_givePlay (hp : p < pc) (hq : q < pc) (hR : gR (S.1 p)) (hQ : gR (S.1 q)) (H : sA h g s S ev dn pc) :
    jF (jm_D (d + 4) mX4_givePlay [.ref g, .int (Int32.ofNat q), .int (Int32.ofNat p)] h) (.inl (some (.int (if (aco B (5, p, q, none) S).1 = true then 1 else 0)))) fun h' => jS (jn g 75) h h' ∧ sA h' g s (aco B (5, p, q, none) S).2 ev dn pc := by
  have h12 := sA_12 H
  have Lp := gC_part H.1 hp
  have Lq := gC_part H.1 hq
  refine jE_of (fun r => gX4_givePlay) ?_
  simp only [jm_O_eq (sA_ob H), g_partAt H.1 (show p < 12 by omega), g_partAt H.1 (show q < 12 by omega), jc_R_eq, pU_fitInScene (pL_U Lp) (pL_U Lq), jc_I_eq]
  have ea : aco B (5, p, q, none) S = if 1 + (S.1 p).length + (S.1 q).length ≤ 150 then (true, aup S.1 p (0 :: S.1 p ++ S.1 q), S.2) else (false, S) := rfl
  rw [ea]
  by_cases c : 1 + (S.1 p).length + (S.1 q).length ≤ 150
  · rw [jp_T c, if_neg (by decide)]
    simp only [if_pos c]
    obtain ⟨l, Hm⟩ := H.2.2.1
    simp only [sA_5 H, Option.bind_some, jm_O_eq (pU_ob Hm)]
    refine jE_V (pU_setToScene (d := d) (by omega) (by omega) Hm (pL_U Lp) (pL_U Lq) c hR.1 hQ.1) ?_
    rintro h1 ⟨F1, M1⟩
    have H1 := sA_made H F1 (pL_U M1)
    simp only [jm_O_eq (sA_ob H1), g_partAt H1.1 (show p < 12 by omega), jc_R_eq, sA_5 H1, Option.bind_some, jm_O_eq (pU_ob (pL_U (gC_part H1.1 hp)))]
    refine jE_V (pL_setTo (d := d + 2) (by omega) (pL_U (gC_part H1.1 hp)) M1) ?_
    rintro h2 ⟨F2, L2⟩
    exact jF_end ⟨jS_tr (jS_mn F1 fun x z => by unfold jn at *; omega) (jS_mn F2 fun x z => by unfold jn at *; omega), sA_part H1 F2 (by omega) L2⟩
  · rw [jp_F c, if_pos rfl]
    simp only [if_neg c]
    exact jF_end ⟨jS_rf, H⟩
theorem g_renewPlay (hbg : b + 89 ≤ g ∨ g + 75 ≤ b) (hpc : pc = B.2.1.length) (hp : p < pc) (hR : gR (S.1 p)) (H : sA h g s S ev dn pc) (HB : bA h b B) :
    jF (jm_D (d + 3) mX4_renewPlay [.ref g, .int (Int32.ofNat p), .ref b] h) (.inl (some (.int (if (aco B (7, p, 0, none) S).1 = true then 1 else 0)))) fun h' => jS (jn g 75) h h' ∧ sA h' g s (aco B (7, p, 0, none) S).2 ev dn pc := by
  subst hpc
  have h12 := sA_12 H
  have Lp := gC_part H.1 hp
  have Lt := bA_part HB hp
  have hT := (bA_g HB).2.2.2.2.2.1 p hp
  refine jE_of (fun r => gX4_renewPlay) ?_
  simp only [jm_O_eq (sA_ob H), g_partAt H.1 (show p < 12 by omega), jc_R_eq, jm_O_eq (bA_ob HB), b_told HB (show p < 12 by omega), jm_O_eq (pU_ob (pL_U Lp)), pU_hasTextOf (pL_U Lp) (pL_U Lt) (gW_gN hR.2.1) (gW_gN hT.2.1), jc_I_eq]
  have ea : aco B (7, p, 0, none) S = (!decide (S.1 p = B.2.2.1 p), aup S.1 p (B.2.2.1 p), S.2) := rfl
  rw [ea]
  have fin : jF (jm_D (d + 2) mX3_setTo [.ref (g + 15 + 5 * p), .ref (b + 13 + 5 * p)] h) (.inl none) fun h' => jS (jn (g + 15 + 5 * p) 5) h h' ∧ pL h' (g + 15 + 5 * p) (B.2.2.1 p) := pL_setTo (by omega) (pL_U Lp) Lt
  by_cases c : S.1 p = B.2.2.1 p
  · rw [jp_T c, if_neg (by decide), if_neg (by rw [decide_eq_true c]; simp)]
    refine jE_V fin ?_
    rintro h1 ⟨F1, L1⟩
    exact jF_end ⟨jS_mn F1 fun x z => by unfold jn at *; omega, sA_part H F1 (by omega) L1⟩
  · rw [jp_F c, if_pos rfl, if_pos (by rw [decide_eq_false c]; rfl)]
    refine jE_V fin ?_
    rintro h1 ⟨F1, L1⟩
    exact jF_end ⟨jS_mn F1 fun x z => by unfold jn at *; omega, sA_part H F1 (by omega) L1⟩
/-- what a note does depends on its test in no way -/
theorem aco_t {n : aN} {u : Option (List aI)} : aco B n S = aco B (n.1, n.2.1, n.2.2.1, u) S := rfl
theorem if_Y {c : Prop} [Decidable c] {o : Option jm_R} : jm_Y .boolean (if c then 1 else 0) o = o := by
  unfold jm_Y
  refine if_pos ?_
  split <;> rfl
theorem g_carryOut {a : Nat} {cs : List (Nat × Nat)} {n : aN} (hgs : g + 75 ≤ s ∨ s + 15 ≤ g) (hbg : b + 89 ≤ g ∨ g + 75 ≤ b) (hpc : pc = B.2.1.length) (hn : n ∈ B.2.2.2) (hS : ∀ p, p < pc → gR (S.1 p)) (H : sA h g s S ev dn pc) (HB : bA h b B) (T : tI h s) (N : nA h a cs n) :
    jF (jm_D (d + 6) mX4_carryOut [.ref g, .ref a, .ref b] h) (.inl (some (.int (if (aco B n S).1 = true then 1 else 0)))) fun h' => jS (wE g s) h h' ∧ sA h' g s (aco B n S).2 ev dn pc ∧ tI h' s := by
  obtain ⟨n1, n2, n3, -⟩ := (bA_g HB).2.2.2.2.2.2 n hn
  obtain ⟨gi, c, N1, N2, -⟩ := N
  subst hpc
  have h12 := sA_12 H
  refine jE_of (fun r => gX4_carryOut) ?_
  have i0 : jr_I h a 2 0 0 = some (Int32.ofNat n.1) := oC_I N1 rfl
  have i1 : jr_I h a 2 1 0 = some (Int32.ofNat n.2.1) := oC_I N1 rfl
  have i2 : jr_I h a 2 2 0 = some gi := oC_I N1 rfl
  simp only [i0, i1, i2, Option.bind_some, show (4 : Int32) = Int32.ofNat 4 from rfl, show (5 : Int32) = Int32.ofNat 5 from rfl, jm_O_eq (sA_ob H)]
  obtain ⟨k, pl, gf, tt⟩ := n
  simp only [] at *
  rcases n1 with rfl | rfl | rfl
  · rw [if_pos rfl]
    have := g_stepPlay (d := d) (B := B) hgs n2 (hS _ n2) H T
    have e : aco B (4, pl, gf, tt) S = aco B (4, pl, 0, none) S := rfl
    rw [e]
    refine jE_I this ?_
    rintro h1 q
    rw [if_Y]
    exact jF_end q
  · rw [if_neg (by decide), if_pos rfl, N2 rfl]
    have := g_givePlay (d := d + 1) (B := B) n2 (n3 rfl) (hS _ n2) (hS _ (n3 rfl)) H
    have e : aco B (5, pl, gf, tt) S = aco B (5, pl, gf, none) S := rfl
    rw [e]
    refine jE_I this ?_
    rintro h1 ⟨F1, H1⟩
    rw [if_Y]
    exact jF_end ⟨jS_mn F1 fun x z => Or.inl z, H1, tI_tr T F1 fun x z1 z2 => by unfold jn at *; omega⟩
  · rw [if_neg (by decide), if_neg (by decide)]
    have := g_renewPlay (d := d + 2) hbg rfl n2 (hS _ n2) H HB
    have e : aco B (7, pl, gf, tt) S = aco B (7, pl, 0, none) S := rfl
    rw [e]
    refine jE_I this ?_
    rintro h1 ⟨F1, H1⟩
    rw [if_Y]
    exact jF_end ⟨jS_mn F1 fun x z => Or.inl z, H1, tI_tr T F1 fun x z1 z2 => by unfold jn at *; omega⟩
theorem drop_n {l : List aN} {i : Nat} (hi : i < l.length) : l.drop i = l.getD i n0 :: l.drop (i + 1) := by
  rw [List.drop_eq_getElem_cons hi, List.getD_eq_getElem?_getD, List.getElem?_eq_getElem hi]
  rfl
theorem getD_n {l : List aN} {i : Nat} (hi : i < l.length) : l.getD i n0 ∈ l := by
  rw [List.getD_eq_getElem?_getD, List.getElem?_eq_getElem hi]
  exact List.getElem_mem hi
theorem g_passEvening_loop (hgs : g + 75 ≤ s ∨ s + 15 ≤ g) (hbg : b + 89 ≤ g ∨ g + 75 ≤ b) (hbs : b + 89 ≤ s ∨ s + 15 ≤ b) (hpc : pc = B.2.1.length) : ∀ (f i : Nat) (S : aS) (c : Int32) (o4 : Option Value) (h : jm_H), i + f = B.2.2.2.length → gS B S → sA h g s S ev dn pc → bA h b B → tI h s →
    jF (kX4_passEvening_4 (d + 6) g b c (Int32.ofNat i) o4 h) (.inl (some (.int (ans B ev (B.2.2.2.drop i) S c).2))) fun h' => jS (wE g s) h h' ∧ sA h' g s (ans B ev (B.2.2.2.drop i) S c).1 (ev + 1) (dn + (ans B ev (B.2.2.2.drop i) S c).2) pc ∧ tI h' s := by
  intro f
  induction f with
  | zero =>
    intro i S c o4 h hi hS H HB T
    have hN := (bA_g HB).2.2.1
    refine jE_of (fun r => gX4_passEvening_4) ?_
    have b2 : jr_I h b 0 2 0 = some (Int32.ofNat B.2.2.2.length) := by
      obtain ⟨cs, a1, -⟩ := HB
      exact bC_2 a1
    simp only [b2, Option.bind_some]
    rw [if_neg (by rw [jw_lt (by omega) (by omega)]; omega), List.drop_eq_nil_of_le (by omega)]
    obtain ⟨⟨u, T', a1, a2, a3, a4, a5, a6, a7⟩, c1, ⟨l2, c2⟩, st, c3⟩ := H
    have e0 : jr_I h g 4 0 0 = some ev := oC_I a1 rfl
    obtain ⟨h1, e1, F1, H1⟩ := oC_w (k := 0) (t := 0) (v := .int (ev + 1)) a1 (by simp [gF]) rfl
    have e2 : jr_I h1 g 4 1 0 = some dn := oC_I H1 rfl
    obtain ⟨h2, e3, F2, H2⟩ := oC_w (k := 1) (t := 0) (v := .int (dn + c)) H1 (by simp [gF]) rfl
    simp only [e0, e1, e2, e3, Option.bind_some]
    have F := jS_tr F1 F2
    refine jF_end ⟨jS_mn F fun x z => Or.inl (by unfold jn at *; omega), ⟨⟨u, T', H2, rC_tr a2 F (by unfold jn; omega), a3, aC_tr a4 F (by unfold jn; omega), a5, fun q hq => pL_tr (a6 q hq) F fun x z1 z2 => by unfold jn at *; omega, a7⟩, fun q hq => ?_, ⟨l2, pU_tr c2 F fun x z1 z2 => by unfold jn at *; omega⟩, st, qC_tr c3 F fun x z1 z2 => by unfold jn at *; omega⟩, tI_tr T F fun x z1 z2 => by unfold jn at *; omega⟩
    obtain ⟨l3, b4⟩ := c1 q hq
    exact ⟨l3, pU_tr b4 F fun x z1 z2 => by unfold jn at *; omega⟩
  | succ f ih =>
    intro i S c o4 h hi hS H HB T
    have hG := bA_g HB
    have hN := hG.2.2.1
    have hil : i < B.2.2.2.length := by omega
    rw [drop_n hil]
    have hmem := getD_n hil
    obtain ⟨n1, n2, n3, n4⟩ := hG.2.2.2.2.2.2 _ hmem
    refine jE_of (fun r => gX4_passEvening_4) ?_
    obtain ⟨cs, a1, a2, a3, a4, a5, a6⟩ := id HB
    have N := a5 i hil
    obtain ⟨st, Q⟩ := H.2.2.2
    obtain ⟨gi, cc, N1, N2, N3⟩ := id N
    have i3 : jr_I h (b + 73 + i) 2 3 0 = some cc := oC_I N1 rfl
    simp only [bC_2 a1, Option.bind_some, jm_O_eq (bC_ob a1), b_noteAt a1 (show i < 16 by omega), jc_R_eq, sA_7 H, i3, jm_O_eq (qC_ob Q)]
    rw [if_pos (by rw [jw_lt (by omega) (by omega)]; omega), jw_add1]
    generalize B.2.2.2.getD i n0 = n at *
    have hT : ∀ u, n.2.2.2 = some u → aT u ∧ ∀ j ∈ u, aP pc j := fun u hu => by
      obtain ⟨z1, z2⟩ := n4 u hu
      refine ⟨z1, fun j hj => ?_⟩
      unfold aP
      rw [hpc]
      exact z2 j hj
    refine jE_I (q_holds (d := d + 1) (s := s) (by rw [hpc]; exact hS) rfl (by omega) hT N3 a1 H.1 Q) ?_
    rintro h1 ⟨F1, st', Q1⟩
    have eN : ans B ev (n :: B.2.2.2.drop (i + 1)) S c = jI (aH S ev n.2.2.2) (ans B ev (B.2.2.2.drop (i + 1)) (aco B n S).2 (if (aco B n S).1 = true then c + 1 else c)) (ans B ev (B.2.2.2.drop (i + 1)) S c) := rfl
    rw [eN]
    have F1w : jS (wE g s) h h1 := jS_mn F1 fun x z => Or.inl (by unfold jn at *; omega)
    have H1 : sA h1 g s S ev dn pc := by
      obtain ⟨y1, y2, ⟨l2, y3⟩, y4⟩ := H
      refine ⟨gC_tr y1 F1 fun x z1 z2 => by unfold jn at *; omega, fun p hp => ?_, ⟨l2, pU_tr y3 F1 fun x z1 z2 => by unfold jn at *; omega⟩, st', Q1⟩
      obtain ⟨l3, q⟩ := y2 p hp
      exact ⟨l3, pU_tr q F1 fun x z1 z2 => by unfold jn at *; omega⟩
    have HB1 := bA_tr HB F1 fun x z1 z2 => by unfold jn at *; omega
    have T1 := tI_tr T F1 fun x z1 z2 => by unfold jn at *; omega
    by_cases cA : aH S ev n.2.2.2
    · rw [jp_T cA, if_neg (by decide), jI_T cA, jm_O_eq (sA_ob H1)]
      refine jE_I (g_carryOut (d := d) (cs := cs) hgs hbg hpc hmem (by rw [hpc]; exact hS) H1 HB1 T1 (nA_tr N F1 (by unfold jn; omega))) ?_
      rintro h2 ⟨F2, H2, T2⟩
      have HB2 := bA_tr HB1 F2 fun x z1 z2 => by
        rcases z1 with z1 | z1 <;> (unfold jn at *; omega)
      have hS2 := gS_aco hG hmem hS
      by_cases cC : (aco B n S).1 = true
      · rw [if_pos cC, if_neg (by decide), if_pos cC]
        exact jF_mono (ih (i + 1) _ (c + 1) _ h2 (by omega) hS2 H2 HB2 T2) fun h3 ⟨F3, q⟩ => ⟨jS_tr F1w (jS_tr F2 F3), q⟩
      · rw [if_neg cC, if_pos rfl, if_neg cC]
        exact jF_mono (ih (i + 1) _ c _ h2 (by omega) hS2 H2 HB2 T2) fun h3 ⟨F3, q⟩ => ⟨jS_tr F1w (jS_tr F2 F3), q⟩
    · rw [jp_F cA, if_pos rfl, jI_F cA]
      exact jF_mono (ih (i + 1) S c _ h1 (by omega) hS H1 HB1 T1) fun h3 ⟨F3, q⟩ => ⟨jS_tr F1w F3, q⟩
theorem g_passEvening (hgs : g + 75 ≤ s ∨ s + 15 ≤ g) (hbg : b + 89 ≤ g ∨ g + 75 ≤ b) (hbs : b + 89 ≤ s ∨ s + 15 ≤ b) (hpc : pc = B.2.1.length) (hS : gS B S) (H : sA h g s S ev dn pc) (HB : bA h b B) (T : tI h s) :
    jF (jm_D (d + 7) mX4_passEvening [.ref g, .ref b] h) (.inl (some (.int (aev B (S, ev, dn)).2))) fun h' => jS (wE g s) h h' ∧ sA h' g s (aev B (S, ev, dn)).1.1 (aev B (S, ev, dn)).1.2.1 (aev B (S, ev, dn)).1.2.2 pc ∧ tI h' s :=
  jE_of (fun r => gX4_passEvening) (g_passEvening_loop hgs hbg hbs hpc B.2.2.2.length 0 S 0 none h (by omega) hS H HB T)
theorem gS_ans (hB : gB B) : ∀ (l : List aN) (S : aS) (c : Int32), (∀ n ∈ l, n ∈ B.2.2.2) → gS B S → gS B (ans B ev l S c).1
  | [], S, c, _, h => h
  | n :: l, S, c, hl, h => by
    show gS B (jI (aH S ev n.2.2.2) (ans B ev l (aco B n S).2 (if (aco B n S).1 = true then c + 1 else c)) (ans B ev l S c)).1
    by_cases q : aH S ev n.2.2.2
    · rw [jI_T q]
      exact gS_ans hB l _ _ (fun m hm => hl m (List.mem_cons_of_mem _ hm)) (gS_aco hB (hl n List.mem_cons_self) h)
    · rw [jI_F q]
      exact gS_ans hB l _ _ (fun m hm => hl m (List.mem_cons_of_mem _ hm)) h
theorem gS_aev (hB : gB B) (hS : gS B S) : gS B (aev B (S, ev, dn)).1.1 := gS_ans hB _ _ _ (fun _ h => h) hS
end SG
/-! ===== LEVEL 3: Stage, begin and copy ===== -/
section SG
variable {h h' : jm_H} {d g s b p q pc g2 : Nat} {S S2 : aS} {ev dn ev2 dn2 : Int32} {U : Nat → Prop} {B : aB}
/-- a play and its steps are set; the plays ahead of it are through -/
theorem sA_more {l : List Int} {x : Int32} {i : Nat} {h1 h2 : jm_H} (H : sA h g s S ev dn i) (hi : i < 12) (F1 : jS (jn (g + 15 + 5 * i) 5) h h1) (Hp : pL h1 (g + 15 + 5 * i) l) (hl : l = S.1 i) (hx : x = S.2 i) (F2 : jS (jn (g + 2) 1) h1 h2) (H2 : ∀ T, aC h1 (g + 2) 0 12 T → aC h2 (g + 2) 0 12 (upd T i x)) : sA h2 g s S ev dn (i + 1) := by
  obtain ⟨⟨u, T, a1, a2, a3, a4, a5, a6, a7⟩, b1, ⟨l2, b2⟩, st, b3⟩ := H
  have t1 : ∀ {q : Nat} {m : List Int}, (q + 5 ≤ g + 2 ∨ g + 3 ≤ q) → pL h1 q m → pL h2 q m := fun hq z => pL_tr z F2 fun x z1 z2 => by unfold jn at *; omega
  refine ⟨⟨u, upd T i x, oC_tr (oC_tr a1 F1 (by unfold jn; omega)) F2 (by unfold jn; omega), rC_tr (rC_tr a2 F1 (by unfold jn; omega)) F2 (by unfold jn; omega), a3, H2 T (aC_tr a4 F1 (by unfold jn; omega)), fun j hj => ?_, fun j hj => ?_, by omega⟩, fun j hj => ?_, ⟨l2, pU_tr (pU_tr b2 F1 fun x z1 z2 => by unfold jn at *; omega) F2 fun x z1 z2 => by unfold jn at *; omega⟩, st, qC_tr (qC_tr b3 F1 fun x z1 z2 => by unfold jn at *; omega) F2 fun x z1 z2 => by unfold jn at *; omega⟩
  · by_cases e : j = i
    · subst e
      exact (if_pos rfl).trans hx
    · exact (if_neg e).trans (a5 j (by omega))
  · by_cases e : j = i
    · subst e
      rw [← hl]
      exact t1 (by omega) Hp
    · exact t1 (by omega) (pL_tr (a6 j (by omega)) F1 fun x z1 z2 => by unfold jn at *; omega)
  · by_cases e : j = i
    · subst e
      exact ⟨l, pL_U (t1 (by omega) Hp)⟩
    · obtain ⟨l3, b4⟩ := b1 j hj
      exact ⟨l3, pU_tr (pU_tr b4 F1 fun x z1 z2 => by unfold jn at *; omega) F2 fun x z1 z2 => by unfold jn at *; omega⟩
theorem sA_any {m : Nat} (H : sA h g s S ev dn pc) (hm : m ≤ pc) : sA h g s S ev dn m := by
  obtain ⟨⟨u, T, a1, a2, a3, a4, a5, a6, a7⟩, b⟩ := H
  exact ⟨⟨u, T, a1, a2, a3, a4, fun i hi => a5 i (by omega), fun p hp => a6 p (by omega), by omega⟩, b⟩
theorem sA_0S (H : sA h g s S ev dn 0) : sA h g s S2 ev dn 0 := by
  obtain ⟨⟨u, T, a1, a2, a3, a4, a5, a6, a7⟩, b⟩ := H
  exact ⟨⟨u, T, a1, a2, a3, a4, fun i hi => absurd hi (Nat.not_lt_zero _), fun p hp => absurd hp (Nat.not_lt_zero _), a7⟩, b⟩
theorem sA_ev (x : Int32) (H : sA h g s S ev dn pc) : ∃ h', jm_pf h g 4 0 0 (.int x) = some h' ∧ jS (jn g 1) h h' ∧ sA h' g s S x dn pc := by
  obtain ⟨⟨u, T, a1, a2, a3, a4, a5, a6, a7⟩, b1, ⟨l2, b2⟩, st, b3⟩ := H
  obtain ⟨h1, e1, F, H1⟩ := oC_w (k := 0) (t := 0) (v := .int x) a1 (by simp [gF]) rfl
  refine ⟨h1, e1, F, ⟨u, T, H1, rC_tr a2 F (by unfold jn; omega), a3, aC_tr a4 F (by unfold jn; omega), a5, fun q hq => pL_tr (a6 q hq) F fun x z1 z2 => by unfold jn at *; omega, a7⟩, fun q hq => ?_, ⟨l2, pU_tr b2 F fun x z1 z2 => by unfold jn at *; omega⟩, st, qC_tr b3 F fun x z1 z2 => by unfold jn at *; omega⟩
  obtain ⟨l3, b4⟩ := b1 q hq
  exact ⟨l3, pU_tr b4 F fun x z1 z2 => by unfold jn at *; omega⟩
theorem sA_dn (x : Int32) (H : sA h g s S ev dn pc) : ∃ h', jm_pf h g 4 1 0 (.int x) = some h' ∧ jS (jn g 1) h h' ∧ sA h' g s S ev x pc := by
  obtain ⟨⟨u, T, a1, a2, a3, a4, a5, a6, a7⟩, b1, ⟨l2, b2⟩, st, b3⟩ := H
  obtain ⟨h1, e1, F, H1⟩ := oC_w (k := 1) (t := 0) (v := .int x) a1 (by simp [gF]) rfl
  refine ⟨h1, e1, F, ⟨u, T, H1, rC_tr a2 F (by unfold jn; omega), a3, aC_tr a4 F (by unfold jn; omega), a5, fun q hq => pL_tr (a6 q hq) F fun x z1 z2 => by unfold jn at *; omega, a7⟩, fun q hq => ?_, ⟨l2, pU_tr b2 F fun x z1 z2 => by unfold jn at *; omega⟩, st, qC_tr b3 F fun x z1 z2 => by unfold jn at *; omega⟩
  obtain ⟨l3, b4⟩ := b1 q hq
  exact ⟨l3, pU_tr b4 F fun x z1 z2 => by unfold jn at *; omega⟩
/-- the cells of a part, out of a stage -/
theorem sA_now {i : Nat} (H : sA h g s S ev dn pc) (hi : i < 12) : (jr_R h g 4 2 2).bind (fun a => jm_alr h a (Int32.ofNat i)) = some (g + 15 + 5 * i) ∧ jr_R h g 4 2 2 = some (g + 1) ∧ jm_len h (g + 1) = some 12 ∧ jm_alr h (g + 1) (Int32.ofNat i) = some (g + 15 + 5 * i) := by
  obtain ⟨⟨u, T, a1, a2, a3, a4, a5, a6, a7⟩, -⟩ := H
  have e1 : jr_R h g 4 2 2 = some (g + 1) := oC_R a1 rfl
  have e2 := rC_at a2 hi (by omega) (a3 i hi) (by have := a1.2; omega)
  exact ⟨by rw [e1]; exact e2, e1, rC_len a2, e2⟩
theorem g_steps1 {i : Nat} {x : Int32} (hi : i < 12) (H : sA h g s S ev dn pc) : jF (jm_D (d + 1) mX4_setSteps [.ref g, .int (Int32.ofNat i), .int x] h) (.inl none) fun h' => jS (jn (g + 2) 1) h h' ∧ ∀ T, aC h (g + 2) 0 12 T → aC h' (g + 2) 0 12 (upd T i x) := by
  obtain ⟨⟨u, T, a1, a2, a3, a4, a5, a6, a7⟩, -⟩ := H
  refine jE_of (fun r => gX4_setSteps) ?_
  obtain ⟨h1, e1, F1, H1⟩ := aC_w (x := x) a4 hi (by omega)
  rw [nar0] at H1
  simp only [oC_R a1 (k := 3) rfl, aC_len a4, e1, Option.bind_some]
  rw [if_neg (by rw [jw_neg (by omega)]; exact id), if_pos (by rw [jw_lt (by omega) (by omega)]; omega)]
  refine jF_end ⟨F1, fun T' hT => ?_⟩
  have : T' = T := by
    have := hT.1.symm.trans a4.1
    injection this with this
    injection this with this
    injection this with _ this
    injection this with _ this
    injection this
  rw [this]
  exact H1
theorem g_begin_loop (hbg : b + 89 ≤ g ∨ g + 75 ≤ b) : ∀ (f i : Nat) (S' : aS) (h : jm_H), i + f = 12 → bA h b B → (i ≤ B.2.1.length → sA h g s (B.2.2.1, fun _ => 0) 0 0 i) → (B.2.1.length ≤ i → sA h g s (B.2.2.1, fun _ => 0) 0 0 B.2.1.length) →
    jF (kX4_begin_12 (d + 2) g b (Int32.ofNat i) h) (.inl none) fun h' => jS (jn g 75) h h' ∧ sA h' g s (B.2.2.1, fun _ => 0) 0 0 B.2.1.length := by
  intro f
  induction f with
  | zero =>
    intro i S' h hi HB h1 h2
    have h12 := (bA_g HB).2.1
    have H := h2 (by omega)
    refine jE_of (fun r => gX4_begin_12) ?_
    obtain ⟨-, e1, e2, -⟩ := sA_now (i := 0) H (by omega)
    simp only [e1, e2, Option.bind_some]
    rw [if_neg (by rw [jw_lt (by omega) (by omega)]; omega)]
    exact jF_end ⟨jS_rf, H⟩
  | succ f ih =>
    intro i S' h hi HB h1 h2
    have h12 := (bA_g HB).2.1
    have Hany : ∃ m, sA h g s (B.2.2.1, fun _ => 0) 0 0 m := by
      by_cases c : i ≤ B.2.1.length
      · exact ⟨_, h1 c⟩
      · exact ⟨_, h2 (by omega)⟩
    obtain ⟨m, Hm⟩ := Hany
    refine jE_of (fun r => gX4_begin_12) ?_
    obtain ⟨-, e1, e2, e3⟩ := sA_now (i := i) Hm (by omega)
    simp only [e1, e2, e3, Option.bind_some, jm_O_eq (bA_ob HB), b_told HB (show i < 12 by omega), jc_R_eq]
    rw [if_pos (by rw [jw_lt (by omega) (by omega)]; omega)]
    obtain ⟨l0, P0⟩ := Hm.2.1 i (by omega)
    simp only [jm_O_eq (pU_ob P0)]
    rw [show (0 : Int32) = Int32.ofNat 0 from rfl]
    by_cases c : i < B.2.1.length
    · have Hi := h1 (by omega)
      refine jE_V (pL_setTo (d := d + 1) (by omega) P0 (bA_part HB c)) ?_
      rintro h3 ⟨F3, P3⟩
      have H3' : sA h3 g s (aup B.2.2.1 i (B.2.2.1 i), fun _ => 0) 0 0 i := sA_part (p := i) (l := B.2.2.1 i) Hi F3 (by omega) P3
      simp only [jm_O_eq (sA_ob H3')]
      refine jE_V (g_steps1 (d := d + 1) (x := Int32.ofNat 0) (by omega) H3') ?_
      rintro h4 ⟨F4, H4⟩
      have HN : sA h4 g s (B.2.2.1, fun _ => 0) 0 0 (i + 1) := sA_more Hi (by omega) F3 P3 rfl rfl F4 H4
      rw [jw_add1]
      refine jF_mono (ih (i + 1) S' h4 (by omega) (bA_tr (bA_tr HB F3 fun x z1 z2 => by unfold jn at *; omega) F4 fun x z1 z2 => by unfold jn at *; omega) (fun _ => HN) (fun z => ?_)) fun h5 ⟨F5, q⟩ => ⟨jS_tr (jS_mn F3 fun x z => by unfold jn at *; omega) (jS_tr (jS_mn F4 fun x z => by unfold jn at *; omega) F5), q⟩
      rw [show B.2.1.length = i + 1 by omega]
      exact HN
    · have Hi := h2 (by omega)
      obtain ⟨l1, P1⟩ : ∃ l, pU h (b + 13 + 5 * i) l := by
        obtain ⟨cs, a1, a2, -⟩ := HB
        exact a2 i (by omega)
      refine jE_V (pU_setTo (d := d + 1) (by omega) P0 P1) ?_
      rintro h3 ⟨F3, P3⟩
      have up : ∀ {x : Int32} {h2 : jm_H}, jS (jn (g + 2) 1) h3 h2 → (∀ T, aC h3 (g + 2) 0 12 T → aC h2 (g + 2) 0 12 (upd T i x)) → sA h2 g s (B.2.2.1, fun _ => 0) 0 0 B.2.1.length := by
        intro x h2 F4 H4
        obtain ⟨⟨u, T, a1, a2, a3, a4, a5, a6, a7⟩, b1, ⟨l2, b2⟩, st, b3⟩ := Hi
        refine ⟨⟨u, upd T i x, oC_tr (oC_tr a1 F3 (by unfold jn; omega)) F4 (by unfold jn; omega), rC_tr (rC_tr a2 F3 (by unfold jn; omega)) F4 (by unfold jn; omega), a3, H4 T (aC_tr a4 F3 (by unfold jn; omega)), fun j hj => (if_neg (by omega)).trans (a5 j hj), fun j hj => pL_tr (pL_tr (a6 j hj) F3 fun x z1 z2 => by unfold jn at *; omega) F4 fun x z1 z2 => by unfold jn at *; omega, a7⟩, fun j hj => ?_, ⟨l2, pU_tr (pU_tr b2 F3 fun x z1 z2 => by unfold jn at *; omega) F4 fun x z1 z2 => by unfold jn at *; omega⟩, st, qC_tr (qC_tr b3 F3 fun x z1 z2 => by unfold jn at *; omega) F4 fun x z1 z2 => by unfold jn at *; omega⟩
        by_cases e : j = i
        · subst e
          exact ⟨l1, pU_tr P3 F4 fun x z1 z2 => by unfold jn at *; omega⟩
        · obtain ⟨l3, b4⟩ := b1 j hj
          exact ⟨l3, pU_tr (pU_tr b4 F3 fun x z1 z2 => by unfold jn at *; omega) F4 fun x z1 z2 => by unfold jn at *; omega⟩
      have H3' : sA h3 g s (B.2.2.1, fun _ => 0) 0 0 0 := by
        obtain ⟨⟨u, T, a1, a2, a3, a4, a5, a6, a7⟩, b1, ⟨l2, b2⟩, st, b3⟩ := Hi
        refine ⟨⟨u, T, oC_tr a1 F3 (by unfold jn; omega), rC_tr a2 F3 (by unfold jn; omega), a3, aC_tr a4 F3 (by unfold jn; omega), fun j hj => absurd hj (Nat.not_lt_zero _), fun j hj => absurd hj (Nat.not_lt_zero _), by omega⟩, fun j hj => ?_, ⟨l2, pU_tr b2 F3 fun x z1 z2 => by unfold jn at *; omega⟩, st, qC_tr b3 F3 fun x z1 z2 => by unfold jn at *; omega⟩
        by_cases e : j = i
        · subst e
          exact ⟨l1, P3⟩
        · obtain ⟨l3, b4⟩ := b1 j hj
          exact ⟨l3, pU_tr b4 F3 fun x z1 z2 => by unfold jn at *; omega⟩
      simp only [jm_O_eq (sA_ob H3')]
      refine jE_V (g_steps1 (d := d + 1) (x := Int32.ofNat 0) (by omega) H3') ?_
      rintro h4 ⟨F4, H4⟩
      have HN := up F4 H4
      rw [jw_add1]
      exact jF_mono (ih (i + 1) S' h4 (by omega) (bA_tr (bA_tr HB F3 fun x z1 z2 => by unfold jn at *; omega) F4 fun x z1 z2 => by unfold jn at *; omega) (fun z => by omega) (fun _ => HN)) fun h5 ⟨F5, q⟩ => ⟨jS_tr (jS_mn F3 fun x z => by unfold jn at *; omega) (jS_tr (jS_mn F4 fun x z => by unfold jn at *; omega) F5), q⟩
theorem g_begin (hbg : b + 89 ≤ g ∨ g + 75 ≤ b) (H : sA h g s S ev dn 0) (HB : bA h b B) : jF (jm_D (d + 3) mX4_begin [.ref g, .ref b] h) (.inl none) fun h' => jS (jn g 75) h h' ∧ sA h' g s (B.2.2.1, fun _ => 0) 0 0 B.2.1.length := by
  refine jE_of (fun r => gX4_begin) ?_
  obtain ⟨h1, e1, F1, H1⟩ := sA_ev 0 H
  obtain ⟨h2, e2, F2, H2⟩ := sA_dn 0 H1
  have H3 : sA h2 g s (B.2.2.1, fun _ => 0) 0 0 0 := sA_0S H2
  simp only [e1, e2, Option.bind_some]
  have F := jS_tr F1 F2
  have := g_begin_loop (d := d) (s := s) hbg 12 0 S h2 (by omega) (bA_tr HB F fun x z1 z2 => by unfold jn at *; omega) (fun _ => H3) (fun z => by
    rw [show B.2.1.length = 0 by omega]; exact H3)
  exact jF_mono this fun h3 ⟨F3, q⟩ => ⟨jS_tr (jS_mn F fun x z => by unfold jn at *; omega) F3, q⟩
theorem g_setTo_loop (hgg : g + 75 ≤ g2 ∨ g2 + 75 ≤ g) (h12 : pc ≤ 12) : ∀ (f i : Nat) (h : jm_H), i + f = pc → sA h g s S ev dn i → sA h g2 s S ev dn pc →
    jF (kX4_setTo_18 (d + 2) g g2 (Int32.ofNat pc) (Int32.ofNat i) h) (.inl none) fun h' => jS (jn g 75) h h' ∧ sA h' g s S ev dn pc := by
  intro f
  induction f with
  | zero =>
    intro i h hi H H2
    refine jE_of (fun r => gX4_setTo_18) ?_
    rw [if_neg (by rw [jw_lt (by omega) (by omega)]; omega)]
    rw [show pc = i by omega]
    exact jF_end ⟨jS_rf, H⟩
  | succ f ih =>
    intro i h hi H H2
    refine jE_of (fun r => gX4_setTo_18) ?_
    obtain ⟨-, e1, e2, e3⟩ := sA_now (i := i) H (by omega)
    simp only [e1, e2, e3, Option.bind_some, jm_O_eq (sA_ob H2), g_partAt H2.1 (show i < 12 by omega), jc_R_eq]
    rw [if_pos (by rw [jw_lt (by omega) (by omega)]; omega), if_pos (by rw [jw_lt (by omega) (by omega)]; omega)]
    obtain ⟨l0, P0⟩ := H.2.1 i (by omega)
    simp only [jm_O_eq (pU_ob P0)]
    refine jE_V (pL_setTo (d := d + 1) (by omega) P0 (gC_part H2.1 (show i < pc by omega))) ?_
    rintro h3 ⟨F3, P3⟩
    have H23 := sA_tr H2 F3 fun x z1 z2 => by unfold jn at *; omega
    have H3' : sA h3 g s (aup S.1 i (S.1 i), S.2) ev dn i := sA_part H F3 (by omega) P3
    simp only [jm_O_eq (sA_ob H23), g_stepsAt H23.1 (show i < pc by omega), jc_I_eq, jm_O_eq (sA_ob H3')]
    refine jE_V (g_steps1 (d := d + 1) (x := S.2 i) (by omega) H3') ?_
    rintro h4 ⟨F4, H4⟩
    have HN : sA h4 g s S ev dn (i + 1) := sA_more H (by omega) F3 P3 rfl rfl F4 H4
    rw [jw_add1]
    exact jF_mono (ih (i + 1) h4 (by omega) HN (sA_tr H23 F4 fun x z1 z2 => by unfold jn at *; omega)) fun h5 ⟨F5, q⟩ => ⟨jS_tr (jS_mn F3 fun x z => by unfold jn at *; omega) (jS_tr (jS_mn F4 fun x z => by unfold jn at *; omega) F5), q⟩
theorem g_setTo (hgg : g + 75 ≤ g2 ∨ g2 + 75 ≤ g) (H : sA h g s S2 ev2 dn2 0) (H2 : sA h g2 s S ev dn pc) : jF (jm_D (d + 3) mX4_setTo [.ref g, .ref g2, .int (Int32.ofNat pc)] h) (.inl none) fun h' => jS (jn g 75) h h' ∧ sA h' g s S ev dn pc := by
  refine jE_of (fun r => gX4_setTo) ?_
  obtain ⟨h1, e1, F1, H1⟩ := sA_ev ev H
  have H21 := sA_tr H2 F1 fun x z1 z2 => by unfold jn at *; omega
  obtain ⟨h2, e2, F2, H22⟩ := sA_dn dn H1
  simp only [sA_0 H2, e1, sA_1 H21, e2, Option.bind_some]
  have F := jS_tr F1 F2
  have := g_setTo_loop (d := d) hgg (sA_12 H2) pc 0 h2 (by omega) (sA_0S (S2 := S) H22) (sA_tr H21 F2 fun x z1 z2 => by unfold jn at *; omega)
  exact jF_mono this fun h3 ⟨F3, q⟩ => ⟨jS_tr (jS_mn F fun x z => by unfold jn at *; omega) F3, q⟩
end SG
