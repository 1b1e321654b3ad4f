/-! ===== LEVEL 3: the reference, plays ===== -/
theorem jw_150m {b : Nat} : 150 * Int32.ofNat b = Int32.ofNat (150 * b) := (Int32.ofNat_mul 150 b).symm
/-- plays as three rows keep them -/
def zG (h : jm_H) (a pc : Nat) (S : aS) : Prop := pc ≤ 12 ∧ (∀ p, p < pc → (S.1 p).length ≤ 150) ∧ (∃ NW, lC h a 1800 NW ∧ ∀ p, p < pc → ∀ i, i < (S.1 p).length → NW (150 * p + i) = Int64.ofInt ((S.1 p).getD i 0)) ∧ (∃ MN, aC h (a + 1) 0 12 MN ∧ ∀ p, p < pc → MN p = Int32.ofNat (S.1 p).length) ∧ ∃ ST, aC h (a + 2) 0 12 ST ∧ ∀ p, p < pc → ST p = S.2 p
section ZG
variable {h h' h1 h2 : jm_H} {d m a b n t k p q pc : Nat} {U V W F G K : Nat → Prop} {l u : List Int} {S : aS}
theorem zG_z (H : zG h a pc S) (A : zS m U F h h') (D1 : ∀ c, jn a 3 c → c ≠ m) (D2 : ∀ c, jn a 3 c → ¬ U c) : zG h' a pc S := by
  obtain ⟨a1, a2, ⟨NW, n1, n2⟩, ⟨MN, m1, m2⟩, ST, s1, s2⟩ := H
  have j0 : jn a 3 a := ⟨Nat.le_refl _, by omega⟩
  have j1 : jn a 3 (a + 1) := ⟨by omega, by omega⟩
  have j2 : jn a 3 (a + 2) := ⟨by omega, by omega⟩
  exact ⟨a1, a2, ⟨NW, lC_z n1 A (D1 _ j0) (D2 _ j0), n2⟩, ⟨MN, aC_z m1 A (D1 _ j1) (D2 _ j1), m2⟩, ST, aC_z s1 A (D1 _ j2) (D2 _ j2), s2⟩
theorem zG_zm (H : zG h (m + 21) pc S) (A : zS m U F h h') (D2 : ∀ c, U c → m + 24 ≤ c) : zG h' (m + 21) pc S :=
  zG_z H A (fun c z => by unfold jn at z; omega) fun c z y => by have := D2 c y; unfold jn at z; omega
theorem zG_many (H : zG h a pc S) (hp : p < pc) : jm_ali h (a + 1) 0 (Int32.ofNat p) = some (Int32.ofNat (S.1 p).length) := by
  obtain ⟨a1, a2, -, ⟨MN, m1, m2⟩, -⟩ := H
  rw [aC_at m1 (by omega) (by omega), m2 p hp]
theorem zG_many0 (H : zG h (m + 21) pc S) (hp : p < pc) : jm_ali h (m + 22) 0 (Int32.ofNat p) = some (Int32.ofNat (S.1 p).length) := zG_many H hp
theorem zG_steps0 (H : zG h (m + 21) pc S) (hp : p < pc) : jm_ali h (m + 23) 0 (Int32.ofNat p) = some (S.2 p) := by
  obtain ⟨a1, a2, -, -, ST, s1, s2⟩ := H
  have := aC_at s1 (show p < 12 by omega) (by omega)
  rw [s2 p hp] at this
  exact this
theorem zG_at {i : Nat} (H : zG h a pc S) (hp : p < pc) (hi : i < (S.1 p).length) : jm_all h a (Int32.ofNat (150 * p + i)) = some (Int64.ofInt ((S.1 p).getD i 0)) := by
  obtain ⟨a1, a2, ⟨NW, n1, n2⟩, -⟩ := H
  have := a2 p hp
  rw [lC_at n1 (by omega) (by omega), n2 p hp i hi]
theorem z_takeUp (hp : p < pc) (B : zB h m) (H : zG h (m + 21) pc S) : jF (jm_D (d + 1) mX13_takeUp [.ref m, .int (Int32.ofNat p)] h) (.inl none) fun h' => zS m (fun c => c = m + 27) (fun k => k = 19) h h' ∧ zK h' m (S.1 p) := by
  refine jE_of (fun r => gX13_takeUp) ?_
  have hlen := H.2.1 p hp
  have hpc := H.1
  simp only [zB_9 B, Option.bind_some, zG_many0 H hp]
  obtain ⟨h1, e1, F1, q1⟩ := z_pfI (Int32.ofNat (S.1 p).length) B (show 19 < 31 by omega)
  have B1 := zB_tr B F1 (fun k z => by rw [z]; rfl)
  have H1 := zG_zm H F1 fun c z => z.elim
  simp only [e1, Option.bind_some, zB_8 B1, zB_18 B1, q1, jw_150m]
  obtain ⟨g, L⟩ := zB_l (o := 27) (n := 301) B1 (Or.inr ⟨by omega, by omega⟩) rfl
  obtain ⟨b1, b2, ⟨NW, n1, n2⟩, -⟩ := H1
  obtain ⟨h3, e3, F3, V3⟩ := vR_cat (m := m) (s := 150 * p) (u := S.1 p) (vR_nil L) n1 (fun i hi => n2 p hp i hi) (by omega) (by omega) (by simp only [List.length_nil]; omega) (by omega) (by omega)
  have e3' : jm_cpy h1 (m + 21) (Int32.ofNat (150 * p)) (m + 27) 0 (Int32.ofNat (S.1 p).length) = some h3 := e3
  rw [e3', Option.bind_some]
  refine jF_end ⟨zS_2 F1 F3 (fun c z => z.elim) (fun c z => z) (fun k z => z) (fun k z => z.elim), zB_tr B1 F3 (fun k z => z.elim), (zS_I F3 id).trans q1, V3⟩
theorem zG_put {l : List Int} (hp : p < pc) (hl : l.length ≤ 150) (B : zB h m) (K : zK h m l) (H : zG h (m + 21) pc S) : jF (jm_D (d + 1) mX13_putDown [.ref m, .int (Int32.ofNat p)] h) (.inl none) fun h' => zS m (fun c => jn (m + 21) 2 c) (fun _ => False) h h' ∧ zK h' m l ∧ zG h' (m + 21) pc (aup S.1 p l, S.2) := by
  refine jE_of (fun r => gX13_putDown) ?_
  obtain ⟨a1, a2, ⟨NW, n1, n2⟩, ⟨MN, m1, m2⟩, ST, s1, s2⟩ := H
  simp only [zB_9 B, K.2.1, Option.bind_some]
  obtain ⟨h1, e1, F1, A1⟩ := z_asi (m := m) (i := p) (x := Int32.ofNat l.length) m1 (by omega) (by omega) (by omega)
  rw [nar0] at A1
  have e1' : jm_asi h (m + 22) 0 (Int32.ofNat p) (Int32.ofNat l.length) = some h1 := e1
  have K1 := zK_0 K F1 (by omega)
  simp only [e1', Option.bind_some, zB_18 K1.1, zB_8 K1.1, K1.2.1, jw_150m]
  have n1' := lC_z n1 F1 (by omega) (by omega)
  obtain ⟨V, L, v1, v2⟩ := K1.2.2
  obtain ⟨h2, e2, F2, L2⟩ := z_cpL (m := m) (s := 0) (e := 150 * p) (k := l.length) L n1' (by omega) (by omega) (by omega) (by omega) (by omega)
  have e2' : jm_cpy h1 (m + 27) 0 (m + 21) (Int32.ofNat (150 * p)) (Int32.ofNat l.length) = some h2 := e2
  rw [e2', Option.bind_some]
  refine jF_end ⟨zS_2 F1 F2 (fun c z => by unfold jn; omega) (fun c z => by unfold jn; omega) (fun k z => z) (fun k z => z), zK_0 K1 F2 (by omega), a1, fun r hr => ?_, ⟨_, L2, fun r hr i hi => ?_⟩, ⟨_, aC_z A1 F2 (by omega) (by omega), fun r hr => ?_⟩, ST, aC_z (aC_z s1 F1 (by omega) (by omega)) F2 (by omega) (by omega), s2⟩
  · show (if r = p then l else S.1 r).length ≤ 150
    split
    · exact hl
    · exact a2 r hr
  · have hi' : i < (if r = p then l else S.1 r).length := hi
    show va_cpy V NW 0 (150 * p) l.length (150 * r + i) = Int64.ofInt ((if r = p then l else S.1 r).getD i 0)
    by_cases c : r = p
    · rw [if_pos c] at hi' ⊢
      rw [va_cpyT (by omega) (by omega), show 0 + (150 * r + i - 150 * p) = i by omega]
      exact v2 i hi'
    · rw [if_neg c] at hi' ⊢
      have := a2 r hr
      rw [va_cpyF (by omega)]
      exact n2 r hr i hi'
  · show upd MN p (Int32.ofNat l.length) r = Int32.ofNat (if r = p then l else S.1 r).length
    by_cases c : r = p
    · rw [if_pos c, c]; exact if_pos rfl
    · rw [if_neg c, ← m2 r hr]; exact if_neg c
theorem z_canGive (hp : p < pc) (hq : q < pc) (B : zB h m) (H : zG h (m + 21) pc S) : jm_D (d + 1) mX13_canGive [.ref m, .int (Int32.ofNat p), .int (Int32.ofNat q)] h = some (.inl (some (.int (if 1 + (S.1 q).length + (S.1 p).length ≤ 150 then 1 else 0))), h) := by
  have h1 := H.2.1 p hp
  have h2 := H.2.1 q hq
  apply gX13_canGive
  simp only [zB_9 B, Option.bind_some, zG_many0 H hp, zG_many0 H hq, jw_add, jw_add1]
  by_cases c : 1 + (S.1 q).length + (S.1 p).length ≤ 150
  · rw [if_pos c, if_neg (by rw [jw_150lt (by omega)]; omega)]
  · rw [if_neg c, if_pos (by rw [jw_150lt (by omega)]; omega)]
theorem z_gift (hp : p < pc) (hq : q < pc) (hl : 1 + (S.1 q).length + (S.1 p).length ≤ 150) (B : zB h m) (H : zG h (m + 21) pc S) : jF (jm_D (d + 1) mX13_takeUpGift [.ref m, .int (Int32.ofNat p), .int (Int32.ofNat q)] h) (.inl none) fun h' => zS m (fun c => c = m + 27) (fun k => k = 19) h h' ∧ zK h' m (0 :: S.1 q ++ S.1 p) := by
  refine jE_of (fun r => gX13_takeUpGift) ?_
  have hpc := H.1
  obtain ⟨g, L⟩ := zB_l (o := 27) (n := 301) B (Or.inr ⟨by omega, by omega⟩) rfl
  obtain ⟨h1, e1, F1, V1⟩ := vR_add (m := m) (x := 0) (vR_nil L) (by omega) (by simp only [List.length_nil]; omega) (by omega)
  have e1' : jm_asl h (m + 27) 0 0 = some h1 := e1
  rw [List.nil_append] at V1
  have B1 := zB_tr B F1 (fun k z => z.elim)
  have H1 := zG_zm H F1 fun c z => by omega
  simp only [zB_18 B, Option.bind_some, e1', zB_8 B1, zB_18 B1, zB_9 B1, zG_many0 H1 hq, jw_150m]
  obtain ⟨b1, b2, ⟨NW, n1, n2⟩, b3⟩ := H1
  obtain ⟨h2, e2, F2, V2⟩ := vR_cat (m := m) (s := 150 * q) (u := S.1 q) V1 n1 (fun i hi => n2 q hq i hi) (by omega) (by omega) (by simp only [List.length_singleton]; omega) (by omega) (by omega)
  have e2' : jm_cpy h1 (m + 21) (Int32.ofNat (150 * q)) (m + 27) 1 (Int32.ofNat (S.1 q).length) = some h2 := e2
  have B2 := zB_tr B1 F2 (fun k z => z.elim)
  have H2 : zG h2 (m + 21) pc S := zG_zm ⟨b1, b2, ⟨NW, n1, n2⟩, b3⟩ F2 fun c z => by omega
  simp only [e2', Option.bind_some, zB_8 B2, zB_18 B2, zB_9 B2, zG_many0 H2 hq, zG_many0 H2 hp, jw_1add, jw_add, jw_150m]
  have n1' := lC_z n1 F2 (by omega) (by omega)
  obtain ⟨h3, e3, F3, V3⟩ := vR_cat (m := m) (s := 150 * p) (u := S.1 p) V2 n1' (fun i hi => n2 p hp i hi) (by omega) (by omega) (by rw [List.length_append, List.length_singleton]; omega) (by omega) (by omega)
  rw [List.length_append, List.length_singleton] at e3
  have B3 := zB_tr B2 F3 (fun k z => z.elim)
  have H3 := zG_zm H2 F3 fun c z => by omega
  simp only [e3, Option.bind_some, zB_9 B3, zG_many0 H3 hq, zG_many0 H3 hp, jw_1add, jw_add]
  obtain ⟨h4, e4, F4, q4⟩ := z_pfI (Int32.ofNat (1 + (S.1 q).length + (S.1 p).length)) B3 (show 19 < 31 by omega)
  rw [e4, Option.bind_some]
  refine jF_end ⟨?_, zB_tr B3 F4 (fun k z => by rw [z]; rfl), ?_, ?_⟩
  · exact zS_2 F1 (zS_2 F2 (zS_2 F3 F4 (W := fun c => c = m + 27) (K := fun k => k = 19) (fun c z => z) (fun c z => z.elim) (fun k z => z.elim) (fun k z => z)) (W := fun c => c = m + 27) (K := fun k => k = 19) (fun c z => z) (fun c z => z) (fun k z => z.elim) (fun k z => z)) (fun c z => z) (fun c z => z) (fun k z => z.elim) (fun k z => z)
  · rw [q4]
    congr 2
    rw [List.length_append, List.length_cons]
    omega
  · exact vR_z V3 F4 (by omega) id
/-! what a play is -/
theorem z_finished (hR : gR (S.1 p)) (hp : p < pc) (B : zB h m) (H : zG h (m + 21) pc S) : jF (jm_D (d + 2) mX13_finished [.ref m, .int (Int32.ofNat p)] h) (.inl (some (.int (jp (ry_r (S.1 p) = none))))) fun h' => zS m (fun c => c = m + 27) (fun k => k = 19) h h' ∧ zK h' m (S.1 p) := by
  refine jE_of (fun r => gX13_finished) ?_
  simp only [jm_O_eq (zB_ob B)]
  refine jE_V (z_takeUp (d := d) hp B H) ?_
  rintro h1 ⟨F1, K1⟩
  simp only [jm_O_eq (zB_ob K1.1), z_next (d := d) K1 hR.1 (gW_gN hR.2.1), jc_I_eq]
  have e := zN_m1 (fun k q => ry_r_b (l := S.1 p) hR.2.2 q)
  by_cases c : ry_r (S.1 p) = none
  · rw [if_pos (e.mpr c), jp_T c]
    exact jF_end ⟨F1, K1⟩
  · rw [if_neg (fun z => c (e.mp z)), jp_F c]
    exact jF_end ⟨F1, K1⟩
theorem z_same (hR : gR (S.1 p)) (hQ : gR (S.1 q)) (hp : p < pc) (hq : q < pc) (B : zB h m) (H : zG h (m + 21) pc S) : jF (jm_D (d + 4) mX13_same [.ref m, .int (Int32.ofNat p), .int (Int32.ofNat q)] h) (.inl (some (.int (jp (ry_like (S.1 p) (S.1 q)))))) fun h' => zS m (fun c => c = m + 27 ∨ c = m + 29) (fun k => k = 19) h h' := by
  refine jE_of (fun r => gX13_same) ?_
  simp only [jm_O_eq (zB_ob B)]
  refine jE_V (z_takeUp (d := d + 2) hp B H) ?_
  rintro h1 ⟨F1, K1⟩
  simp only [jm_O_eq (zB_ob K1.1)]
  refine jE_I (z_aside (d := d + 2) K1) ?_
  rintro h2 ⟨F2, K2, V2⟩
  simp only [jm_O_eq (zB_ob K2.1)]
  have H2 := zG_zm (zG_zm H F1 fun c z => by omega) F2 fun c z => by omega
  refine jE_V (z_takeUp (d := d + 2) hq K2.1 H2) ?_
  rintro h3 ⟨F3, K3⟩
  have V3 := vR_z V2 F3 (by omega) (by omega)
  simp only [jm_O_eq (zB_ob K3.1), z_alike (d := d) hQ hR K3 V3, jc_I_eq, jp_Y]
  rw [jp_cg (show ry_like (S.1 q) (S.1 p) ↔ ry_like (S.1 p) (S.1 q) from ⟨ry_like_sy, ry_like_sy⟩)]
  exact jF_end (zS_2 F1 (zS_2 F2 F3 (W := fun c => c = m + 27 ∨ c = m + 29) (K := fun k => k = 19) (fun c z => Or.inr z) (fun c z => Or.inl z) (fun k z => z.elim) (fun k z => z)) (fun c z => Or.inl z) (fun c z => z) (fun k z => z) (fun k z => z))
theorem jcnt_b {f : Nat → Bool} {i n : Nat} (hi : i ≤ n) : jcnt f i ≤ n := Nat.le_trans (jcnt_le i) hi
theorem z_masks_loop (hg : gN (S.1 p)) (hp : p < pc) (B : zB h m) (H : zG h (m + 21) pc S) : ∀ (f i : Nat), i + f = (S.1 p).length → kX13_masksOf_4 d m (Int32.ofNat p) (Int32.ofNat (jcnt (fun j => decide ((S.1 p).getD j 0 < 0)) i)) (Int32.ofNat i) h = some (.inl (some (.int (Int32.ofNat (ry_cm (S.1 p))))), h) := by
  have h1 := H.2.1 p hp
  have hpc := H.1
  intro f
  induction f with
  | zero =>
    intro i hi
    have : i = (S.1 p).length := by omega
    subst this
    apply gX13_masksOf_4
    simp only [zB_9 B, Option.bind_some, zG_many0 H hp]
    rw [if_neg (by rw [jw_lt (by omega) (by omega)]; omega)]
    rfl
  | succ f ih =>
    intro i hi
    have nx := ih (i + 1) (by omega)
    apply gX13_masksOf_4
    simp only [zB_9 B, Option.bind_some, zG_many0 H hp]
    rw [if_pos (by rw [jw_lt (by omega) (by omega)]; omega)]
    simp only [zB_8 B, Option.bind_some, jw_150m, jw_add, zG_at H hp (show i < (S.1 p).length by omega), ln_neg (hg i), jw_add1, Int32.add_zero]
    by_cases c : (S.1 p).getD i 0 < 0
    · rw [if_pos c, ← nx, jcnt_T (decide_eq_true c)]
    · rw [if_neg c, ← nx, jcnt_F (fun z => c (of_decide_eq_true z))]
theorem z_masks (hg : gN (S.1 p)) (hp : p < pc) (B : zB h m) (H : zG h (m + 21) pc S) : jm_D (d + 1) mX13_masksOf [.ref m, .int (Int32.ofNat p)] h = some (.inl (some (.int (Int32.ofNat (ry_cm (S.1 p))))), h) :=
  gX13_masksOf (z_masks_loop (d := d) hg hp B H (S.1 p).length 0 (by omega))
theorem z_scenes_loop (hg : gN (S.1 p)) (hp : p < pc) (B : zB h m) (H : zG h (m + 21) pc S) : ∀ (f i : Nat), i + f = (S.1 p).length → kX13_scenesOf_4 d m (Int32.ofNat p) (Int32.ofNat (jcnt (fun j => decide ((S.1 p).getD j 0 = 0)) i)) (Int32.ofNat i) h = some (.inl (some (.int (Int32.ofNat (ry_cs (S.1 p))))), h) := by
  have h1 := H.2.1 p hp
  have hpc := H.1
  intro f
  induction f with
  | zero =>
    intro i hi
    have : i = (S.1 p).length := by omega
    subst this
    apply gX13_scenesOf_4
    simp only [zB_9 B, Option.bind_some, zG_many0 H hp]
    rw [if_neg (by rw [jw_lt (by omega) (by omega)]; omega)]
    rfl
  | succ f ih =>
    intro i hi
    have nx := ih (i + 1) (by omega)
    apply gX13_scenesOf_4
    simp only [zB_9 B, Option.bind_some, zG_many0 H hp]
    rw [if_pos (by rw [jw_lt (by omega) (by omega)]; omega)]
    simp only [zB_8 B, Option.bind_some, jw_150m, jw_add, zG_at H hp (show i < (S.1 p).length by omega), ln_0 (hg i), jw_add1, Int32.add_zero]
    by_cases c : (S.1 p).getD i 0 = 0
    · rw [if_pos c, ← nx, jcnt_T (decide_eq_true c)]
    · rw [if_neg c, ← nx, jcnt_F (fun z => c (of_decide_eq_true z))]
theorem z_scenes (hg : gN (S.1 p)) (hp : p < pc) (B : zB h m) (H : zG h (m + 21) pc S) : jm_D (d + 1) mX13_scenesOf [.ref m, .int (Int32.ofNat p)] h = some (.inl (some (.int (Int32.ofNat (ry_cs (S.1 p))))), h) :=
  gX13_scenesOf (z_scenes_loop (d := d) hg hp B H (S.1 p).length 0 (by omega))
/-- masks around a name -/
theorem z_around2 {i : Nat} {x2 : Int32} {r : jm_R} (hR : gR l) (hi : i < l.length) (H : zK h m l) (g : ∀ o1 o4 o5, kX13_around_9 (d + 1) m o1 (if x2 < Int32.ofNat (ry_c l i i) then Int32.ofNat (ry_c l i i) else x2) (Int32.ofNat (i + 1)) o4 o5 h = some r) : ∀ (f j : Nat) (o1 : Option Value), j + f = i → kX13_around_37 (d + 1) m o1 x2 (Int32.ofNat i) (Int32.ofNat (ry_c l i j)) (Int32.ofNat j) h = some r := by
  obtain ⟨hP, hw, hl⟩ := hR
  have hg := gW_gN hw
  intro f
  induction f with
  | zero =>
    intro j o1 hj
    have : j = i := by omega
    subst this
    apply gX13_around_37
    rw [if_neg (by rw [jw_lt (by omega) (by omega)]; omega), jw_add1]
    exact g _ _ _
  | succ f ih =>
    intro j o1 hj
    have nx := ih (j + 1) o1 (by omega)
    have hn := ry_n_le (l := l) (i := j) (by omega)
    have er : ry_c l i (j + 1) = if l.getD j 0 < 0 ∧ i < ry_n l j then ry_c l i j + 1 else ry_c l i j := rfl
    apply gX13_around_37
    rw [if_pos (by rw [jw_lt (by omega) (by omega)]; omega)]
    simp only [zB_18 H.1, Option.bind_some, zW_at H.2 (show j < l.length by omega), ln_neg (hg j), jw_add1, Int32.add_zero]
    by_cases c : l.getD j 0 < 0
    · rw [if_pos c]
      simp only [f_end H.2.2 (by omega) hg hP (show j < l.length by omega), jc_I_eq, jw_lt (show i < 2147483648 by omega) (show ry_n l j < 2147483648 by omega)]
      by_cases c2 : i < ry_n l j
      · rw [if_pos c2, ← nx, er, if_pos ⟨c, c2⟩]
      · rw [if_neg c2, ← nx, er, if_neg (fun z => c2 z.2)]
    · rw [if_neg c, ← nx, er, if_neg (fun z => c z.1)]
theorem z_around1 (hR : gR l) (H : zK h m l) : ∀ (f i : Nat) (o1 o4 o5 : Option Value), i + f = l.length → kX13_around_9 (d + 1) m o1 (Int32.ofNat (ry_mm l i)) (Int32.ofNat i) o4 o5 h = some (.inl (some (.int (Int32.ofNat (ry_mm l l.length)))), h) := by
  have hl := hR.2.2
  have hg := gW_gN hR.2.1
  intro f
  induction f with
  | zero =>
    intro i o1 o4 o5 hi
    have : i = l.length := by omega
    subst this
    apply gX13_around_9
    simp only [H.2.1, Option.bind_some]
    rw [if_neg (by rw [jw_lt (by omega) (by omega)]; omega)]
  | succ f ih =>
    intro i o1 o4 o5 hi
    have nx := fun o1 o4 o5 => ih (i + 1) o1 o4 o5 (by omega)
    have h2 := ry_mm_le (l := l) i
    have h3 := ry_c_le (l := l) (i := i) i
    have er : ry_mm l (i + 1) = if 0 < l.getD i 0 then max (ry_mm l i) (ry_c l i i) else ry_mm l i := rfl
    apply gX13_around_9
    simp only [H.2.1, Option.bind_some]
    rw [if_pos (by rw [jw_lt (by omega) (by omega)]; omega)]
    simp only [zB_18 H.1, Option.bind_some, zW_at H.2 (show i < l.length by omega), ln_pos (hg i), jw_add1]
    rw [er] at nx
    by_cases c : 0 < l.getD i 0
    · rw [if_pos c] at nx ⊢
      refine z_around2 (d := d) hR (by omega) H (fun o1 o4 o5 => ?_) i 0 o1 (by omega)
      rw [jw_max (by omega) (by omega)]
      exact nx _ _ _
    · rw [if_neg c] at nx ⊢
      exact nx _ _ _
theorem z_around (hR : gR (S.1 p)) (hp : p < pc) (B : zB h m) (H : zG h (m + 21) pc S) : jF (jm_D (d + 2) mX13_around [.ref m, .int (Int32.ofNat p)] h) (.inl (some (.int (Int32.ofNat (ry_mm (S.1 p) (S.1 p).length))))) fun h' => zS m (fun c => c = m + 27) (fun k => k = 19) h h' := by
  refine jE_of (fun r => gX13_around) ?_
  simp only [jm_O_eq (zB_ob B)]
  refine jE_V (z_takeUp (d := d) hp B H) ?_
  rintro h1 ⟨F1, K1⟩
  exact jF_eq (z_around1 (d := d) hR K1 (S.1 p).length 0 _ _ _ (by omega)) F1
/-- how often a name stands -/
def zst (l : List Int) (x : Int) (i : Nat) : Nat := jcnt (fun k => decide (l.getD k 0 = x ∧ ry_w l k k < 0)) i
theorem z_stands_loop {x : Int} {o1 : Option Value} (hx : x.natAbs < q10) (hR : gR l) (H : zK h m l) : ∀ (f i : Nat), i + f = l.length → kX13_stands_11 (d + 2) m o1 (Int64.ofInt x) (Int32.ofNat (zst l x i)) (Int32.ofNat i) h = some (.inl (some (.int (Int32.ofNat (zst l x l.length)))), h) := by
  obtain ⟨hP, hw, hl⟩ := hR
  have hg := gW_gN hw
  intro f
  induction f with
  | zero =>
    intro i hi
    have : i = l.length := by omega
    subst this
    apply gX13_stands_11
    simp only [H.2.1, Option.bind_some]
    rw [if_neg (by rw [jw_lt (by omega) (by omega)]; omega)]
  | succ f ih =>
    intro i hi
    have nx := ih (i + 1) (by omega)
    have hil : i < l.length := by omega
    apply gX13_stands_11
    simp only [H.2.1, Option.bind_some]
    rw [if_pos (by rw [jw_lt (by omega) (by omega)]; omega)]
    simp only [zB_18 H.1, Option.bind_some, zW_at H.2 hil, ln_eq (hg i) hx, jw_add1, Int32.add_zero]
    by_cases c : l.getD i 0 = x
    · rw [if_pos c]
      have hw := ry_w_lt (l := l) (i := i) i
      have en : Int32.ofInt (ry_w l i i) = -1 ↔ ry_w l i i < 0 := by
        rw [← Int32.toInt_inj, jw_z (by omega) (by omega), show (-1 : Int32).toInt = -1 from rfl]
        omega
      simp only [z_owner (d := d) H.2.2 (by omega) hg hP hil, jc_I_eq, en]
      by_cases c2 : ry_w l i i < 0
      · rw [if_pos c2, ← nx]
        unfold zst
        rw [jcnt_T (decide_eq_true ⟨c, c2⟩)]
      · rw [if_neg c2, ← nx]
        unfold zst
        rw [jcnt_F (fun z => c2 (of_decide_eq_true z).2)]
    · rw [if_neg c, ← nx]
      unfold zst
      rw [jcnt_F (fun z => c (of_decide_eq_true z).1)]
theorem z_stands {x : Int} (hx : x.natAbs < q10) (hR : gR (S.1 p)) (hp : p < pc) (B : zB h m) (H : zG h (m + 21) pc S) : jF (jm_D (d + 3) mX13_stands [.ref m, .int (Int32.ofNat p), .long (Int64.ofInt x)] h) (.inl (some (.int (Int32.ofNat (zst (S.1 p) x (S.1 p).length))))) fun h' => zS m (fun c => c = m + 27) (fun k => k = 19) h h' := by
  refine jE_of (fun r => gX13_stands) ?_
  simp only [jm_O_eq (zB_ob B)]
  refine jE_V (z_takeUp (d := d + 1) hp B H) ?_
  rintro h1 ⟨F1, K1⟩
  exact jF_eq (z_stands_loop (d := d) hx hR K1 (S.1 p).length 0 (by omega)) F1
/-! letters of names -/
theorem ln_N {n : Nat} : Int64.ofInt ((n : Nat) : Int) = Int64.ofNat n := Int64.ofInt_eq_ofNat
theorem ln_pN {n : Nat} (h : n < q10) : ((0 : Int32) < lg_cmp (Int64.ofNat n) 0) ↔ 0 < n := by
  rw [← ln_N, ln_pos (by rw [Int.natAbs_natCast]; exact h)]
  omega
theorem ln_div {n k : Nat} (h : n < q10) (hk : k < q10) : Int64.ofNat n / Int64.ofNat k = Int64.ofNat (n / k) := by
  have e : q10 = 4808584372417849 := by decide
  rw [e] at h hk
  exact (Int64.ofNat_div (by omega) (by omega)).symm
theorem ln_abs {x : Int} (h : 0 < x) : Int64.ofInt x = Int64.ofNat x.natAbs := by
  rw [← ln_N, Int.natAbs_of_nonneg (by omega)]
theorem ln_abn {x : Int} (h : x < 0) : -(Int64.ofInt x) = Int64.ofNat x.natAbs := by
  rw [ln_ng, ← ln_N]
  congr 1
  omega
theorem z_lettersOf_loop : ∀ (f n c : Nat) (o0 o1 : Option Value), n < 37 ^ f → n < q10 → c + f < 2147483648 → kX13_lettersOf_4 d o0 o1 (Int32.ofNat c) (Int64.ofNat n) h = some (.inl (some (.int (Int32.ofNat (c + (lets n).length)))), h) := by
  intro f
  induction f with
  | zero =>
    intro n c o0 o1 hn hq hc
    have : n = 0 := by omega
    subst this
    apply gX13_lettersOf_4
    simp only [ln_pN hq]
    rw [if_neg (by omega), lets_0, List.length_nil, Nat.add_zero]
  | succ f ih =>
    intro n c o0 o1 hn hq hc
    apply gX13_lettersOf_4
    simp only [ln_pN hq]
    by_cases c0 : 0 < n
    · rw [if_pos c0, show (37 : Int64) = Int64.ofNat 37 from rfl, ln_div hq (by decide), jw_add1, ih (n / 37) (c + 1) _ _ (Nat.div_lt_of_lt_mul (by rw [Nat.pow_succ, Nat.mul_comm] at hn; exact hn)) (Nat.lt_of_le_of_lt (Nat.div_le_self _ _) hq) (by omega), lets_s (show n ≠ 0 by omega), List.length_append, List.length_singleton]
      congr 6
      omega
    · have : n = 0 := by omega
      subst this
      rw [if_neg (by omega), lets_0, List.length_nil, Nat.add_zero]
theorem q10_p : q10 = 37 ^ 10 := by decide
theorem z_lettersOf {n : Nat} (hn : n < q10) : jm_D (d + 1) mX13_lettersOf [.long (Int64.ofNat n)] h = some (.inl (some (.int (Int32.ofNat (lets n).length))), h) := by
  apply gX13_lettersOf
  have := z_lettersOf_loop (d := d) (h := h) 10 n 0 (some (.long (Int64.ofNat n))) none (q10_p ▸ hn) hn (by omega)
  rw [Nat.zero_add] at this
  exact this
theorem z_textOf_loop (hg : gW (S.1 p)) (hp : p < pc) (B : zB h m) (H : zG h (m + 21) pc S) : ∀ (f i : Nat), i + f = (S.1 p).length → kX13_textOf_8 (d + 1) m (Int32.ofNat p) (Int32.ofNat (txs (S.1 p) i)) (Int32.ofNat (150 * p + i)) h = some (.inl (some (.int (Int32.ofNat (txs (S.1 p) (S.1 p).length)))), h) := by
  have h1 := H.2.1 p hp
  have hpc := H.1
  intro f
  induction f with
  | zero =>
    intro i hi
    have : i = (S.1 p).length := by omega
    subst this
    apply gX13_textOf_8
    simp only [zB_9 B, Option.bind_some, zG_many0 H hp, jw_150m, jw_add]
    rw [if_neg (by rw [jw_lt (by omega) (by omega)]; omega)]
  | succ f ih =>
    intro i hi
    have nx := ih (i + 1) (by omega)
    have hn := gW_gN hg i
    have er : txs (S.1 p) (i + 1) = txs (S.1 p) i + twt ((S.1 p).getD i 0) := rfl
    rw [er] at nx
    unfold twt at nx
    apply gX13_textOf_8
    simp only [zB_9 B, Option.bind_some, zG_many0 H hp, jw_150m, jw_add]
    rw [if_pos (by rw [jw_lt (by omega) (by omega)]; omega)]
    simp only [zB_8 B, Option.bind_some, zG_at H hp (show i < (S.1 p).length by omega), ln_0 hn, ln_neg hn, jw_add1]
    by_cases c : (S.1 p).getD i 0 = 0
    · rw [if_pos c] at nx ⊢
      rw [show Int32.ofNat (txs (S.1 p) i) + 3 = Int32.ofNat (txs (S.1 p) i + 3) from jw_addL]
      exact nx
    · rw [if_neg c] at nx ⊢
      by_cases c2 : (S.1 p).getD i 0 < 0
      · rw [if_pos c2] at nx ⊢
        rw [ln_abn c2, z_lettersOf (d := d) hn, jc_I_eq, show (7 : Int32) = Int32.ofNat 7 from rfl, jw_add, jw_add]
        exact nx
      · rw [if_neg c2] at nx ⊢
        rw [ln_abs (by omega), z_lettersOf (d := d) hn, jc_I_eq, jw_add]
        exact nx
theorem z_textOf (hg : gW (S.1 p)) (hp : p < pc) (B : zB h m) (H : zG h (m + 21) pc S) : jm_D (d + 2) mX13_textOf [.ref m, .int (Int32.ofNat p)] h = some (.inl (some (.int (Int32.ofNat (txs (S.1 p) (S.1 p).length)))), h) := by
  apply gX13_textOf
  rw [jw_150m]
  exact z_textOf_loop (d := d) hg hp B H (S.1 p).length 0 (by omega)
end ZG
