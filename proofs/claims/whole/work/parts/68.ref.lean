/-! ===== LEVEL 3: the reference, what it holds and what changes ===== -/
/-- the kind of a cell -/
def zY : Option jm_AE → Option (Nat × Nat × Nat)
  | some (.inl (t, n, .inl _)) => some (t, n, 0)
  | some (.inl (t, n, .inr (.inl _))) => some (t, n, 1)
  | some (.inl (t, n, .inr (.inr _))) => some (t, n, 2)
  | some (.inr (c, fs)) => some (c, fs.length, 9)
  | none => none
/-- nothing but some cells and some fields has changed, no cell its kind -/
def zS (m : Nat) (U F : Nat → Prop) (h h' : jm_H) : Prop := h'.1 = h.1 ∧ h'.2.1 = h.2.1 ∧ (∀ a, zY (h'.2.2 a) = zY (h.2.2 a)) ∧ (∀ a, a ≠ m → ¬ U a → h'.2.2 a = h.2.2 a) ∧ ∀ k t, ¬ F k → jm_gf h' m 12 k t = jm_gf h m 12 k t
/-- where the fields lead -/
def zr (k : Nat) : Nat := [0, 1, 0, 0, 0, 0, 0, 0, 21, 22, 23, 24, 25, 26, 0, 0, 0, 0, 27, 0, 28, 29, 30, 31, 0, 32, 33, 34].getD k 0
/-- kinds of its cells -/
def zt (o : Nat) : Nat × Nat × Nat := [(12, 31, 9), (0, 2000, 0), (1, 1800, 1), (0, 12, 0), (0, 12, 0), (1, 1800, 1), (0, 12, 0), (0, 12, 0), (1, 301, 1), (1, 301, 1), (1, 301, 1), (3, 301, 0), (0, 4000, 0), (0, 301, 0), (0, 301, 0), (0, 800, 0)].getD (if o ≤ 1 then o else o - 19) (0, 0, 7)
/-- a MaskPlaysModel, whatever it holds -/
def zB (h : jm_H) (m : Nat) : Prop := 128 ≤ m ∧ (∀ o, (o ≤ 1 ∨ (21 ≤ o ∧ o ≤ 34)) → zY (h.2.2 (m + o)) = some (zt o)) ∧ ∀ k, 0 < zr k → jr_R h m 12 k 2 = some (m + zr k)
section ZS
variable {h h' h1 h2 : jm_H} {d m a n t k : Nat} {U V W F G K : Nat → Prop} {l : List Int}
theorem zS_rf : zS m U F h h := ⟨rfl, rfl, fun _ => rfl, fun _ _ _ => rfl, fun _ _ _ => rfl⟩
theorem zS_tr (A : zS m U F h h1) (B : zS m U F h1 h2) : zS m U F h h2 := ⟨B.1.trans A.1, B.2.1.trans A.2.1, fun a => (B.2.2.1 a).trans (A.2.2.1 a), fun a p q => (B.2.2.2.1 a p q).trans (A.2.2.2.1 a p q), fun k t p => (B.2.2.2.2 k t p).trans (A.2.2.2.2 k t p)⟩
theorem zS_mn (A : zS m U F h h1) (p : ∀ a, U a → V a) (q : ∀ k, F k → G k) : zS m V G h h1 := ⟨A.1, A.2.1, A.2.2.1, fun a z1 z2 => A.2.2.2.1 a z1 fun z => z2 (p a z), fun k t z => A.2.2.2.2 k t fun y => z (q k y)⟩
/-- two frames in one -/
theorem zS_2 (A : zS m U F h h1) (B : zS m V G h1 h2) (p1 : ∀ a, U a → W a) (p2 : ∀ a, V a → W a) (q1 : ∀ k, F k → K k) (q2 : ∀ k, G k → K k) : zS m W K h h2 := zS_tr (zS_mn A p1 q1) (zS_mn B p2 q2)
theorem zS_at (A : zS m U F h h') (p : a ≠ m) (q : ¬ U a) : h'.2.2 a = h.2.2 a := A.2.2.2.1 a p q
theorem zS_I (A : zS m U F h h') (p : ¬ F k) : jr_I h' m 12 k t = jr_I h m 12 k t := by unfold jr_I; rw [A.2.2.2.2 k t p]
theorem zS_L (A : zS m U F h h') (p : ¬ F k) : jr_L h' m 12 k t = jr_L h m 12 k t := by unfold jr_L; rw [A.2.2.2.2 k t p]
theorem zS_R (A : zS m U F h h') (p : ¬ F k) : jr_R h' m 12 k t = jr_R h m 12 k t := by unfold jr_R; rw [A.2.2.2.2 k t p]
theorem zS_jS (A : zS m U F h h') : jS (fun a => a = m ∨ U a) h h' := ⟨A.1, A.2.1, fun a q => A.2.2.2.1 a (fun z => q (Or.inl z)) fun z => q (Or.inr z)⟩
theorem zB_tr (H : zB h m) (A : zS m U F h h') (p : ∀ k, F k → zr k = 0) : zB h' m := ⟨H.1, fun o q => (A.2.2.1 _).trans (H.2.1 o q), fun k q => (zS_R A fun z => by have := p k z; omega).trans (H.2.2 k q)⟩
theorem lC_z {g : Nat → Int64} (H : lC h a n g) (A : zS m U F h h') (p : a ≠ m) (q : ¬ U a) : lC h' a n g := ⟨(zS_at A p q).trans H.1, H.2⟩
theorem aC_z {g : Nat → Int32} (H : aC h a t n g) (A : zS m U F h h') (p : a ≠ m) (q : ¬ U a) : aC h' a t n g := ⟨(zS_at A p q).trans H.1, H.2⟩
theorem vR_z (H : vR h a n l) (A : zS m U F h h') (p : a ≠ m) (q : ¬ U a) : vR h' a n l := by
  obtain ⟨g, L, r⟩ := H
  exact ⟨g, lC_z L A p q, r⟩
/-- cells by their kinds -/
theorem zY_l (e : zY (h.2.2 a) = some (1, n, 1)) (ha : 128 ≤ a) : ∃ g, lC h a n g := by
  unfold lC
  cases q : h.2.2 a with
  | none => rw [q] at e; cases e
  | some x =>
    rw [q] at e
    match x, e with
    | .inl (t, n', .inr (.inl g)), e => cases e; exact ⟨g, rfl, ha⟩
    | .inl (t, n', .inl g), e => cases e
    | .inl (t, n', .inr (.inr g)), e => cases e
    | .inr (c, fs), e => cases e
theorem zY_a (e : zY (h.2.2 a) = some (t, n, 0)) (ha : 128 ≤ a) (ht : t ≤ 4) : ∃ g, aC h a t n g := by
  unfold aC
  cases q : h.2.2 a with
  | none => rw [q] at e; cases e
  | some x =>
    rw [q] at e
    match x, e with
    | .inl (t, n', .inl g), e => cases e; exact ⟨g, rfl, ha, ht⟩
    | .inl (t, n', .inr (.inl g)), e => cases e
    | .inl (t, n', .inr (.inr g)), e => cases e
    | .inr (c, fs), e => cases e
theorem zY_o {c : Nat} (e : zY (h.2.2 a) = some (c, n, 9)) : ∃ fs, h.2.2 a = some (.inr (c, fs)) ∧ fs.length = n := by
  cases q : h.2.2 a with
  | none => rw [q] at e; cases e
  | some x =>
    rw [q] at e
    match x, e with
    | .inr (c, fs), e => cases e; exact ⟨fs, rfl, rfl⟩
    | .inl (t, n', .inl g), e => cases e
    | .inl (t, n', .inr (.inl g)), e => cases e
    | .inl (t, n', .inr (.inr g)), e => cases e
theorem zB_l {o : Nat} (H : zB h m) (ho : o ≤ 1 ∨ (21 ≤ o ∧ o ≤ 34)) (e : zt o = (1, n, 1)) : ∃ g, lC h (m + o) n g := zY_l ((H.2.1 o ho).trans (by rw [e])) (by have := H.1; omega)
theorem zB_a {o : Nat} (H : zB h m) (ho : o ≤ 1 ∨ (21 ≤ o ∧ o ≤ 34)) (e : zt o = (t, n, 0)) (ht : t ≤ 4) : ∃ g, aC h (m + o) t n g := zY_a ((H.2.1 o ho).trans (by rw [e])) (by have := H.1; omega) ht
theorem zB_o (H : zB h m) : ∃ fs, h.2.2 m = some (.inr (12, fs)) ∧ fs.length = 31 := zY_o (H.2.1 0 (Or.inl (by omega)))
theorem zB_ob (H : zB h m) : jm_ob h m 13 = true := by
  obtain ⟨fs, e, -⟩ := zB_o H
  unfold jm_ob
  rw [e]
  rfl
theorem zB_1 (H : zB h m) : jr_R h m 12 1 2 = some (m + 1) := H.2.2 1 (by decide)
theorem zB_8 (H : zB h m) : jr_R h m 12 8 2 = some (m + 21) := H.2.2 8 (by decide)
theorem zB_9 (H : zB h m) : jr_R h m 12 9 2 = some (m + 22) := H.2.2 9 (by decide)
theorem zB_10 (H : zB h m) : jr_R h m 12 10 2 = some (m + 23) := H.2.2 10 (by decide)
theorem zB_11 (H : zB h m) : jr_R h m 12 11 2 = some (m + 24) := H.2.2 11 (by decide)
theorem zB_12 (H : zB h m) : jr_R h m 12 12 2 = some (m + 25) := H.2.2 12 (by decide)
theorem zB_13 (H : zB h m) : jr_R h m 12 13 2 = some (m + 26) := H.2.2 13 (by decide)
theorem zB_18 (H : zB h m) : jr_R h m 12 18 2 = some (m + 27) := H.2.2 18 (by decide)
theorem zB_20 (H : zB h m) : jr_R h m 12 20 2 = some (m + 28) := H.2.2 20 (by decide)
theorem zB_21 (H : zB h m) : jr_R h m 12 21 2 = some (m + 29) := H.2.2 21 (by decide)
theorem zB_22 (H : zB h m) : jr_R h m 12 22 2 = some (m + 30) := H.2.2 22 (by decide)
theorem zB_23 (H : zB h m) : jr_R h m 12 23 2 = some (m + 31) := H.2.2 23 (by decide)
theorem zB_25 (H : zB h m) : jr_R h m 12 25 2 = some (m + 32) := H.2.2 25 (by decide)
theorem zB_26 (H : zB h m) : jr_R h m 12 26 2 = some (m + 33) := H.2.2 26 (by decide)
theorem zB_27 (H : zB h m) : jr_R h m 12 27 2 = some (m + 34) := H.2.2 27 (by decide)
/-! writes -/
theorem zY_set {e : jm_AE} (q : zY (some e) = zY (h.2.2 a)) : ∀ b, zY ((jm_set h a e).2.2 b) = zY (h.2.2 b) := by
  intro b
  show zY (if b = a then some e else h.2.2 b) = _
  by_cases p : b = a
  · rw [if_pos p, q, p]
  · rw [if_neg p]
theorem zS_set {e : jm_AE} (q : zY (some e) = zY (h.2.2 a)) (p : a ≠ m) : zS m (fun b => b = a) (fun _ => False) h (jm_set h a e) :=
  ⟨rfl, rfl, zY_set q, fun b _ r => if_neg r, fun k t _ => by
    unfold jm_gf
    rw [show (jm_set h a e).2.2 m = h.2.2 m from if_neg (fun z => p z.symm)]⟩
theorem z_pf {k : Nat} {v : Value} (H : zB h m) (hk : k < 31) (ht : jm_tk t v = true) : ∃ h', jm_pf h m 12 k t v = some h' ∧ zS m (fun _ => False) (fun j => j = k) h h' ∧ jm_gf h' m 12 k t = some v := by
  obtain ⟨fs, e, hl⟩ := zB_o H
  refine ⟨jm_set h m (.inr (12, fs.set k v)), ?_, ⟨rfl, rfl, zY_set (by rw [e]; show some (12, (fs.set k v).length, 9) = some (12, fs.length, 9); rw [List.length_set]), fun b p _ => if_neg p, fun j t' p => ?_⟩, ?_⟩
  · unfold jm_pf
    rw [if_pos H.1, e]
    exact if_pos ⟨rfl, by omega, ht⟩
  · unfold jm_gf
    rw [show (jm_set h m (.inr (12, fs.set k v))).2.2 m = some (.inr (12, fs.set k v)) from if_pos rfl, e]
    simp only [List.getElem?_set_ne (fun z => p z.symm : k ≠ j)]
  · unfold jm_gf
    rw [show (jm_set h m (.inr (12, fs.set k v))).2.2 m = some (.inr (12, fs.set k v)) from if_pos rfl]
    simp only [if_true, List.getElem?_set_self (show k < fs.length by omega), ht]
theorem z_pfI (x : Int32) {k : Nat} (H : zB h m) (hk : k < 31) : ∃ h', jm_pf h m 12 k 0 (.int x) = some h' ∧ zS m (fun _ => False) (fun j => j = k) h h' ∧ jr_I h' m 12 k 0 = some x := by
  obtain ⟨h', e, F, g⟩ := z_pf (t := 0) (v := .int x) H hk rfl
  exact ⟨h', e, F, by unfold jr_I; rw [g]⟩
theorem z_pfL (x : Int64) {k : Nat} (H : zB h m) (hk : k < 31) : ∃ h', jm_pf h m 12 k 1 (.long x) = some h' ∧ zS m (fun _ => False) (fun j => j = k) h h' ∧ jr_L h' m 12 k 1 = some x := by
  obtain ⟨h', e, F, g⟩ := z_pf (t := 1) (v := .long x) H hk rfl
  exact ⟨h', e, F, by unfold jr_L; rw [g]⟩
theorem z_pfR (x : Nat) {k : Nat} (H : zB h m) (hk : k < 31) : ∃ h', jm_pf h m 12 k 2 (.ref x) = some h' ∧ zS m (fun _ => False) (fun j => j = k) h h' ∧ jr_R h' m 12 k 2 = some x := by
  obtain ⟨h', e, F, g⟩ := z_pf (t := 2) (v := .ref x) H hk rfl
  exact ⟨h', e, F, by unfold jr_R; rw [g]⟩
theorem z_asl {g : Nat → Int64} {i : Nat} {x : Int64} (H : lC h a n g) (p : a ≠ m) (hi : i < n) (hn : n < 2147483648) : ∃ h', jm_asl h a (Int32.ofNat i) x = some h' ∧ zS m (fun b => b = a) (fun _ => False) h h' ∧ lC h' a n (vp_updL g i x) := by
  refine ⟨jm_set h a (.inl (1, n, .inr (.inl (vp_updL g i x)))), ?_, zS_set (by rw [H.1]; rfl) p, if_pos rfl, H.2⟩
  unfold jm_asl
  rw [H.1]
  simp only [jw_n (show i < 2147483648 by omega)]
  exact if_pos ⟨H.2, jw_ix hi hn⟩
theorem z_asi {g : Nat → Int32} {i : Nat} {x : Int32} (H : aC h a t n g) (p : a ≠ m) (hi : i < n) (hn : n < 2147483648) : ∃ h', jm_asi h a t (Int32.ofNat i) x = some h' ∧ zS m (fun b => b = a) (fun _ => False) h h' ∧ aC h' a t n (upd g i (vp_nar (jm_ty t) x)) := by
  refine ⟨jm_set h a (.inl (t, n, .inl (upd g i (vp_nar (jm_ty t) x)))), ?_, zS_set (by rw [H.1]; rfl) p, if_pos rfl, H.2⟩
  unfold jm_asi
  rw [H.1]
  simp only [jw_n (show i < 2147483648 by omega)]
  exact if_pos ⟨H.2.1, trivial, jw_ix hi hn⟩
theorem z_cpL {b n1 s e k : Nat} {f g : Nat → Int64} (A : lC h a n f) (B : lC h b n1 g) (p : b ≠ m) (h1 : s + k ≤ n) (h2 : e + k ≤ n1) (hn : n < 2147483648) (hn1 : n1 < 2147483648) : ∃ h', jm_cpy h a (Int32.ofNat s) b (Int32.ofNat e) (Int32.ofNat k) = some h' ∧ zS m (fun c => c = b) (fun _ => False) h h' ∧ lC h' b n1 (va_cpy f g s e k) := by
  refine ⟨jm_set h b (.inl (1, n1, .inr (.inl (va_cpy f g s e k)))), ?_, zS_set (by rw [B.1]; rfl) p, if_pos rfl, B.2⟩
  unfold jm_cpy
  rw [if_pos ⟨A.2, B.2, by rw [jw_neg (by omega)]; exact id, by rw [jw_neg (by omega)]; exact id, by rw [jw_neg (by omega)]; exact id⟩, A.1, B.1]
  simp only [jw_n (show s < 2147483648 by omega), jw_n (show e < 2147483648 by omega), jw_n (show k < 2147483648 by omega)]
  exact if_pos ⟨h1, h2⟩
theorem z_cpI {b n1 s e k : Nat} {f g : Nat → Int32} (A : aC h a 0 n f) (B : aC h b 0 n1 g) (p : b ≠ m) (h1 : s + k ≤ n) (h2 : e + k ≤ n1) (hn : n < 2147483648) (hn1 : n1 < 2147483648) : ∃ h', jm_cpy h a (Int32.ofNat s) b (Int32.ofNat e) (Int32.ofNat k) = some h' ∧ zS m (fun c => c = b) (fun _ => False) h h' ∧ aC h' b 0 n1 (va_cpy f g s e k) := by
  refine ⟨jm_set h b (.inl (0, n1, .inl (va_cpy f g s e k))), ?_, zS_set (by rw [B.1]; rfl) p, if_pos rfl, B.2⟩
  unfold jm_cpy
  rw [if_pos ⟨A.2.1, B.2.1, by rw [jw_neg (by omega)]; exact id, by rw [jw_neg (by omega)]; exact id, by rw [jw_neg (by omega)]; exact id⟩, A.1, B.1]
  simp only [jw_n (show s < 2147483648 by omega), jw_n (show e < 2147483648 by omega), jw_n (show k < 2147483648 by omega)]
  exact if_pos ⟨h1, h2⟩
theorem va_cpyT {α : Type} {f g : Nat → α} {s e n i : Nat} (h1 : e ≤ i) (h2 : i < e + n) : va_cpy f g s e n i = f (s + (i - e)) := if_pos ⟨h1, h2⟩
theorem va_cpyF {α : Type} {f g : Nat → α} {s e n i : Nat} (q : ¬ (e ≤ i ∧ i < e + n)) : va_cpy f g s e n i = g i := if_neg q
end ZS
/-! rows that are worked on -/
def zW (h : jm_H) (m : Nat) (l : List Int) : Prop := jr_I h m 12 19 0 = some (Int32.ofNat l.length) ∧ vR h (m + 27) 301 l
def zK (h : jm_H) (m : Nat) (l : List Int) : Prop := zB h m ∧ zW h m l
def zN : Option Nat → Int32
  | none => -1
  | some k => Int32.ofNat k
section ZW
variable {h h' h1 h2 : jm_H} {d m a n t k : Nat} {U V W F G K : Nat → Prop} {l : List Int}
theorem zW_at {i : Nat} (H : zW h m l) (hi : i < l.length) : jm_all h (m + 27) (Int32.ofNat i) = some (Int64.ofInt (l.getD i 0)) := by
  obtain ⟨-, V, L, hl, hV⟩ := H
  rw [lC_at L (by omega) (by omega), hV i hi]
theorem vR_len (H : vR h a n l) : l.length ≤ n := by
  obtain ⟨V, L, hl, hV⟩ := H
  exact hl
theorem vR_at {i : Nat} (H : vR h a n l) (hn : n < 2147483648) (hi : i < l.length) : jm_all h a (Int32.ofNat i) = some (Int64.ofInt (l.getD i 0)) := by
  obtain ⟨V, L, hl, hV⟩ := H
  rw [lC_at L (by omega) hn, hV i hi]
theorem zW_z (H : zW h m l) (A : zS m U F h h') (p : ¬ U (m + 27)) (q : ¬ F 19) : zW h' m l := ⟨(zS_I A q).trans H.1, vR_z H.2 A (by omega) p⟩
theorem zK_z (H : zK h m l) (A : zS m U F h h') (p : ¬ U (m + 27)) (q : ¬ F 19) (r : ∀ k, F k → zr k = 0) : zK h' m l := ⟨zB_tr H.1 A r, zW_z H.2 A p q⟩
theorem zK_0 (H : zK h m l) (A : zS m U (fun _ => False) h h') (p : ¬ U (m + 27)) : zK h' m l := zK_z H A p id fun _ z => z.elim
theorem ln_eq {x y : Int} (hx : x.natAbs < q10) (hy : y.natAbs < q10) : (lg_cmp (Int64.ofInt x) (Int64.ofInt y) = 0) ↔ x = y := by
  rw [lg_0]
  constructor
  · intro z
    have := congrArg Int64.toInt z
    rw [ln_z hx, ln_z hy] at this
    exact this
  · intro z; rw [z]
theorem ln_ng {x : Int} : -(Int64.ofInt x) = Int64.ofInt (-x) := (Int64.ofInt_neg x).symm
theorem ln_pos {x : Int} (h : x.natAbs < q10) : ((0 : Int32) < lg_cmp (Int64.ofInt x) 0) ↔ 0 < x := by
  have e := ln_0 h
  have e2 := ln_neg h
  constructor
  · intro z
    by_cases c : x = 0
    · rw [e.mpr c] at z; exact absurd z (by decide)
    · by_cases c2 : x < 0
      · have := e2.mpr c2
        rw [Int32.lt_iff_toInt_lt] at this z
        omega
      · omega
  · intro z
    have n1 : ¬ lg_cmp (Int64.ofInt x) 0 = 0 := fun y => by have := e.mp y; omega
    have n2 : ¬ lg_cmp (Int64.ofInt x) 0 < 0 := fun y => by have := e2.mp y; omega
    rw [← Int32.toInt_inj] at n1
    rw [Int32.lt_iff_toInt_lt] at n2 ⊢
    have z0 : (0 : Int32).toInt = 0 := rfl
    omega
/-- the next scene -/
theorem z_next_loop (H : zK h m l) (hP : ry_P l) (hg : gN l) : ∀ (f i : Nat), i + f = l.length → kX13_nextScene_2 d m (Int32.ofNat i) h = some (.inl (some (.int (zN (ry_ri l f i)))), h) := by
  have hl := vR_len H.2.2
  intro f
  induction f with
  | zero =>
    intro i hi
    apply gX13_nextScene_2
    simp only [H.2.1, Option.bind_some]
    rw [if_neg (by rw [jw_lt (by omega) (by omega)]; omega)]
    rfl
  | succ f ih =>
    intro i hi
    have ih' := ih (i + 1) (by omega)
    apply gX13_nextScene_2
    simp only [H.2.1, Option.bind_some]
    rw [if_pos (by rw [jw_lt (by omega) (by omega)]; omega)]
    have er : ry_ri l (f + 1) i = if l.getD i 0 = 0 ∧ l.getD (i + 1) 0 < 0 then some i else ry_ri l f (i + 1) := rfl
    simp only [zB_18 H.1, Option.bind_some, zW_at H.2 (show i < l.length by omega), ln_0 (hg i), jw_add1]
    by_cases c : l.getD i 0 = 0
    · rw [if_pos c]
      have c1 : i + 1 < l.length := ry_next hP (by omega) (by omega)
      simp only [zW_at H.2 c1, Option.bind_some, ln_neg (hg (i + 1))]
      by_cases c2 : l.getD (i + 1) 0 < 0
      · rw [if_pos c2, er, if_pos ⟨c, c2⟩]
        rfl
      · rw [if_neg c2, er, if_neg (fun z => c2 z.2)]
        exact ih'
    · rw [if_neg c, er, if_neg (fun z => c z.1)]
      exact ih'
theorem z_next (H : zK h m l) (hP : ry_P l) (hg : gN l) : jm_D (d + 1) mX13_nextScene [.ref m] h = some (.inl (some (.int (zN (ry_r l)))), h) :=
  gX13_nextScene (z_next_loop (d := d) H hP hg l.length 0 (by omega))
end ZW
