/-! ===== LEVEL 3: base ===== -/
/-- an end with a post -/
def jE (o : Option jm_R) (Q : (Option Value ⊕ Nat) → jm_H → Prop) : Prop := ∃ v h, o = some (v, h) ∧ Q v h
/-- a known answer, and a post of the heap -/
abbrev jF (o : Option jm_R) (v : Option Value ⊕ Nat) (P : jm_H → Prop) : Prop := jE o fun w h => w = v ∧ P h
section JE
variable {o o' : Option jm_R} {Q Q' : (Option Value ⊕ Nat) → jm_H → Prop} {v : Option Value ⊕ Nat} {h : jm_H} {P : jm_H → Prop}
theorem jE_of (g : ∀ r, o = some r → o' = some r) (H : jE o Q) : jE o' Q := by
  obtain ⟨v, h, e, q⟩ := H
  exact ⟨v, h, g _ e, q⟩
theorem jE_end (q : Q v h) : jE (some (v, h)) Q := ⟨v, h, rfl, q⟩
theorem jF_end (q : P h) : jF (some (v, h)) v P := ⟨v, h, rfl, rfl, q⟩
theorem jE_mono (H : jE o Q) (g : ∀ v h, Q v h → Q' v h) : jE o Q' := by
  obtain ⟨v, h, e, q⟩ := H
  exact ⟨v, h, e, g _ _ q⟩
theorem jF_mono {P' : jm_H → Prop} (H : jF o v P) (g : ∀ h, P h → P' h) : jF o v P' := jE_mono H fun _ h q => ⟨q.1, g h q.2⟩
theorem jF_eq (e : o = some (v, h)) (q : P h) : jF o v P := ⟨v, h, e, rfl, q⟩
theorem jF_ex (H : jF o v P) : ∃ h', o = some (v, h') ∧ P h' := by
  obtain ⟨w, h', e, rfl, q⟩ := H
  exact ⟨h', e, q⟩
theorem jE_I {x : Int32} {k : Int32 → jm_H → Option jm_R} {kx : Nat → jm_H → Option jm_R} (H : jF o (.inl (some (.int x))) P) (g : ∀ h', P h' → jE (k x h') Q) : jE (jc_I o k kx) Q := by
  obtain ⟨h', rfl, q⟩ := jF_ex H
  exact g h' q
theorem jE_L {x : Int64} {k : Int64 → jm_H → Option jm_R} {kx : Nat → jm_H → Option jm_R} (H : jF o (.inl (some (.long x))) P) (g : ∀ h', P h' → jE (k x h') Q) : jE (jc_L o k kx) Q := by
  obtain ⟨h', rfl, q⟩ := jF_ex H
  exact g h' q
theorem jE_D {x : UInt64} {k : UInt64 → jm_H → Option jm_R} {kx : Nat → jm_H → Option jm_R} (H : jF o (.inl (some (.double x))) P) (g : ∀ h', P h' → jE (k x h') Q) : jE (jc_D o k kx) Q := by
  obtain ⟨h', rfl, q⟩ := jF_ex H
  exact g h' q
theorem jE_R {x : Nat} {k : Nat → jm_H → Option jm_R} {kx : Nat → jm_H → Option jm_R} (H : jF o (.inl (some (.ref x))) P) (g : ∀ h', P h' → jE (k x h') Q) : jE (jc_R o k kx) Q := by
  obtain ⟨h', rfl, q⟩ := jF_ex H
  exact g h' q
theorem jE_V {k : jm_H → Option jm_R} {kx : Nat → jm_H → Option jm_R} (H : jF o (.inl none) P) (g : ∀ h', P h' → jE (k h') Q) : jE (jc_V o k kx) Q := by
  obtain ⟨h', rfl, q⟩ := jF_ex H
  exact g h' q
/-- throws -/
theorem jE_Ix {x : Nat} {k : Int32 → jm_H → Option jm_R} {kx : Nat → jm_H → Option jm_R} (H : jF o (.inr x) P) (g : ∀ h', P h' → jE (kx x h') Q) : jE (jc_I o k kx) Q := by
  obtain ⟨h', rfl, q⟩ := jF_ex H
  exact g h' q
theorem jE_Rx {x : Nat} {k : Nat → jm_H → Option jm_R} {kx : Nat → jm_H → Option jm_R} (H : jF o (.inr x) P) (g : ∀ h', P h' → jE (kx x h') Q) : jE (jc_R o k kx) Q := by
  obtain ⟨h', rfl, q⟩ := jF_ex H
  exact g h' q
theorem jE_Vx {x : Nat} {k : jm_H → Option jm_R} {kx : Nat → jm_H → Option jm_R} (H : jF o (.inr x) P) (g : ∀ h', P h' → jE (kx x h') Q) : jE (jc_V o k kx) Q := by
  obtain ⟨h', rfl, q⟩ := jF_ex H
  exact g h' q
theorem jE_if {c : Prop} [Decidable c] {o1 o2 : Option jm_R} (h1 : c → jE o1 Q) (h2 : ¬ c → jE o2 Q) : jE (if c then o1 else o2) Q := by
  by_cases q : c
  · rw [if_pos q]; exact h1 q
  · rw [if_neg q]; exact h2 q
end JE
theorem jc_I_eq {x : Int32} {h : jm_H} {k : Int32 → jm_H → Option jm_R} {kx : Nat → jm_H → Option jm_R} : jc_I (some (.inl (some (.int x)), h)) k kx = k x h := rfl
theorem jc_L_eq {x : Int64} {h : jm_H} {k : Int64 → jm_H → Option jm_R} {kx : Nat → jm_H → Option jm_R} : jc_L (some (.inl (some (.long x)), h)) k kx = k x h := rfl
theorem jc_D_eq {x : UInt64} {h : jm_H} {k : UInt64 → jm_H → Option jm_R} {kx : Nat → jm_H → Option jm_R} : jc_D (some (.inl (some (.double x)), h)) k kx = k x h := rfl
theorem jc_R_eq {x : Nat} {h : jm_H} {k : Nat → jm_H → Option jm_R} {kx : Nat → jm_H → Option jm_R} : jc_R (some (.inl (some (.ref x)), h)) k kx = k x h := rfl
theorem jc_V_eq {h : jm_H} {k : jm_H → Option jm_R} {kx : Nat → jm_H → Option jm_R} : jc_V (some (.inl none, h)) k kx = k h := rfl
/-- nothing but some addresses has changed -/
def jS (S : Nat → Prop) (h h' : jm_H) : Prop := h'.1 = h.1 ∧ h'.2.1 = h.2.1 ∧ ∀ a, ¬ S a → h'.2.2 a = h.2.2 a
/-- the addresses from one on -/
def jn (a n : Nat) (x : Nat) : Prop := a ≤ x ∧ x < a + n
theorem jS_rf {S : Nat → Prop} {h : jm_H} : jS S h h := ⟨rfl, rfl, fun _ _ => rfl⟩
theorem jS_tr {S : Nat → Prop} {h h1 h2 : jm_H} (p : jS S h h1) (q : jS S h1 h2) : jS S h h2 := ⟨q.1.trans p.1, q.2.1.trans p.2.1, fun a ha => (q.2.2 a ha).trans (p.2.2 a ha)⟩
theorem jS_mn {S T : Nat → Prop} {h h' : jm_H} (p : jS S h h') (q : ∀ a, S a → T a) : jS T h h' := ⟨p.1, p.2.1, fun a ha => p.2.2 a fun z => ha (q a z)⟩
theorem jS_set {h : jm_H} {a : Nat} {e : jm_AE} {S : Nat → Prop} (ha : S a) : jS S h (jm_set h a e) := ⟨rfl, rfl, fun x hx => by
  show (if x = a then some e else h.2.2 x) = h.2.2 x
  rw [if_neg (fun z : x = a => hx (by rw [z]; exact ha))]⟩
theorem jm_set_at {h : jm_H} {a x : Nat} {e : jm_AE} : (jm_set h a e).2.2 x = if x = a then some e else h.2.2 x := rfl
/-! ints -/
theorem jw_i {n : Nat} (h : n < 2147483648) : (Int32.ofNat n).toInt = n := Int32.toInt_ofNat_of_lt (by omega)
theorem jw_z {z : Int} (h1 : -2147483648 ≤ z) (h2 : z < 2147483648) : (Int32.ofInt z).toInt = z := Int32.toInt_ofInt_of_le (by omega) (by omega)
theorem jw_n {n : Nat} (h : n < 2147483648) : (Int32.ofNat n).toNatClampNeg = n := Int32.toNatClampNeg_ofNat_of_lt (by omega)
theorem jw_lt {a b : Nat} (ha : a < 2147483648) (hb : b < 2147483648) : (Int32.ofNat a < Int32.ofNat b) ↔ a < b := by
  rw [Int32.lt_iff_toInt_lt, jw_i ha, jw_i hb]; omega
theorem jw_ltL {a b : Nat} (ha : a < 2147483648) (hb : b < 2147483648) : (Int32.ofNat a < (OfNat.ofNat b : Int32)) ↔ a < b := jw_lt ha hb
theorem jw_Llt {a b : Nat} (ha : a < 2147483648) (hb : b < 2147483648) : ((OfNat.ofNat a : Int32) < Int32.ofNat b) ↔ a < b := jw_lt ha hb
theorem jw_neg {a : Nat} (ha : a < 2147483648) : (Int32.ofNat a < (0 : Int32)) ↔ False := by
  exact (jw_ltL (b := 0) ha (by omega)).trans ⟨fun h => absurd h (Nat.not_lt_zero _), False.elim⟩
theorem jw_eq {a b : Nat} (ha : a < 2147483648) (hb : b < 2147483648) : (Int32.ofNat a = Int32.ofNat b) ↔ a = b := by
  rw [← Int32.toInt_inj, jw_i ha, jw_i hb]; omega
theorem jw_eqL {a b : Nat} (ha : a < 2147483648) (hb : b < 2147483648) : (Int32.ofNat a = (OfNat.ofNat b : Int32)) ↔ a = b := jw_eq ha hb
theorem jw_add {a b : Nat} : Int32.ofNat a + Int32.ofNat b = Int32.ofNat (a + b) := (Int32.ofNat_add a b).symm
theorem jw_addL {a b : Nat} : Int32.ofNat a + (OfNat.ofNat b : Int32) = Int32.ofNat (a + b) := (Int32.ofNat_add a b).symm
theorem jw_add1 {a : Nat} : Int32.ofNat a + 1 = Int32.ofNat (a + 1) := (Int32.ofNat_add a 1).symm
theorem jw_1add {a : Nat} : 1 + Int32.ofNat a = Int32.ofNat (1 + a) := (Int32.ofNat_add 1 a).symm
theorem jw_sub1 {a : Nat} : Int32.ofNat (a + 1) - 1 = Int32.ofNat a := (Int32.ofNat_sub (a + 1) 1 (by omega)).symm
theorem jw_lt150 {a : Nat} (ha : a < 2147483648) : (Int32.ofNat a < 150) ↔ a < 150 := jw_lt ha (b := 150) (by omega)
theorem jw_150lt {a : Nat} (ha : a < 2147483648) : (150 < Int32.ofNat a) ↔ 150 < a := jw_lt (a := 150) (by omega) ha
theorem jw_sub {a b : Nat} (h : b ≤ a) : Int32.ofNat a - Int32.ofNat b = Int32.ofNat (a - b) := (Int32.ofNat_sub a b h).symm
theorem jw_subL {a b : Nat} (h : b ≤ a) : Int32.ofNat a - (OfNat.ofNat b : Int32) = Int32.ofNat (a - b) := (Int32.ofNat_sub a b h).symm
theorem jw_m1 {a : Nat} : Int32.ofNat (a + 1) + (-1) = Int32.ofNat a := by
  have e : (-1 : Int32) = Int32.ofInt (-1) := rfl
  rw [← Int32.ofInt_eq_ofNat, ← Int32.ofInt_eq_ofNat, e, ← Int32.ofInt_add]
  congr 1
  omega
theorem jw_in {n : Nat} : Int32.ofInt (n : Int) = Int32.ofNat n := Int32.ofInt_eq_ofNat
theorem jw_zlt {z : Int} {b : Nat} (h1 : -2147483648 ≤ z) (h2 : z < 2147483648) (hb : b < 2147483648) : (Int32.ofInt z < Int32.ofNat b) ↔ z < b := by
  rw [Int32.lt_iff_toInt_lt, jw_z h1 h2, jw_i hb]
theorem jw_ltz {z : Int} {b : Nat} (h1 : -2147483648 ≤ z) (h2 : z < 2147483648) (hb : b < 2147483648) : (Int32.ofNat b < Int32.ofInt z) ↔ (b : Int) < z := by
  rw [Int32.lt_iff_toInt_lt, jw_z h1 h2, jw_i hb]
theorem jw_zneg {z : Int} (h1 : -2147483648 ≤ z) (h2 : z < 2147483648) : (Int32.ofInt z < (0 : Int32)) ↔ z < 0 := jw_zlt (b := 0) h1 h2 (by omega)
theorem jw_zeq {z : Int} {b : Nat} (h1 : -2147483648 ≤ z) (h2 : z < 2147483648) (hb : b < 2147483648) : (Int32.ofInt z = Int32.ofNat b) ↔ z = b := by
  rw [← Int32.toInt_inj, jw_z h1 h2, jw_i hb]
theorem jw_ix {i n : Nat} (hi : i < n) (hn : n < 2147483648) : jm_ix (Int32.ofNat i) n = true := by
  unfold jm_ix
  rw [decide_eq_false (mt (jw_neg (show i < 2147483648 by omega)).mp id), jw_n (show i < 2147483648 by omega), decide_eq_false (by omega)]
  rfl
/-- whether something holds, as an int -/
noncomputable def jp (P : Prop) : Int32 := @ite Int32 P (Classical.propDecidable P) 1 0
theorem jp_T {P : Prop} (h : P) : jp P = 1 := if_pos h
theorem jp_F {P : Prop} (h : ¬ P) : jp P = 0 := if_neg h
theorem jp_cg {P Q : Prop} (h : P ↔ Q) : jp P = jp Q := by rw [propext h]
theorem jp_0 {P : Prop} : (jp P = 0) ↔ ¬ P := by
  by_cases h : P
  · rw [jp_T h]; exact ⟨fun z => absurd z (by decide), fun z => absurd h z⟩
  · rw [jp_F h]; exact ⟨fun _ => h, fun _ => rfl⟩
theorem jp_Y {P : Prop} {o : Option jm_R} : jm_Y .boolean (jp P) o = o := by
  unfold jm_Y
  refine if_pos ?_
  by_cases h : P
  · rw [jp_T h]; rfl
  · rw [jp_F h]; rfl
/-! ===== LEVEL 3: cells ===== -/
/-- an object -/
def oC (h : jm_H) (a ci : Nat) (fs : List Value) : Prop := h.2.2 a = some (.inr (ci, fs)) ∧ 128 ≤ a
/-- an array of small numbers; of longs; of references -/
def aC (h : jm_H) (a t n : Nat) (f : Nat → Int32) : Prop := h.2.2 a = some (.inl (t, n, .inl f)) ∧ 128 ≤ a ∧ t ≤ 4
def lC (h : jm_H) (a n : Nat) (f : Nat → Int64) : Prop := h.2.2 a = some (.inl (1, n, .inr (.inl f))) ∧ 128 ≤ a
def rC (h : jm_H) (a t n : Nat) (f : Nat → Option Nat) : Prop := h.2.2 a = some (.inl (t, n, .inr (.inr (.inr (.inr f))))) ∧ 128 ≤ a ∧ (t = 5 ∨ t = 6)
section CE
variable {h h' : jm_H} {a ci t n : Nat} {fs : List Value} {f : Nat → Int32} {g : Nat → Int64} {u : Nat → Option Nat} {S : Nat → Prop}
theorem oC_tr (H : oC h a ci fs) (F : jS S h h') (D : ¬ S a) : oC h' a ci fs := ⟨(F.2.2 a D).trans H.1, H.2⟩
theorem aC_tr (H : aC h a t n f) (F : jS S h h') (D : ¬ S a) : aC h' a t n f := ⟨(F.2.2 a D).trans H.1, H.2⟩
theorem lC_tr (H : lC h a n g) (F : jS S h h') (D : ¬ S a) : lC h' a n g := ⟨(F.2.2 a D).trans H.1, H.2⟩
theorem rC_tr (H : rC h a t n u) (F : jS S h h') (D : ¬ S a) : rC h' a t n u := ⟨(F.2.2 a D).trans H.1, H.2⟩
theorem oC_ob {cn : Nat} (H : oC h a ci fs) (e : jm_c2i cn = ci) : jm_ob h a cn = true := by
  simp [jm_ob, H.1, e]
theorem oC_I {k : Nat} {x : Int32} (H : oC h a ci fs) (e : fs[k]? = some (.int x)) : jr_I h a ci k 0 = some x := by
  simp [jr_I, jm_gf, H.1, e, jm_tk]
theorem oC_B {k : Nat} {x : Int32} (H : oC h a ci fs) (e : fs[k]? = some (.int x)) (hx : x = 0 ∨ x = 1) : jr_I h a ci k 4 = some x := by
  simp [jr_I, jm_gf, H.1, e, jm_tk, hx]
theorem oC_L {k : Nat} {x : Int64} (H : oC h a ci fs) (e : fs[k]? = some (.long x)) : jr_L h a ci k 1 = some x := by
  simp [jr_L, jm_gf, H.1, e, jm_tk]
theorem oC_R {k x : Nat} (H : oC h a ci fs) (e : fs[k]? = some (.ref x)) : jr_R h a ci k 2 = some x := by
  simp [jr_R, jm_gf, H.1, e, jm_tk]
theorem oC_w {k t : Nat} {v : Value} (H : oC h a ci fs) (hk : k < fs.length) (ht : jm_tk t v = true) : ∃ h', jm_pf h a ci k t v = some h' ∧ jS (jn a 1) h h' ∧ oC h' a ci (fs.set k v) := by
  refine ⟨jm_set h a (.inr (ci, fs.set k v)), ?_, jS_set ⟨by omega, by omega⟩, ?_, H.2⟩
  · simp only [jm_pf, H.1, if_pos H.2]
    rw [if_pos ⟨trivial, hk, ht⟩]
  · rw [jm_set_at, if_pos rfl]
theorem aC_len (H : aC h a t n f) : jm_len h a = some n := by
  simp [jm_len, H.1]
  have := H.2.2; omega
theorem aC_at {i : Nat} (H : aC h a t n f) (hi : i < n) (hn : n < 2147483648) : jm_ali h a t (Int32.ofNat i) = some (f i) := by
  simp [jm_ali, H.1, jw_ix hi hn, jw_n (show i < 2147483648 by omega)]
theorem aC_w {i : Nat} {x : Int32} (H : aC h a t n f) (hi : i < n) (hn : n < 2147483648) : ∃ h', jm_asi h a t (Int32.ofNat i) x = some h' ∧ jS (jn a 1) h h' ∧ aC h' a t n (upd f i (vp_nar (jm_ty t) x)) := by
  refine ⟨jm_set h a (.inl (t, n, .inl (upd f i (vp_nar (jm_ty t) x)))), ?_, jS_set ⟨by omega, by omega⟩, ?_, H.2⟩
  · simp only [jm_asi, H.1, jw_ix hi hn, jw_n (show i < 2147483648 by omega)]
    rw [if_pos ⟨H.2.1, trivial, trivial⟩]
  · rw [jm_set_at, if_pos rfl]
theorem lC_len (H : lC h a n g) : jm_len h a = some n := by
  simp [jm_len, H.1]
theorem lC_at {i : Nat} (H : lC h a n g) (hi : i < n) (hn : n < 2147483648) : jm_all h a (Int32.ofNat i) = some (g i) := by
  simp [jm_all, H.1, jw_ix hi hn, jw_n (show i < 2147483648 by omega)]
theorem lC_w {i : Nat} {x : Int64} (H : lC h a n g) (hi : i < n) (hn : n < 2147483648) : ∃ h', jm_asl h a (Int32.ofNat i) x = some h' ∧ jS (jn a 1) h h' ∧ lC h' a n (vp_updL g i x) := by
  refine ⟨jm_set h a (.inl (1, n, .inr (.inl (vp_updL g i x)))), ?_, jS_set ⟨by omega, by omega⟩, ?_, H.2⟩
  · simp only [jm_asl, H.1, jw_ix hi hn, jw_n (show i < 2147483648 by omega)]
    rw [if_pos ⟨H.2, trivial⟩]
  · rw [jm_set_at, if_pos rfl]
theorem rC_len (H : rC h a t n u) : jm_len h a = some n := by
  simp [jm_len, H.1]
  have := H.2.2; omega
theorem rC_at {i b : Nat} (H : rC h a t n u) (hi : i < n) (hn : n < 2147483648) (e : u i = some b) (hb : 128 ≤ b) : jm_alr h a (Int32.ofNat i) = some b := by
  have := H.2.2
  simp [jm_alr, H.1, jw_ix hi hn, jw_n (show i < 2147483648 by omega), e, H.2.1, hb]
  omega
theorem rC_w {i b c : Nat} {cs : List Value} (H : rC h a t n u) (hi : i < n) (hn : n < 2147483648) (Hb : oC h b c cs) (hc : c = jm_ec t) : ∃ h', jm_asr h a (Int32.ofNat i) b = some h' ∧ jS (jn a 1) h h' ∧ rC h' a t n (va_up u i (some b)) := by
  refine ⟨jm_set h a (.inl (t, n, .inr (.inr (.inr (.inr (va_up u i (some b))))))), ?_, jS_set ⟨by omega, by omega⟩, ?_, H.2⟩
  · simp only [jm_asr, H.1, Hb.1, jw_ix hi hn, jw_n (show i < 2147483648 by omega)]
    rw [if_pos ⟨H.2.1, Hb.2, trivial, H.2.2, hc⟩]
  · rw [jm_set_at, if_pos rfl]
end CE
theorem jS_1 {a b n : Nat} {h h' : jm_H} (F : jS (jn a 1) h h') (hb : b ≤ a ∧ a < b + n) : jS (jn b n) h h' := jS_mn F fun x hx => by unfold jn at hx ⊢; omega
theorem nar0 {x : Int32} : vp_nar (jm_ty 0) x = x := rfl
theorem nar3 {x : Int32} (h : x = 0 ∨ x = 1) : vp_nar (jm_ty 3) x = x := by
  rcases h with rfl | rfl <;> rfl
theorem jm_ali_2 {h : jm_H} {a n : Nat} {f : Nat → Int32} {i : Int32} (H : aC h a 3 n f) : jm_ali h a 2 i = none := by
  simp [jm_ali, H.1]
