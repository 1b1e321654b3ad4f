/-! ===== LEVEL 3: Step ===== -/
/-- the cells of a Step -/
def tF (s : Nat) (rn ch oc sc mk sd bh us : Int32) : List Value := [.int rn, .int ch, .ref (s + 1), .ref (s + 6), .ref (s + 11), .ref (s + 12), .ref (s + 13), .int oc, .ref (s + 14), .int sc, .int mk, .int sd, .int bh, .int us]
/-- the new names -/
def tN (FN : Nat → Int64) : Prop := ∀ z, z < 151 → FN z = nm (ry_z z : Int)
/-- all of a Step but its two parts -/
def tC (h : jm_H) (s : Nat) (rn ch oc sc mk sd bh us : Int32) (IR IA : Nat → Int32) (ON FN : Nat → Int64) : Prop :=
  oC h s 5 (tF s rn ch oc sc mk sd bh us) ∧ aC h (s + 11) 3 150 IR ∧ aC h (s + 12) 3 150 IA ∧ lC h (s + 13) 150 ON ∧ lC h (s + 14) 151 FN ∧ tN FN
section TC
variable {h h' : jm_H} {s d p : Nat} {rn ch oc sc mk sd bh us : Int32} {IR IA : Nat → Int32} {ON FN : Nat → Int64} {S : Nat → Prop} {l l0 l1 : List Int}
theorem tC_tr (H : tC h s rn ch oc sc mk sd bh us IR IA ON FN) (F : jS S h h') (D : ∀ x, S x → (x = s ∨ (s + 11 ≤ x ∧ x < s + 15)) → False) : tC h' s rn ch oc sc mk sd bh us IR IA ON FN := by
  obtain ⟨a1, a2, a3, a4, a5, a6⟩ := H
  exact ⟨oC_tr a1 F fun z => D _ z (by omega), aC_tr a2 F fun z => D _ z (by omega), aC_tr a3 F fun z => D _ z (by omega), lC_tr a4 F fun z => D _ z (by omega), lC_tr a5 F fun z => D _ z (by omega), a6⟩
theorem tC_ob (H : tC h s rn ch oc sc mk sd bh us IR IA ON FN) : jm_ob h s 5 = true := oC_ob H.1 rfl
theorem tC_R2 (H : tC h s rn ch oc sc mk sd bh us IR IA ON FN) : jr_R h s 5 2 2 = some (s + 1) := oC_R H.1 rfl
theorem tC_R3 (H : tC h s rn ch oc sc mk sd bh us IR IA ON FN) : jr_R h s 5 3 2 = some (s + 6) := oC_R H.1 rfl
theorem tC_R4 (H : tC h s rn ch oc sc mk sd bh us IR IA ON FN) : jr_R h s 5 4 2 = some (s + 11) := oC_R H.1 rfl
theorem tC_R5 (H : tC h s rn ch oc sc mk sd bh us IR IA ON FN) : jr_R h s 5 5 2 = some (s + 12) := oC_R H.1 rfl
theorem tC_R6 (H : tC h s rn ch oc sc mk sd bh us IR IA ON FN) : jr_R h s 5 6 2 = some (s + 13) := oC_R H.1 rfl
theorem tC_R8 (H : tC h s rn ch oc sc mk sd bh us IR IA ON FN) : jr_R h s 5 8 2 = some (s + 14) := oC_R H.1 rfl
theorem tC_I0 (H : tC h s rn ch oc sc mk sd bh us IR IA ON FN) : jr_I h s 5 0 0 = some rn := oC_I H.1 rfl
theorem tC_I7 (H : tC h s rn ch oc sc mk sd bh us IR IA ON FN) : jr_I h s 5 7 0 = some oc := oC_I H.1 rfl
theorem tC_I9 (H : tC h s rn ch oc sc mk sd bh us IR IA ON FN) : jr_I h s 5 9 0 = some sc := oC_I H.1 rfl
theorem tC_I10 (H : tC h s rn ch oc sc mk sd bh us IR IA ON FN) : jr_I h s 5 10 0 = some mk := oC_I H.1 rfl
theorem tC_I11 (H : tC h s rn ch oc sc mk sd bh us IR IA ON FN) : jr_I h s 5 11 0 = some sd := oC_I H.1 rfl
theorem tC_I12 (H : tC h s rn ch oc sc mk sd bh us IR IA ON FN) : jr_I h s 5 12 0 = some bh := oC_I H.1 rfl
theorem tC_I13 (H : tC h s rn ch oc sc mk sd bh us IR IA ON FN) : jr_I h s 5 13 0 = some us := oC_I H.1 rfl
/-- the own cells of a Step -/
def tS (s x : Nat) : Prop := x = s ∨ (s + 11 ≤ x ∧ x < s + 15)
theorem tC_w0 (x : Int32) (H : tC h s rn ch oc sc mk sd bh us IR IA ON FN) : ∃ h', jm_pf h s 5 0 0 (.int x) = some h' ∧ jS (tS s) h h' ∧ tC h' s x ch oc sc mk sd bh us IR IA ON FN := by
  obtain ⟨h', e, F, H'⟩ := oC_w (k := 0) (t := 0) (v := .int x) H.1 (by simp [tF]) rfl
  exact ⟨h', e, jS_mn F fun y hy => Or.inl (by unfold jn at hy; omega), H', aC_tr H.2.1 F (by unfold jn; omega), aC_tr H.2.2.1 F (by unfold jn; omega), lC_tr H.2.2.2.1 F (by unfold jn; omega), lC_tr H.2.2.2.2.1 F (by unfold jn; omega), H.2.2.2.2.2⟩
theorem tC_w1 (x : Int32) (hx : x = 0 ∨ x = 1) (H : tC h s rn ch oc sc mk sd bh us IR IA ON FN) : ∃ h', jm_pf h s 5 1 4 (.int x) = some h' ∧ jS (tS s) h h' ∧ tC h' s rn x oc sc mk sd bh us IR IA ON FN := by
  obtain ⟨h', e, F, H'⟩ := oC_w (k := 1) (t := 4) (v := .int x) H.1 (by simp [tF]) (by simp [jm_tk, hx])
  exact ⟨h', e, jS_mn F fun y hy => Or.inl (by unfold jn at hy; omega), H', aC_tr H.2.1 F (by unfold jn; omega), aC_tr H.2.2.1 F (by unfold jn; omega), lC_tr H.2.2.2.1 F (by unfold jn; omega), lC_tr H.2.2.2.2.1 F (by unfold jn; omega), H.2.2.2.2.2⟩
theorem tC_w7 (x : Int32) (H : tC h s rn ch oc sc mk sd bh us IR IA ON FN) : ∃ h', jm_pf h s 5 7 0 (.int x) = some h' ∧ jS (tS s) h h' ∧ tC h' s rn ch x sc mk sd bh us IR IA ON FN := by
  obtain ⟨h', e, F, H'⟩ := oC_w (k := 7) (t := 0) (v := .int x) H.1 (by simp [tF]) rfl
  exact ⟨h', e, jS_mn F fun y hy => Or.inl (by unfold jn at hy; omega), H', aC_tr H.2.1 F (by unfold jn; omega), aC_tr H.2.2.1 F (by unfold jn; omega), lC_tr H.2.2.2.1 F (by unfold jn; omega), lC_tr H.2.2.2.2.1 F (by unfold jn; omega), H.2.2.2.2.2⟩
theorem tC_w9 (x : Int32) (H : tC h s rn ch oc sc mk sd bh us IR IA ON FN) : ∃ h', jm_pf h s 5 9 0 (.int x) = some h' ∧ jS (tS s) h h' ∧ tC h' s rn ch oc x mk sd bh us IR IA ON FN := by
  obtain ⟨h', e, F, H'⟩ := oC_w (k := 9) (t := 0) (v := .int x) H.1 (by simp [tF]) rfl
  exact ⟨h', e, jS_mn F fun y hy => Or.inl (by unfold jn at hy; omega), H', aC_tr H.2.1 F (by unfold jn; omega), aC_tr H.2.2.1 F (by unfold jn; omega), lC_tr H.2.2.2.1 F (by unfold jn; omega), lC_tr H.2.2.2.2.1 F (by unfold jn; omega), H.2.2.2.2.2⟩
theorem tC_w10 (x : Int32) (H : tC h s rn ch oc sc mk sd bh us IR IA ON FN) : ∃ h', jm_pf h s 5 10 0 (.int x) = some h' ∧ jS (tS s) h h' ∧ tC h' s rn ch oc sc x sd bh us IR IA ON FN := by
  obtain ⟨h', e, F, H'⟩ := oC_w (k := 10) (t := 0) (v := .int x) H.1 (by simp [tF]) rfl
  exact ⟨h', e, jS_mn F fun y hy => Or.inl (by unfold jn at hy; omega), H', aC_tr H.2.1 F (by unfold jn; omega), aC_tr H.2.2.1 F (by unfold jn; omega), lC_tr H.2.2.2.1 F (by unfold jn; omega), lC_tr H.2.2.2.2.1 F (by unfold jn; omega), H.2.2.2.2.2⟩
theorem tC_w11 (x : Int32) (H : tC h s rn ch oc sc mk sd bh us IR IA ON FN) : ∃ h', jm_pf h s 5 11 0 (.int x) = some h' ∧ jS (tS s) h h' ∧ tC h' s rn ch oc sc mk x bh us IR IA ON FN := by
  obtain ⟨h', e, F, H'⟩ := oC_w (k := 11) (t := 0) (v := .int x) H.1 (by simp [tF]) rfl
  exact ⟨h', e, jS_mn F fun y hy => Or.inl (by unfold jn at hy; omega), H', aC_tr H.2.1 F (by unfold jn; omega), aC_tr H.2.2.1 F (by unfold jn; omega), lC_tr H.2.2.2.1 F (by unfold jn; omega), lC_tr H.2.2.2.2.1 F (by unfold jn; omega), H.2.2.2.2.2⟩
theorem tC_w12 (x : Int32) (H : tC h s rn ch oc sc mk sd bh us IR IA ON FN) : ∃ h', jm_pf h s 5 12 0 (.int x) = some h' ∧ jS (tS s) h h' ∧ tC h' s rn ch oc sc mk sd x us IR IA ON FN := by
  obtain ⟨h', e, F, H'⟩ := oC_w (k := 12) (t := 0) (v := .int x) H.1 (by simp [tF]) rfl
  exact ⟨h', e, jS_mn F fun y hy => Or.inl (by unfold jn at hy; omega), H', aC_tr H.2.1 F (by unfold jn; omega), aC_tr H.2.2.1 F (by unfold jn; omega), lC_tr H.2.2.2.1 F (by unfold jn; omega), lC_tr H.2.2.2.2.1 F (by unfold jn; omega), H.2.2.2.2.2⟩
theorem tC_w13 (x : Int32) (H : tC h s rn ch oc sc mk sd bh us IR IA ON FN) : ∃ h', jm_pf h s 5 13 0 (.int x) = some h' ∧ jS (tS s) h h' ∧ tC h' s rn ch oc sc mk sd bh x IR IA ON FN := by
  obtain ⟨h', e, F, H'⟩ := oC_w (k := 13) (t := 0) (v := .int x) H.1 (by simp [tF]) rfl
  exact ⟨h', e, jS_mn F fun y hy => Or.inl (by unfold jn at hy; omega), H', aC_tr H.2.1 F (by unfold jn; omega), aC_tr H.2.2.1 F (by unfold jn; omega), lC_tr H.2.2.2.1 F (by unfold jn; omega), lC_tr H.2.2.2.2.1 F (by unfold jn; omega), H.2.2.2.2.2⟩
theorem tC_wR {i : Nat} (x : Int32) (hx : x = 0 ∨ x = 1) (hi : i < 150) (H : tC h s rn ch oc sc mk sd bh us IR IA ON FN) : ∃ h', jm_asi h (s + 11) 3 (Int32.ofNat i) x = some h' ∧ jS (tS s) h h' ∧ tC h' s rn ch oc sc mk sd bh us (upd IR i x) IA ON FN := by
  obtain ⟨h', e, F, H'⟩ := aC_w (x := x) H.2.1 hi (by omega)
  rw [nar3 hx] at H'
  exact ⟨h', e, jS_mn F fun y hy => Or.inr (by unfold jn at hy; omega), oC_tr H.1 F (by unfold jn; omega), H', aC_tr H.2.2.1 F (by unfold jn; omega), lC_tr H.2.2.2.1 F (by unfold jn; omega), lC_tr H.2.2.2.2.1 F (by unfold jn; omega), H.2.2.2.2.2⟩
theorem tC_wA {i : Nat} (x : Int32) (hx : x = 0 ∨ x = 1) (hi : i < 150) (H : tC h s rn ch oc sc mk sd bh us IR IA ON FN) : ∃ h', jm_asi h (s + 12) 3 (Int32.ofNat i) x = some h' ∧ jS (tS s) h h' ∧ tC h' s rn ch oc sc mk sd bh us IR (upd IA i x) ON FN := by
  obtain ⟨h', e, F, H'⟩ := aC_w (x := x) H.2.2.1 hi (by omega)
  rw [nar3 hx] at H'
  exact ⟨h', e, jS_mn F fun y hy => Or.inr (by unfold jn at hy; omega), oC_tr H.1 F (by unfold jn; omega), aC_tr H.2.1 F (by unfold jn; omega), H', lC_tr H.2.2.2.1 F (by unfold jn; omega), lC_tr H.2.2.2.2.1 F (by unfold jn; omega), H.2.2.2.2.2⟩
theorem tC_wO {i : Nat} (x : Int64) (hi : i < 150) (H : tC h s rn ch oc sc mk sd bh us IR IA ON FN) : ∃ h', jm_asl h (s + 13) (Int32.ofNat i) x = some h' ∧ jS (tS s) h h' ∧ tC h' s rn ch oc sc mk sd bh us IR IA (vp_updL ON i x) FN := by
  obtain ⟨h', e, F, H'⟩ := lC_w (x := x) H.2.2.2.1 hi (by omega)
  exact ⟨h', e, jS_mn F fun y hy => Or.inr (by unfold jn at hy; omega), oC_tr H.1 F (by unfold jn; omega), aC_tr H.2.1 F (by unfold jn; omega), aC_tr H.2.2.1 F (by unfold jn; omega), H', lC_tr H.2.2.2.2.1 F (by unfold jn; omega), H.2.2.2.2.2⟩
theorem gW_gN {l : List Int} (h : gW l) : gN l := fun i => (h i).1
theorem tS_5 {s p : Nat} (hd : p + 5 ≤ s ∨ s + 15 ≤ p ∨ (s + 1 ≤ p ∧ p + 5 ≤ s + 11)) : ∀ x, tS s x → jn p 5 x → False := fun x z1 z2 => by unfold tS at z1; unfold jn at z2; omega
/-- what findUses leaves -/
def tR (l : List Int) (m a : Nat) (IR : Nat → Int32) : Prop := ∀ i, i < 150 → IR i = if ry_tg l m a i = true then 1 else 0
theorem t_findUses_loop {m a : Nat} (hd : p + 5 ≤ s ∨ s + 15 ≤ p ∨ (s + 1 ≤ p ∧ p + 5 ≤ s + 11)) (hP : ry_P l) (hg : gN l) (hm : m < l.length) (ha : a ≤ l.length) (hmk : l.getD m 0 < 0) : ∀ (f i : Nat) (IR : Nat → Int32) (h : jm_H), i + f = 150 → pL h p l → tC h s rn ch oc sc (Int32.ofNat m) (Int32.ofNat a) bh (Int32.ofNat (ry_t l m a i)) IR IA ON FN → (∀ j, j < i → IR j = if ry_tg l m a j = true then 1 else 0) →
    jF (kX5_findUses_17 (d + 1) s p (nm (l.getD m 0)) (Int32.ofNat i) h) (.inl none) fun h' => jS (tS s) h h' ∧ ∃ IR', tR l m a IR' ∧ tC h' s rn ch oc sc (Int32.ofNat m) (Int32.ofNat a) bh (Int32.ofNat (ry_t l m a a)) IR' IA ON FN := by
  intro f
  induction f with
  | zero =>
    intro i IR h hi Hp H hr
    have hn := pL_len Hp
    refine jE_of (fun r => gX5_findUses_17) ?_
    simp only [tC_R4 H, aC_len H.2.1, Option.bind_some]
    rw [if_neg (by rw [jw_lt (by omega) (by omega)]; omega)]
    have : i = 150 := by omega
    subst this
    refine jF_end ⟨jS_rf, IR, hr, ?_⟩
    rw [ry_t_stop 150 (by omega)] at H
    exact H
  | succ f ih =>
    intro i IR h hi Hp H hr
    have hn := pL_len Hp
    have go : ∀ b : Bool, b = ry_tg l m a i → jF (kX5_findUses_89 (d + 1) s p (nm (l.getD m 0)) (Int32.ofNat i) (if b = true then 1 else 0) (Int32.ofNat i) (s + 11) h) (.inl none) fun h' => jS (tS s) h h' ∧ ∃ IR', tR l m a IR' ∧ tC h' s rn ch oc sc (Int32.ofNat m) (Int32.ofNat a) bh (Int32.ofNat (ry_t l m a a)) IR' IA ON FN := by
      intro b hb
      have e2 : ry_t l m a (i + 1) = ry_t l m a i + if ry_tg l m a i = true then 1 else 0 := rfl
      refine jE_of (fun r => gX5_findUses_89) ?_
      obtain ⟨h1, e1, F1, H1⟩ := tC_wR (i := i) (if b = true then 1 else 0) (by cases b <;> simp) (by omega) H
      have n3 := aC_at (i := i) H1.2.1 (by omega) (by omega)
      simp only [e1, Option.bind_some, tC_R4 H1, n3]
      have hr' : ∀ j, j < i + 1 → (upd IR i (if b = true then 1 else 0)) j = if ry_tg l m a j = true then 1 else 0 := by
        intro j hj
        by_cases e : j = i
        · subst e; rw [← hb]; exact if_pos rfl
        · exact (if_neg e).trans (hr j (by omega))
      have Hp1 := pL_tr Hp F1 (tS_5 hd)
      have e3 : (upd IR i (if b = true then 1 else 0)) i = if b = true then 1 else 0 := if_pos rfl
      rw [e3, jw_add1]
      cases b with
      | true =>
        obtain ⟨h2, e2', F2, H2⟩ := tC_w13 (Int32.ofNat (ry_t l m a i + 1)) H1
        have Hp2 := pL_tr Hp1 F2 (tS_5 hd)
        rw [← hb, if_pos rfl] at e2
        rw [← e2] at H2
        rw [if_neg (by decide)]
        simp only [tC_I13 H1, Option.bind_some, jw_add1, e2']
        exact jF_mono (ih (i + 1) _ h2 (by omega) Hp2 H2 hr') fun h3 ⟨F3, q⟩ => ⟨jS_tr F1 (jS_tr F2 F3), q⟩
      | false =>
        rw [← hb, if_neg (by simp), Nat.add_zero (ry_t l m a i)] at e2
        rw [← e2] at H1
        rw [if_pos (show (if false = true then (1 : Int32) else 0) = 0 from rfl)]
        exact jF_mono (ih (i + 1) _ h1 (by omega) Hp1 H1 hr') fun h3 ⟨F3, q⟩ => ⟨jS_tr F1 F3, q⟩
    refine jE_of (fun r => gX5_findUses_17) ?_
    simp only [tC_R4 H, aC_len H.2.1, tC_I10 H, tC_I11 H, Option.bind_some, jw_lt (show m < 2147483648 by omega) (show i < 2147483648 by omega), jw_lt (show i < 2147483648 by omega) (show a < 2147483648 by omega)]
    rw [if_pos (by rw [jw_lt (by omega) (by omega)]; omega)]
    by_cases c1 : m < i
    · rw [if_pos c1]
      by_cases c2 : i < a
      · rw [if_pos c2]
        have hil : i < l.length := by omega
        simp only [jm_O_eq (pU_ob (pL_U Hp)), pU_kindAt (pL_U Hp) hil, pU_nameAt (pL_U Hp) hil, jc_I_eq, jc_L_eq, ky_0, lg_nm (hg i) (hg m)]
        by_cases c3 : 0 < l.getD i 0
        · rw [if_pos c3]
          by_cases c4 : (l.getD i 0).natAbs = (l.getD m 0).natAbs
          · rw [if_pos c4, pL_maskOf Hp hP hg hil c3]
            have hw := ry_w_lt (l := l) (i := i) i
            simp only [jc_I_eq, tC_I10 H, Option.bind_some, jw_zeq (show -2147483648 ≤ ry_w l i i by omega) (show ry_w l i i < 2147483648 by omega) (show m < 2147483648 by omega)]
            by_cases c5 : ry_w l i i = (m : Int)
            · rw [if_pos c5]
              exact go true (decide_eq_true ⟨c1, c2, by omega, c5⟩).symm
            · rw [if_neg c5]
              exact go false (decide_eq_false fun z => c5 z.2.2.2).symm
          · rw [if_neg c4]
            exact go false (decide_eq_false fun z => c4 (by omega)).symm
        · rw [if_neg c3]
          exact go false (decide_eq_false fun z => c3 (by omega)).symm
      · rw [if_neg c2]
        exact go false (decide_eq_false fun z => c2 z.2.1).symm
    · rw [if_neg c1]
      exact go false (decide_eq_false fun z => c1 z.1).symm
theorem t_findUses {m a : Nat} (hd : p + 5 ≤ s ∨ s + 15 ≤ p ∨ (s + 1 ≤ p ∧ p + 5 ≤ s + 11)) (hP : ry_P l) (hg : gN l) (hm : m < l.length) (ha : a ≤ l.length) (hmk : l.getD m 0 < 0) (Hp : pL h p l) (H : tC h s rn ch oc sc (Int32.ofNat m) (Int32.ofNat a) bh us IR IA ON FN) :
    jF (jm_D (d + 2) mX5_findUses [.ref s, .ref p] h) (.inl none) fun h' => jS (tS s) h h' ∧ ∃ IR', tR l m a IR' ∧ tC h' s rn ch oc sc (Int32.ofNat m) (Int32.ofNat a) bh (Int32.ofNat (ry_t l m a a)) IR' IA ON FN := by
  refine jE_of (fun r => gX5_findUses) ?_
  obtain ⟨h1, e1, F1, H1⟩ := tC_w13 (Int32.ofNat 0) H
  have Hp1 := pL_tr Hp F1 (tS_5 hd)
  rw [show (0 : Int32) = Int32.ofNat 0 from rfl]
  simp only [e1, Option.bind_some, tC_I10 H1, jm_O_eq (pU_ob (pL_U Hp1)), pU_nameAt (pL_U Hp1) hm, jc_L_eq]
  exact jF_mono (t_findUses_loop hd hP hg hm ha hmk 150 0 IR h1 (by omega) Hp1 H1 fun j hj => by omega) fun h2 ⟨F2, q⟩ => ⟨jS_tr F1 F2, q⟩
/-- what a Step knows when a step can be taken -/
def tK (h : jm_H) (s : Nat) (l : List Int) (k : Nat) : Prop := ∃ rn ch oc IR IA ON FN, tR l (k + 1) (ry_n l (k + 1)) IR ∧ (ch = 0 ∨ ch = 1) ∧ tC h s rn ch oc (Int32.ofNat k) (Int32.ofNat (k + 1)) (Int32.ofNat (ry_n l (k + 1))) (Int32.ofNat (ry_n l k)) (Int32.ofNat (ry_t l (k + 1) (ry_n l (k + 1)) (ry_n l (k + 1)))) IR IA ON FN
/-- any Step -/
def tY (h : jm_H) (s : Nat) : Prop := ∃ rn ch oc sc mk sd bh us IR IA ON FN, (ch = 0 ∨ ch = 1) ∧ tC h s rn ch oc sc mk sd bh us IR IA ON FN
theorem tK_Y {k : Nat} (H : tK h s l k) : tY h s := by
  obtain ⟨rn, ch, oc, IR, IA, ON, FN, -, hc, H⟩ := H
  exact ⟨_, _, _, _, _, _, _, _, _, _, _, _, hc, H⟩
/-- whether a step can be taken -/
def ry_can (l : List Int) : Prop := ∃ k, ry_r l = some k ∧ ry_sz l k ≤ 150
theorem ry_t_le {l : List Int} {m a : Nat} : ∀ j, ry_t l m a j ≤ j
  | 0 => Nat.le_refl _
  | j + 1 => by
    have := ry_t_le (l := l) (m := m) (a := a) j
    have e2 : ry_t l m a (j + 1) = ry_t l m a j + if ry_tg l m a j = true then 1 else 0 := rfl
    rw [e2]
    split <;> omega
theorem t_canBeTaken (hd : p + 5 ≤ s ∨ s + 15 ≤ p ∨ (s + 1 ≤ p ∧ p + 5 ≤ s + 11)) (hP : ry_P l) (hg : gN l) (Hp : pL h p l) (H : tY h s) :
    jF (jm_D (d + 3) mX5_canBeTaken [.ref s, .ref p] h) (.inl (some (.int (jp (ry_can l))))) fun h' => jS (tS s) h h' ∧ tY h' s ∧ ∀ k, ry_r l = some k → tK h' s l k := by
  obtain ⟨rn, ch, oc, sc, mk, sd, bh, us, IR, IA, ON, FN, hc, H⟩ := H
  have hn := pL_len Hp
  refine jE_of (fun r => gX5_canBeTaken) ?_
  simp only [jm_O_eq (pU_ob (pL_U Hp)), pU_readyScene (pL_U Hp), jc_I_eq]
  obtain ⟨h1, e1, F1, H1⟩ := tC_w9 (Int32.ofInt (ry_ro l)) H
  have Hp1 := pL_tr Hp F1 (tS_5 hd)
  simp only [e1, Option.bind_some, tC_I9 H1]
  cases q : ry_r l with
  | none =>
    have e : ry_ro l = -1 := by unfold ry_ro; rw [q]
    rw [e] at H1 ⊢
    rw [if_pos (by decide)]
    rw [jp_F (fun z => by obtain ⟨k, z1, -⟩ := z; rw [q] at z1; cases z1)]
    exact jF_end ⟨F1, ⟨_, _, _, _, _, _, _, _, _, _, _, _, hc, H1⟩, fun k hk => by cases hk⟩
  | some k =>
    have e : ry_ro l = (k : Int) := by unfold ry_ro; rw [q]
    obtain ⟨a1, a2, a3⟩ := ry_r_at q
    have hQ : ry_Q l k := ⟨hP, a3, a1, a2⟩
    obtain ⟨g1, g2, g3, g4, g5, g6⟩ := ry_Q_geo hQ
    rw [e, jw_in] at H1 ⊢
    rw [if_neg (by rw [jw_neg (by omega)]; exact id), jw_add1]
    obtain ⟨h2, e2, F2, H2⟩ := tC_w10 (Int32.ofNat (k + 1)) H1
    have Hp2 := pL_tr Hp1 F2 (tS_5 hd)
    simp only [e2, Option.bind_some, tC_I10 H2, jm_O_eq (pU_ob (pL_U Hp2)), pL_endAt Hp2 a3, jc_I_eq]
    obtain ⟨h3, e3, F3, H3⟩ := tC_w11 (Int32.ofNat (ry_n l (k + 1))) H2
    have Hp3 := pL_tr Hp2 F3 (tS_5 hd)
    simp only [e3, Option.bind_some, tC_I9 H3, jm_O_eq (pU_ob (pL_U Hp3)), pL_endAt Hp3 (show k < l.length by omega), jc_I_eq]
    obtain ⟨h4, e4, F4, H4⟩ := tC_w12 (Int32.ofNat (ry_n l k)) H3
    have Hp4 := pL_tr Hp3 F4 (tS_5 hd)
    simp only [e4, Option.bind_some, jm_O_eq (tC_ob H4)]
    refine jE_V (t_findUses hd hP hg a3 (by omega) a2 Hp4 H4) ?_
    rintro h5 ⟨F5, IR', hR, H5⟩
    have Hp5 := pL_tr Hp4 F5 (tS_5 hd)
    simp only [tC_I11 H5, tC_I12 H5, tC_I13 H5, pU_n (pL_U Hp5), Option.bind_some]
    have ht := ry_t_le (l := l) (m := k + 1) (a := ry_n l (k + 1)) (ry_n l (k + 1))
    have hpost : jS (tS s) h h5 ∧ tY h5 s ∧ ∀ k', some k = some k' → tK h5 s l k' := ⟨jS_tr F1 (jS_tr F2 (jS_tr F3 (jS_tr F4 F5))), ⟨_, _, _, _, _, _, _, _, _, _, _, _, hc, H5⟩, fun k' hk => by cases hk; exact ⟨_, _, _, _, _, _, _, hR, hc, H5⟩⟩
    -- the size
    have esz : Int32.ofNat l.length - 2 - (Int32.ofNat (ry_n l k) - Int32.ofNat (ry_n l (k + 1))) - Int32.ofNat (ry_t l (k + 1) (ry_n l (k + 1)) (ry_n l (k + 1))) + Int32.ofNat (ry_t l (k + 1) (ry_n l (k + 1)) (ry_n l (k + 1))) * (Int32.ofNat (ry_n l k) - Int32.ofNat (ry_n l (k + 1))) = Int32.ofInt (ry_sz l k) := by
      unfold ry_sz
      rw [jw_sub (by omega)]
      simp only [← jw_in, show (2 : Int32) = Int32.ofInt 2 from rfl, ← Int32.ofInt_sub, ← Int32.ofInt_mul, ← Int32.ofInt_add]
    have hb : -2147483648 ≤ ry_sz l k ∧ ry_sz l k < 2147483648 := by
      unfold ry_sz
      have h1 : ry_t l (k + 1) (ry_n l (k + 1)) (ry_n l (k + 1)) ≤ 150 := by omega
      have h2 : ry_n l k - ry_n l (k + 1) ≤ 150 := by omega
      generalize ry_t l (k + 1) (ry_n l (k + 1)) (ry_n l (k + 1)) = t at h1 ⊢
      generalize ry_n l k - ry_n l (k + 1) = g at h2 ⊢
      have h3 : t * g ≤ 150 * 150 := Nat.mul_le_mul h1 h2
      have h4 : (t : Int) * (g : Int) = ((t * g : Nat) : Int) := (Int.natCast_mul _ _).symm
      rw [h4]
      omega
    rw [esz, show (150 : Int32) = Int32.ofNat 150 from rfl]
    simp only [jw_ltz hb.1 hb.2 (show 150 < 2147483648 by omega)]
    by_cases c : ((150 : Nat) : Int) < ry_sz l k
    · rw [if_pos c, jp_F (fun z => by obtain ⟨k', z1, z2⟩ := z; rw [q] at z1; cases z1; omega)]
      exact jF_end hpost
    · rw [if_neg c, jp_T ⟨k, q, by omega⟩]
      exact jF_end hpost
end TC
/-! ===== LEVEL 3: Step, names and masks ===== -/
/-- the names that are noted -/
def tO (l : List Int) (a i : Nat) (ON : Nat → Int64) (c : Nat) : Prop := ∃ xs : Nat → Nat, c ≤ i - a ∧ (∀ t, t < c → ON t = nm (xs t : Int) ∧ 0 < xs t ∧ xs t < q10) ∧ ∀ x : Nat, 0 < x → ((∃ t, t < c ∧ xs t = x) ↔ ry_on l a i (x : Int) = true)
section TC
variable {h h' : jm_H} {s d p : Nat} {rn ch oc sc mk sd bh us : Int32} {IR IA : Nat → Int32} {ON FN : Nat → Int64} {S : Nat → Prop} {l l0 l1 : List Int}
theorem t_isOpenName_loop {c x : Nat} (hc : c ≤ 150) (H : tC h s rn ch (Int32.ofNat c) sc mk sd bh us IR IA ON FN) : ∀ (f i : Nat), i + f = c → kX5_isOpenName_2 d s (nm x) (Int32.ofNat i) h = some (.inl (some (.int (jp (∃ t, i ≤ t ∧ t < c ∧ ON t = nm x)))), h) := by
  intro f
  induction f with
  | zero =>
    intro i hi
    apply gX5_isOpenName_2
    simp only [tC_I7 H, Option.bind_some]
    rw [if_neg (by rw [jw_lt (by omega) (by omega)]; omega), jp_F (by rintro ⟨t, h1, h2, -⟩; omega)]
  | succ f ih =>
    intro i hi
    apply gX5_isOpenName_2
    simp only [tC_I7 H, tC_R6 H, lC_len H.2.2.2.1, lC_at H.2.2.2.1 (show i < 150 by omega) (by omega), Option.bind_some, lg_0, jw_add1]
    rw [if_pos (by rw [jw_lt (by omega) (by omega)]; omega), if_pos (by rw [jw_lt (by omega) (by omega)]; omega)]
    by_cases q : ON i = nm x
    · rw [if_pos q, jp_T ⟨i, Nat.le_refl _, by omega, q⟩]
    · rw [if_neg q, ih (i + 1) (by omega)]
      congr 5
      refine jp_cg ⟨?_, ?_⟩
      · rintro ⟨t, h1, h2, h3⟩
        exact ⟨t, by omega, h2, h3⟩
      · rintro ⟨t, h1, h2, h3⟩
        by_cases e : t = i
        · subst e; exact absurd h3 q
        · exact ⟨t, by omega, h2, h3⟩
theorem t_isOpenName {c x a i : Nat} (hc : c ≤ 150) (H : tC h s rn ch (Int32.ofNat c) sc mk sd bh us IR IA ON FN) (HO : tO l a i ON c) (hx : 0 < x) (hx2 : x < q10) : jm_D (d + 1) mX5_isOpenName [.ref s, .long (nm x)] h = some (.inl (some (.int (jp (ry_on l a i (x : Int) = true)))), h) := by
  apply gX5_isOpenName
  rw [show (0 : Int32) = Int32.ofNat 0 from rfl, t_isOpenName_loop hc H c 0 (by omega)]
  obtain ⟨xs, h1, h2, h3⟩ := HO
  congr 5
  refine jp_cg (Iff.trans ⟨?_, ?_⟩ (h3 x hx))
  · rintro ⟨t, -, q2, q3⟩
    refine ⟨t, q2, ?_⟩
    rw [(h2 t q2).1, nm_eq (by simpa using (h2 t q2).2.2) (by simpa using hx2)] at q3
    simpa using q3
  · rintro ⟨t, q2, q3⟩
    exact ⟨t, Nat.zero_le _, q2, by rw [(h2 t q2).1, q3]⟩
theorem t_addOpenName {c : Nat} {y : Int64} (hc : c < 150) (H : tC h s rn ch (Int32.ofNat c) sc mk sd bh us IR IA ON FN) : jF (jm_D (d + 1) mX5_addOpenName [.ref s, .long y] h) (.inl none) fun h' => jS (tS s) h h' ∧ tC h' s rn ch (Int32.ofNat (c + 1)) sc mk sd bh us IR IA (vp_updL ON c y) FN := by
  refine jE_of (fun r => gX5_addOpenName) ?_
  obtain ⟨h1, e1, F1, H1⟩ := tC_wO y hc H
  obtain ⟨h2, e2, F2, H2⟩ := tC_w7 (Int32.ofNat (c + 1)) H1
  simp only [tC_I7 H, tC_R6 H, lC_len H.2.2.2.1, Option.bind_some, e1, tC_I7 H1, jw_add1, e2]
  rw [if_neg (by rw [jw_neg (by omega)]; exact id), if_pos (by rw [jw_lt (by omega) (by omega)]; omega)]
  exact jF_end ⟨jS_tr F1 F2, H2⟩
theorem ry_on_s {a i : Nat} {x : Int} (hai : a ≤ i) : ry_on l a (i + 1) x = true ↔ ry_on l a i x = true ∨ (l.getD i 0 = x ∧ ry_w l i i < (a : Int)) := by
  rw [ry_on_iff, ry_on_iff]
  constructor
  · rintro ⟨j, h1, h2, h3⟩
    by_cases e : j = i
    · subst e; exact Or.inr h3
    · exact Or.inl ⟨j, h1, by omega, h3⟩
  · rintro (⟨j, h1, h2, h3⟩ | h3)
    · exact ⟨j, h1, by omega, h3⟩
    · exact ⟨i, hai, by omega, h3⟩
theorem tO_same {a i c : Nat} (hai : a ≤ i) (HO : tO l a i ON c) (hn : ∀ x : Nat, 0 < x → l.getD i 0 = (x : Int) → ry_w l i i < (a : Int) → ry_on l a i (x : Int) = true) : tO l a (i + 1) ON c := by
  obtain ⟨xs, h1, h2, h3⟩ := HO
  refine ⟨xs, by omega, h2, fun x hx => (h3 x hx).trans ?_⟩
  rw [ry_on_s hai]
  exact ⟨Or.inl, fun z => z.elim id fun z => hn x hx z.1 z.2⟩
theorem tO_more {a i c : Nat} (hai : a ≤ i) (hg : gN l) (hx : 0 < l.getD i 0) (hw : ry_w l i i < (a : Int)) (HO : tO l a i ON c) : tO l a (i + 1) (vp_updL ON c (nm (l.getD i 0))) (c + 1) := by
  obtain ⟨xs, h1, h2, h3⟩ := HO
  refine ⟨fun t => if t = c then (l.getD i 0).natAbs else xs t, by omega, fun t ht => ?_, fun x hx0 => ?_⟩
  · by_cases e : t = c
    · subst e
      have e1 : vp_updL ON t (nm (l.getD i 0)) t = nm (l.getD i 0) := if_pos rfl
      simp only [if_true]
      rw [e1]
      have e3 : ((l.getD i 0).natAbs : Int) = l.getD i 0 := by omega
      rw [e3]
      exact ⟨rfl, by omega, hg i⟩
    · have e1 : vp_updL ON c (nm (l.getD i 0)) t = ON t := if_neg e
      simp only [if_neg e]
      rw [e1]
      exact h2 t (by omega)
  · rw [ry_on_s hai, ← h3 x hx0]
    constructor
    · rintro ⟨t, t1, t2⟩
      by_cases e : t = c
      · simp only [if_pos e] at t2
        exact Or.inr ⟨by omega, hw⟩
      · simp only [if_neg e] at t2
        exact Or.inl ⟨t, by omega, t2⟩
    · rintro (⟨t, t1, t2⟩ | ⟨t1, -⟩)
      · exact ⟨t, by omega, by simp only [show ¬ t = c by omega, if_false]; exact t2⟩
      · exact ⟨c, by omega, by simp only [if_true]; omega⟩
theorem t_findOpenNames_loop {a b : Nat} (hP : ry_P l) (hg : gN l) (hb : b ≤ l.length) : ∀ (f i c : Nat) (ON : Nat → Int64) (o2 : Option Value) (h : jm_H), i + f = b → a ≤ i → pL h (s + 1) l → tC h s rn ch (Int32.ofNat c) sc mk (Int32.ofNat a) (Int32.ofNat b) us IR IA ON FN → tO l a i ON c →
    jF (kX5_findOpenNames_10 (d + 1) s (Int32.ofNat i) o2 h) (.inl none) fun h' => jS (tS s) h h' ∧ ∃ c' ON', c' ≤ 150 ∧ tO l a b ON' c' ∧ tC h' s rn ch (Int32.ofNat c') sc mk (Int32.ofNat a) (Int32.ofNat b) us IR IA ON' FN := by
  intro f
  induction f with
  | zero =>
    intro i c ON o2 h hi hai Hp H HO
    have hn := pL_len Hp
    refine jE_of (fun r => gX5_findOpenNames_10) ?_
    simp only [tC_I12 H, Option.bind_some]
    rw [if_neg (by rw [jw_lt (by omega) (by omega)]; omega)]
    have : i = b := by omega
    subst this
    have hc : c ≤ 150 := by obtain ⟨xs, h1, -⟩ := id HO; omega
    exact jF_end ⟨jS_rf, c, ON, hc, HO, H⟩
  | succ f ih =>
    intro i c ON o2 h hi hai Hp H HO
    have hn := pL_len Hp
    have hil : i < l.length := by omega
    have hc : c < 150 := by obtain ⟨xs, h1, -⟩ := id HO; omega
    have skip : ∀ o2', (∀ x : Nat, 0 < x → l.getD i 0 = (x : Int) → ry_w l i i < (a : Int) → ry_on l a i (x : Int) = true) → jF (kX5_findOpenNames_10 (d + 1) s (Int32.ofNat (i + 1)) o2' h) (.inl none) fun h' => jS (tS s) h h' ∧ ∃ c' ON', c' ≤ 150 ∧ tO l a b ON' c' ∧ tC h' s rn ch (Int32.ofNat c') sc mk (Int32.ofNat a) (Int32.ofNat b) us IR IA ON' FN :=
      fun o2' hz => ih (i + 1) c ON o2' h (by omega) (by omega) Hp H (tO_same hai HO hz)
    refine jE_of (fun r => gX5_findOpenNames_10) ?_
    simp only [tC_I12 H, Option.bind_some]
    rw [if_pos (by rw [jw_lt (by omega) (by omega)]; omega)]
    simp only [tC_R2 H, tC_I11 H, Option.bind_some, jm_O_eq (pU_ob (pL_U Hp)), pU_kindAt (pL_U Hp) hil, jc_I_eq, ky_0]
    by_cases c1 : 0 < l.getD i 0
    · rw [if_pos c1, pL_maskOf Hp hP hg hil c1]
      have hw := ry_w_lt (l := l) (i := i) i
      simp only [jc_I_eq, tC_I11 H, Option.bind_some, jw_zlt (show -2147483648 ≤ ry_w l i i by omega) (show ry_w l i i < 2147483648 by omega) (show a < 2147483648 by omega)]
      by_cases c2 : ry_w l i i < (a : Int)
      · rw [if_pos c2]
        refine jE_of (fun r => gX5_findOpenNames_49) ?_
        rw [if_neg (by decide)]
        simp only [tC_R2 H, Option.bind_some, jm_O_eq (pU_ob (pL_U Hp)), jm_O_eq (tC_ob H), pU_nameAt (pL_U Hp) hil, jc_L_eq, jw_add1]
        have hgi := hg i
        obtain ⟨x, hx⟩ : ∃ x : Nat, l.getD i 0 = x := ⟨(l.getD i 0).toNat, by omega⟩
        have e := t_isOpenName (d := d) (x := x) (by omega) H HO (by omega) (by rw [hx] at hgi; simpa using hgi)
        rw [hx]
        rw [e, jc_I_eq]
        by_cases c3 : ry_on l a i (x : Int) = true
        · rw [jp_T c3, if_neg (by decide)]
          exact skip _ fun y _ hy _ => by rw [← hy, hx]; exact c3
        · rw [jp_F c3, if_pos rfl]
          simp only [tC_R2 H, Option.bind_some, jm_O_eq (pU_ob (pL_U Hp)), jm_O_eq (tC_ob H), pU_nameAt (pL_U Hp) hil, jc_L_eq]
          refine jE_V (t_addOpenName hc H) ?_
          rintro h1 ⟨F1, H1⟩
          refine jF_mono (ih (i + 1) (c + 1) _ _ h1 (by omega) (by omega) (pL_tr Hp F1 (tS_5 (by omega))) H1 ?_) fun h2 ⟨F2, q⟩ => ⟨jS_tr F1 F2, q⟩
          exact tO_more hai hg c1 c2 HO
      · rw [if_neg c2]
        refine jE_of (fun r => gX5_findOpenNames_49) ?_
        rw [if_pos rfl, jw_add1]
        exact skip _ fun y _ _ hy => absurd hy c2
    · rw [if_neg c1]
      refine jE_of (fun r => gX5_findOpenNames_49) ?_
      rw [if_pos rfl, jw_add1]
      exact skip _ fun y hy0 hy _ => by omega
theorem t_findOpenNames {a b : Nat} (hP : ry_P l) (hg : gN l) (hb : b ≤ l.length) (hab : a ≤ b) (Hp : pL h (s + 1) l) (H : tC h s rn ch oc sc mk (Int32.ofNat a) (Int32.ofNat b) us IR IA ON FN) :
    jF (jm_D (d + 2) mX5_findOpenNames [.ref s] h) (.inl none) fun h' => jS (tS s) h h' ∧ ∃ c' ON', c' ≤ 150 ∧ tO l a b ON' c' ∧ tC h' s rn ch (Int32.ofNat c') sc mk (Int32.ofNat a) (Int32.ofNat b) us IR IA ON' FN := by
  refine jE_of (fun r => gX5_findOpenNames) ?_
  obtain ⟨h1, e1, F1, H1⟩ := tC_w7 (Int32.ofNat 0) H
  rw [show (0 : Int32) = Int32.ofNat 0 from rfl]
  simp only [e1, Option.bind_some, tC_I11 H1]
  refine jF_mono (t_findOpenNames_loop hP hg hb (b - a) a 0 ON none h1 (by omega) (Nat.le_refl _) (pL_tr Hp F1 (tS_5 (by omega))) H1 ?_) fun h2 ⟨F2, q⟩ => ⟨jS_tr F1 F2, q⟩
  refine ⟨fun _ => 0, by omega, fun t ht => by omega, fun x _ => ⟨fun ⟨t, ht, _⟩ => by omega, fun z => ?_⟩⟩
  obtain ⟨j, z1, z2, -⟩ := ry_on_iff.mp z
  omega
/-! masks around what is replaced -/
def tM (l : List Int) (m a u i : Nat) : Prop := m < i ∧ l.getD i 0 < 0 ∧ ∃ j, i < j ∧ j < ry_n l i ∧ j < u ∧ ry_tg l m a j = true
theorem t_markMasks_loop {m a u : Nat} {IA0 : Nat → Int32} (hP : ry_P l) (hu : u < l.length) (hm0 : m < 150) (h0 : ∀ i, i < 150 → IA0 i = jp (tM l m a u i)) (htg : ry_tg l m a u = true) : ∀ (f b c : Nat) (o1 : Option Value) (IA : Nat → Int32) (h : jm_H), b ≤ u → b ≤ f → c + f = 150 → pL h (s + 1) l → tC h s rn ch oc sc (Int32.ofNat m) sd bh us IR IA ON FN → (∀ i, i < 150 → IA i = jp (tM l m a u i ∨ (b ≤ i ∧ i < u ∧ m < i ∧ l.getD i 0 < 0 ∧ u < ry_n l i))) →
    jF (kX5_markMasksAround_11 (d + 1) s o1 (Int32.ofInt (ry_u l u b)) (Int32.ofNat c) h) (.inl none) fun h' => jS (tS s) h h' ∧ ∃ IA', (∀ i, i < 150 → IA' i = jp (tM l m a (u + 1) i)) ∧ tC h' s rn ch oc sc (Int32.ofNat m) sd bh us IR IA' ON FN := by
  have fin : ∀ b, ry_u l u b ≤ m → ∀ i, ((tM l m a u i ∨ (b ≤ i ∧ i < u ∧ m < i ∧ l.getD i 0 < 0 ∧ u < ry_n l i)) ↔ tM l m a (u + 1) i) := by
    intro b hb i
    constructor
    · rintro (⟨q1, q2, j, j1, j2, j3, j4⟩ | ⟨q1, q2, q3, q4, q5⟩)
      · exact ⟨q1, q2, j, j1, j2, by omega, j4⟩
      · exact ⟨q3, q4, u, q2, q5, by omega, htg⟩
    · rintro ⟨q1, q2, j, j1, j2, j3, j4⟩
      by_cases e : j = u
      · subst e
        by_cases e2 : b ≤ i
        · exact Or.inr ⟨e2, j1, q1, q2, j2⟩
        · exfalso
          by_cases z : ry_u l j b < 0
          · exact ry_u_none z i (by omega) ⟨q2, j2⟩
          · obtain ⟨k, hk⟩ : ∃ k : Nat, ry_u l j b = k := ⟨(ry_u l j b).toNat, by omega⟩
            obtain ⟨-, -, k3, k4⟩ := ry_u_at hk
            exact k4 i (by omega) (by omega) ⟨q2, j2⟩
      · exact Or.inl ⟨q1, q2, j, j1, j2, by omega, j4⟩
  intro f
  induction f with
  | zero =>
    intro b c o1 IA h hb hbf hc Hp H hI
    refine jE_of (fun r => gX5_markMasksAround_11) ?_
    rw [if_neg (by rw [jw_lt150 (by omega)]; omega)]
    have : b = 0 := by omega
    subst this
    refine jF_end ⟨jS_rf, IA, fun i hi => (hI i hi).trans (jp_cg (fin 0 ?_ i)), H⟩
    show (-1 : Int) ≤ m
    omega
  | succ f ih =>
    intro b c o1 IA h hb hbf hc Hp H hI
    have hn := pL_len Hp
    have hul := ry_u_lt (l := l) (i := u) b
    refine jE_of (fun r => gX5_markMasksAround_11) ?_
    rw [if_pos (by rw [jw_lt150 (by omega)]; omega)]
    simp only [tC_I10 H, Option.bind_some]
    rw [show Int32.ofNat m = Int32.ofInt (m : Int) from jw_in.symm]
    by_cases c1 : (m : Int) < ry_u l u b
    · rw [if_pos (by rw [jw_in, jw_ltz (by omega) (by omega) (by omega)]; exact c1)]
      obtain ⟨k, hk⟩ : ∃ k : Nat, ry_u l u b = k := ⟨(ry_u l u b).toNat, by omega⟩
      obtain ⟨k1, k2, k3, k4⟩ := ry_u_at hk
      rw [hk, jw_in, if_neg (by rw [jw_neg (by omega)]; exact id)]
      obtain ⟨h1, e1, F1, H1⟩ := tC_wA (i := k) 1 (Or.inr rfl) (by omega) H
      simp only [tC_R5 H, aC_len H.2.2.1, Option.bind_some, e1]
      rw [if_pos (by rw [jw_lt (by omega) (by omega)]; omega)]
      have Hp1 := pL_tr Hp F1 (tS_5 (by omega))
      refine jE_of (fun r => gX5_markMasksAround_46) ?_
      simp only [tC_R2 H1, Option.bind_some, jm_O_eq (pU_ob (pL_U Hp1)), pL_outerAt Hp1 (show k < l.length by omega), jc_I_eq, jw_add1]
      rw [ry_u_next hP hu hb hk]
      refine jF_mono (ih k (c + 1) _ _ h1 (by omega) (by omega) (by omega) Hp1 H1 ?_) fun h2 ⟨F2, q⟩ => ⟨jS_tr F1 F2, q⟩
      intro i hi
      by_cases e : i = k
      · subst e
        refine (if_pos rfl).trans (jp_T (Or.inr ⟨Nat.le_refl _, by omega, by omega, k1, k2⟩)).symm
      · refine (if_neg e).trans ((hI i hi).trans (jp_cg ⟨?_, ?_⟩))
        · rintro (z | ⟨z1, z2⟩)
          · exact Or.inl z
          · exact Or.inr ⟨by omega, z2⟩
        · rintro (z | ⟨z1, z2, z3, z4, z5⟩)
          · exact Or.inl z
          · refine Or.inr ⟨?_, z2, z3, z4, z5⟩
            by_cases z6 : b ≤ i
            · exact z6
            · exact absurd ⟨z4, z5⟩ (k4 i (by omega) (by omega))
    · rw [if_neg (by rw [jw_in, jw_ltz (by omega) (by omega) (by omega)]; exact c1)]
      exact jF_end ⟨jS_rf, IA, fun i hi => (hI i hi).trans (jp_cg (fin b (by omega) i)), H⟩
theorem t_markMasks {m a u : Nat} (hP : ry_P l) (hu : u < l.length) (hm0 : m < 150) (h0 : ∀ i, i < 150 → IA i = jp (tM l m a u i)) (htg : ry_tg l m a u = true) (Hp : pL h (s + 1) l) (H : tC h s rn ch oc sc (Int32.ofNat m) sd bh us IR IA ON FN) :
    jF (jm_D (d + 2) mX5_markMasksAround [.ref s, .int (Int32.ofNat u)] h) (.inl none) fun h' => jS (tS s) h h' ∧ ∃ IA', (∀ i, i < 150 → IA' i = jp (tM l m a (u + 1) i)) ∧ tC h' s rn ch oc sc (Int32.ofNat m) sd bh us IR IA' ON FN := by
  have hn := pL_len Hp
  refine jE_of (fun r => gX5_markMasksAround) ?_
  simp only [tC_R2 H, Option.bind_some, jm_O_eq (pU_ob (pL_U Hp)), pL_outerAt Hp hu, jc_I_eq]
  refine t_markMasks_loop hP hu hm0 h0 htg 150 u 0 _ IA h (Nat.le_refl _) (by omega) (by omega) Hp H fun i hi => (h0 i hi).trans (jp_cg ⟨Or.inl, fun z => z.elim id fun z => by omega⟩)
theorem t_findMasks_loop2 {m a : Nat} (hP : ry_P l) (hm0 : m < 150) (ha : a ≤ l.length) (hR : tR l m a IR) : ∀ (f u : Nat) (IA : Nat → Int32) (h : jm_H), u + f = 150 → pL h (s + 1) l → tC h s rn ch oc sc (Int32.ofNat m) sd bh us IR IA ON FN → (∀ i, i < 150 → IA i = jp (tM l m a u i)) →
    jF (kX5_findMasksAround_26 (d + 2) s (Int32.ofNat u) h) (.inl none) fun h' => jS (tS s) h h' ∧ ∃ IA', (∀ i, i < 150 → IA' i = jp (tM l m a 150 i)) ∧ tC h' s rn ch oc sc (Int32.ofNat m) sd bh us IR IA' ON FN := by
  intro f
  induction f with
  | zero =>
    intro u IA h hu Hp H hI
    refine jE_of (fun r => gX5_findMasksAround_26) ?_
    simp only [tC_R4 H, aC_len H.2.1, Option.bind_some]
    rw [if_neg (by rw [jw_lt (by omega) (by omega)]; omega)]
    have : u = 150 := by omega
    subst this
    exact jF_end ⟨jS_rf, IA, hI, H⟩
  | succ f ih =>
    intro u IA h hu Hp H hI
    refine jE_of (fun r => gX5_findMasksAround_26) ?_
    simp only [tC_R4 H, aC_len H.2.1, Option.bind_some, aC_at H.2.1 (show u < 150 by omega) (by omega), hR u (by omega), jw_add1]
    rw [if_pos (by rw [jw_lt (by omega) (by omega)]; omega)]
    by_cases q : ry_tg l m a u = true
    · rw [if_pos q, if_neg (by decide), jm_O_eq (tC_ob H)]
      have := ry_tg_at q
      refine jE_V (t_markMasks hP (by omega) hm0 hI q Hp H) ?_
      rintro h1 ⟨F1, IA', hI', H1⟩
      exact jF_mono (ih (u + 1) IA' h1 (by omega) (pL_tr Hp F1 (tS_5 (by omega))) H1 hI') fun h2 ⟨F2, q⟩ => ⟨jS_tr F1 F2, q⟩
    · rw [if_neg q, if_pos rfl]
      refine ih (u + 1) IA h (by omega) Hp H fun i hi => (hI i hi).trans (jp_cg ?_)
      constructor
      · rintro ⟨q1, q2, j, j1, j2, j3, j4⟩
        exact ⟨q1, q2, j, j1, j2, by omega, j4⟩
      · rintro ⟨q1, q2, j, j1, j2, j3, j4⟩
        refine ⟨q1, q2, j, j1, j2, ?_, j4⟩
        by_cases e : j = u
        · subst e; exact absurd j4 q
        · omega
theorem t_findMasks_loop1 {m a : Nat} (hP : ry_P l) (hm0 : m < 150) (ha : a ≤ l.length) (hR : tR l m a IR) : ∀ (f u : Nat) (IA : Nat → Int32) (h : jm_H), u + f = 150 → pL h (s + 1) l → tC h s rn ch oc sc (Int32.ofNat m) sd bh us IR IA ON FN → (∀ i, i < u → IA i = 0) →
    jF (kX5_findMasksAround_2 (d + 2) s (Int32.ofNat u) h) (.inl none) fun h' => jS (tS s) h h' ∧ ∃ IA', (∀ i, i < 150 → IA' i = jp (tM l m a 150 i)) ∧ tC h' s rn ch oc sc (Int32.ofNat m) sd bh us IR IA' ON FN := by
  intro f
  induction f with
  | zero =>
    intro u IA h hu Hp H hI
    refine jE_of (fun r => gX5_findMasksAround_2) ?_
    simp only [tC_R5 H, aC_len H.2.2.1, Option.bind_some]
    rw [if_neg (by rw [jw_lt (by omega) (by omega)]; omega)]
    refine t_findMasks_loop2 hP hm0 ha hR 150 0 IA h (by omega) Hp H fun i hi => ?_
    rw [hI i (by omega), jp_F]
    rintro ⟨-, -, j, -, -, j3, -⟩
    omega
  | succ f ih =>
    intro u IA h hu Hp H hI
    refine jE_of (fun r => gX5_findMasksAround_2) ?_
    obtain ⟨h1, e1, F1, H1⟩ := tC_wA (i := u) 0 (Or.inl rfl) (by omega) H
    simp only [tC_R5 H, aC_len H.2.2.1, Option.bind_some, e1, jw_add1]
    rw [if_pos (by rw [jw_lt (by omega) (by omega)]; omega)]
    refine jF_mono (ih (u + 1) _ h1 (by omega) (pL_tr Hp F1 (tS_5 (by omega))) H1 ?_) fun h2 ⟨F2, q⟩ => ⟨jS_tr F1 F2, q⟩
    intro i hi
    by_cases e : i = u
    · subst e; exact if_pos rfl
    · exact (if_neg e).trans (hI i (by omega))
theorem t_findMasks {m a : Nat} (hP : ry_P l) (hm0 : m < 150) (ha : a ≤ l.length) (hR : tR l m a IR) (Hp : pL h (s + 1) l) (H : tC h s rn ch oc sc (Int32.ofNat m) sd bh us IR IA ON FN) :
    jF (jm_D (d + 3) mX5_findMasksAround [.ref s] h) (.inl none) fun h' => jS (tS s) h h' ∧ ∃ IA', (∀ i, i < 150 → IA' i = jp (tM l m a 150 i)) ∧ tC h' s rn ch oc sc (Int32.ofNat m) sd bh us IR IA' ON FN :=
  jE_of (fun r => gX5_findMasksAround) (t_findMasks_loop1 hP hm0 ha hR 150 0 IA h (by omega) Hp H fun i hi => by omega)
end TC
/-! ===== LEVEL 3: Step, new names; the step itself ===== -/
section TC
variable {h h' : jm_H} {s d p : Nat} {rn ch oc sc mk sd bh us : Int32} {IR IA : Nat → Int32} {ON FN : Nat → Int64} {S : Nat → Prop} {l l0 l1 : List Int}
theorem ry_z_q {z : Nat} (hz : z < 151) : ry_z z < q10 := (vW_z hz).1
theorem t_fresh_loop {k a b c : Nat} {l' : List Int} (hc : c ≤ 150) (H : tC h s rn ch (Int32.ofNat c) sc mk sd bh us IR IA ON FN) (Hp : pL h (s + 1) l') (hg : gN l') (hk : k < l'.length) (HO : tO l a b ON c) (he : ∀ x : Int, 0 < x → ry_on l' a b x = ry_on l a b x) : ∀ (f n : Nat) (o4 o5 : Option Value), n + f = ry_fz l' k a b →
    kX5_freshNameBelow_11 (d + 1) s (Int32.ofNat k) (Int32.ofNat (ry_n l' k)) (Int32.ofNat n) o4 o5 h = some (.inl (some (.long (nm (ry_z (ry_fz l' k a b) : Int)))), h) := by
  have hn := pL_len Hp
  obtain ⟨z1, z2, z3, z4⟩ := ry_fz_at (l := l') (k := k) (a := a) (b := b) hn
  have hle := ry_n_le (l := l') (i := k) (by omega)
  have hlt := ry_n_lt hk
  intro f
  induction f with
  | zero =>
    intro n o4 o5 hi
    have : n = ry_fz l' k a b := by omega
    subst this
    apply gX5_freshNameBelow_11
    simp only [tC_R8 H, lC_len H.2.2.2.2.1, Option.bind_some, lC_at H.2.2.2.2.1 z3 (by omega), H.2.2.2.2.2 _ z3, jm_O_eq (tC_ob H), jw_add1]
    rw [if_pos (by rw [jw_lt (by omega) (by omega)]; omega)]
    simp only [t_isOpenName hc H HO ry_z_pos (ry_z_q z3), jc_I_eq, tC_R2 H, Option.bind_some, jm_O_eq (pU_ob (pL_U Hp)), pU_holdsName (pL_U Hp) hg (ry_z_q z3) hle (show k + 1 ≤ ry_n l' k by omega)]
    rw [he _ (by have := ry_z_pos (x := ry_fz l' k a b); omega)] at z2
    rw [if_pos (jp_0.mpr (by rw [z2]; decide)), if_pos (jp_0.mpr (by rw [z1]; decide))]
  | succ f ih =>
    intro n o4 o5 hi
    have hn0 := z4 n (by omega)
    apply gX5_freshNameBelow_11
    simp only [tC_R8 H, lC_len H.2.2.2.2.1, Option.bind_some, lC_at H.2.2.2.2.1 (show n < 151 by omega) (by omega), H.2.2.2.2.2 n (by omega), jm_O_eq (tC_ob H), jw_add1]
    rw [if_pos (by rw [jw_lt (by omega) (by omega)]; omega)]
    simp only [t_isOpenName hc H HO ry_z_pos (ry_z_q (show n < 151 by omega)), jc_I_eq, tC_R2 H, Option.bind_some, jm_O_eq (pU_ob (pL_U Hp)), pU_holdsName (pL_U Hp) hg (ry_z_q (show n < 151 by omega)) hle (show k + 1 ≤ ry_n l' k by omega)]
    rw [he _ (by have := ry_z_pos (x := n); omega), Bool.or_eq_true] at hn0
    by_cases q : ry_on l a b (ry_z n : Int) = true
    · rw [if_neg (mt jp_0.mp (fun z => z q))]
      exact ih (n + 1) _ _ (by omega)
    · rw [if_pos (jp_0.mpr q), if_neg (mt jp_0.mp (fun z => z (hn0.resolve_right q)))]
      exact ih (n + 1) _ _ (by omega)
theorem t_fresh {k a b c : Nat} {l' : List Int} (hc : c ≤ 150) (H : tC h s rn ch (Int32.ofNat c) sc mk sd bh us IR IA ON FN) (Hp : pL h (s + 1) l') (hg : gN l') (hk : k < l'.length) (HO : tO l a b ON c) (he : ∀ x : Int, 0 < x → ry_on l' a b x = ry_on l a b x) :
    jm_D (d + 2) mX5_freshNameBelow [.ref s, .int (Int32.ofNat k)] h = some (.inl (some (.long (nm (ry_z (ry_fz l' k a b) : Int)))), h) := by
  apply gX5_freshNameBelow
  simp only [tC_R2 H, Option.bind_some, jm_O_eq (pU_ob (pL_U Hp)), pL_endAt Hp hk, jc_I_eq]
  exact t_fresh_loop hc H Hp hg hk HO he (ry_fz l' k a b) 0 none none (by omega)
/-- the cells that renaming writes -/
def tB (s x : Nat) : Prop := tS s x ∨ jn (s + 1) 5 x
theorem t_renameMasks_loop {k a b c : Nat} (hQ : ry_Q l k) (hg : gW l) (ha : ry_n l (k + 1) = a) (hb : ry_n l k = b) (hc : c ≤ 150) (HO : tO l a b ON c) (hA : ∀ i, i < 150 → IA i = jp (tM l (k + 1) a 150 i)) (hl : l.length ≤ 150) : ∀ (f i : Nat) (h : jm_H), i + f = 150 → pL h (s + 1) (ry_ra l (ry_tg l (k + 1) a) k a b i).1 → tC h s (Int32.ofNat (ry_ra l (ry_tg l (k + 1) a) k a b i).2) ch (Int32.ofNat c) sc mk sd bh us IR IA ON FN →
    jF (kX5_renameMasks_2 (d + 2) s (Int32.ofNat i) h) (.inl none) fun h' => jS (tB s) h h' ∧ pL h' (s + 1) (ry_ra l (ry_tg l (k + 1) a) k a b 150).1 ∧ tC h' s (Int32.ofNat (ry_ra l (ry_tg l (k + 1) a) k a b 150).2) ch (Int32.ofNat c) sc mk sd bh us IR IA ON FN := by
  obtain ⟨g1, g2, g3, g4, g5, g6⟩ := ry_Q_geo hQ
  have hal : a ≤ l.length := by omega
  intro f
  induction f with
  | zero =>
    intro i h hi Hp H
    refine jE_of (fun r => gX5_renameMasks_2) ?_
    simp only [tC_R5 H, aC_len H.2.2.1, Option.bind_some]
    rw [if_neg (by rw [jw_lt (by omega) (by omega)]; omega)]
    have : i = 150 := by omega
    subst this
    exact jF_end ⟨jS_rf, Hp, H⟩
  | succ f ih =>
    intro i h hi Hp H
    have hs := ry_ra_s (l := l) (tg := ry_tg l (k + 1) a) (s := k) (b := b) hal i
    have hgw := ry_ra_gW (tg := ry_tg l (k + 1) a) (s := k) (b := b) hg hl hal i
    have hgn := gW_gN hgw
    have hPi := (ry_s_P hs).mp hQ.1
    -- one step of the row
    have est : ry_ra l (ry_tg l (k + 1) a) k a b (i + 1) = if k + 2 ≤ i ∧ i < a ∧ (ry_ra l (ry_tg l (k + 1) a) k a b i).1.getD i 0 < 0 ∧ ry_ht (ry_tg l (k + 1) a) (i + 1) (ry_n l i) = true ∧ ry_on l a b (-(ry_ra l (ry_tg l (k + 1) a) k a b i).1.getD i 0) = true then
      (ry_rn (ry_ra l (ry_tg l (k + 1) a) k a b i).1 i (ry_z (ry_fz (ry_ra l (ry_tg l (k + 1) a) k a b i).1 i a b)), (ry_ra l (ry_tg l (k + 1) a) k a b i).2 + 1)
    else ry_ra l (ry_tg l (k + 1) a) k a b i := rfl
    have he : ∀ x : Int, 0 < x → ry_on (ry_ra l (ry_tg l (k + 1) a) k a b i).1 a b x = ry_on l a b x := fun x hx => (ry_on_hi hs hx fun j hj => (ry_ra_hi hQ.1 hal g3 (by omega) (Or.inl hj) i).symm).symm
    have hng := ry_s_neg hs i
    have ih1 := ih (i + 1)
    generalize ry_ra l (ry_tg l (k + 1) a) k a b (i + 1) = R1 at est ih1
    generalize hR : ry_ra l (ry_tg l (k + 1) a) k a b i = R at *
    obtain ⟨w, cn⟩ := R
    simp only [] at *
    have hwl := hs.1
    refine jE_of (fun r => gX5_renameMasks_2) ?_
    simp only [tC_R5 H, aC_len H.2.2.1, Option.bind_some, aC_at H.2.2.1 (show i < 150 by omega) (by omega), hA i (by omega), jw_add1]
    rw [if_pos (by rw [jw_lt (by omega) (by omega)]; omega)]
    have emk : tM l (k + 1) a 150 i ↔ (k + 2 ≤ i ∧ i < a ∧ w.getD i 0 < 0 ∧ ry_ht (ry_tg l (k + 1) a) (i + 1) (ry_n l i) = true) := by
      rw [ry_ht_iff]
      constructor
      · rintro ⟨q1, q2, j, j1, j2, j3, j4⟩
        have := ry_tg_at j4
        exact ⟨by omega, by omega, hng.mp q2, j, by omega, j2, j4⟩
      · rintro ⟨q1, q2, q3, j, j1, j2, j4⟩
        have := ry_tg_at j4
        exact ⟨by omega, hng.mpr q3, j, by omega, j2, by omega, j4⟩
    by_cases c1 : tM l (k + 1) a 150 i
    · rw [if_neg (mt jp_0.mp (fun z => z c1))]
      obtain ⟨q1, q2, q3, q4⟩ := emk.mp c1
      have hil : i < w.length := by omega
      obtain ⟨x, hx⟩ : ∃ x : Nat, w.getD i 0 = -(x : Int) := ⟨(w.getD i 0).natAbs, by omega⟩
      have hgi := hgn i
      have enm : nm (-(x : Int)) = nm (x : Int) := by unfold nm; simp
      simp only [tC_R2 H, Option.bind_some, jm_O_eq (pU_ob (pL_U Hp)), pU_nameAt (pL_U Hp) hil, jc_L_eq, jm_O_eq (tC_ob H)]
      rw [hx, enm, t_isOpenName hc H HO (by omega) (by rw [hx] at hgi; simpa using hgi), jc_I_eq]
      by_cases c2 : ry_on l a b (x : Int) = true
      · rw [if_neg (mt jp_0.mp (fun z => z c2))]
        rw [if_pos ⟨q1, q2, q3, q4, by rw [hx, Int.neg_neg]; exact c2⟩] at est
        subst est
        simp only [tC_R2 H, Option.bind_some, jm_O_eq (tC_ob H), t_fresh hc H Hp hgn hil HO he, jc_L_eq, jm_O_eq (pU_ob (pL_U Hp))]
        have hz := (ry_fz_at (l := w) (k := i) (a := a) (b := b) (by omega)).2.2.1
        refine jE_V (pL_renameMask Hp hPi hgn ry_z_pos (ry_z_q hz) hil q3) ?_
        rintro h1 ⟨F1, Hp1⟩
        have H1 := tC_tr H F1 (fun y z1 z2 => by unfold jn at z1; omega)
        obtain ⟨h2, e2, F2, H2⟩ := tC_w0 (Int32.ofNat (cn + 1)) H1
        simp only [tC_I0 H1, Option.bind_some, jw_add1, e2]
        refine jF_mono (ih1 h2 (by omega) (pL_tr Hp1 F2 (tS_5 (by omega))) H2) fun h3 ⟨F3, q⟩ => ⟨jS_tr (jS_mn F1 fun _ z => Or.inr z) (jS_tr (jS_mn F2 fun _ z => Or.inl z) F3), q⟩
      · rw [if_pos (jp_0.mpr c2)]
        rw [if_neg (fun z => c2 (by have := z.2.2.2.2; rw [hx, Int.neg_neg] at this; exact this))] at est
        subst est
        exact ih1 h (by omega) Hp H
    · rw [if_pos (jp_0.mpr c1)]
      rw [if_neg (fun z => c1 (emk.mpr ⟨z.1, z.2.1, z.2.2.1, z.2.2.2.1⟩))] at est
      subst est
      exact ih1 h (by omega) Hp H
end TC
/-! ===== LEVEL 3: Step, the step itself ===== -/
theorem ry_ra_stop {l : List Int} {tg : Nat → Bool} {s a b : Nat} : ∀ j, a ≤ j → ry_ra l tg s a b j = ry_ra l tg s a b a
  | 0, h => by
    have : a = 0 := by omega
    subst this; rfl
  | j + 1, h => by
    by_cases e : a = j + 1
    · rw [e]
    · have := ry_ra_stop (l := l) (tg := tg) (s := s) (a := a) (b := b) j (by omega)
      rw [← this]
      conv => lhs; unfold ry_ra
      rw [if_neg (by omega)]
section TC
variable {h h' : jm_H} {s d p : Nat} {rn ch oc sc mk sd bh us : Int32} {IR IA : Nat → Int32} {ON FN : Nat → Int64} {S : Nat → Prop} {l l0 l1 : List Int}
theorem t_renameMasks {k a b c : Nat} (hQ : ry_Q l k) (hg : gW l) (ha : ry_n l (k + 1) = a) (hb : ry_n l k = b) (hc : c ≤ 150) (HO : tO l a b ON c) (hA : ∀ i, i < 150 → IA i = jp (tM l (k + 1) a 150 i)) (Hp : pL h (s + 1) l) (H : tC h s 0 ch (Int32.ofNat c) sc mk sd bh us IR IA ON FN) :
    jF (jm_D (d + 3) mX5_renameMasks [.ref s] h) (.inl none) fun h' => jS (tB s) h h' ∧ pL h' (s + 1) (ry_sr l k) ∧ tC h' s (Int32.ofNat (ry_sc l k)) ch (Int32.ofNat c) sc mk sd bh us IR IA ON FN := by
  have hn := pL_len Hp
  obtain ⟨g1, g2, g3, g4, g5, g6⟩ := ry_Q_geo hQ
  refine jE_of (fun r => gX5_renameMasks) ?_
  have := t_renameMasks_loop (d := d) hQ hg ha hb hc HO hA hn 150 0 h (by omega) Hp H
  rw [ry_ra_stop 150 (by omega)] at this
  unfold ry_sr ry_sc
  rw [ha, hb]
  exact this
theorem ry_st_mid {k j : Nat} (hQ : ry_Q l k) (hz : ry_sz l k ≤ 150) (hj : j ≤ l.length) : (ry_bu (ry_sr l k) (ry_tg l (k + 1) (ry_n l (k + 1))) k (ry_n l (k + 1)) (ry_n l k) j).length ≤ 150 := by
  have h1 := ry_bu_mono (l := ry_sr l k) (tg := ry_tg l (k + 1) (ry_n l (k + 1))) (s := k) (a := ry_n l (k + 1)) (b := ry_n l k) hj
  have h2 := ry_st_len hQ
  unfold ry_st at h2
  omega
theorem t_build_loop {k : Nat} (hQ : ry_Q l k) (hz : ry_sz l k ≤ 150) (hn : l.length ≤ 150) (hR : tR l (k + 1) (ry_n l (k + 1)) IR) : ∀ (f i : Nat) (o2 : Option Value) (h : jm_H), i + f = l.length → pL h (s + 1) (ry_sr l k) → pU h (s + 6) (ry_bu (ry_sr l k) (ry_tg l (k + 1) (ry_n l (k + 1))) k (ry_n l (k + 1)) (ry_n l k) i) → tC h s rn ch oc (Int32.ofNat k) (Int32.ofNat (k + 1)) (Int32.ofNat (ry_n l (k + 1))) (Int32.ofNat (ry_n l k)) us IR IA ON FN →
    jF (kX5_build_9 (d + 2) s (Int32.ofNat i) o2 h) (.inl none) fun h' => jS (jn (s + 6) 5) h h' ∧ pL h' (s + 6) (ry_st l k) := by
  obtain ⟨g1, g2, g3, g4, g5, g6⟩ := ry_Q_geo hQ
  have hl := ry_sr_len hQ
  intro f
  induction f with
  | zero =>
    intro i o2 h hi Hp Hm H
    refine jE_of (fun r => gX5_build_9) ?_
    simp only [tC_R2 H, Option.bind_some, pU_n (pL_U Hp), tC_R3 H, jm_O_eq (pU_ob Hm)]
    rw [if_neg (by rw [jw_lt (by omega) (by omega)]; omega)]
    have : i = l.length := by omega
    subst this
    refine jE_V (pU_link Hm (ry_st_P hQ)) ?_
    rintro h1 ⟨F1, H1⟩
    exact jF_end ⟨F1, H1⟩
  | succ f ih =>
    intro i o2 h hi Hp Hm H
    have hil : i < (ry_sr l k).length := by omega
    have dis : ∀ x, jn (s + 6) 5 x → jn (s + 1) 5 x → False := fun x z1 z2 => by unfold jn at z1 z2; omega
    have dis2 : ∀ x, jn (s + 6) 5 x → (x = s ∨ (s + 11 ≤ x ∧ x < s + 15)) → False := fun x z1 z2 => by unfold jn at z1; omega
    have hlen := ry_st_mid (j := i + 1) hQ hz (by omega)
    have ebu : ry_bu (ry_sr l k) (ry_tg l (k + 1) (ry_n l (k + 1))) k (ry_n l (k + 1)) (ry_n l k) (i + 1) = ry_bu (ry_sr l k) (ry_tg l (k + 1) (ry_n l (k + 1))) k (ry_n l (k + 1)) (ry_n l k) i ++ ry_pc (ry_sr l k) (ry_tg l (k + 1) (ry_n l (k + 1))) k (ry_n l (k + 1)) (ry_n l k) i := rfl
    have ih1 := ih (i + 1)
    rw [ebu] at ih1 hlen
    rw [List.length_append] at hlen
    generalize ry_bu (ry_sr l k) (ry_tg l (k + 1) (ry_n l (k + 1))) k (ry_n l (k + 1)) (ry_n l k) i = B at ih1 hlen Hm
    have go : ∀ g : Bool, (g = true ↔ (i = k ∨ i = k + 1 ∨ (ry_n l (k + 1) ≤ i ∧ i < ry_n l k))) → jF (kX5_build_66 (d + 2) s (Int32.ofNat i) o2 (if g = true then 1 else 0) h) (.inl none) fun h' => jS (jn (s + 6) 5) h h' ∧ pL h' (s + 6) (ry_st l k) := by
      intro g hgo
      refine jE_of (fun r => gX5_build_66) ?_
      simp only [tC_R4 H, Option.bind_some, aC_at H.2.1 (show i < 150 by omega) (by omega), hR i (by omega), jw_add1]
      unfold ry_pc at ih1 hlen
      by_cases c1 : ry_tg l (k + 1) (ry_n l (k + 1)) i = true
      · rw [if_pos c1] at ih1 hlen
        rw [if_pos c1, if_neg (by decide)]
        simp only [tC_R3 H, tC_R2 H, tC_I11 H, tC_I12 H, Option.bind_some, jm_O_eq (pU_ob Hm)]
        have hlen2 : (List.take (ry_n l k - ry_n l (k + 1)) (List.drop (ry_n l (k + 1)) (ry_sr l k))).length = ry_n l k - ry_n l (k + 1) := by
          rw [List.length_take, List.length_drop]; omega
        refine jE_V (pU_append (d := d) (p := s + 6) (q := s + 1) (a := ry_n l (k + 1)) (b := ry_n l k) (by omega) (by omega) (by omega) (by omega) Hm (pL_U Hp)) ?_
        rintro h1 ⟨F1, H1⟩
        exact jF_mono (ih1 _ h1 (by omega) (pL_tr Hp F1 dis) H1 (tC_tr H F1 dis2)) fun h2 ⟨F2, q⟩ => ⟨jS_tr F1 F2, q⟩
      · rw [if_neg c1] at ih1 hlen
        rw [if_neg c1, if_pos rfl]
        cases g with
        | true =>
          rw [if_pos (hgo.mp rfl), List.append_nil] at ih1
          rw [if_neg (show ¬ (if true = true then (1 : Int32) else 0) = 0 by decide)]
          exact ih1 _ h (by omega) Hp Hm H
        | false =>
          have hng : ¬ (i = k ∨ i = k + 1 ∨ (ry_n l (k + 1) ≤ i ∧ i < ry_n l k)) := fun z => by have := hgo.mpr z; cases this
          rw [if_neg hng] at ih1 hlen
          rw [if_pos (show (if false = true then (1 : Int32) else 0) = 0 by decide)]
          simp only [tC_R3 H, tC_R2 H, Option.bind_some, jm_O_eq (pU_ob (pL_U Hp)), pU_kindAt (pL_U Hp) hil, pU_nameAt (pL_U Hp) hil, jc_I_eq, jc_L_eq, jm_O_eq (pU_ob Hm)]
          simp only [List.length_singleton] at hlen
          refine jE_V (pU_add Hm (by omega)) ?_
          rintro h1 ⟨F1, H1⟩
          exact jF_mono (ih1 _ h1 (by omega) (pL_tr Hp F1 dis) H1 (tC_tr H F1 dis2)) fun h2 ⟨F2, q⟩ => ⟨jS_tr F1 F2, q⟩
    refine jE_of (fun r => gX5_build_9) ?_
    simp only [tC_R2 H, tC_R4 H, aC_len H.2.1, Option.bind_some, pU_n (pL_U Hp), tC_I9 H, tC_I10 H, tC_I11 H, tC_I12 H, jw_eq (show i < 2147483648 by omega) (show k < 2147483648 by omega), jw_eq (show i < 2147483648 by omega) (show k + 1 < 2147483648 by omega), jw_lt (show i < 2147483648 by omega) (show ry_n l (k + 1) < 2147483648 by omega), jw_lt (show i < 2147483648 by omega) (show ry_n l k < 2147483648 by omega)]
    rw [if_pos (by rw [jw_lt (by omega) (by omega)]; omega), if_pos (by rw [jw_lt (by omega) (by omega)]; omega)]
    by_cases c1 : i = k
    · rw [if_pos c1]; exact go true ⟨fun _ => Or.inl c1, fun _ => rfl⟩
    · rw [if_neg c1]
      by_cases c2 : i = k + 1
      · rw [if_pos c2]; exact go true ⟨fun _ => Or.inr (Or.inl c2), fun _ => rfl⟩
      · rw [if_neg c2]
        by_cases c3 : i < ry_n l (k + 1)
        · rw [if_pos c3]; exact go false ⟨fun z => (by cases z), fun z => (by omega)⟩
        · rw [if_neg c3]
          by_cases c4 : i < ry_n l k
          · rw [if_pos c4]; exact go true ⟨fun _ => Or.inr (Or.inr ⟨by omega, c4⟩), fun _ => rfl⟩
          · rw [if_neg c4]; exact go false ⟨fun z => (by cases z), fun z => (by omega)⟩
theorem t_build {k : Nat} (hQ : ry_Q l k) (hz : ry_sz l k ≤ 150) (hn : l.length ≤ 150) (hR : tR l (k + 1) (ry_n l (k + 1)) IR) (Hp : pL h (s + 1) (ry_sr l k)) (Hm : pU h (s + 6) l0) (H : tC h s rn ch oc (Int32.ofNat k) (Int32.ofNat (k + 1)) (Int32.ofNat (ry_n l (k + 1))) (Int32.ofNat (ry_n l k)) us IR IA ON FN) :
    jF (jm_D (d + 3) mX5_build [.ref s] h) (.inl none) fun h' => jS (jn (s + 6) 5) h h' ∧ pL h' (s + 6) (ry_st l k) := by
  refine jE_of (fun r => gX5_build) ?_
  simp only [tC_R3 H, Option.bind_some, jm_O_eq (pU_ob Hm)]
  refine jE_V (pU_clear Hm) ?_
  rintro h1 ⟨F1, H1⟩
  refine jF_mono (t_build_loop hQ hz hn hR l.length 0 none h1 (by omega) (pL_tr Hp F1 fun x z1 z2 => by unfold jn at z1 z2; omega) H1 (tC_tr H F1 fun x z1 z2 => by unfold jn at z1; omega)) fun h2 ⟨F2, q⟩ => ⟨jS_tr F1 F2, q⟩
/-- a Step, whatever it holds -/
def tI (h : jm_H) (s : Nat) : Prop := tY h s ∧ (∃ l, pU h (s + 1) l) ∧ ∃ l, pU h (s + 6) l
theorem tI_tr (H : tI h s) (F : jS S h h') (D : ∀ x, S x → jn s 15 x → False) : tI h' s := by
  obtain ⟨⟨rn, ch, oc, sc, mk, sd, bh, us, IR, IA, ON, FN, hc, H⟩, ⟨l1, H1⟩, l2, H2⟩ := H
  exact ⟨⟨_, _, _, _, _, _, _, _, _, _, _, _, hc, tC_tr H F fun x z1 z2 => D x z1 (by unfold jn; omega)⟩, ⟨l1, pU_tr H1 F fun x z1 z2 => D x z1 (by unfold jn at *; omega)⟩, l2, pU_tr H2 F fun x z1 z2 => D x z1 (by unfold jn at *; omega)⟩
theorem tI_ob (H : tI h s) : jm_ob h s 5 = true := by
  obtain ⟨⟨rn, ch, oc, sc, mk, sd, bh, us, IR, IA, ON, FN, hc, H⟩, -⟩ := H
  exact tC_ob H
/-- the cells that a step of a part writes -/
def tV (s p x : Nat) : Prop := jn s 15 x ∨ jn p 5 x
theorem tI_can (hd : p + 5 ≤ s ∨ s + 15 ≤ p) (hP : ry_P l) (hg : gN l) (Hp : pL h p l) (H : tI h s) :
    jF (jm_D (d + 3) mX5_canBeTaken [.ref s, .ref p] h) (.inl (some (.int (jp (ry_can l))))) fun h' => jS (jn s 15) h h' ∧ tI h' s := by
  obtain ⟨H, ⟨l1, H1⟩, l2, H2⟩ := H
  refine jF_mono (t_canBeTaken (by omega) hP hg Hp H) fun h' ⟨F, Y, _⟩ => ⟨jS_mn F fun x z => by unfold tS at z; unfold jn; omega, Y, ⟨l1, pU_tr H1 F (tS_5 (by omega))⟩, l2, pU_tr H2 F (tS_5 (by omega))⟩
theorem t_takeNo (hd : p + 5 ≤ s ∨ s + 15 ≤ p) (hP : ry_P l) (hg : gN l) (Hp : pL h p l) (H : tI h s) (hno : ¬ ry_can l) :
    jF (jm_D (d + 4) mX5_take [.ref s, .ref p] h) (.inl (some (.int 0))) fun h' => jS (tV s p) h h' ∧ tI h' s ∧ pL h' p l := by
  refine jE_of (fun r => gX5_take) ?_
  simp only [jm_O_eq (tI_ob H)]
  have e := tI_can (d := d) hd hP hg Hp H
  rw [jp_F hno] at e
  refine jE_I e ?_
  rintro h1 ⟨F1, H1⟩
  rw [if_pos rfl]
  exact jF_end ⟨jS_mn F1 fun x z => Or.inl z, H1, pL_tr Hp F1 fun x z1 z2 => by unfold jn at z1 z2; omega⟩
theorem t_takeYes {k : Nat} (hd : p + 5 ≤ s ∨ s + 15 ≤ p) (hP : ry_P l) (hg : gW l) (Hp : pL h p l) (H : tI h s) (hk : ry_r l = some k) (hz : ry_sz l k ≤ 150) :
    jF (jm_D (d + 4) mX5_take [.ref s, .ref p] h) (.inl (some (.int 1))) fun h' => jS (tV s p) h h' ∧ tI h' s ∧ pL h' p (ry_st l k) ∧ jr_I h' s 5 0 0 = some (Int32.ofNat (ry_sc l k)) ∧ jr_I h' s 5 1 4 = some (jp (¬ ry_st l k = l)) := by
  have hn := pL_len Hp
  obtain ⟨a1, a2, a3⟩ := ry_r_at hk
  have hQ : ry_Q l k := ⟨hP, a3, a1, a2⟩
  obtain ⟨g1, g2, g3, g4, g5, g6⟩ := ry_Q_geo hQ
  have hgn := gW_gN hg
  have w1 : ∀ x, tS s x → tV s p x := fun x z => Or.inl (by unfold tS at z; unfold jn; omega)
  have w2 : ∀ x, tB s x → tV s p x := fun x z => by rcases z with z | z; exact w1 x z; exact Or.inl (by unfold jn at *; omega)
  refine jE_of (fun r => gX5_take) ?_
  simp only [jm_O_eq (tI_ob H)]
  obtain ⟨H, ⟨l1, Hb⟩, l2, Hm⟩ := H
  have e := t_canBeTaken (d := d) (by omega) hP hgn Hp H
  rw [jp_T ⟨k, hk, hz⟩] at e
  refine jE_I e ?_
  rintro h1 ⟨F1, -, q⟩
  obtain ⟨rn, ch, oc, IR, IA, ON, FN, hR, hc, H1⟩ := q k hk
  have Hp1 := pL_tr Hp F1 (tS_5 (by omega))
  have Hb1 := pU_tr Hb F1 (tS_5 (by omega))
  have Hm1 := pU_tr Hm F1 (tS_5 (by omega))
  rw [if_neg (by decide)]
  obtain ⟨h2, e2, F2, H2⟩ := tC_w0 0 H1
  have Hp2 := pL_tr Hp1 F2 (tS_5 (by omega))
  have Hb2 := pU_tr Hb1 F2 (tS_5 (by omega))
  have Hm2 := pU_tr Hm1 F2 (tS_5 (by omega))
  simp only [e2, Option.bind_some, tC_R2 H2, jm_O_eq (pU_ob Hb2)]
  refine jE_V (pL_setTo (by omega) Hb2 Hp2) ?_
  rintro h3 ⟨F3, Hb3⟩
  have d3 : ∀ q, (q + 5 ≤ s + 1 ∨ s + 6 ≤ q) → ∀ x, jn (s + 1) 5 x → jn q 5 x → False := fun q hq x z1 z2 => by unfold jn at z1 z2; omega
  have Hp3 := pL_tr Hp2 F3 (d3 p (by omega))
  have Hm3 := pU_tr Hm2 F3 (d3 (s + 6) (by omega))
  have H3 := tC_tr H2 F3 fun x z1 z2 => by unfold jn at z1; omega
  simp only [jm_O_eq (tC_ob H3)]
  refine jE_V (t_findOpenNames (d := d + 1) hP hgn (by omega) (by omega) Hb3 H3) ?_
  rintro h4 ⟨F4, c, ON', hc', HO, H4⟩
  have Hp4 := pL_tr Hp3 F4 (tS_5 (by omega))
  have Hb4 := pL_tr Hb3 F4 (tS_5 (by omega))
  have Hm4 := pU_tr Hm3 F4 (tS_5 (by omega))
  simp only [jm_O_eq (tC_ob H4)]
  refine jE_V (t_findMasks hP (by omega) (by omega) hR Hb4 H4) ?_
  rintro h5 ⟨F5, IA', hA, H5⟩
  have Hp5 := pL_tr Hp4 F5 (tS_5 (by omega))
  have Hb5 := pL_tr Hb4 F5 (tS_5 (by omega))
  have Hm5 := pU_tr Hm4 F5 (tS_5 (by omega))
  simp only [jm_O_eq (tC_ob H5)]
  refine jE_V (t_renameMasks hQ hg rfl rfl hc' HO hA Hb5 H5) ?_
  rintro h6 ⟨F6, Hb6, H6⟩
  have d6 : ∀ q, (q + 5 ≤ s ∨ s + 15 ≤ q ∨ (s + 6 ≤ q ∧ q + 5 ≤ s + 11)) → ∀ x, tB s x → jn q 5 x → False := fun q hq x z1 z2 => by
    rcases z1 with z1 | z1
    · unfold tS at z1; unfold jn at z2; omega
    · unfold jn at z1 z2; omega
  have Hp6 := pL_tr Hp5 F6 (d6 p (by omega))
  have Hm6 := pU_tr Hm5 F6 (d6 (s + 6) (by omega))
  simp only [jm_O_eq (tC_ob H6)]
  refine jE_V (t_build hQ hz hn hR Hb6 Hm6 H6) ?_
  rintro h7 ⟨F7, Hm7⟩
  have d7 : ∀ q, (q + 5 ≤ s + 6 ∨ s + 11 ≤ q) → ∀ x, jn (s + 6) 5 x → jn q 5 x → False := fun q hq x z1 z2 => by unfold jn at z1 z2; omega
  have Hp7 := pL_tr Hp6 F7 (d7 p (by omega))
  have Hb7 := pL_tr Hb6 F7 (d7 (s + 1) (by omega))
  have H7 := tC_tr H6 F7 fun x z1 z2 => by unfold jn at z1; omega
  have hg7 := gW_gN (ry_st_gW hQ hg hn)
  simp only [tC_R3 H7, Option.bind_some, jm_O_eq (pU_ob (pL_U Hm7)), pU_hasTextOf (pL_U Hm7) (pL_U Hp7) hg7 hgn, jc_I_eq]
  have F17 : jS (tV s p) h h7 := jS_tr (jS_mn F1 w1) (jS_tr (jS_mn F2 w1) (jS_tr (jS_mn F3 fun x z => Or.inl (by unfold jn at *; omega)) (jS_tr (jS_mn F4 w1) (jS_tr (jS_mn F5 w1) (jS_tr (jS_mn F6 w2) (jS_mn F7 fun x z => Or.inl (by unfold jn at *; omega)))))))
  have fin : ∀ x : Int32, (x = 0 ∨ x = 1) → x = jp (¬ ry_st l k = l) → jE ((jm_pf h7 s 5 1 4 (.int x)).bind fun h34 => (jr_R h34 s 5 3 2).bind fun a36 => jm_O h34 p 3 (jc_V (jm_D (d + 3) mX3_setTo [.ref p, .ref a36] h34) (fun h38 => some (.inl (some (.int 1)), h38)) jx)) fun w h' => w = (.inl (some (.int 1))) ∧ jS (tV s p) h h' ∧ tI h' s ∧ pL h' p (ry_st l k) ∧ jr_I h' s 5 0 0 = some (Int32.ofNat (ry_sc l k)) ∧ jr_I h' s 5 1 4 = some (jp (¬ ry_st l k = l)) := by
    intro x hx ex
    obtain ⟨h8, e8, F8, H8⟩ := tC_w1 x hx H7
    have Hp8 := pL_tr Hp7 F8 (tS_5 (by omega))
    have Hb8 := pL_tr Hb7 F8 (tS_5 (by omega))
    have Hm8 := pL_tr Hm7 F8 (tS_5 (by omega))
    simp only [e8, Option.bind_some, tC_R3 H8, jm_O_eq (pU_ob (pL_U Hp8))]
    refine jE_V (pL_setTo (by omega) (pL_U Hp8) Hm8) ?_
    rintro h9 ⟨F9, Hp9⟩
    have d9 : ∀ q, (q + 5 ≤ p ∨ p + 5 ≤ q) → ∀ x, jn p 5 x → jn q 5 x → False := fun q hq x z1 z2 => by unfold jn at z1 z2; omega
    have Hb9 := pL_tr Hb8 F9 (d9 (s + 1) (by omega))
    have Hm9 := pL_tr Hm8 F9 (d9 (s + 6) (by omega))
    have H9 := tC_tr H8 F9 fun x z1 z2 => by unfold jn at z1; omega
    refine jF_end ⟨jS_tr F17 (jS_tr (jS_mn F8 w1) (jS_mn F9 fun x z => Or.inr z)), ⟨⟨_, _, _, _, _, _, _, _, _, _, _, _, hx, H9⟩, ⟨_, pL_U Hb9⟩, _, pL_U Hm9⟩, Hp9, tC_I0 H9, ?_⟩
    rw [← ex]
    exact oC_B H9.1 rfl hx
  by_cases c : ry_st l k = l
  · rw [jp_T c, if_neg (by decide)]
    exact fin 0 (Or.inl rfl) (jp_F (fun z => z c)).symm
  · rw [jp_F c, if_pos rfl]
    exact fin 1 (Or.inr rfl) (jp_T c).symm
end TC
/-! ===== LEVEL 3: Step, many steps ===== -/
/-- a row as plays have it -/
def gR (l : List Int) : Prop := ry_P l ∧ gW l ∧ l.length ≤ 150
def ry_go : Nat → List Int → List Int
  | 0, l => l
  | n + 1, l => match ry_r l with
    | none => l
    | some k => if ry_sz l k ≤ 150 then ry_go n (ry_st l k) else l
def ry_uf : Nat → List Int → Int
  | 0, l => match ry_r l with
    | none => 0
    | some _ => -1
  | n + 1, l => match ry_r l with
    | none => 0
    | some k => if ry_sz l k ≤ 150 then (if ry_uf n (ry_st l k) < 0 then -1 else ry_uf n (ry_st l k) + 1) else -1
theorem gR_st {l : List Int} {k : Nat} (h : gR l) (hk : ry_r l = some k) (hz : ry_sz l k ≤ 150) : gR (ry_st l k) := by
  obtain ⟨a1, a2, a3⟩ := ry_r_at hk
  have hQ : ry_Q l k := ⟨h.1, a3, a1, a2⟩
  exact ⟨ry_st_P hQ, ry_st_gW hQ h.2.1 h.2.2, by have := ry_st_len hQ; omega⟩
theorem gR_go : ∀ (n : Nat) {l : List Int}, gR l → gR (ry_go n l)
  | 0, _, h => h
  | n + 1, l, h => by
    unfold ry_go
    cases q : ry_r l with
    | none => exact h
    | some k =>
      simp only []
      split
      · rename_i hz; exact gR_go n (gR_st h q hz)
      · exact h
theorem ry_uf_b : ∀ (n : Nat) (l : List Int), -1 ≤ ry_uf n l ∧ ry_uf n l ≤ n
  | 0, l => by
    unfold ry_uf
    cases ry_r l <;> simp
  | n + 1, l => by
    unfold ry_uf
    cases q : ry_r l with
    | none => simp; omega
    | some k =>
      simp only []
      have := ry_uf_b n (ry_st l k)
      split
      · split <;> omega
      · omega
section TC
variable {h h' : jm_H} {s d p : Nat} {l : List Int}
theorem t_takeUpTo_loop {n : Nat} (hn : n < 2147483648) (hd : p + 5 ≤ s ∨ s + 15 ≤ p) : ∀ (f i : Nat) (l : List Int) (h : jm_H), i + f = n → gR l → pL h p l → tI h s →
    jF (kX5_takeUpTo_2 (d + 4) s p (Int32.ofNat n) (Int32.ofNat i) h) (.inl none) fun h' => jS (tV s p) h h' ∧ tI h' s ∧ pL h' p (ry_go f l) := by
  intro f
  induction f with
  | zero =>
    intro i l h hi hR Hp H
    refine jE_of (fun r => gX5_takeUpTo_2) ?_
    rw [if_neg (by rw [jw_lt (by omega) (by omega)]; omega)]
    exact jF_end ⟨jS_rf, H, Hp⟩
  | succ f ih =>
    intro i l h hi hR Hp H
    refine jE_of (fun r => gX5_takeUpTo_2) ?_
    rw [if_pos (by rw [jw_lt (by omega) (by omega)]; omega), jm_O_eq (tI_ob H)]
    unfold ry_go
    cases q : ry_r l with
    | none =>
      refine jE_I (t_takeNo hd hR.1 (gW_gN hR.2.1) Hp H fun z => by obtain ⟨k, z1, -⟩ := z; rw [q] at z1; cases z1) ?_
      rintro h1 ⟨F1, H1, Hp1⟩
      rw [if_pos rfl]
      exact jF_end ⟨F1, H1, Hp1⟩
    | some k =>
      by_cases c : ry_sz l k ≤ 150
      · refine jE_I (t_takeYes hd hR.1 hR.2.1 Hp H q c) ?_
        rintro h1 ⟨F1, H1, Hp1, -, -⟩
        rw [if_neg (by decide), jw_add1]
        simp only [if_pos c]
        exact jF_mono (ih (i + 1) _ h1 (by omega) (gR_st hR q c) Hp1 H1) fun h2 ⟨F2, q⟩ => ⟨jS_tr F1 F2, q⟩
      · refine jE_I (t_takeNo hd hR.1 (gW_gN hR.2.1) Hp H fun z => by obtain ⟨k', z1, z2⟩ := z; rw [q] at z1; cases z1; exact c z2) ?_
        rintro h1 ⟨F1, H1, Hp1⟩
        rw [if_pos rfl]
        simp only [if_neg c]
        exact jF_end ⟨F1, H1, Hp1⟩
theorem t_takeUpTo {n : Nat} (hn : n < 2147483648) (hd : p + 5 ≤ s ∨ s + 15 ≤ p) (hR : gR l) (Hp : pL h p l) (H : tI h s) :
    jF (jm_D (d + 5) mX5_takeUpTo [.ref s, .ref p, .int (Int32.ofNat n)] h) (.inl none) fun h' => jS (tV s p) h h' ∧ tI h' s ∧ pL h' p (ry_go n l) :=
  jE_of (fun r => gX5_takeUpTo) (t_takeUpTo_loop hn hd n 0 l h (by omega) hR Hp H)
theorem jw_Lz {a : Int} {b : Nat} (h1 : -2147483648 ≤ a) (h2 : a < 2147483648) (hb : b < 2147483648) : (Int32.ofNat b = Int32.ofInt a) ↔ (b : Int) = a := by
  rw [← Int32.toInt_inj, jw_z h1 h2, jw_i hb]
theorem t_until_loop {n : Nat} (hn : n < 1000) (hd : p + 5 ≤ s ∨ s + 15 ≤ p) : ∀ (f i : Nat) (l : List Int) (h : jm_H), i + f = n → gR l → pL h p l → tI h s →
    jF (kX5_takeUntilFinished_2 (d + 4) s p (Int32.ofNat n) (Int32.ofNat i) h) (.inl (some (.int (Int32.ofInt (if ry_uf f l < 0 then -1 else ry_uf f l + i))))) fun h' => jS (tV s p) h h' ∧ tI h' s ∧ ∃ l', pL h' p l' := by
  intro f
  induction f with
  | zero =>
    intro i l h hi hR Hp H
    refine jE_of (fun r => gX5_takeUntilFinished_2) ?_
    rw [if_neg (by rw [jw_lt (by omega) (by omega)]; omega)]
    simp only [jm_O_eq (pU_ob (pL_U Hp)), pU_readyScene (pL_U Hp), jc_I_eq]
    unfold ry_ro ry_uf
    cases q : ry_r l with
    | none =>
      simp only []
      rw [if_pos (by decide), if_neg (by omega), Int.zero_add, jw_in]
      exact jF_end ⟨jS_rf, H, l, Hp⟩
    | some k =>
      obtain ⟨a1, a2, a3⟩ := ry_r_at q
      have := hR.2.2
      simp only []
      rw [if_neg (by rw [jw_in, jw_neg (by omega)]; exact id), if_pos (by rw [jw_eq (by omega) (by omega)]; omega), if_pos (by omega)]
      exact jF_end ⟨jS_rf, H, l, Hp⟩
  | succ f ih =>
    intro i l h hi hR Hp H
    refine jE_of (fun r => gX5_takeUntilFinished_2) ?_
    rw [if_neg (by rw [jw_lt (by omega) (by omega)]; omega)]
    simp only [jm_O_eq (pU_ob (pL_U Hp)), pU_readyScene (pL_U Hp), jc_I_eq]
    unfold ry_ro
    rw [show ry_uf (f + 1) l = (match ry_r l with
    | none => 0
    | some k => if ry_sz l k ≤ 150 then (if ry_uf f (ry_st l k) < 0 then -1 else ry_uf f (ry_st l k) + 1) else -1) from rfl]
    cases q : ry_r l with
    | none =>
      simp only []
      rw [if_pos (by decide), if_neg (by omega), Int.zero_add, jw_in]
      exact jF_end ⟨jS_rf, H, l, Hp⟩
    | some k =>
      obtain ⟨a1, a2, a3⟩ := ry_r_at q
      have := hR.2.2
      simp only []
      rw [if_neg (by rw [jw_in, jw_neg (by omega)]; exact id), if_neg (by rw [jw_eq (by omega) (by omega)]; omega), jm_O_eq (tI_ob H)]
      by_cases c : ry_sz l k ≤ 150
      · simp only [if_pos c]
        refine jE_I (t_takeYes hd hR.1 hR.2.1 Hp H q c) ?_
        rintro h1 ⟨F1, H1, Hp1, -, -⟩
        rw [if_neg (by decide), jw_add1]
        have hb := ry_uf_b f (ry_st l k)
        have := ih (i + 1) _ h1 (by omega) (gR_st hR q c) Hp1 H1
        have e : (if (if ry_uf f (ry_st l k) < 0 then -1 else ry_uf f (ry_st l k) + 1) < 0 then -1 else (if ry_uf f (ry_st l k) < 0 then -1 else ry_uf f (ry_st l k) + 1) + (i : Int)) = if ry_uf f (ry_st l k) < 0 then -1 else ry_uf f (ry_st l k) + ((i + 1 : Nat) : Int) := by
          by_cases z : ry_uf f (ry_st l k) < 0
          · rw [if_pos z, if_pos z]
            rfl
          · rw [if_neg z, if_neg z, if_neg (by omega)]
            omega
        rw [e]
        exact jF_mono this fun h2 ⟨F2, q⟩ => ⟨jS_tr F1 F2, q⟩
      · simp only [if_neg c]
        refine jE_I (t_takeNo hd hR.1 (gW_gN hR.2.1) Hp H fun z => by obtain ⟨k', z1, z2⟩ := z; rw [q] at z1; cases z1; exact c z2) ?_
        rintro h1 ⟨F1, H1, Hp1⟩
        rw [if_pos rfl, if_pos (by omega)]
        exact jF_end ⟨F1, H1, l, Hp1⟩
theorem t_until {n : Nat} (hn : n < 1000) (hd : p + 5 ≤ s ∨ s + 15 ≤ p) (hR : gR l) (Hp : pL h p l) (H : tI h s) :
    jF (jm_D (d + 5) mX5_takeUntilFinished [.ref s, .ref p, .int (Int32.ofNat n)] h) (.inl (some (.int (Int32.ofInt (ry_uf n l))))) fun h' => jS (tV s p) h h' ∧ tI h' s ∧ ∃ l', pL h' p l' := by
  have := t_until_loop (d := d) hn hd n 0 l h (by omega) hR Hp H
  have hb := ry_uf_b n l
  have e : (if ry_uf n l < 0 then -1 else ry_uf n l + ((0 : Nat) : Int)) = ry_uf n l := by
    split <;> omega
  rw [e] at this
  exact jE_of (fun r => gX5_takeUntilFinished) this
theorem t_untilM (hR : gR l) (Hp : pL h p l) (H : tI h s) :
    jF (jm_D (d + 5) mX5_takeUntilFinished [.ref s, .ref p, .int (-1)] h) (.inl (some (.int (-1)))) fun h' => jS (tV s p) h h' ∧ tI h' s ∧ ∃ l', pL h' p l' := by
  refine jE_of (fun r => gX5_takeUntilFinished) (jE_of (fun r => gX5_takeUntilFinished_2) ?_)
  rw [if_pos (by decide)]
  exact jF_end ⟨jS_rf, H, l, Hp⟩
end TC
