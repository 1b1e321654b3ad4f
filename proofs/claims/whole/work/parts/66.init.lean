/-! ===== LEVEL 3: what a new MaskPlays is ===== -/
/-- cells were made, old ones stand but for some -/
def jA (S : Nat → Prop) (n k : Nat) (h h' : jm_H) : Prop := h'.1 = h.1 + n ∧ h'.2.1 = h.2.1 + k ∧ ∀ a, a < h.1 → ¬ S a → h'.2.2 a = h.2.2 a
section IN
variable {h h' h1 h2 : jm_H} {d p n k : Nat} {S : Nat → Prop} {Q : (Option Value ⊕ Nat) → jm_H → Prop}
theorem jA_S (F : jS S h h') : jA S 0 0 h h' := ⟨F.1, F.2.1, fun a _ ha => F.2.2 a ha⟩
theorem jA_tr {m l : Nat} (F : jA S n k h h1) (G : jA S m l h1 h2) : jA S (n + m) (k + l) h h2 := ⟨by rw [G.1, F.1, Nat.add_assoc], by rw [G.2.1, F.2.1, Nat.add_assoc], fun a ha hs => (G.2.2 a (by rw [F.1]; omega) hs).trans (F.2.2 a ha hs)⟩
theorem jA_mn {T : Nat → Prop} (F : jA S n k h h') (g : ∀ a, a < h.1 → S a → T a) : jA T n k h h' := ⟨F.1, F.2.1, fun a ha hs => F.2.2 a ha fun z => hs (g a ha z)⟩
/-- later changes may touch what was made in between -/
theorem jA_tr2 {T : Nat → Prop} {m l : Nat} (F : jA S n k h h1) (G : jA T m l h1 h2) (g : ∀ a, a < h.1 → T a → S a) : jA S (n + m) (k + l) h h2 := ⟨by rw [G.1, F.1, Nat.add_assoc], by rw [G.2.1, F.2.1, Nat.add_assoc], fun a ha hs => (G.2.2 a (by rw [F.1]; omega) fun z => hs (g a ha z)).trans (F.2.2 a ha hs)⟩
theorem jA_jS (F : jA S n k h h') : jS (fun a => S a ∨ h.1 ≤ a) h (h.1, h.2.1, h'.2.2) := ⟨rfl, rfl, fun a ha => F.2.2 a (by
  by_cases q : a < h.1
  · exact q
  · exact absurd (Or.inr (by omega)) ha) fun z => ha (Or.inl z)⟩
theorem oC_A {a ci : Nat} {fs : List Value} (H : oC h a ci fs) (F : jA S n k h h') (D : ¬ S a) (ha : a < h.1) : oC h' a ci fs := ⟨(F.2.2 a ha D).trans H.1, H.2⟩
theorem aC_A {a t m : Nat} {f : Nat → Int32} (H : aC h a t m f) (F : jA S n k h h') (D : ¬ S a) (ha : a < h.1) : aC h' a t m f := ⟨(F.2.2 a ha D).trans H.1, H.2⟩
theorem lC_A {a m : Nat} {f : Nat → Int64} (H : lC h a m f) (F : jA S n k h h') (D : ¬ S a) (ha : a < h.1) : lC h' a m f := ⟨(F.2.2 a ha D).trans H.1, H.2⟩
theorem rC_A {a t m : Nat} {f : Nat → Option Nat} (H : rC h a t m f) (F : jA S n k h h') (D : ¬ S a) (ha : a < h.1) : rC h' a t m f := ⟨(F.2.2 a ha D).trans H.1, H.2⟩
theorem pU_A {q : Nat} {l : List Int} (H : pU h q l) (F : jA S n k h h') (D : ∀ a, S a → jn q 5 a → False) (ha : q + 5 ≤ h.1) : pU h' q l := by
  have := pU_tr H (jA_jS F) fun y y1 y2 => y1.elim (fun z => D y z y2) fun z => by unfold jn at y2; omega
  exact this
theorem jE_new {ci : Nat} {fs : List Value} {kk : Nat → jm_H → Option jm_R} (hx : 128 ≤ h.1) (g : ∀ h1, jA (fun _ => False) 1 k h h1 → oC h1 h.1 ci fs → jE (kk h.1 h1) Q) : jE (jl_new h ci fs k kk) Q :=
  g _ ⟨rfl, rfl, fun a ha _ => if_neg (Nat.ne_of_lt ha)⟩ ⟨if_pos rfl, hx⟩
theorem jE_newa {t m : Nat} {c : Int32} {kk : Nat → jm_H → Option jm_R} (e : ¬ c < 0 ∧ c.toNatClampNeg ≤ 1000000) (em : c.toNatClampNeg = m) (g : ∀ h1, jA (fun _ => False) 1 m h h1 → h1.2.2 h.1 = some (.inl (t, m, jm_zero t)) → jE (kk h.1 h1) Q) : jE (jl_newa h t c kk) Q := by
  unfold jl_newa jm_newa
  rw [if_pos e, em]
  exact g _ ⟨rfl, rfl, fun a ha _ => if_neg (Nat.ne_of_lt ha)⟩ (if_pos rfl)
theorem jm_U_q {b : Nat} {o : Option jm_R} (hb : 128 ≤ b) : jm_U b o = o := if_pos hb
/-- a new Part -/
theorem i_X3 (H : oC h p 3 [.int 0, .null, .null, .null, .null]) (hp : h.1 = p + 1) : jF (jm_D (d + 1) mX3_init [.ref p] h) (.inl none) fun h' => jA (fun a => a = p) 4 600 h h' ∧ pU h' p [] := by
  have hx := H.2
  refine jE_of (fun r => gX3_init) ?_
  rw [jm_U_q hx]
  refine jE_newa (m := 150) (by decide) rfl fun h1 F1 A1 => ?_
  have n1 : h1.1 = p + 2 := by rw [F1.1, hp]
  obtain ⟨h2, e2, F2, H2⟩ := oC_w (k := 1) (t := 2) (v := .ref h.1) (oC_A H F1 id (by omega)) (by simp) rfl
  rw [e2, Option.bind_some]
  have n2 : h2.1 = p + 2 := by rw [F2.1, n1]
  refine jE_newa (m := 150) (by decide) rfl fun h3 F3 A3 => ?_
  have n3 : h3.1 = p + 3 := by rw [F3.1, n2]
  obtain ⟨h4, e4, F4, H4⟩ := oC_w (k := 2) (t := 2) (v := .ref h2.1) (oC_A H2 F3 id (by omega)) (by simp) rfl
  rw [e4, Option.bind_some]
  have n4 : h4.1 = p + 3 := by rw [F4.1, n3]
  refine jE_newa (m := 150) (by decide) rfl fun h5 F5 A5 => ?_
  have n5 : h5.1 = p + 4 := by rw [F5.1, n4]
  obtain ⟨h6, e6, F6, H6⟩ := oC_w (k := 3) (t := 2) (v := .ref h4.1) (oC_A H4 F5 id (by omega)) (by simp) rfl
  rw [e6, Option.bind_some]
  have n6 : h6.1 = p + 4 := by rw [F6.1, n5]
  refine jE_newa (m := 150) (by decide) rfl fun h7 F7 A7 => ?_
  have n7 : h7.1 = p + 5 := by rw [F7.1, n6]
  obtain ⟨h8, e8, F8, H8⟩ := oC_w (k := 4) (t := 2) (v := .ref h6.1) (oC_A H6 F7 id (by omega)) (by simp) rfl
  rw [e8, Option.bind_some]
  have W : ∀ {g1 g2 : jm_H}, jS (jn p 1) g1 g2 → jA (fun a => a = p) 0 0 g1 g2 := fun F => jA_S (jS_mn F fun a ha => by unfold jn at ha; omega)
  have V : ∀ {g1 g2 : jm_H} {m : Nat}, jA (fun _ => False) 1 m g1 g2 → jA (fun a => a = p) 1 m g1 g2 := fun F => jA_mn F fun _ _ z => z.elim
  have G78 := W F8
  have G67 := jA_tr (V F7) G78
  have G56 := jA_tr (W F6) G67
  have G45 := jA_tr (V F5) G56
  have G34 := jA_tr (W F4) G45
  have G23 := jA_tr (V F3) G34
  have G12 := jA_tr (W F2) G23
  have G := jA_tr (V F1) G12
  refine jF_end ⟨G, fun _ => 0, fun _ => 0, fun _ => 0, fun _ => 0, ⟨?_, ?_, ?_, ?_, ?_, hx, Nat.zero_le _⟩, fun i hi => absurd hi (Nat.not_lt_zero _)⟩
  · rw [hp, n2, n4, n6] at H8
    exact H8.1
  · have := (G12.2.2 (p + 1) (by omega) (by omega)).trans (hp ▸ A1)
    exact this
  · have := (G34.2.2 (p + 2) (by omega) (by omega)).trans (n2 ▸ A3)
    exact this
  · have := (G56.2.2 (p + 3) (by omega) (by omega)).trans (n4 ▸ A5)
    exact this
  · have := (G78.2.2 (p + 4) (by omega) (by omega)).trans (n6 ▸ A7)
    exact this
end IN
/-! ===== LEVEL 3: new Tests, Texts, Notes, Steps ===== -/
section IN
variable {h h' h1 h2 : jm_H} {d p n k : Nat} {S : Nat → Prop} {Q : (Option Value ⊕ Nat) → jm_H → Prop}
theorem jA_p {g1 g2 : jm_H} (F : jS (jn p 1) g1 g2) : jA (fun a => a = p) 0 0 g1 g2 := jA_S (jS_mn F fun a ha => by unfold jn at ha; omega)
theorem jA_0 {g1 g2 : jm_H} {m j : Nat} (F : jA (fun _ => False) j m g1 g2) : jA S j m g1 g2 := jA_mn F fun _ _ z => z.elim
theorem i_X7 (H : oC h p 7 [.null, .int 0]) (hp : h.1 = p + 1) : jF (jm_D (d + 1) mX7_init [.ref p] h) (.inl none) fun h' => jA (fun a => a = p) 1 400 h h' ∧ qC h' p [] := by
  have hx := H.2
  refine jE_of (fun r => gX7_init) ?_
  rw [jm_U_q hx]
  refine jE_newa (m := 400) (by decide) rfl fun h1 F1 A1 => ?_
  obtain ⟨h2, e2, F2, H2⟩ := oC_w (k := 0) (t := 2) (v := .ref h.1) (oC_A H F1 id (by omega)) (by simp) rfl
  rw [e2, Option.bind_some]
  have G := jA_tr (jA_0 F1) (jA_p F2)
  rw [hp] at H2 A1
  exact jF_end ⟨G, fun _ => 0, H2, ⟨(F2.2.2 (p + 1) (by unfold jn; omega)).trans A1, by omega, by omega⟩, fun i hi => absurd hi (Nat.not_lt_zero _)⟩
theorem i_X8 (H : oC h p 8 [.int 0, .null, .null, .null, .int 0]) (hp : h.1 = p + 1) : jF (jm_D (d + 1) mX8_init [.ref p] h) (.inl none) fun h' => jA (fun a => a = p) 3 3000 h h' ∧ eI h' p := by
  have hx := H.2
  refine jE_of (fun r => gX8_init) ?_
  rw [jm_U_q hx]
  refine jE_newa (m := 2550) (by decide) rfl fun h1 F1 A1 => ?_
  have n1 : h1.1 = p + 2 := by rw [F1.1, hp]
  obtain ⟨h2, e2, F2, H2⟩ := oC_w (k := 1) (t := 2) (v := .ref h.1) (oC_A H F1 id (by omega)) (by simp) rfl
  rw [e2, Option.bind_some]
  have n2 : h2.1 = p + 2 := by rw [F2.1, n1]
  refine jE_newa (m := 150) (by decide) rfl fun h3 F3 A3 => ?_
  have n3 : h3.1 = p + 3 := by rw [F3.1, n2]
  obtain ⟨h4, e4, F4, H4⟩ := oC_w (k := 2) (t := 2) (v := .ref h2.1) (oC_A H2 F3 id (by omega)) (by simp) rfl
  rw [e4, Option.bind_some]
  have n4 : h4.1 = p + 3 := by rw [F4.1, n3]
  refine jE_newa (m := 300) (by decide) rfl fun h5 F5 A5 => ?_
  have n5 : h5.1 = p + 4 := by rw [F5.1, n4]
  obtain ⟨h6, e6, F6, H6⟩ := oC_w (k := 3) (t := 2) (v := .ref h4.1) (oC_A H4 F5 id (by omega)) (by simp) rfl
  rw [e6, Option.bind_some]
  have G56 := jA_p F6
  have G45 := jA_tr (jA_0 F5) G56
  have G34 := jA_tr (jA_p F4) G45
  have G23 := jA_tr (jA_0 F3) G34
  have G12 := jA_tr (jA_p F2) G23
  have G := jA_tr (jA_0 F1) G12
  rw [hp, n2, n4] at H6
  rw [hp] at A1
  rw [n2] at A3
  rw [n4] at A5
  refine jF_end ⟨G, [], [], fun _ => 0, fun _ => 0, fun _ => 0, H6, ⟨(G12.2.2 (p + 1) (by omega) (by omega)).trans A1, by omega, by omega⟩, ⟨(G34.2.2 (p + 2) (by omega) (by omega)).trans A3, by omega, by omega⟩, ⟨(G56.2.2 (p + 3) (by omega) (by omega)).trans A5, by omega, by omega⟩, fun i hi => absurd hi (Nat.not_lt_zero _), fun i hi => absurd hi (Nat.not_lt_zero _)⟩
theorem i_X2 (H : oC h p 2 [.int 0, .int 0, .int 0, .int 0]) : jF (jm_D (d + 1) mX2_init [.ref p] h) (.inl none) fun h' => jA (fun a => a = p) 0 0 h h' ∧ oC h' p 2 [.int 0, .int 0, .int 0, .int (-1)] := by
  refine jE_of (fun r => gX2_init) ?_
  rw [jm_U_q H.2]
  obtain ⟨h2, e2, F2, H2⟩ := oC_w (k := 3) (t := 0) (v := .int (-1)) H (by simp) rfl
  rw [e2, Option.bind_some]
  exact jF_end ⟨jA_p F2, H2⟩
theorem i_X1 {a b : Nat} (H : oC h p 1 [.null, .null, .int 0]) : jF (jm_D (d + 1) mX1_init [.ref p, .ref a, .ref b] h) (.inl none) fun h' => jA (fun a => a = p) 0 0 h h' ∧ oC h' p 1 [.ref a, .ref b, .int 0] := by
  refine jE_of (fun r => gX1_init) ?_
  rw [jm_U_q H.2]
  obtain ⟨h2, e2, F2, H2⟩ := oC_w (k := 0) (t := 2) (v := .ref a) H (by simp) rfl
  obtain ⟨h3, e3, F3, H3⟩ := oC_w (k := 1) (t := 2) (v := .ref b) H2 (by simp) rfl
  simp only [e2, e3, Option.bind_some]
  exact jF_end ⟨jA_tr (jA_p F2) (jA_p F3), H3⟩
theorem i_X6 {a b : Nat} (H : oC h p 6 [.null, .null, .int 0, .int 0, .null, .int 0]) (hp : h.1 = p + 1) : jF (jm_D (d + 1) mX6_init [.ref p, .ref a, .ref b] h) (.inl none) fun h' => jA (fun a => a = p) 1 8 h h' ∧ oC h' p 6 [.ref a, .ref (p + 1), .int 0, .int 0, .ref b, .int 0] ∧ lC h' (p + 1) 8 fun _ => 0 := by
  have hx := H.2
  refine jE_of (fun r => gX6_init) ?_
  rw [jm_U_q hx]
  refine jE_newa (m := 8) (by decide) rfl fun h1 F1 A1 => ?_
  obtain ⟨h2, e2, F2, H2⟩ := oC_w (k := 1) (t := 2) (v := .ref h.1) (oC_A H F1 id (by omega)) (by simp) rfl
  obtain ⟨h3, e3, F3, H3⟩ := oC_w (k := 0) (t := 2) (v := .ref a) H2 (by simp) rfl
  obtain ⟨h4, e4, F4, H4⟩ := oC_w (k := 4) (t := 2) (v := .ref b) H3 (by simp) rfl
  simp only [e2, e3, e4, Option.bind_some]
  have G14 : jA (fun a => a = p) 0 0 h1 h4 := jA_tr (jA_p F2) (jA_tr (jA_p F3) (jA_p F4))
  have G := jA_tr (jA_0 F1) G14
  have n1 : h1.1 = p + 2 := by rw [F1.1, hp]
  rw [hp] at H4 A1
  exact jF_end ⟨G, H4, (G14.2.2 (p + 1) (by omega) (by omega)).trans A1, by omega⟩
end IN
/-! ===== LEVEL 3: a new Step ===== -/
section IN
variable {h h' h1 h2 : jm_H} {d p n k : Nat} {S : Nat → Prop} {Q : (Option Value ⊕ Nat) → jm_H → Prop}
theorem x5_a {a p m : Nat} (ha : a < m) (hp : m = p + 1) (z : p ≤ a) : a = p := by omega
theorem x5_b {a p : Nat} (z : a = p ∨ a = p + 14) : a = p ∨ p + 6 ≤ a := by omega
theorem x5_c {a p : Nat} (z : a = p ∨ p + 6 ≤ a) : p ≤ a := by omega
theorem x5_d {a p k : Nat} (z : a = p + k) : p ≤ a := by omega
theorem x5_e {a p : Nat} (z : jn (p + 14) 1 a) : a = p ∨ a = p + 14 := by unfold jn at z; omega
theorem x5_f {a p : Nat} (z : a = p ∨ p + 6 ≤ a) (y : jn (p + 1) 5 a) (h : 0 < p) : False := by unfold jn at y; omega
theorem x5_g {a p : Nat} (z : a = p ∨ a = p + 14) (y : jn (p + 6) 5 a) : False := by unfold jn at y; omega
theorem x5_h {p k : Nat} (h : 0 < k ∧ k < 14) : ¬ (p + k = p ∨ p + k = p + 14) := by omega
theorem x5_i {p k : Nat} (h : 128 ≤ p) : 128 ≤ p + k := by omega
theorem x5_j {p : Nat} : ¬ jn (p + 14) 1 p := by unfold jn; omega
theorem oC_x {a ci j t : Nat} {v : Value} {fs fs' : List Value} (H : oC h a ci fs) (e : fs.set j v = fs') (hk : Nat.blt j fs.length = true) (ht : jm_tk t v = true) : ∃ h', jm_pf h a ci j t v = some h' ∧ jS (jn a 1) h h' ∧ oC h' a ci fs' := by
  have := oC_w (k := j) (t := t) (v := v) H (Nat.le_of_ble_eq_true hk) ht
  rw [e] at this
  exact this
/-- a new Step -/
theorem i_X5_loop : ∀ (f i : Nat) (FN : Nat → Int64) (fs : List Value) (h : jm_H), i + f = 151 → oC h p 5 fs → fs[8]? = some (.ref (p + 14)) → lC h (p + 14) 151 FN → (∀ z, z < i → FN z = nm (ry_z z : Int)) → jF (kX5_init_64 (d + 2) p (Int32.ofNat i) h) (.inl none) fun h' => jS (jn (p + 14) 1) h h' ∧ ∃ FN', lC h' (p + 14) 151 FN' ∧ tN FN' := by
  intro f
  induction f with
  | zero =>
    intro i FN fs h hi H e8 L hF
    refine jE_of (fun r => gX5_init_64) ?_
    simp only [oC_R H e8, lC_len L, Option.bind_some]
    rw [if_neg (by rw [jw_lt (by omega) (by omega)]; omega)]
    exact jF_end ⟨jS_rf, FN, L, fun z hz => hF z (by omega)⟩
  | succ f ih =>
    intro i FN fs h hi H e8 L hF
    refine jE_of (fun r => gX5_init_64) ?_
    obtain ⟨h1, e1, F1, L1⟩ := lC_w (x := nm (ry_z i : Int)) L (show i < 151 by omega) (by omega)
    simp only [oC_R H e8, lC_len L, Option.bind_some, w_zName (d := d) (show i < 151 by omega), jc_L_eq, e1, jw_add1]
    rw [if_pos (by rw [jw_lt (by omega) (by omega)]; omega)]
    refine jF_mono (ih (i + 1) _ fs h1 (by omega) (oC_tr H F1 (by unfold jn; omega)) e8 L1 fun z hz => ?_) ?_
    · by_cases e : z = i
      · subst e; exact if_pos rfl
      · exact (if_neg e).trans (hF z (by omega))
    · rintro h2 ⟨F2, Q2⟩
      exact ⟨jS_tr F1 F2, Q2⟩
set_option maxHeartbeats 8000000 in
theorem i_X5 (H : oC h p 5 [.int 0, .int 0, .null, .null, .null, .null, .null, .int 0, .null, .int 0, .int 0, .int 0, .int 0, .int 0]) (hp : h.1 = p + 1) : jF (jm_D (d + 3) mX5_init [.ref p] h) (.inl none) fun h' => jA (fun a => a = p) 14 1811 h h' ∧ tI h' p := by
  have hx := H.2
  refine jE_of (fun r => gX5_init) ?_
  rw [jm_U_q hx]
  refine jE_new (by omega) fun h1 F1 P1 => ?_
  have n1 : h1.1 = p + 2 := by rw [F1.1, hp]
  rw [hp] at P1 ⊢
  rw [jm_U_q (by omega)]
  refine jE_V (i_X3 (d := d + 1) P1 (by omega)) ?_
  rintro h2 ⟨F2, U2⟩
  have n2 : h2.1 = p + 6 := by rw [F2.1, n1]
  have H2 := oC_A (oC_A H F1 id (by omega)) F2 (by omega) (by omega)
  obtain ⟨h3, e3, F3, H3⟩ := oC_x (j := 2) (t := 2) (v := .ref (p + 1)) (fs' := [.int 0, .int 0, .ref (p + 1), .null, .null, .null, .null, .int 0, .null, .int 0, .int 0, .int 0, .int 0, .int 0]) H2 rfl rfl rfl
  rw [e3, Option.bind_some]
  have n3 : h3.1 = p + 6 := by rw [F3.1, n2]
  refine jE_new (by omega) fun h4 F4 P4 => ?_
  have n4 : h4.1 = p + 7 := by rw [F4.1, n3]
  rw [n3] at P4 ⊢
  rw [jm_U_q (by omega)]
  refine jE_V (i_X3 (d := d + 1) P4 (by omega)) ?_
  rintro h5 ⟨F5, U5⟩
  have n5 : h5.1 = p + 11 := by rw [F5.1, n4]
  have H5 := oC_A (oC_A H3 F4 id (by omega)) F5 (by omega) (by omega)
  obtain ⟨h6, e6, F6, H6⟩ := oC_x (j := 3) (t := 2) (v := .ref (p + 6)) (fs' := [.int 0, .int 0, .ref (p + 1), .ref (p + 6), .null, .null, .null, .int 0, .null, .int 0, .int 0, .int 0, .int 0, .int 0]) H5 rfl rfl rfl
  rw [e6, Option.bind_some]
  have n6 : h6.1 = p + 11 := by rw [F6.1, n5]
  refine jE_newa (m := 150) (by decide) rfl fun h7 F7 A7 => ?_
  have n7 : h7.1 = p + 12 := by rw [F7.1, n6]
  rw [n6] at A7 ⊢
  obtain ⟨h8, e8, F8, H8⟩ := oC_x (j := 4) (t := 2) (v := .ref (p + 11)) (fs' := [.int 0, .int 0, .ref (p + 1), .ref (p + 6), .ref (p + 11), .null, .null, .int 0, .null, .int 0, .int 0, .int 0, .int 0, .int 0]) (oC_A H6 F7 id (by omega)) rfl rfl rfl
  rw [e8, Option.bind_some]
  have n8 : h8.1 = p + 12 := by rw [F8.1, n7]
  refine jE_newa (m := 150) (by decide) rfl fun h9 F9 A9 => ?_
  have n9 : h9.1 = p + 13 := by rw [F9.1, n8]
  rw [n8] at A9 ⊢
  obtain ⟨h10, e10, F10, H10⟩ := oC_x (j := 5) (t := 2) (v := .ref (p + 12)) (fs' := [.int 0, .int 0, .ref (p + 1), .ref (p + 6), .ref (p + 11), .ref (p + 12), .null, .int 0, .null, .int 0, .int 0, .int 0, .int 0, .int 0]) (oC_A H8 F9 id (by omega)) rfl rfl rfl
  rw [e10, Option.bind_some]
  have n10 : h10.1 = p + 13 := by rw [F10.1, n9]
  refine jE_newa (m := 150) (by decide) rfl fun h11 F11 A11 => ?_
  have n11 : h11.1 = p + 14 := by rw [F11.1, n10]
  rw [n10] at A11 ⊢
  obtain ⟨h12, e12, F12, H12⟩ := oC_x (j := 6) (t := 2) (v := .ref (p + 13)) (fs' := [.int 0, .int 0, .ref (p + 1), .ref (p + 6), .ref (p + 11), .ref (p + 12), .ref (p + 13), .int 0, .null, .int 0, .int 0, .int 0, .int 0, .int 0]) (oC_A H10 F11 id (by omega)) rfl rfl rfl
  rw [e12, Option.bind_some]
  have n12 : h12.1 = p + 14 := by rw [F12.1, n11]
  refine jE_newa (m := 151) (by decide) rfl fun h13 F13 A13 => ?_
  have n13 : h13.1 = p + 15 := by rw [F13.1, n12]
  rw [n12] at A13 ⊢
  obtain ⟨h14, e14, F14, H14⟩ := oC_x (j := 8) (t := 2) (v := .ref (p + 14)) (fs' := [.int 0, .int 0, .ref (p + 1), .ref (p + 6), .ref (p + 11), .ref (p + 12), .ref (p + 13), .int 0, .ref (p + 14), .int 0, .int 0, .int 0, .int 0, .int 0]) (oC_A H12 F13 id (by omega)) rfl rfl rfl
  rw [e14, Option.bind_some]
  have n14 : h14.1 = p + 15 := by rw [F14.1, n13]
  have A14 : lC h14 (p + 14) 151 fun _ => 0 := ⟨(F14.2.2 (p + 14) (by unfold jn; omega)).trans A13, by omega⟩
  obtain ⟨v, h15, e15, rfl, F15, FN, L15, N15⟩ := i_X5_loop (d := d) (p := p) 151 0 (fun _ => 0) _ h14 rfl H14 rfl A14 (fun z hz => absurd hz (Nat.not_lt_zero _))
  have e15' : kX5_init_64 (d + 2) p 0 h14 = some (.inl none, h15) := e15
  rw [e15']
  have G15 : jA (fun a => a = p ∨ a = p + 14) 0 0 h14 h15 := jA_S (jS_mn F15 fun a ha => x5_e ha)
  have w : ∀ {g1 g2 : jm_H}, jS (jn p 1) g1 g2 → jA (fun a => a = p ∨ a = p + 14) 0 0 g1 g2 := fun F => jA_mn (jA_p F) fun _ _ z => Or.inl z
  have G13 := jA_tr (w F14) G15
  have G12 := jA_tr (jA_0 F13) G13
  have G11 := jA_tr (w F12) G12
  have G10 := jA_tr (jA_0 F11) G11
  have G9 := jA_tr (w F10) G10
  have G8 := jA_tr (jA_0 F9) G9
  have G7 := jA_tr (w F8) G8
  have G6 := jA_tr (jA_0 F7) G7
  have G5 := jA_tr (w F6) G6
  have S2 : ∀ {g1 g2 : jm_H} {j m : Nat} {X : Nat → Prop}, jA X j m g1 g2 → (∀ a, X a → a = p ∨ p + 6 ≤ a) → jA (fun a => a = p ∨ p + 6 ≤ a) j m g1 g2 := fun F g => jA_mn F fun a _ z => g a z
  have G4 := jA_tr (S2 F5 fun a z => Or.inr (Nat.le_of_eq z.symm)) (S2 G5 fun a z => x5_b z)
  have G3 := jA_tr (S2 F4 fun a z => z.elim) G4
  have G2 := jA_tr (S2 (jA_p F3) fun a z => Or.inl z) G3
  have S3 : ∀ {g1 g2 : jm_H} {j m : Nat} {X : Nat → Prop}, jA X j m g1 g2 → (∀ a, X a → p ≤ a) → jA (fun a => p ≤ a) j m g1 g2 := fun F g => jA_mn F fun a _ z => g a z
  have G1 := jA_tr (S3 F2 fun a z => x5_d z) (S3 G2 fun a z => x5_c z)
  have G0 := jA_tr (S3 F1 fun a z => z.elim) G1
  have G := jA_mn (T := fun a => a = p) G0 fun a ha z => x5_a ha hp z
  have R14 : oC h15 p 5 (tF p 0 0 0 0 0 0 0 0) := oC_tr H14 F15 x5_j
  have R11 : aC h15 (p + 11) 3 150 fun _ => 0 := ⟨(G7.2.2 (p + 11) (Nat.lt_of_lt_of_eq (Nat.lt_succ_self (p + 11)) n7.symm) (x5_h (by decide))).trans A7, x5_i hx, by decide⟩
  have R12 : aC h15 (p + 12) 3 150 fun _ => 0 := ⟨(G9.2.2 (p + 12) (Nat.lt_of_lt_of_eq (Nat.lt_succ_self (p + 12)) n9.symm) (x5_h (by decide))).trans A9, x5_i hx, by decide⟩
  have R13 : lC h15 (p + 13) 150 fun _ => 0 := ⟨(G11.2.2 (p + 13) (Nat.lt_of_lt_of_eq (Nat.lt_succ_self (p + 13)) n11.symm) (x5_h (by decide))).trans A11, x5_i hx⟩
  have V2 : pU h15 (p + 1) [] := pU_A U2 G2 (fun a z1 z2 => x5_f z1 z2 (Nat.lt_of_lt_of_le (by decide) hx)) (Nat.le_of_eq n2.symm)
  have V5 : pU h15 (p + 6) [] := pU_A U5 G5 (fun a z1 z2 => x5_g z1 z2) (Nat.le_of_eq n5.symm)
  exact jF_end ⟨G, ⟨0, 0, 0, 0, 0, 0, 0, 0, fun _ => 0, fun _ => 0, fun _ => 0, FN, Or.inl rfl, R14, R11, R12, R13, L15, N15⟩, ⟨[], V2⟩, [], V5⟩
end IN
/-! ===== LEVEL 3: a new Book ===== -/
section IB
variable {h h' h1 h2 : jm_H} {d b p n k : Nat} {S : Nat → Prop}
theorem pU_oC {q : Nat} {l : List Int} (H : pU h q l) : ∃ fs, oC h q 3 fs := by
  obtain ⟨K, N, E, O, a, -⟩ := H
  exact ⟨_, a.1, a.2.2.2.2.2.1⟩
theorem i_X0_80 {fs : List Value} (hb : 128 ≤ b) (e6 : fs[6]? = some (.ref (b + 3))) : ∀ (f i : Nat) (u : Nat → Option Nat) (h : jm_H), i + f = 12 → h.1 = b + 13 + 5 * i → oC h b 0 fs → rC h (b + 3) 5 12 u → (∀ j, j < i → u j = some (b + 13 + 5 * j)) → (∀ j, j < i → pU h (b + 13 + 5 * j) []) → ∃ h' u', jA (fun a => a = b + 3) (5 * f) (605 * f) h h' ∧ rC h' (b + 3) 5 12 u' ∧ (∀ j, j < 12 → u' j = some (b + 13 + 5 * j)) ∧ (∀ j, j < 12 → pU h' (b + 13 + 5 * j) []) ∧ ∀ r, kX0_init_110 (d + 1) b 0 h' = some r → kX0_init_80 (d + 1) b (Int32.ofNat i) h = some r := by
  intro f
  induction f with
  | zero =>
    intro i u h hi hn H R hu hp
    refine ⟨h, u, ⟨rfl, rfl, fun _ _ _ => rfl⟩, R, fun j hj => hu j (by omega), fun j hj => hp j (by omega), fun r z => ?_⟩
    apply gX0_init_80
    simp only [oC_R H e6, rC_len R, Option.bind_some]
    rw [if_neg (by rw [jw_lt (by omega) (by omega)]; omega)]
    exact z
  | succ f ih =>
    intro i u h hi hn H R hu hp
    obtain ⟨h2, q2⟩ : ∃ h2, jA (fun _ => False) 1 5 h h2 ∧ oC h2 (b + 13 + 5 * i) 3 [.int 0, .null, .null, .null, .null] ∧ jm_push h (.inr (3, [.int 0, .null, .null, .null, .null])) 5 = h2 := ⟨_, ⟨rfl, rfl, fun a ha _ => if_neg (Nat.ne_of_lt ha)⟩, ⟨by rw [← hn]; exact if_pos rfl, by omega⟩, rfl⟩
    obtain ⟨F2, H2, e2⟩ := q2
    have n2 : h2.1 = b + 13 + 5 * i + 1 := by rw [F2.1, hn]
    obtain ⟨h3, e3, F3, U3⟩ := jF_ex (i_X3 (d := d) H2 n2)
    have n3 : h3.1 = b + 13 + 5 * (i + 1) := by rw [F3.1, n2]; omega
    obtain ⟨cs, O3⟩ := pU_oC U3
    have R3 := rC_A (rC_A R F2 id (by omega)) F3 (by omega) (by omega)
    obtain ⟨h4, e4, F4, R4⟩ := rC_w R3 (show i < 12 by omega) (by omega) O3 rfl
    have n4 : h4.1 = b + 13 + 5 * (i + 1) := by rw [F4.1, n3]
    have H4 : oC h4 b 0 fs := oC_tr (oC_A (oC_A H F2 id (by omega)) F3 (by omega) (by omega)) F4 (by unfold jn; omega)
    have U4 : pU h4 (b + 13 + 5 * i) [] := pU_tr U3 F4 fun y y1 y2 => by unfold jn at y1 y2; omega
    obtain ⟨h5, u5, F5, R5, hu5, hp5, go⟩ := ih (i + 1) _ h4 (by omega) n4 H4 R4 (fun j hj => by
      unfold va_up
      by_cases e : j = i
      · rw [if_pos e, e]
      · rw [if_neg e]; exact hu j (by omega)) (fun j hj => by
      by_cases e : j = i
      · subst e; exact U4
      · exact pU_tr (pU_A (pU_A (hp j (by omega)) F2 (fun a z _ => z) (by omega)) F3 (fun a z1 z2 => by unfold jn at z2; omega) (by omega)) F4 fun y y1 y2 => by unfold jn at y1 y2; omega)
    refine ⟨h5, u5, ?_, R5, hu5, hp5, fun r z => ?_⟩
    · have W : jA (fun a => a = b + 3 ∨ b + 13 + 5 * i ≤ a) (1 + (4 + (0 + 5 * f))) (5 + (600 + (0 + 605 * f))) h h5 := jA_tr (jA_mn F2 fun _ _ z => z.elim) (jA_tr (jA_mn F3 fun a _ z => Or.inr (by omega)) (jA_tr (jA_mn (jA_S F4) fun a _ z => Or.inl (by unfold jn at z; omega)) (jA_mn F5 fun a _ z => Or.inl z)))
      exact ⟨by rw [W.1]; omega, by rw [W.2.1]; omega, fun a ha hs => W.2.2 a ha (by omega)⟩
    · apply gX0_init_80
      simp only [oC_R H e6, rC_len R, Option.bind_some]
      rw [if_pos (by rw [jw_lt (by omega) (by omega)]; omega)]
      unfold jl_new
      rw [e2, hn]
      show jm_U (b + 13 + 5 * i) _ = some r
      rw [jm_U_q (by omega), e3, jc_V_eq, e4, Option.bind_some, jw_add1]
      exact go r z
theorem i_X0_110 {fs : List Value} (hb : 128 ≤ b) (e7 : fs[7]? = some (.ref (b + 4))) : ∀ (f i : Nat) (u : Nat → Option Nat) (h : jm_H), i + f = 16 → h.1 = b + 73 + i → oC h b 0 fs → rC h (b + 4) 6 16 u → (∀ j, j < i → u j = some (b + 73 + j)) → (∀ j, j < i → oC h (b + 73 + j) 2 [.int 0, .int 0, .int 0, .int (-1)]) → jF (kX0_init_110 (d + 1) b (Int32.ofNat i) h) (.inl none) fun h' => jA (fun a => a = b + 4) f (4 * f) h h' ∧ ∃ u', rC h' (b + 4) 6 16 u' ∧ (∀ j, j < 16 → u' j = some (b + 73 + j)) ∧ (∀ j, j < 16 → oC h' (b + 73 + j) 2 [.int 0, .int 0, .int 0, .int (-1)]) := by
  intro f
  induction f with
  | zero =>
    intro i u h hi hn H R hu hp
    refine jE_of (fun r => gX0_init_110) ?_
    simp only [oC_R H e7, rC_len R, Option.bind_some]
    rw [if_neg (by rw [jw_lt (by omega) (by omega)]; omega)]
    exact jF_end ⟨⟨rfl, rfl, fun _ _ _ => rfl⟩, u, R, fun j hj => hu j (by omega), fun j hj => hp j (by omega)⟩
  | succ f ih =>
    intro i u h hi hn H R hu hp
    refine jE_of (fun r => gX0_init_110) ?_
    simp only [oC_R H e7, rC_len R, Option.bind_some]
    rw [if_pos (by rw [jw_lt (by omega) (by omega)]; omega)]
    refine jE_new (by omega) fun h2 F2 H2 => ?_
    rw [hn] at H2 ⊢
    rw [jm_U_q (by omega)]
    refine jE_V (i_X2 (d := d) H2) ?_
    rintro h3 ⟨F3, O3⟩
    have n2 : h2.1 = b + 73 + i + 1 := by rw [F2.1, hn]
    have n3 : h3.1 = b + 73 + (i + 1) := by rw [F3.1, n2]; omega
    have R3 := rC_A (rC_A R F2 id (by omega)) F3 (by omega) (by omega)
    obtain ⟨h4, e4, F4, R4⟩ := rC_w R3 (show i < 16 by omega) (by omega) O3 rfl
    have n4 : h4.1 = b + 73 + (i + 1) := by rw [F4.1, n3]
    have H4 : oC h4 b 0 fs := oC_tr (oC_A (oC_A H F2 id (by omega)) F3 (by omega) (by omega)) F4 (by unfold jn; omega)
    rw [e4, Option.bind_some, jw_add1]
    refine jF_mono (ih (i + 1) _ h4 (by omega) n4 H4 R4 (fun j hj => ?_) (fun j hj => ?_)) ?_
    · unfold va_up
      by_cases e : j = i
      · rw [if_pos e, e]
      · rw [if_neg e]; exact hu j (by omega)
    · by_cases e : j = i
      · subst e; exact oC_tr O3 F4 (by unfold jn; omega)
      · exact oC_tr (oC_A (oC_A (hp j (by omega)) F2 id (by omega)) F3 (by omega) (by omega)) F4 (by unfold jn; omega)
    · rintro h5 ⟨F5, Q5⟩
      have W : jA (fun a => a = b + 4 ∨ b + 73 + i ≤ a) (1 + (0 + (0 + f))) (4 + (0 + (0 + 4 * f))) h h5 := jA_tr (jA_mn F2 fun _ _ z => z.elim) (jA_tr (jA_mn F3 fun a _ z => Or.inr (by omega)) (jA_tr (jA_mn (jA_S F4) fun a _ z => Or.inl (by unfold jn at z; omega)) (jA_mn F5 fun a _ z => Or.inl z)))
      exact ⟨⟨by rw [W.1]; omega, by rw [W.2.1]; omega, fun a ha hs => W.2.2 a ha (by omega)⟩, Q5⟩
end IB
/-! ===== LEVEL 3: a new Book, the whole ===== -/
section IB
variable {h h' h1 h2 : jm_H} {d b p n k : Nat} {S : Nat → Prop}
theorem x0_a {b a m : Nat} (ha : a < m) (hp : m = b + 1) (z : b ≤ a) : a = b := by omega
theorem x0_b {b k : Nat} (h : 0 < k ∧ k < 7 ∧ k ≠ 3 ∧ k ≠ 4) : ¬ (b + k = b ∨ b + k = b + 3 ∨ b + k = b + 4 ∨ b + 7 ≤ b + k) := by omega
theorem x0_i {p k : Nat} (h : 128 ≤ p) : 128 ≤ p + k := by omega
theorem i_X0 (H : oC h b 0 [.int 0, .int 0, .int 0, .int 0, .null, .null, .null, .null, .null, .null, .null, .null]) (hp : h.1 = b + 1) : jF (jm_D (d + 2) mX0_init [.ref b] h) (.inl none) fun h' => jA (fun a => a = b) 88 8781 h h' ∧ bC h' b [] [] 0 [] ∧ (∀ q, q < 12 → pU h' (b + 13 + 5 * q) []) ∧ ∀ n, n < 16 → oC h' (b + 73 + n) 2 [.int 0, .int 0, .int 0, .int (-1)] := by
  have hx := H.2
  have x1 := fun k => x0_i (k := k) hx
  refine jE_of (fun r => gX0_init) ?_
  rw [jm_U_q hx]
  refine jE_newa (m := 8) (by decide) rfl fun h1 F1 A1 => ?_
  have n1 : h1.1 = b + 2 := by rw [F1.1, hp]
  rw [hp] at A1 ⊢
  obtain ⟨h2, e2, F2, H2⟩ := oC_x (j := 4) (t := 2) (v := .ref (b + 1)) (fs' := [.int 0, .int 0, .int 0, .int 0, .ref (b + 1), .null, .null, .null, .null, .null, .null, .null]) (oC_A H F1 id (by rw [hp]; exact Nat.lt_add_of_pos_right (by decide))) rfl rfl rfl
  rw [e2, Option.bind_some]
  have n2 : h2.1 = b + 2 := by rw [F2.1, n1]
  refine jE_newa (m := 12) (by decide) rfl fun h3 F3 A3 => ?_
  have n3 : h3.1 = b + 3 := by rw [F3.1, n2]
  rw [n2] at A3 ⊢
  obtain ⟨h4, e4, F4, H4⟩ := oC_x (j := 5) (t := 2) (v := .ref (b + 2)) (fs' := [.int 0, .int 0, .int 0, .int 0, .ref (b + 1), .ref (b + 2), .null, .null, .null, .null, .null, .null]) (oC_A H2 F3 id (by rw [n2]; exact Nat.lt_add_of_pos_right (by decide))) rfl rfl rfl
  rw [e4, Option.bind_some]
  have n4 : h4.1 = b + 3 := by rw [F4.1, n3]
  refine jE_newa (m := 12) (by decide) rfl fun h5 F5 A5 => ?_
  have n5 : h5.1 = b + 4 := by rw [F5.1, n4]
  rw [n4] at A5 ⊢
  obtain ⟨h6, e6, F6, H6⟩ := oC_x (j := 6) (t := 2) (v := .ref (b + 3)) (fs' := [.int 0, .int 0, .int 0, .int 0, .ref (b + 1), .ref (b + 2), .ref (b + 3), .null, .null, .null, .null, .null]) (oC_A H4 F5 id (by rw [n4]; exact Nat.lt_add_of_pos_right (by decide))) rfl rfl rfl
  rw [e6, Option.bind_some]
  have n6 : h6.1 = b + 4 := by rw [F6.1, n5]
  refine jE_newa (m := 16) (by decide) rfl fun h7 F7 A7 => ?_
  have n7 : h7.1 = b + 5 := by rw [F7.1, n6]
  rw [n6] at A7 ⊢
  obtain ⟨h8, e8, F8, H8⟩ := oC_x (j := 7) (t := 2) (v := .ref (b + 4)) (fs' := [.int 0, .int 0, .int 0, .int 0, .ref (b + 1), .ref (b + 2), .ref (b + 3), .ref (b + 4), .null, .null, .null, .null]) (oC_A H6 F7 id (by rw [n6]; exact Nat.lt_add_of_pos_right (by decide))) rfl rfl rfl
  rw [e8, Option.bind_some]
  have n8 : h8.1 = b + 5 := by rw [F8.1, n7]
  refine jE_newa (m := 400) (by decide) rfl fun h9 F9 A9 => ?_
  have n9 : h9.1 = b + 6 := by rw [F9.1, n8]
  rw [n8] at A9 ⊢
  obtain ⟨h10, e10, F10, H10⟩ := oC_x (j := 8) (t := 2) (v := .ref (b + 5)) (fs' := [.int 0, .int 0, .int 0, .int 0, .ref (b + 1), .ref (b + 2), .ref (b + 3), .ref (b + 4), .ref (b + 5), .null, .null, .null]) (oC_A H8 F9 id (by rw [n8]; exact Nat.lt_add_of_pos_right (by decide))) rfl rfl rfl
  rw [e10, Option.bind_some]
  have n10 : h10.1 = b + 6 := by rw [F10.1, n9]
  refine jE_newa (m := 400) (by decide) rfl fun h11 F11 A11 => ?_
  have n11 : h11.1 = b + 7 := by rw [F11.1, n10]
  rw [n10] at A11 ⊢
  obtain ⟨h12, e12, F12, H12⟩ := oC_x (j := 9) (t := 2) (v := .ref (b + 6)) (fs' := [.int 0, .int 0, .int 0, .int 0, .ref (b + 1), .ref (b + 2), .ref (b + 3), .ref (b + 4), .ref (b + 5), .ref (b + 6), .null, .null]) (oC_A H10 F11 id (by rw [n10]; exact Nat.lt_add_of_pos_right (by decide))) rfl rfl rfl
  rw [e12, Option.bind_some]
  have n12 : h12.1 = b + 7 := by rw [F12.1, n11]
  refine jE_new (by rw [n12]; exact x1 7) fun h13 F13 P13 => ?_
  have n13 : h13.1 = b + 8 := by rw [F13.1, n12]
  rw [n12] at P13 ⊢
  rw [jm_U_q (x1 7)]
  refine jE_V (i_X3 (d := d) P13 n13) ?_
  rintro h14 ⟨F14, U14⟩
  have n14 : h14.1 = b + 12 := by rw [F14.1, n13]
  have H14 := oC_A (oC_A H12 F13 id (by rw [n12]; exact Nat.lt_add_of_pos_right (by decide))) F14 (Nat.ne_of_lt (Nat.lt_add_of_pos_right (by decide))) (by rw [n13]; exact Nat.lt_add_of_pos_right (by decide))
  obtain ⟨h15, e15, F15, H15⟩ := oC_x (j := 10) (t := 2) (v := .ref (b + 7)) (fs' := [.int 0, .int 0, .int 0, .int 0, .ref (b + 1), .ref (b + 2), .ref (b + 3), .ref (b + 4), .ref (b + 5), .ref (b + 6), .ref (b + 7), .null]) H14 rfl rfl rfl
  rw [e15, Option.bind_some]
  have n15 : h15.1 = b + 12 := by rw [F15.1, n14]
  refine jE_new (by rw [n15]; exact x1 12) fun h16 F16 P16 => ?_
  have n16 : h16.1 = b + 13 := by rw [F16.1, n15]
  rw [n15] at P16 ⊢
  rw [jm_U_q (x1 12)]
  refine jE_V (i_X2 (d := d) P16) ?_
  rintro h17 ⟨F17, P17⟩
  have n17 : h17.1 = b + 13 := by rw [F17.1, n16]
  have H17 := oC_A (oC_A H15 F16 id (by rw [n15]; exact Nat.lt_add_of_pos_right (by decide))) F17 (Nat.ne_of_lt (Nat.lt_add_of_pos_right (by decide))) (by rw [n16]; exact Nat.lt_add_of_pos_right (by decide))
  obtain ⟨h18, e18, F18, H18⟩ := oC_x (j := 11) (t := 2) (v := .ref (b + 12)) (fs' := [.int 0, .int 0, .int 0, .int 0, .ref (b + 1), .ref (b + 2), .ref (b + 3), .ref (b + 4), .ref (b + 5), .ref (b + 6), .ref (b + 7), .ref (b + 12)]) H17 rfl rfl rfl
  rw [e18, Option.bind_some]
  have n18 : h18.1 = b + 13 := by rw [F18.1, n17]
  -- frames
  have W : ∀ {g1 g2 : jm_H} {j m : Nat} {X : Nat → Prop}, jA X j m g1 g2 → (∀ a, X a → a = b ∨ b + 7 ≤ a) → jA (fun a => a = b ∨ b + 7 ≤ a) j m g1 g2 := fun F g => jA_mn F fun a _ z => g a z
  have w : ∀ {g1 g2 : jm_H}, jS (jn b 1) g1 g2 → jA (fun a => a = b ∨ b + 7 ≤ a) 0 0 g1 g2 := fun F => W (jA_p F) fun a z => Or.inl z
  have v : ∀ {g1 g2 : jm_H} {j m : Nat}, jA (fun _ => False) j m g1 g2 → jA (fun a => a = b ∨ b + 7 ≤ a) j m g1 g2 := fun F => W F fun a z => z.elim
  have K17 := jA_tr (W F17 fun a z => Or.inr (by rw [z]; exact Nat.add_le_add_left (by decide) b)) (w F18)
  have K16 := jA_tr (v F16) K17
  have K15 := jA_tr (w F15) K16
  have K14 := jA_tr (W F14 fun a z => Or.inr (Nat.le_of_eq z.symm)) K15
  have K13 := jA_tr (v F13) K14
  have K12 := jA_tr (w F12) K13
  have K11 := jA_tr (v F11) K12
  have K10 := jA_tr (w F10) K11
  have K9 := jA_tr (v F9) K10
  have K8 := jA_tr (w F8) K9
  have K7 := jA_tr (v F7) K8
  have K6 := jA_tr (w F6) K7
  have K5 := jA_tr (v F5) K6
  have K4 := jA_tr (w F4) K5
  have K3 := jA_tr (v F3) K4
  have K2 := jA_tr (w F2) K3
  have K1 := jA_tr (v F1) K2
  have nq : ∀ k, 0 < k ∧ k < 7 → ¬ (b + k = b ∨ b + 7 ≤ b + k) := fun k hk => by clear n1 n2 n3 n4 n5 n6 n7 n8 n9 n10 n11 n12 n13 n14 n15 n16 n17 n18; omega
  have lt : ∀ {g : jm_H} {k : Nat}, g.1 = b + (k + 1) → b + k < g.1 := fun z => Nat.lt_of_lt_of_eq (Nat.lt_succ_self _) z.symm
  have R1 := (K2.2.2 (b + 1) (lt n1) (nq 1 (by decide))).trans A1
  have R3 := (K4.2.2 (b + 2) (lt n3) (nq 2 (by decide))).trans A3
  have R5 : rC h18 (b + 3) 5 12 fun _ => none := ⟨(K6.2.2 (b + 3) (lt n5) (nq 3 (by decide))).trans A5, x1 3, Or.inl rfl⟩
  have R7 : rC h18 (b + 4) 6 16 fun _ => none := ⟨(K8.2.2 (b + 4) (lt n7) (nq 4 (by decide))).trans A7, x1 4, Or.inr rfl⟩
  have R9 := (K10.2.2 (b + 5) (lt n9) (nq 5 (by decide))).trans A9
  have R11 := (K12.2.2 (b + 6) (lt n11) (nq 6 (by decide))).trans A11
  clear A1 A3 A5 A7 A9 A11 e2 e4 e6 e8 e10 e12 e15 e18 K2 K3 K4 K5 K6 K7 K8 K9 K10 K11 K12 K13 K14 K15 K16 K17 F2 F3 F4 F5 F6 F7 F8 F9 F10 F11 F12 F13 F14 F15 F16 F17 F18 H2 H4 H6 H8 H10 H12 H14 H15 H17 P13 P16 P17 U14 n1 n2 n3 n4 n5 n6 n7 n8 n9 n10 n11 n12 n13 n14 n15 n16 n17
  obtain ⟨h19, u, F19, R19, hu, hP, go⟩ := i_X0_80 (d := d) hx rfl 12 0 (fun _ => none) h18 rfl n18 H18 R5 (fun j hj => absurd hj (Nat.not_lt_zero _)) (fun j hj => absurd hj (Nat.not_lt_zero _))
  refine jE_of (fun r z => go r z) ?_
  have n19 : h19.1 = b + 73 := by rw [F19.1, n18]
  have H19 := oC_A H18 F19 (Nat.ne_of_lt (Nat.lt_add_of_pos_right (by decide))) (by rw [n18]; exact Nat.lt_add_of_pos_right (by decide))
  have R7' := rC_A R7 F19 (by omega) (by omega)
  refine jF_mono (i_X0_110 (d := d) hx rfl 16 0 (fun _ => none) h19 rfl n19 H19 R7' (fun j hj => absurd hj (Nat.not_lt_zero _)) (fun j hj => absurd hj (Nat.not_lt_zero _))) ?_
  rintro h20 ⟨F20, u', R20, hu', hN⟩
  have Z : jA (fun a => a = b + 3 ∨ a = b + 4) (60 + 16) (7260 + 64) h18 h20 := jA_tr (jA_mn F19 fun a _ z => Or.inl z) (jA_mn F20 fun a _ z => Or.inr z)
  have Y : jA (fun a => b ≤ a) _ _ h h20 := jA_tr (jA_mn K1 fun a _ z => by omega) (jA_mn Z fun a _ z => by omega)
  refine ⟨jA_mn (T := fun a => a = b) Y fun a ha z => x0_a ha hp z, ?_, fun q hq => pU_A (hP q hq) F20 (fun a z1 z2 => by unfold jn at z2; omega) (by omega), hN⟩
  refine ⟨fun _ => 0, fun _ => 0, u, u', fun _ => 0, fun _ => 0, oC_A H18 Z (by omega) (by omega), ⟨(Z.2.2 (b + 1) (by omega) (by omega)).trans R1, x1 1⟩, ⟨(Z.2.2 (b + 2) (by omega) (by omega)).trans R3, x1 2⟩, rC_A R19 F20 (by omega) (by omega), R20, ⟨(Z.2.2 (b + 5) (by omega) (by omega)).trans R9, x1 5, by decide⟩, ⟨(Z.2.2 (b + 6) (by omega) (by omega)).trans R11, x1 6, by decide⟩, hu, hu', fun i hi => absurd hi (Nat.not_lt_zero _), fun i hi => absurd hi (Nat.not_lt_zero _), fun i hi => absurd hi (Nat.not_lt_zero _), Nat.zero_le _, Nat.zero_le _, Nat.zero_le _, Nat.zero_le _⟩
end IB
/-! ===== LEVEL 3: a new Stage ===== -/
section IS
variable {h h' h1 h2 : jm_H} {d b s p n k : Nat} {S : Nat → Prop}
theorem i_X4_61 {fs : List Value} (hb : 128 ≤ b) (e6 : fs[2]? = some (.ref (b + 1))) : ∀ (f i : Nat) (u : Nat → Option Nat) (h : jm_H) (o : Option Value), i + f = 12 → h.1 = b + 15 + 5 * i → oC h b 4 fs → rC h (b + 1) 5 12 u → (∀ j, j < i → u j = some (b + 15 + 5 * j)) → (∀ j, j < i → pU h (b + 15 + 5 * j) []) → ∃ h' u', jA (fun a => a = b + 1) (5 * f) (605 * f) h h' ∧ rC h' (b + 1) 5 12 u' ∧ (∀ j, j < 12 → u' j = some (b + 15 + 5 * j)) ∧ (∀ j, j < 12 → pU h' (b + 15 + 5 * j) []) ∧ kX4_init_61 (d + 1) b o (Int32.ofNat i) h = some (.inl none, h') := by
  intro f
  induction f with
  | zero =>
    intro i u h o hi hn H R hu hp
    refine ⟨h, u, ⟨rfl, rfl, fun _ _ _ => rfl⟩, R, fun j hj => hu j (by omega), fun j hj => hp j (by omega), ?_⟩
    apply gX4_init_61
    simp only [oC_R H e6, rC_len R, Option.bind_some]
    rw [if_neg (by rw [jw_lt (by omega) (by omega)]; omega)]
  | succ f ih =>
    intro i u h o hi hn H R hu hp
    obtain ⟨h2, q2⟩ : ∃ h2, jA (fun _ => False) 1 5 h h2 ∧ oC h2 (b + 15 + 5 * i) 3 [.int 0, .null, .null, .null, .null] ∧ jm_push h (.inr (3, [.int 0, .null, .null, .null, .null])) 5 = h2 := ⟨_, ⟨rfl, rfl, fun a ha _ => if_neg (Nat.ne_of_lt ha)⟩, ⟨by rw [← hn]; exact if_pos rfl, by omega⟩, rfl⟩
    obtain ⟨F2, H2, e2⟩ := q2
    have n2 : h2.1 = b + 15 + 5 * i + 1 := by rw [F2.1, hn]
    obtain ⟨h3, e3, F3, U3⟩ := jF_ex (i_X3 (d := d) H2 n2)
    have n3 : h3.1 = b + 15 + 5 * (i + 1) := by rw [F3.1, n2]; omega
    obtain ⟨cs, O3⟩ := pU_oC U3
    have R3 := rC_A (rC_A R F2 id (by omega)) F3 (by omega) (by omega)
    obtain ⟨h4, e4, F4, R4⟩ := rC_w R3 (show i < 12 by omega) (by omega) O3 rfl
    have n4 : h4.1 = b + 15 + 5 * (i + 1) := by rw [F4.1, n3]
    have H4 : oC h4 b 4 fs := oC_tr (oC_A (oC_A H F2 id (by omega)) F3 (by omega) (by omega)) F4 (by unfold jn; omega)
    have U4 : pU h4 (b + 15 + 5 * i) [] := pU_tr U3 F4 fun y y1 y2 => by unfold jn at y1 y2; omega
    obtain ⟨h5, u5, F5, R5, hu5, hp5, go⟩ := ih (i + 1) _ h4 (jm_dm o) (by omega) n4 H4 R4 (fun j hj => by
      unfold va_up
      by_cases e : j = i
      · rw [if_pos e, e]
      · rw [if_neg e]; exact hu j (by omega)) (fun j hj => by
      by_cases e : j = i
      · subst e; exact U4
      · exact pU_tr (pU_A (pU_A (hp j (by omega)) F2 (fun a z _ => z) (by omega)) F3 (fun a z1 z2 => by unfold jn at z2; omega) (by omega)) F4 fun y y1 y2 => by unfold jn at y1 y2; omega)
    refine ⟨h5, u5, ?_, R5, hu5, hp5, ?_⟩
    · have W : jA (fun a => a = b + 1 ∨ b + 15 + 5 * i ≤ a) (1 + (4 + (0 + 5 * f))) (5 + (600 + (0 + 605 * f))) h h5 := jA_tr (jA_mn F2 fun _ _ z => z.elim) (jA_tr (jA_mn F3 fun a _ z => Or.inr (by omega)) (jA_tr (jA_mn (jA_S F4) fun a _ z => Or.inl (by unfold jn at z; omega)) (jA_mn F5 fun a _ z => Or.inl z)))
      exact ⟨by rw [W.1]; omega, by rw [W.2.1]; omega, fun a ha hs => W.2.2 a ha (by omega)⟩
    · apply gX4_init_61
      simp only [oC_R H e6, rC_len R, Option.bind_some]
      rw [if_pos (by rw [jw_lt (by omega) (by omega)]; omega)]
      unfold jl_new
      rw [e2, hn]
      show jm_U (b + 15 + 5 * i) _ = _
      rw [jm_U_q (by omega), e3, jc_V_eq, e4, Option.bind_some, jw_add1]
      exact go

theorem i_X4 {S0 : aS} (H : oC h b 4 [.int 0, .int 0, .null, .null, .null, .null, .null, .null]) (hp : h.1 = b + 1) : jF (jm_D (d + 2) mX4_init [.ref b, .ref s] h) (.inl none) fun h' => jA (fun a => a = b) 74 8896 h h' ∧ sA h' b s S0 0 0 0 := by
  have hx := H.2
  have x1 := fun k => x0_i (k := k) hx
  refine jE_of (fun r => gX4_init) ?_
  rw [jm_U_q hx]
  refine jE_newa (m := 12) (by decide) rfl fun h1 F1 A1 => ?_
  have n1 : h1.1 = b + 2 := by rw [F1.1, hp]
  rw [hp] at A1 ⊢
  obtain ⟨h2, e2, F2, H2⟩ := oC_x (j := 2) (t := 2) (v := .ref (b + 1)) (fs' := [.int 0, .int 0, .ref (b + 1), .null, .null, .null, .null, .null]) (oC_A H F1 id (by rw [hp]; exact Nat.lt_add_of_pos_right (by decide))) rfl rfl rfl
  rw [e2, Option.bind_some]
  have n2 : h2.1 = b + 2 := by rw [F2.1, n1]
  refine jE_newa (m := 12) (by decide) rfl fun h3 F3 A3 => ?_
  have n3 : h3.1 = b + 3 := by rw [F3.1, n2]
  rw [n2] at A3 ⊢
  obtain ⟨h4, e4, F4, H4⟩ := oC_x (j := 3) (t := 2) (v := .ref (b + 2)) (fs' := [.int 0, .int 0, .ref (b + 1), .ref (b + 2), .null, .null, .null, .null]) (oC_A H2 F3 id (by rw [n2]; exact Nat.lt_add_of_pos_right (by decide))) rfl rfl rfl
  rw [e4, Option.bind_some]
  have n4 : h4.1 = b + 3 := by rw [F4.1, n3]
  refine jE_new (by rw [n4]; exact x1 3) fun h5 F5 P5 => ?_
  have n5 : h5.1 = b + 4 := by rw [F5.1, n4]
  rw [n4] at P5 ⊢
  rw [jm_U_q (x1 3)]
  refine jE_V (i_X3 (d := d) P5 n5) ?_
  rintro h6 ⟨F6, U6⟩
  have n6 : h6.1 = b + 8 := by rw [F6.1, n5]
  have H6 := oC_A (oC_A H4 F5 id (by rw [n4]; exact Nat.lt_add_of_pos_right (by decide))) F6 (Nat.ne_of_lt (Nat.lt_add_of_pos_right (by decide))) (by rw [n5]; exact Nat.lt_add_of_pos_right (by decide))
  obtain ⟨h7, e7, F7, H7⟩ := oC_x (j := 4) (t := 2) (v := .ref (b + 3)) (fs' := [.int 0, .int 0, .ref (b + 1), .ref (b + 2), .ref (b + 3), .null, .null, .null]) H6 rfl rfl rfl
  rw [e7, Option.bind_some]
  have n7 : h7.1 = b + 8 := by rw [F7.1, n6]
  refine jE_new (by rw [n7]; exact x1 8) fun h8 F8 P8 => ?_
  have n8 : h8.1 = b + 9 := by rw [F8.1, n7]
  rw [n7] at P8 ⊢
  rw [jm_U_q (x1 8)]
  refine jE_V (i_X3 (d := d) P8 n8) ?_
  rintro h9 ⟨F9, U9⟩
  have n9 : h9.1 = b + 13 := by rw [F9.1, n8]
  have H9 := oC_A (oC_A H7 F8 id (by rw [n7]; exact Nat.lt_add_of_pos_right (by decide))) F9 (Nat.ne_of_lt (Nat.lt_add_of_pos_right (by decide))) (by rw [n8]; exact Nat.lt_add_of_pos_right (by decide))
  obtain ⟨h10, e10, F10, H10⟩ := oC_x (j := 5) (t := 2) (v := .ref (b + 8)) (fs' := [.int 0, .int 0, .ref (b + 1), .ref (b + 2), .ref (b + 3), .ref (b + 8), .null, .null]) H9 rfl rfl rfl
  rw [e10, Option.bind_some]
  have n10 : h10.1 = b + 13 := by rw [F10.1, n9]
  refine jE_new (by rw [n10]; exact x1 13) fun h11 F11 P11 => ?_
  have n11 : h11.1 = b + 14 := by rw [F11.1, n10]
  rw [n10] at P11 ⊢
  rw [jm_U_q (x1 13)]
  refine jE_V (i_X7 (d := d) P11 n11) ?_
  rintro h12 ⟨F12, U12⟩
  have n12 : h12.1 = b + 15 := by rw [F12.1, n11]
  have H12 := oC_A (oC_A H10 F11 id (by rw [n10]; exact Nat.lt_add_of_pos_right (by decide))) F12 (Nat.ne_of_lt (Nat.lt_add_of_pos_right (by decide))) (by rw [n11]; exact Nat.lt_add_of_pos_right (by decide))
  obtain ⟨h13, e13, F13, H13⟩ := oC_x (j := 7) (t := 2) (v := .ref (b + 13)) (fs' := [.int 0, .int 0, .ref (b + 1), .ref (b + 2), .ref (b + 3), .ref (b + 8), .null, .ref (b + 13)]) H12 rfl rfl rfl
  rw [e13, Option.bind_some]
  have n13 : h13.1 = b + 15 := by rw [F13.1, n12]
  obtain ⟨h14, e14, F14, H14⟩ := oC_x (j := 6) (t := 2) (v := .ref s) (fs' := [.int 0, .int 0, .ref (b + 1), .ref (b + 2), .ref (b + 3), .ref (b + 8), .ref s, .ref (b + 13)]) H13 rfl rfl rfl
  rw [e14, Option.bind_some]
  have n14 : h14.1 = b + 15 := by rw [F14.1, n13]
  have W : ∀ {g1 g2 : jm_H} {j m : Nat} {X : Nat → Prop}, jA X j m g1 g2 → (∀ a, X a → a = b ∨ a = b + 3 ∨ a = b + 8 ∨ a = b + 13) → jA (fun a => a = b ∨ a = b + 3 ∨ a = b + 8 ∨ a = b + 13) j m g1 g2 := fun F g => jA_mn F fun a _ z => g a z
  have w : ∀ {g1 g2 : jm_H}, jS (jn b 1) g1 g2 → jA (fun a => a = b ∨ a = b + 3 ∨ a = b + 8 ∨ a = b + 13) 0 0 g1 g2 := fun F => W (jA_p F) fun a z => Or.inl z
  have v : ∀ {g1 g2 : jm_H} {j m : Nat}, jA (fun _ => False) j m g1 g2 → jA (fun a => a = b ∨ a = b + 3 ∨ a = b + 8 ∨ a = b + 13) j m g1 g2 := fun F => W F fun a z => z.elim
  have w1 : jA (fun a => a = b) 0 0 h12 h14 := jA_tr (jA_p F13) (jA_p F14)
  have Q12 : qC h14 (b + 13) [] := by
    have zz := qC_tr U12 (jA_jS w1) fun y y1 y2 => by
      unfold jn at y2
      have := n12
      clear n1 n2 n3 n4 n5 n6 n7 n8 n9 n10 n11 n13 n14
      omega
    exact zz
  have K12 := jA_tr (W F12 fun a z => Or.inr (Or.inr (Or.inr z))) (W w1 fun a z => Or.inl z)
  have K11 := jA_tr (v F11) K12
  have K10 := jA_tr (w F10) K11
  have K9p : jA (fun a => a = b ∨ a = b + 13) _ _ h9 h14 := jA_tr (jA_mn (jA_p F10) fun a _ z => Or.inl z) (jA_tr (jA_0 F11) (jA_tr (jA_mn F12 fun a _ z => Or.inr z) (jA_mn w1 fun a _ z => Or.inl z)))
  have V9 : pU h14 (b + 8) [] := pU_A U9 K9p (fun a z1 z2 => by
    unfold jn at z2
    clear n1 n2 n3 n4 n5 n6 n7 n8 n9 n10 n11 n12 n13 n14
    omega) (Nat.le_of_eq n9.symm)
  have K9 := jA_tr (W F9 fun a z => Or.inr (Or.inr (Or.inl z))) K10
  have K8 := jA_tr (v F8) K9
  have K7 := jA_tr (w F7) K8
  have K6 := jA_tr (W F6 fun a z => Or.inr (Or.inl z)) K7
  have K5 := jA_tr (v F5) K6
  have K4 := jA_tr (w F4) K5
  have K3 := jA_tr (v F3) K4
  have K2 := jA_tr (w F2) K3
  have K1 := jA_tr (v F1) K2
  have nq : ∀ k, 0 < k ∧ k < 3 → ¬ (b + k = b ∨ b + k = b + 3 ∨ b + k = b + 8 ∨ b + k = b + 13) := fun k hk => by clear n1 n2 n3 n4 n5 n6 n7 n8 n9 n10 n11 n12 n13 n14; omega
  have lt : ∀ {g : jm_H} {k : Nat}, g.1 = b + (k + 1) → b + k < g.1 := fun z => Nat.lt_of_lt_of_eq (Nat.lt_succ_self _) z.symm
  have R1 : rC h14 (b + 1) 5 12 fun _ => none := ⟨(K2.2.2 (b + 1) (lt n1) (nq 1 (by decide))).trans A1, x1 1, Or.inl rfl⟩
  have R3 := (K4.2.2 (b + 2) (lt n3) (nq 2 (by decide))).trans A3
  clear A1 A3 e2 e4 e7 e10 e13 e14 K2 K3 K4 K5 K6 K7 K8 K9 K9p K10 K11 K12 w1 F2 F3 F4 F5 F6 F7 F8 F9 F10 F11 F12 F13 F14 H2 H4 H6 H7 H9 H10 H12 H13 P5 P8 P11 U6 U9 U12 n1 n2 n3 n4 n5 n6 n7 n8 n9 n10 n11 n12 n13
  obtain ⟨h15, u, F15, R15, hu, hP, go⟩ := i_X4_61 (d := d) hx rfl 12 0 (fun _ => none) h14 (some (.ref s)) rfl n14 H14 R1 (fun j hj => absurd hj (Nat.not_lt_zero _)) (fun j hj => absurd hj (Nat.not_lt_zero _))
  have go' : kX4_init_61 (d + 1) b (some (.ref s)) 0 h14 = some (.inl none, h15) := go
  rw [go']
  have Y : jA (fun a => b ≤ a) _ _ h h15 := jA_tr (jA_mn K1 fun a _ z => by omega) (jA_mn F15 fun a _ z => by omega)
  have Q15 : qC h15 (b + 13) [] := by
    have zz := qC_tr Q12 (jA_jS F15) fun y y1 y2 => by unfold jn at y2; omega
    exact zz
  refine jF_end ⟨jA_mn (T := fun a => a = b) Y fun a ha z => x0_a ha hp z, ⟨u, fun _ => 0, oC_A H14 F15 (by omega) (by omega), R15, hu, ⟨(F15.2.2 (b + 2) (by omega) (by omega)).trans R3, x1 2, by decide⟩, fun i hi => absurd hi (Nat.not_lt_zero _), fun i hi => absurd hi (Nat.not_lt_zero _), Nat.zero_le _⟩, fun q hq => ⟨[], hP q hq⟩, ⟨[], pU_A V9 F15 (fun a z1 z2 => by unfold jn at z2; omega) (by omega)⟩, [], Q15⟩
end IS
/-! ===== LEVEL 3: new Tokens ===== -/
def kb0 : List Nat := (kB 0).map fun x => x.toInt.toNat
def kst : Nat → Nat × List Nat
  | 0 => (0, List.replicate 20 0)
  | i + 1 => if kb0.getD i 0 = 32 then ((kst i).1 + 1, (kst i).2) else ((kst i).1, (kst i).2.set (kst i).1 (37 * (kst i).2.getD (kst i).1 0 + cd (kb0.getD i 0)))
theorem kst_ok : ∀ i, i < 100 → (kB 0).getD i 0 = Int32.ofNat (kb0.getD i 0) ∧ kb0.getD i 0 < 256 ∧ (kb0.getD i 0 ≠ 32 → (kst i).1 < 20 ∧ (kst i).2.getD (kst i).1 0 < 37 ^ 9 ∧ ((97 ≤ kb0.getD i 0 ∧ kb0.getD i 0 ≤ 122) ∨ (48 ≤ kb0.getD i 0 ∧ kb0.getD i 0 ≤ 57))) := by decide +kernel
theorem kst_len : ∀ i, i < 101 → (kst i).2.length = 20 ∧ (kst i).1 < 30 := by decide +kernel
theorem kst_end : ∀ k, k < 20 → (kst 100).2.getD k 0 = kwn k := by decide +kernel
section IT
variable {h h' h1 h2 : jm_H} {d p x n k : Nat} {S : Nat → Prop} {sc : Nat × (Nat → Int32)}
theorem i_X9_66 {fs : List Value} (e0 : fs[0]? = some (.ref (p + 1))) (hx : 128 ≤ p) : ∀ (f i : Nat) (KW : Nat → Int64) (o1 o4 : Option Value) (h : jm_H), i + f = 100 → oC h p 9 fs → lC h (p + 1) 20 KW → (∀ k, k < 20 → KW k = nm ((kst i).2.getD k 0 : Nat)) → kO h sc → jF (kX9_init_66 (d + 4) p o1 (Int32.ofNat (kst i).1) (Int32.ofNat i) o4 h) (.inl none) fun h' => jS (jn (p + 1) 1) h h' ∧ ∃ KW', lC h' (p + 1) 20 KW' ∧ ∀ k, k < 20 → KW' k = nm (kwn k : Nat) := by
  have hl : (kB 0).length = 100 := by rw [kB_0]; rfl
  intro f
  induction f with
  | zero =>
    intro i KW o1 o4 h hi H L hK K
    refine jE_of (fun r => gX9_init_66) ?_
    have e := j_length (d := d + 2) K (k := 0) (by omega)
    simp only [jm_O_eq (kO_ob K (show 0 < 34 by omega)), e, jc_I_eq, hl]
    rw [if_neg (by rw [jw_lt (by omega) (by omega)]; omega)]
    refine jF_end ⟨jS_rf, KW, L, fun k hk => ?_⟩
    rw [hK k hk, show i = 100 by omega, kst_end k hk]
  | succ f ih =>
    intro i KW o1 o4 h hi H L hK K
    refine jE_of (fun r => gX9_init_66) ?_
    have e := j_length (d := d + 2) K (k := 0) (by omega)
    have ec := j_charAt (d := d) K (k := 0) (i := i) (by omega) (by omega)
    obtain ⟨c1, c2, c3⟩ := kst_ok i (by omega)
    obtain ⟨l1, l2⟩ := kst_len i (by omega)
    simp only [jm_O_eq (kO_ob K (show 0 < 34 by omega)), e, jc_I_eq, hl, ec, c1, jw_add1]
    rw [if_pos (by rw [jw_lt (by omega) (by omega)]; omega)]
    have es : kst (i + 1) = if kb0.getD i 0 = 32 then ((kst i).1 + 1, (kst i).2) else ((kst i).1, (kst i).2.set (kst i).1 (37 * (kst i).2.getD (kst i).1 0 + cd (kb0.getD i 0))) := rfl
    by_cases q : kb0.getD i 0 = 32
    · rw [if_pos (show Int32.ofNat (kb0.getD i 0) = 32 by rw [q]; rfl)]
      rw [if_pos q] at es
      have := ih (i + 1) KW (jm_dm o1) (some (.int (Int32.ofNat (kb0.getD i 0)))) h (by omega) H L (fun k hk => by rw [es]; exact hK k hk) K
      rw [es] at this
      exact this
    · rw [if_neg (show ¬ Int32.ofNat (kb0.getD i 0) = 32 from jne (b := 32) (by omega) (by omega) q)]
      rw [if_neg q] at es
      obtain ⟨d1, d2, d3⟩ := c3 q
      obtain ⟨h1, e1, F1, L1⟩ := lC_w (x := nm ((37 * (kst i).2.getD (kst i).1 0 + cd (kb0.getD i 0) : Nat) : Int)) L d1 (by omega)
      have ew := w_longer (d := d + 3) (h := h) (n := (kst i).2.getD (kst i).1 0) (b := kb0.getD i 0) d2 d3
      simp only [oC_R H e0, lC_len L, lC_at L d1 (by omega), hK _ d1, Option.bind_some, ew, jc_L_eq, e1]
      rw [if_pos (by rw [jw_lt (by omega) (by omega)]; exact d1)]
      have := ih (i + 1) _ o1 (some (.int (Int32.ofNat (kb0.getD i 0)))) h1 (by omega) (oC_tr H F1 (by unfold jn; omega)) L1 (fun k hk => by
        rw [es]
        show (if k = (kst i).1 then _ else KW k) = nm (((kst i).2.set (kst i).1 _).getD k 0 : Nat)
        by_cases e : k = (kst i).1
        · rw [if_pos e, e]
          simp only [List.getD, List.getElem?_set_self (show (kst i).1 < (kst i).2.length by omega), Option.getD_some]
        · rw [if_neg e, hK k hk]
          simp only [List.getD, List.getElem?_set_ne (fun z => e z.symm)]) (kO_tr K F1 fun y hy => by unfold jn at hy; omega)
      rw [es] at this
      refine jF_mono this ?_
      rintro h2 ⟨F2, Q2⟩
      exact ⟨jS_tr F1 F2, Q2⟩
end IT
/-! ===== LEVEL 3: new Tokens, the whole ===== -/
section IT
variable {h h' h1 h2 : jm_H} {d p x n k : Nat} {S : Nat → Prop} {sc : Nat × (Nat → Int32)}
theorem kO_A (H : kO h sc) (F : jA S n k h h') (D : ∀ a, S a → 128 ≤ a) (hn : 128 ≤ h.1) : kO h' sc := fun a ha => (F.2.2 a (by omega) fun z => by have := D a z; omega).trans (H a ha)
theorem i_X9 (H : oC h (x + 105) 9 [.null, .null, .null, .null, .null, .null, .int 0, .null, .int 0]) (hp : h.1 = x + 106) (K : kO h sc) (hx : 128 ≤ x) : jF (jm_D (d + 5) mX9_init [.ref (x + 105), .ref (x + 104)] h) (.inl none) fun h' => jA (fun a => a = x + 105) 6 2025 h h' ∧ kT h' x 0 0 (fun _ => 0) (fun _ => 0) (fun _ => 0) (fun _ => 0) (fun _ => 0) := by
  have x1 := fun k => x0_i (k := k) hx
  refine jE_of (fun r => gX9_init) ?_
  rw [jm_U_q (x1 105)]
  refine jE_newa (m := 20) (by decide) rfl fun h1 F1 A1 => ?_
  have n1 : h1.1 = x + 107 := by rw [F1.1, hp]
  rw [hp] at A1 ⊢
  obtain ⟨h2, e2, F2, H2⟩ := oC_x (j := 0) (t := 2) (v := .ref (x + 106)) (fs' := [.ref (x + 106), .null, .null, .null, .null, .null, .int 0, .null, .int 0]) (oC_A H F1 id (by rw [hp]; exact Nat.add_lt_add_left (by decide) x)) rfl rfl rfl
  rw [e2, Option.bind_some]
  have n2 : h2.1 = x + 107 := by rw [F2.1, n1]
  refine jE_newa (m := 401) (by decide) rfl fun h3 F3 A3 => ?_
  have n3 : h3.1 = x + 108 := by rw [F3.1, n2]
  rw [n2] at A3 ⊢
  obtain ⟨h4, e4, F4, H4⟩ := oC_x (j := 1) (t := 2) (v := .ref (x + 107)) (fs' := [.ref (x + 106), .ref (x + 107), .null, .null, .null, .null, .int 0, .null, .int 0]) (oC_A H2 F3 id (by rw [n2]; exact Nat.add_lt_add_left (by decide) x)) rfl rfl rfl
  rw [e4, Option.bind_some]
  have n4 : h4.1 = x + 108 := by rw [F4.1, n3]
  refine jE_newa (m := 401) (by decide) rfl fun h5 F5 A5 => ?_
  have n5 : h5.1 = x + 109 := by rw [F5.1, n4]
  rw [n4] at A5 ⊢
  obtain ⟨h6, e6, F6, H6⟩ := oC_x (j := 2) (t := 2) (v := .ref (x + 108)) (fs' := [.ref (x + 106), .ref (x + 107), .ref (x + 108), .null, .null, .null, .int 0, .null, .int 0]) (oC_A H4 F5 id (by rw [n4]; exact Nat.add_lt_add_left (by decide) x)) rfl rfl rfl
  rw [e6, Option.bind_some]
  have n6 : h6.1 = x + 109 := by rw [F6.1, n5]
  refine jE_newa (m := 401) (by decide) rfl fun h7 F7 A7 => ?_
  have n7 : h7.1 = x + 110 := by rw [F7.1, n6]
  rw [n6] at A7 ⊢
  obtain ⟨h8, e8, F8, H8⟩ := oC_x (j := 3) (t := 2) (v := .ref (x + 109)) (fs' := [.ref (x + 106), .ref (x + 107), .ref (x + 108), .ref (x + 109), .null, .null, .int 0, .null, .int 0]) (oC_A H6 F7 id (by rw [n6]; exact Nat.add_lt_add_left (by decide) x)) rfl rfl rfl
  rw [e8, Option.bind_some]
  have n8 : h8.1 = x + 110 := by rw [F8.1, n7]
  refine jE_newa (m := 401) (by decide) rfl fun h9 F9 A9 => ?_
  have n9 : h9.1 = x + 111 := by rw [F9.1, n8]
  rw [n8] at A9 ⊢
  obtain ⟨h10, e10, F10, H10⟩ := oC_x (j := 4) (t := 2) (v := .ref (x + 110)) (fs' := [.ref (x + 106), .ref (x + 107), .ref (x + 108), .ref (x + 109), .ref (x + 110), .null, .int 0, .null, .int 0]) (oC_A H8 F9 id (by rw [n8]; exact Nat.add_lt_add_left (by decide) x)) rfl rfl rfl
  rw [e10, Option.bind_some]
  have n10 : h10.1 = x + 111 := by rw [F10.1, n9]
  refine jE_newa (m := 401) (by decide) rfl fun h11 F11 A11 => ?_
  have n11 : h11.1 = x + 112 := by rw [F11.1, n10]
  rw [n10] at A11 ⊢
  obtain ⟨h12, e12, F12, H12⟩ := oC_x (j := 5) (t := 2) (v := .ref (x + 111)) (fs' := [.ref (x + 106), .ref (x + 107), .ref (x + 108), .ref (x + 109), .ref (x + 110), .ref (x + 111), .int 0, .null, .int 0]) (oC_A H10 F11 id (by rw [n10]; exact Nat.add_lt_add_left (by decide) x)) rfl rfl rfl
  rw [e12, Option.bind_some]
  have n12 : h12.1 = x + 112 := by rw [F12.1, n11]
  obtain ⟨h13, e13, F13, H13⟩ := oC_x (j := 7) (t := 2) (v := .ref (x + 104)) (fs' := [.ref (x + 106), .ref (x + 107), .ref (x + 108), .ref (x + 109), .ref (x + 110), .ref (x + 111), .int 0, .ref (x + 104), .int 0]) H12 rfl rfl rfl
  rw [e13, Option.bind_some]
  have n13 : h13.1 = x + 112 := by rw [F13.1, n12]
  have w : ∀ {g1 g2 : jm_H}, jS (jn (x + 105) 1) g1 g2 → jA (fun a => a = x + 105) 0 0 g1 g2 := fun F => jA_p F
  have v : ∀ {g1 g2 : jm_H} {j m : Nat}, jA (fun _ => False) j m g1 g2 → jA (fun a => a = x + 105) j m g1 g2 := fun F => jA_0 F
  have K12 := jA_tr (w F12) (w F13)
  have K11 := jA_tr (v F11) K12
  have K10 := jA_tr (w F10) K11
  have K9 := jA_tr (v F9) K10
  have K8 := jA_tr (w F8) K9
  have K7 := jA_tr (v F7) K8
  have K6 := jA_tr (w F6) K7
  have K5 := jA_tr (v F5) K6
  have K4 := jA_tr (w F4) K5
  have K3 := jA_tr (v F3) K4
  have K2 := jA_tr (w F2) K3
  have K1 := jA_tr (v F1) K2
  have nq : ∀ k, 105 < k → ¬ (x + k = x + 105) := fun k hk z => Nat.ne_of_gt (Nat.add_lt_add_left hk x) z
  have lt : ∀ {g : jm_H} {k : Nat}, g.1 = x + (k + 1) → x + k < g.1 := fun z => Nat.lt_of_lt_of_eq (Nat.lt_succ_self _) z.symm
  have R1 : lC h13 (x + 106) 20 fun _ => 0 := ⟨(K2.2.2 (x + 106) (lt n1) (nq _ (by decide))).trans A1, x1 106⟩
  have R2 : aC h13 (x + 107) 0 401 fun _ => 0 := ⟨(K4.2.2 (x + 107) (lt n3) (nq _ (by decide))).trans A3, x1 107, by decide⟩
  have R3 : aC h13 (x + 108) 0 401 fun _ => 0 := ⟨(K6.2.2 (x + 108) (lt n5) (nq _ (by decide))).trans A5, x1 108, by decide⟩
  have R4 : lC h13 (x + 109) 401 fun _ => 0 := ⟨(K8.2.2 (x + 109) (lt n7) (nq _ (by decide))).trans A7, x1 109⟩
  have R5 : aC h13 (x + 110) 0 401 fun _ => 0 := ⟨(K10.2.2 (x + 110) (lt n9) (nq _ (by decide))).trans A9, x1 110, by decide⟩
  have R6 : aC h13 (x + 111) 0 401 fun _ => 0 := ⟨(K12.2.2 (x + 111) (lt n11) (nq _ (by decide))).trans A11, x1 111, by decide⟩
  have KO : kO h13 sc := kO_A K K1 (fun a z => by rw [z]; exact x1 105) (by rw [hp]; exact x1 106)
  clear A1 A3 A5 A7 A9 A11 e2 e4 e6 e8 e10 e12 e13 K2 K3 K4 K5 K6 K7 K8 K9 K10 K11 K12 F1 F2 F3 F4 F5 F6 F7 F8 F9 F10 F11 F12 F13 H H2 H4 H6 H8 H10 H12 n1 n2 n3 n4 n5 n6 n7 n8 n9 n10 n11 n12
  obtain ⟨vv, h14, e14, rfl, F14, KW, L14, N14⟩ := i_X9_66 (d := d) (p := x + 105) (sc := sc) rfl (x1 105) 100 0 (fun _ => 0) (some (.ref (x + 104))) none h13 rfl H13 R1 (fun k hk => by
    have : ∀ k, k < 20 → (kst 0).2.getD k 0 = 0 := by decide
    rw [this k hk]
    exact nm0.symm) KO
  have e14' : kX9_init_66 (d + 4) (x + 105) (some (.ref (x + 104))) 0 0 none h13 = some (.inl none, h14) := e14
  rw [e14']
  have G14 : jA (fun a => a = x + 106) 0 0 h13 h14 := jA_p F14
  have Y : jA (fun a => x + 105 ≤ a) _ _ h h14 := jA_tr (jA_mn K1 fun a _ z => by omega) (jA_mn G14 fun a _ z => by omega)
  have T14 : ∀ k, k ≠ 106 → ¬ jn (x + 105 + 1) 1 (x + k) := fun k hk z => by unfold jn at z; omega
  exact jF_end ⟨jA_mn (T := fun a => a = x + 105) Y fun a ha z => x0_a ha hp z, KW, oC_tr H13 F14 (T14 105 (by decide)), L14, N14, aC_tr R2 F14 (T14 107 (by decide)), aC_tr R3 F14 (T14 108 (by decide)), lC_tr R4 F14 (T14 109 (by decide)), aC_tr R5 F14 (T14 110 (by decide)), aC_tr R6 F14 (T14 111 (by decide))⟩
end IT
/-! ===== LEVEL 3: a new MaskPlays ===== -/
section IM
variable {h h' h1 h2 : jm_H} {d p x n k m l : Nat} {S : Nat → Prop} {sc : Nat × (Nat → Int32)}
theorem jA_ni (F : jA (fun _ => False) 1 n h h1) (G : jA (fun a => a = p) m l h1 h2) (hp : h.1 = p) : jA (fun _ => False) (1 + m) (n + l) h h2 := ⟨by rw [G.1, F.1, Nat.add_assoc], by rw [G.2.1, F.2.1, Nat.add_assoc], fun a ha _ => (G.2.2 a (by rw [F.1]; exact Nat.lt_succ_of_lt ha) (Nat.ne_of_lt (hp ▸ ha))).trans (F.2.2 a ha id)⟩
theorem dq {b w N : Nat} (hb : x < b) (hN : b + w ≤ N) : ∀ y, (y = x ∨ N ≤ y) → jn b w y → False := fun y y1 y2 => by unfold jn at y2; omega
theorem nx {k : Nat} (hk : 0 < k) : ¬ (x + k = x) := fun z => Nat.ne_of_gt (Nat.lt_add_of_pos_right hk) z
theorem gB_0 : gB aB0 := ⟨Nat.zero_le _, Nat.zero_le _, Nat.zero_le _, fun x hx => (by cases hx), fun x hx => (by cases hx), fun p hp => absurd hp (Nat.not_lt_zero _), fun n hn => (by cases hn)⟩
theorem i_X11 (H : oC h x 10 [.null, .int 0, .int 0, .null, .null, .null, .null, .null, .null, .null, .null, .null, .null, .null]) (hp : h.1 = x + 1) (K0 : kO h sc) : jF (jm_D (d + 6) mX11_init [.ref x] h) (.inl none) fun h' => jA (fun a => a = x) 368 45485 h h' ∧ CI h' x aB0 ((aB0.2.2.1, fun _ => 0), 0, 0) [] (-1) sc := by
  have hx := H.2
  have x1 := fun k => x0_i (k := k) hx
  refine jE_of (fun r => gX11_init) ?_
  rw [jm_U_q hx]
  obtain ⟨h1, e1, F1, H1⟩ := oC_x (j := 1) (t := 0) (v := .int 0) (fs' := [.null, .int 0, .int 0, .null, .null, .null, .null, .null, .null, .null, .null, .null, .null, .null]) H rfl rfl rfl
  rw [e1, Option.bind_some]
  have n1 : h1.1 = x + 1 := by rw [F1.1, hp]
  obtain ⟨h2, e2, F2, H2⟩ := oC_x (j := 2) (t := 0) (v := .int (-1)) (fs' := [.null, .int 0, .int (-1), .null, .null, .null, .null, .null, .null, .null, .null, .null, .null, .null]) H1 rfl rfl rfl
  rw [e2, Option.bind_some]
  have n2 : h2.1 = x + 1 := by rw [F2.1, n1]
  refine jE_new (by rw [n2]; exact x1 1) fun h3 F3 P3 => ?_
  have n3 : h3.1 = x + 2 := by rw [F3.1, n2]
  rw [n2] at P3 ⊢
  rw [jm_U_q (x1 1)]
  refine jE_V (i_X0 (d := d + 3) P3 n3) ?_
  rintro h4 ⟨F4, B1⟩
  have n4 : h4.1 = x + 90 := by rw [F4.1, n3]
  have J4 := jA_ni F3 F4 n2
  have H4 := oC_A H2 J4 id (by rw [n2]; exact Nat.lt_add_of_pos_right (by decide))
  obtain ⟨h5, e5, F5, H5⟩ := oC_x (j := 6) (t := 2) (v := .ref (x + 1)) (fs' := [.null, .int 0, .int (-1), .null, .null, .null, .ref (x + 1), .null, .null, .null, .null, .null, .null, .null]) H4 rfl rfl rfl
  rw [e5, Option.bind_some]
  have n5 : h5.1 = x + 90 := by rw [F5.1, n4]
  refine jE_new (by rw [n5]; exact x1 90) fun h6 F6 P6 => ?_
  have n6 : h6.1 = x + 91 := by rw [F6.1, n5]
  rw [n5] at P6 ⊢
  rw [jm_U_q (x1 90)]
  refine jE_V (i_X3 (d := d + 4) P6 n6) ?_
  rintro h7 ⟨F7, U1⟩
  have n7 : h7.1 = x + 95 := by rw [F7.1, n6]
  have J7 := jA_ni F6 F7 n5
  have H7 := oC_A H5 J7 id (by rw [n5]; exact Nat.lt_add_of_pos_right (by decide))
  obtain ⟨h8, e8, F8, H8⟩ := oC_x (j := 11) (t := 2) (v := .ref (x + 90)) (fs' := [.null, .int 0, .int (-1), .null, .null, .null, .ref (x + 1), .null, .null, .null, .null, .ref (x + 90), .null, .null]) H7 rfl rfl rfl
  rw [e8, Option.bind_some]
  have n8 : h8.1 = x + 95 := by rw [F8.1, n7]
  refine jE_new (by rw [n8]; exact x1 95) fun h9 F9 P9 => ?_
  have n9 : h9.1 = x + 96 := by rw [F9.1, n8]
  rw [n8] at P9 ⊢
  rw [jm_U_q (x1 95)]
  refine jE_V (i_X3 (d := d + 4) P9 n9) ?_
  rintro h10 ⟨F10, U2⟩
  have n10 : h10.1 = x + 100 := by rw [F10.1, n9]
  have J10 := jA_ni F9 F10 n8
  have H10 := oC_A H8 J10 id (by rw [n8]; exact Nat.lt_add_of_pos_right (by decide))
  obtain ⟨h11, e11, F11, H11⟩ := oC_x (j := 12) (t := 2) (v := .ref (x + 95)) (fs' := [.null, .int 0, .int (-1), .null, .null, .null, .ref (x + 1), .null, .null, .null, .null, .ref (x + 90), .ref (x + 95), .null]) H10 rfl rfl rfl
  rw [e11, Option.bind_some]
  have n11 : h11.1 = x + 100 := by rw [F11.1, n10]
  refine jE_new (by rw [n11]; exact x1 100) fun h12 F12 P12 => ?_
  have n12 : h12.1 = x + 101 := by rw [F12.1, n11]
  rw [n11] at P12 ⊢
  rw [jm_U_q (x1 100)]
  refine jE_V (i_X8 (d := d + 4) P12 n12) ?_
  rintro h13 ⟨F13, E1⟩
  have n13 : h13.1 = x + 104 := by rw [F13.1, n12]
  have J13 := jA_ni F12 F13 n11
  have H13 := oC_A H11 J13 id (by rw [n11]; exact Nat.lt_add_of_pos_right (by decide))
  obtain ⟨h14, e14, F14, H14⟩ := oC_x (j := 13) (t := 2) (v := .ref (x + 100)) (fs' := [.null, .int 0, .int (-1), .null, .null, .null, .ref (x + 1), .null, .null, .null, .null, .ref (x + 90), .ref (x + 95), .ref (x + 100)]) H13 rfl rfl rfl
  rw [e14, Option.bind_some]
  have n14 : h14.1 = x + 104 := by rw [F14.1, n13]
  refine jE_newa (m := 2000) (by decide) rfl fun h15 F15 A15 => ?_
  have n15 : h15.1 = x + 105 := by rw [F15.1, n14]
  rw [n14] at A15 ⊢
  have H15 := oC_A H14 F15 id (by rw [n14]; exact Nat.lt_add_of_pos_right (by decide))
  have KT : kO h15 sc := kO_A K0 (show jA (fun a => a = x) _ _ h h15 from (jA_tr (jA_p F1) (jA_tr (jA_p F2) (jA_tr (jA_0 J4) (jA_tr (jA_p F5) (jA_tr (jA_0 J7) (jA_tr (jA_p F8) (jA_tr (jA_0 J10) (jA_tr (jA_p F11) (jA_tr (jA_0 J13) (jA_tr (jA_p F14) (jA_0 F15)))))))))))) (fun a z => by rw [z]; exact hx) (by rw [hp]; exact x1 1)
  refine jE_new (by rw [n15]; exact x1 105) fun h16 F16 P16 => ?_
  have n16 : h16.1 = x + 106 := by rw [F16.1, n15]
  rw [n15] at P16 ⊢
  rw [jm_U_q (x1 105)]
  refine jE_V (i_X9 (d := d) P16 n16 (kO_A KT F16 (fun a z => z.elim) (by rw [n15]; exact x1 105)) hx) ?_
  rintro h17 ⟨F17, T1⟩
  have n17 : h17.1 = x + 112 := by rw [F17.1, n16]
  have J17 := jA_ni F16 F17 n15
  have H17 := oC_A H15 J17 id (by rw [n15]; exact Nat.lt_add_of_pos_right (by decide))
  refine jE_new (by rw [n17]; exact x1 112) fun h18 F18 P18 => ?_
  have n18 : h18.1 = x + 113 := by rw [F18.1, n17]
  rw [n17] at P18 ⊢
  rw [jm_U_q (x1 112)]
  refine jE_V (i_X0 (d := d + 3) P18 n18) ?_
  rintro h19 ⟨F19, B2⟩
  have n19 : h19.1 = x + 201 := by rw [F19.1, n18]
  have J19 := jA_ni F18 F19 n17
  have H19 := oC_A H17 J19 id (by rw [n17]; exact Nat.lt_add_of_pos_right (by decide))
  refine jE_new (by rw [n19]; exact x1 201) fun h20 F20 P20 => ?_
  have n20 : h20.1 = x + 202 := by rw [F20.1, n19]
  rw [n19] at P20 ⊢
  rw [jm_U_q (x1 201)]
  refine jE_V (i_X5 (d := d + 2) P20 n20) ?_
  rintro h21 ⟨F21, S1⟩
  have n21 : h21.1 = x + 216 := by rw [F21.1, n20]
  have J21 := jA_ni F20 F21 n19
  have H21 := oC_A H19 J21 id (by rw [n19]; exact Nat.lt_add_of_pos_right (by decide))
  obtain ⟨h22, e22, F22, H22⟩ := oC_x (j := 0) (t := 2) (v := .ref (x + 104)) (fs' := [.ref (x + 104), .int 0, .int (-1), .null, .null, .null, .ref (x + 1), .null, .null, .null, .null, .ref (x + 90), .ref (x + 95), .ref (x + 100)]) H21 rfl rfl rfl
  rw [e22, Option.bind_some]
  have n22 : h22.1 = x + 216 := by rw [F22.1, n21]
  obtain ⟨h23, e23, F23, H23⟩ := oC_x (j := 3) (t := 2) (v := .ref (x + 105)) (fs' := [.ref (x + 104), .int 0, .int (-1), .ref (x + 105), .null, .null, .ref (x + 1), .null, .null, .null, .null, .ref (x + 90), .ref (x + 95), .ref (x + 100)]) H22 rfl rfl rfl
  rw [e23, Option.bind_some]
  have n23 : h23.1 = x + 216 := by rw [F23.1, n22]
  refine jE_new (by rw [n23]; exact x1 216) fun h24 F24 P24 => ?_
  have n24 : h24.1 = x + 217 := by rw [F24.1, n23]
  rw [n23] at P24 ⊢
  rw [jm_U_q (x1 216)]
  refine jE_V (i_X1 (d := d + 4) P24) ?_
  rintro h25 ⟨F25, G1⟩
  have n25 : h25.1 = x + 217 := by rw [F25.1, n24]
  have J25 := jA_ni F24 F25 n23
  have H25 := oC_A H23 J25 id (by rw [n23]; exact Nat.lt_add_of_pos_right (by decide))
  obtain ⟨h26, e26, F26, H26⟩ := oC_x (j := 4) (t := 2) (v := .ref (x + 216)) (fs' := [.ref (x + 104), .int 0, .int (-1), .ref (x + 105), .ref (x + 216), .null, .ref (x + 1), .null, .null, .null, .null, .ref (x + 90), .ref (x + 95), .ref (x + 100)]) H25 rfl rfl rfl
  rw [e26, Option.bind_some]
  have n26 : h26.1 = x + 217 := by rw [F26.1, n25]
  refine jE_new (by rw [n26]; exact x1 217) fun h27 F27 P27 => ?_
  have n27 : h27.1 = x + 218 := by rw [F27.1, n26]
  rw [n26] at P27 ⊢
  rw [jm_U_q (x1 217)]
  refine jE_V (i_X6 (d := d + 4) P27 n27) ?_
  rintro h28 ⟨F28, T2⟩
  have n28 : h28.1 = x + 219 := by rw [F28.1, n27]
  have J28 := jA_ni F27 F28 n26
  have H28 := oC_A H26 J28 id (by rw [n26]; exact Nat.lt_add_of_pos_right (by decide))
  obtain ⟨h29, e29, F29, H29⟩ := oC_x (j := 5) (t := 2) (v := .ref (x + 217)) (fs' := [.ref (x + 104), .int 0, .int (-1), .ref (x + 105), .ref (x + 216), .ref (x + 217), .ref (x + 1), .null, .null, .null, .null, .ref (x + 90), .ref (x + 95), .ref (x + 100)]) H28 rfl rfl rfl
  rw [e29, Option.bind_some]
  have n29 : h29.1 = x + 219 := by rw [F29.1, n28]
  obtain ⟨h30, e30, F30, H30⟩ := oC_x (j := 7) (t := 2) (v := .ref (x + 112)) (fs' := [.ref (x + 104), .int 0, .int (-1), .ref (x + 105), .ref (x + 216), .ref (x + 217), .ref (x + 1), .ref (x + 112), .null, .null, .null, .ref (x + 90), .ref (x + 95), .ref (x + 100)]) H29 rfl rfl rfl
  rw [e30, Option.bind_some]
  have n30 : h30.1 = x + 219 := by rw [F30.1, n29]
  obtain ⟨h31, e31, F31, H31⟩ := oC_x (j := 8) (t := 2) (v := .ref (x + 201)) (fs' := [.ref (x + 104), .int 0, .int (-1), .ref (x + 105), .ref (x + 216), .ref (x + 217), .ref (x + 1), .ref (x + 112), .ref (x + 201), .null, .null, .ref (x + 90), .ref (x + 95), .ref (x + 100)]) H30 rfl rfl rfl
  rw [e31, Option.bind_some]
  have n31 : h31.1 = x + 219 := by rw [F31.1, n30]
  refine jE_new (by rw [n31]; exact x1 219) fun h32 F32 P32 => ?_
  have n32 : h32.1 = x + 220 := by rw [F32.1, n31]
  rw [n31] at P32 ⊢
  rw [jm_U_q (x1 219)]
  refine jE_V (i_X4 (d := d + 3) (S0 := (aB0.2.2.1, fun _ => 0)) P32 n32) ?_
  rintro h33 ⟨F33, Z1⟩
  have n33 : h33.1 = x + 294 := by rw [F33.1, n32]
  have J33 := jA_ni F32 F33 n31
  have H33 := oC_A H31 J33 id (by rw [n31]; exact Nat.lt_add_of_pos_right (by decide))
  obtain ⟨h34, e34, F34, H34⟩ := oC_x (j := 9) (t := 2) (v := .ref (x + 219)) (fs' := [.ref (x + 104), .int 0, .int (-1), .ref (x + 105), .ref (x + 216), .ref (x + 217), .ref (x + 1), .ref (x + 112), .ref (x + 201), .ref (x + 219), .null, .ref (x + 90), .ref (x + 95), .ref (x + 100)]) H33 rfl rfl rfl
  rw [e34, Option.bind_some]
  have n34 : h34.1 = x + 294 := by rw [F34.1, n33]
  refine jE_new (by rw [n34]; exact x1 294) fun h35 F35 P35 => ?_
  have n35 : h35.1 = x + 295 := by rw [F35.1, n34]
  rw [n34] at P35 ⊢
  rw [jm_U_q (x1 294)]
  refine jE_V (i_X4 (d := d + 3) (S0 := (aB0.2.2.1, fun _ => 0)) P35 n35) ?_
  rintro h36 ⟨F36, Z2⟩
  have n36 : h36.1 = x + 369 := by rw [F36.1, n35]
  have J36 := jA_ni F35 F36 n34
  have H36 := oC_A H34 J36 id (by rw [n34]; exact Nat.lt_add_of_pos_right (by decide))
  obtain ⟨h37, e37, F37, H37⟩ := oC_x (j := 10) (t := 2) (v := .ref (x + 294)) (fs' := [.ref (x + 104), .int 0, .int (-1), .ref (x + 105), .ref (x + 216), .ref (x + 217), .ref (x + 1), .ref (x + 112), .ref (x + 201), .ref (x + 219), .ref (x + 294), .ref (x + 90), .ref (x + 95), .ref (x + 100)]) H36 rfl rfl rfl
  rw [e37, Option.bind_some]
  have n37 : h37.1 = x + 369 := by rw [F37.1, n36]
  have K26 : jA (fun a => a = x) 0 0 h37 h37 := ⟨rfl, rfl, fun _ _ _ => rfl⟩
  have K25 := jA_tr (jA_p F37) K26
  have K24 := jA_tr (jA_0 J36) K25
  have K23 := jA_tr (jA_p F34) K24
  have K22 := jA_tr (jA_0 J33) K23
  have K21 := jA_tr (jA_p F31) K22
  have K20 := jA_tr (jA_p F30) K21
  have K19 := jA_tr (jA_p F29) K20
  have K18 := jA_tr (jA_0 J28) K19
  have K17 := jA_tr (jA_p F26) K18
  have K16 := jA_tr (jA_0 J25) K17
  have K15 := jA_tr (jA_p F23) K16
  have K14 := jA_tr (jA_p F22) K15
  have K13 := jA_tr (jA_0 J21) K14
  have K12 := jA_tr (jA_0 J19) K13
  have K11 := jA_tr (jA_0 J17) K12
  have K10 := jA_tr (jA_0 F15) K11
  have K9 := jA_tr (jA_p F14) K10
  have K8 := jA_tr (jA_0 J13) K9
  have K7 := jA_tr (jA_p F11) K8
  have K6 := jA_tr (jA_0 J10) K7
  have K5 := jA_tr (jA_p F8) K6
  have K4 := jA_tr (jA_0 J7) K5
  have K3 := jA_tr (jA_p F5) K4
  have K2 := jA_tr (jA_0 J4) K3
  have K1 := jA_tr (jA_p F2) K2
  have K0' := jA_tr (jA_p F1) K1
  have KO : kO h37 sc := kO_A K0 K0' (fun a z => by rw [z]; exact hx) (by rw [hp]; exact x1 1)
  have b1 := bC_tr B1.1 (jA_jS K3) fun y y1 y2 => dq (b := x + 1) (w := 89) (Nat.lt_add_of_pos_right (by decide)) (Nat.le_of_eq n4.symm) y y1 ⟨y2.1, Nat.lt_of_lt_of_le y2.2 (Nat.add_le_add_left (by decide) _)⟩
  have b2 := bC_tr B2.1 (jA_jS K13) fun y y1 y2 => dq (b := x + 112) (w := 89) (Nat.lt_add_of_pos_right (by decide)) (Nat.le_of_eq n19.symm) y y1 ⟨y2.1, Nat.lt_of_lt_of_le y2.2 (Nat.add_le_add_left (by decide) _)⟩
  have u1 := pU_tr U1 (jA_jS K5) (dq (b := x + 90) (w := 5) (Nat.lt_add_of_pos_right (by decide)) (Nat.le_of_eq n7.symm))
  have u2 := pU_tr U2 (jA_jS K7) (dq (b := x + 95) (w := 5) (Nat.lt_add_of_pos_right (by decide)) (Nat.le_of_eq n10.symm))
  have e1' := eI_tr E1 (jA_jS K9) (dq (b := x + 100) (w := 4) (Nat.lt_add_of_pos_right (by decide)) (Nat.le_of_eq n13.symm))
  have a1 : aC h37 (x + 104) 2 2000 fun _ => 0 := ⟨(K11.2.2 (x + 104) (by rw [n15]; exact Nat.lt_succ_self _) (nx (k := 104) (by decide))).trans A15, x1 104, by decide⟩
  have t1 := kT_tr T1 (jA_jS K12) (dq (b := x + 105) (w := 7) (Nat.lt_add_of_pos_right (by decide)) (Nat.le_of_eq n17.symm))
  have s1 := tI_tr S1 (jA_jS K14) (dq (b := x + 201) (w := 15) (Nat.lt_add_of_pos_right (by decide)) (Nat.le_of_eq n21.symm))
  have g1 := oC_A G1 K17 (nx (k := 216) (by decide)) (by rw [n25]; exact Nat.lt_succ_self _)
  have t2 := oC_A T2.1 K19 (nx (k := 217) (by decide)) (by rw [n28]; exact Nat.add_lt_add_left (by decide) x)
  have t3 := lC_A T2.2 K19 (nx (k := 218) (by decide)) (by rw [n28]; exact Nat.lt_succ_self _)
  have z1 := sA_tr Z1 (jA_jS K23) (dq (b := x + 219) (w := 75) (Nat.lt_add_of_pos_right (by decide)) (Nat.le_of_eq n33.symm))
  have z2 := sA_tr Z2 (jA_jS K25) (dq (b := x + 294) (w := 75) (Nat.lt_add_of_pos_right (by decide)) (Nat.le_of_eq n36.symm))
  have pa : ∀ q, q < 12 → pU h37 (x + 1 + 13 + 5 * q) [] := fun q hq => by
    have z := pU_tr (B1.2.1 q hq) (jA_jS K3) fun y y1 y2 => dq (b := x + 1) (w := 89) (Nat.lt_add_of_pos_right (by decide)) (Nat.le_of_eq n4.symm) y y1 (by clear n1 n2 n3 n4 n5 n6 n7 n8 n9 n10 n11 n12 n13 n14 n15 n16 n17 n18 n19 n20 n21 n22 n23 n24 n25 n26 n27 n28 n29 n30 n31 n32 n33 n34 n35 n36 n37; unfold jn at y2 ⊢; omega)
    exact z
  have pb : ∀ q, q < 12 → pU h37 (x + 112 + 13 + 5 * q) [] := fun q hq => by
    have z := pU_tr (B2.2.1 q hq) (jA_jS K13) fun y y1 y2 => dq (b := x + 112) (w := 89) (Nat.lt_add_of_pos_right (by decide)) (Nat.le_of_eq n19.symm) y y1 (by clear n1 n2 n3 n4 n5 n6 n7 n8 n9 n10 n11 n12 n13 n14 n15 n16 n17 n18 n19 n20 n21 n22 n23 n24 n25 n26 n27 n28 n29 n30 n31 n32 n33 n34 n35 n36 n37; unfold jn at y2 ⊢; omega)
    exact z
  have na : ∀ n, n < 16 → oC h37 (x + 1 + 73 + n) 2 [.int 0, .int 0, .int 0, .int (-1)] := fun n hn => by
    have z := oC_tr (B1.2.2 n hn) (jA_jS K3) fun y1 => dq (b := x + 1) (w := 89) (Nat.lt_add_of_pos_right (by decide)) (Nat.le_of_eq n4.symm) _ y1 (by clear n1 n2 n3 n4 n5 n6 n7 n8 n9 n10 n11 n12 n13 n14 n15 n16 n17 n18 n19 n20 n21 n22 n23 n24 n25 n26 n27 n28 n29 n30 n31 n32 n33 n34 n35 n36 n37; unfold jn; omega)
    exact z
  have nb : ∀ n, n < 16 → oC h37 (x + 112 + 73 + n) 2 [.int 0, .int 0, .int 0, .int (-1)] := fun n hn => by
    have z := oC_tr (B2.2.2 n hn) (jA_jS K13) fun y1 => dq (b := x + 112) (w := 89) (Nat.lt_add_of_pos_right (by decide)) (Nat.le_of_eq n19.symm) _ y1 (by clear n1 n2 n3 n4 n5 n6 n7 n8 n9 n10 n11 n12 n13 n14 n15 n16 n17 n18 n19 n20 n21 n22 n23 n24 n25 n26 n27 n28 n29 n30 n31 n32 n33 n34 n35 n36 n37; unfold jn; omega)
    exact z
  refine jF_end ⟨K0', ⟨x + 1, x + 112, fun _ => 0, Or.inl ⟨rfl, rfl⟩, H37, a1, ⟨Nat.zero_le _, fun i hi => absurd hi (Nat.not_lt_zero _)⟩, ⟨[], b1, fun q hq => ⟨[], pa q hq⟩, fun q hq => absurd hq (Nat.not_lt_zero _), fun n hn => ⟨_, _, _, _, na n hn⟩, fun n hn => absurd hn (Nat.not_lt_zero _), gB_0⟩, ⟨_, _, _, _, b2, fun q hq => ⟨[], pb q hq⟩, fun n hn => ⟨_, _, _, _, nb n hn⟩⟩, ⟨⟨_, _, _, _, _, _, _, t1⟩, ⟨_, _, g1⟩, [], 0, _, 0, _, t2, t3, fun k hk => absurd hk (Nat.not_lt_zero _), fun w hw => (by cases hw)⟩, KO⟩, z1, ⟨s1, ⟨_, _, _, z2⟩, ⟨[], u1⟩, ⟨[], u2⟩, e1'⟩, fun p hp => absurd hp (Nat.not_lt_zero _)⟩
end IM
