/-! ===== LEVEL 3: Telling, the tokens of a part ===== -/
section PT
variable {h h' : jm_H} {d p q : Nat} {l m : List Int}
theorem tk_1 {row : List Int} {e : Int} : (row ++ [e]).take 150 = if row.length < 150 then row.take 150 ++ [e] else row.take 150 := by
  by_cases c : row.length < 150
  · rw [if_pos c, List.take_of_length_le (by simp; omega), List.take_of_length_le (by omega)]
  · rw [if_neg c, List.take_append_of_le_length (by omega)]
theorem pU_addT {x : Int} {row : List Int} (H : pU h p (row.take 150)) : jF (jm_D (d + 1) mX3_add [.ref p, .int (ky x), .long (nm x)] h) (.inl none) fun h' => jS (jn p 5) h h' ∧ pU h' p ((row ++ [x]).take 150) := by
  rw [tk_1]
  by_cases c : row.length < 150
  · rw [if_pos c]
    exact pU_add H (by simp; omega)
  · rw [if_neg c]
    obtain ⟨K, N, E, O, a, b⟩ := H
    have hl : (row.take 150).length = 150 := by simp; omega
    have hn := pC_n a
    rw [hl] at hn
    refine jF_eq (gX3_add ?_) (P := fun h' => jS (jn p 5) h h' ∧ pU h' p (row.take 150)) ⟨jS_rf, K, N, E, O, a, b⟩
    simp only [hn, pC_1 a, pC_l1 a, Option.bind_some]
    rfl
theorem pU_appT_loop {o2 : Option Value} {b : Nat} (hd : p + 5 ≤ q ∨ q + 5 ≤ p) (hb : b ≤ m.length) : ∀ (f i : Nat) (l : List Int) (h : jm_H), i + f = b → pU h p (l.take 150) → pU h q m →
    jF (kX3_append_3 (d + 1) p q o2 (Int32.ofNat b) (Int32.ofNat i) h) (.inl none) fun h' => jS (jn p 5) h h' ∧ pU h' p ((l ++ (m.drop i).take f).take 150) := by
  intro f
  induction f with
  | zero =>
    intro i l h hi Hp Hq
    have := pU_len Hq
    refine jE_of (fun r => gX3_append_3) ?_
    rw [if_neg (by rw [jw_lt (by omega) (by omega)]; omega)]
    refine jF_end ⟨jS_rf, ?_⟩
    rw [List.take_zero, List.append_nil]
    exact Hp
  | succ f ih =>
    intro i l h hi Hp Hq
    have := pU_len Hq
    refine jE_of (fun r => gX3_append_3) ?_
    rw [if_pos (by rw [jw_lt (by omega) (by omega)]; omega)]
    simp only [jm_O_eq (pU_ob Hp), jm_O_eq (pU_ob Hq), pU_kindAt Hq (show i < m.length by omega), pU_nameAt Hq (show i < m.length by omega), jc_I_eq, jc_L_eq]
    refine jE_V (pU_addT Hp) ?_
    rintro h1 ⟨F1, H1⟩
    rw [jw_add1]
    refine jF_mono (ih (i + 1) _ h1 (by omega) H1 (pU_tr Hq F1 fun x z1 z2 => by unfold jn at z1 z2; omega)) ?_
    rintro h2 ⟨F2, H2⟩
    refine ⟨jS_tr F1 F2, ?_⟩
    rw [ry_drop_cons (show i < m.length by omega), List.take_succ_cons]
    rw [List.append_assoc] at H2
    exact H2
theorem pU_appT {row : List Int} (hd : p + 5 ≤ q ∨ q + 5 ≤ p) (Hp : pU h p (row.take 150)) (Hq : pU h q m) :
    jF (jm_D (d + 2) mX3_append [.ref p, .ref q, .int 0, .int (Int32.ofNat m.length)] h) (.inl none) fun h' => jS (jn p 5) h h' ∧ pU h' p ((row ++ m).take 150) := by
  have := jE_of (fun r => gX3_append) (pU_appT_loop (d := d) (o2 := some (.int 0)) hd (Nat.le_refl m.length) m.length 0 row h (by omega) Hp Hq)
  rw [List.drop_zero, List.take_length] at this
  exact this
end PT
/-- Telling's own cells -/
def tH (h : jm_H) (x bb : Nat) (st : List Nat) (pt i : Nat) : Prop := oC h (x + 217) 6 [.ref (x + 105), .ref (x + 218), .int (Int32.ofNat st.length), .int (Int32.ofNat pt), .ref bb, .int (Int32.ofNat i)] ∧ ∃ MA, lC h (x + 218) 8 MA ∧ (∀ i, i < st.length → MA i = nm (st.getD (st.length - 1 - i) 0 : Nat)) ∧ ∀ w ∈ st, w < q10
/-- the book that is told, before plays are looked up -/
def xB (h : jm_H) (x bb ln : Nat) (T : List aK4) (MK : Nat → Int32) (B : aB) (cs : List (Nat × Nat)) : Prop :=
  kR h x ln T MK ∧ bC h bb B.1 B.2.1 B.2.2.2.length cs ∧ (∀ p, p < 12 → ∃ l, pU h (bb + 13 + 5 * p) l) ∧ (∀ p, p < B.2.1.length → pL h (bb + 13 + 5 * p) (B.2.2.1 p)) ∧ (∀ n, n < 16 → ∃ x1 x2 x3 x4, oC h (bb + 73 + n) 2 [.int x1, .int x2, .int x3, .int x4]) ∧ (∀ n, n < B.2.2.2.length → nA h (bb + 73 + n) cs (B.2.2.2.getD n n0)) ∧ bN B.1 ∧ bN B.2.1
def xU (x bb p a : Nat) : Prop := a = x + 217 ∨ a = x + 218 ∨ jn (bb + 13 + 5 * p) 5 a
section TL
variable {h h' : jm_H} {d x bb ln i pt : Nat} {T : List aK4} {MK : Nat → Int32} {cs : List (Nat × Nat)} {B : aB} {st : List Nat} {row : List Int}
theorem tH_ob (H : tH h x bb st pt i) : jm_ob h (x + 217) 6 = true := oC_ob H.1 rfl
theorem tH_0 (H : tH h x bb st pt i) : jr_R h (x + 217) 6 0 2 = some (x + 105) := oC_R H.1 rfl
theorem tH_1 (H : tH h x bb st pt i) : jr_R h (x + 217) 6 1 2 = some (x + 218) := oC_R H.1 rfl
theorem tH_2 (H : tH h x bb st pt i) : jr_I h (x + 217) 6 2 0 = some (Int32.ofNat st.length) := oC_I H.1 rfl
theorem tH_3 (H : tH h x bb st pt i) : jr_I h (x + 217) 6 3 0 = some (Int32.ofNat pt) := oC_I H.1 rfl
theorem tH_4 (H : tH h x bb st pt i) : jr_R h (x + 217) 6 4 2 = some bb := oC_R H.1 rfl
theorem tH_5 (H : tH h x bb st pt i) : jr_I h (x + 217) 6 5 0 = some (Int32.ofNat i) := oC_I H.1 rfl
theorem tH_tr {U : Nat → Prop} (H : tH h x bb st pt i) (F : jS U h h') (D1 : ¬ U (x + 217)) (D2 : ¬ U (x + 218)) : tH h' x bb st pt i := by
  obtain ⟨a, MA, b, c⟩ := H
  exact ⟨oC_tr a F D1, MA, lC_tr b F D2, c⟩
theorem tH_at (H : tH h x bb st pt i) (j : Nat) : ∃ h', jm_pf h (x + 217) 6 5 0 (.int (Int32.ofNat j)) = some h' ∧ jS (jn (x + 217) 1) h h' ∧ tH h' x bb st pt j := by
  obtain ⟨a, MA, b, c⟩ := H
  obtain ⟨h1, e1, F1, H1⟩ := oC_w (k := 5) (t := 0) (v := .int (Int32.ofNat j)) a (by simp) rfl
  exact ⟨h1, e1, F1, H1, MA, lC_tr b F1 (by unfold jn; omega), c⟩
theorem tH_pt (H : tH h x bb st pt i) (j : Nat) : ∃ h', jm_pf h (x + 217) 6 3 0 (.int (Int32.ofNat j)) = some h' ∧ jS (jn (x + 217) 1) h h' ∧ tH h' x bb st j i := by
  obtain ⟨a, MA, b, c⟩ := H
  obtain ⟨h1, e1, F1, H1⟩ := oC_w (k := 3) (t := 0) (v := .int (Int32.ofNat j)) a (by simp) rfl
  exact ⟨h1, e1, F1, H1, MA, lC_tr b F1 (by unfold jn; omega), c⟩
theorem tH_pop {w : Nat} (H : tH h x bb (w :: st) pt i) : ∃ h', jm_pf h (x + 217) 6 2 0 (.int (Int32.ofNat st.length)) = some h' ∧ jS (jn (x + 217) 1) h h' ∧ tH h' x bb st pt i := by
  obtain ⟨a, MA, b, c, c2⟩ := H
  obtain ⟨h1, e1, F1, H1⟩ := oC_w (k := 2) (t := 0) (v := .int (Int32.ofNat st.length)) a (by simp) rfl
  refine ⟨h1, e1, F1, H1, MA, lC_tr b F1 (by unfold jn; omega), fun j hj => ?_, fun v hv => c2 v (List.mem_cons_of_mem _ hv)⟩
  rw [c j (by rw [List.length_cons]; omega)]
  rw [List.length_cons, show st.length + 1 - 1 - j = (st.length - 1 - j) + 1 by omega]
  rfl
theorem xB_tr {U : Nat → Prop} (H : xB h x bb ln T MK B cs) (F : jS U h h') (D1 : ∀ y, U y → jn (x + 105) 7 y → False) (D2 : ∀ y, U y → jn bb 89 y → False) : xB h' x bb ln T MK B cs := by
  obtain ⟨a1, a2, a3, a4, a5, a6, a7⟩ := H
  have hb := bC_le a2
  refine ⟨kR_tr a1 F D1, bC_tr a2 F (fun y y1 y2 => D2 y y1 (by unfold jn at y2 ⊢; omega)), fun p hp => ?_, fun p hp => ?_, fun n hn => ?_, fun n hn => ?_, a7⟩
  · obtain ⟨l, hl⟩ := a3 p hp
    exact ⟨l, pU_tr hl F fun y y1 y2 => D2 y y1 (by unfold jn at y2 ⊢; omega)⟩
  · exact pL_tr (a4 p hp) F fun y y1 y2 => D2 y y1 (by unfold jn at y2 ⊢; omega)
  · obtain ⟨x1, x2, x3, x4, hx⟩ := a5 n hn
    exact ⟨x1, x2, x3, x4, oC_tr hx F fun z => D2 _ z (by unfold jn; omega)⟩
  · exact nA_tr (a6 n hn) F fun z => D2 _ z (by unfold jn; omega)
/-- the part that is told changes -/
theorem xB_pl {l : List Int} (hb : bb = x + 1 ∨ bb = x + 112) (h12 : B.2.1.length < 12) (H : xB h x bb ln T MK B cs) (F : jS (xU x bb B.2.1.length) h h') (HP : pU h' (bb + 13 + 5 * B.2.1.length) l) : xB h' x bb ln T MK B cs := by
  obtain ⟨a1, a2, a3, a4, a5, a6, a7⟩ := H
  have hle := bC_le a2
  refine ⟨kR_tr a1 F (fun y y1 y2 => by unfold xU jn at y1; unfold jn at y2; omega), bC_tr a2 F (fun y y1 y2 => by unfold xU jn at y1; unfold jn at y2; omega), fun p hp => ?_, fun p hp => ?_, fun n hn => ?_, fun n hn => ?_, a7⟩
  · by_cases e : p = B.2.1.length
    · subst e; exact ⟨l, HP⟩
    · obtain ⟨l', hl⟩ := a3 p hp
      exact ⟨l', pU_tr hl F fun y y1 y2 => by unfold xU jn at y1; unfold jn at y2; omega⟩
  · exact pL_tr (a4 p hp) F fun y y1 y2 => by unfold xU jn at y1; unfold jn at y2; omega
  · obtain ⟨x1, x2, x3, x4, hx⟩ := a5 n hn
    exact ⟨x1, x2, x3, x4, oC_tr hx F fun z => by unfold xU jn at z; omega⟩
  · exact nA_tr (a6 n hn) F fun z => by unfold xU jn at z; omega
/-- one more element -/
theorem t_addTo {e : Int} {pp : Nat} (hp : x + 219 ≤ pp ∨ pp + 5 ≤ x + 217) (H : tH h x bb st row.length i) (HP : pU h pp (row.take 150)) : jF (jm_D (d + 2) mX6_addTo [.ref (x + 217), .ref pp, .int (ky e), .long (nm e)] h) (.inl none) fun h' => jS (fun a => a = x + 217 ∨ a = x + 218 ∨ jn pp 5 a) h h' ∧ tH h' x bb st (row ++ [e]).length i ∧ pU h' pp ((row ++ [e]).take 150) := by
  refine jE_of (fun r => gX6_addTo) ?_
  rw [jm_O_eq (pU_ob HP)]
  refine jE_V (pU_addT HP) ?_
  rintro h1 ⟨F1, P1⟩
  have H1 := tH_tr H F1 (by unfold jn; omega) (by unfold jn; omega)
  obtain ⟨h2, e2, F2, H2⟩ := tH_pt H1 (row.length + 1)
  simp only [tH_3 H1, Option.bind_some, jw_add1, e2]
  refine jF_end ⟨jS_tr (jS_mn F1 fun a ha => Or.inr (Or.inr ha)) (jS_mn F2 fun a ha => Or.inl (by unfold jn at ha; omega)), ?_, pU_tr P1 F2 fun y y1 y2 => by unfold jn at y1 y2; omega⟩
  rw [List.length_append]
  exact H2
theorem t_scenes {pp : Nat} {m : Nat} (hm : m < 2147483648) (hp : pp + 5 ≤ x + 217 ∧ (x + 112 ≤ pp ∨ pp + 5 ≤ x + 105)) (hi : i < T.length) (hK : MK i = Int32.ofNat m) : ∀ (f n : Nat) (row : List Int) (h : jm_H), n + f = m → kR h x ln T MK → tH h x bb st row.length i → pU h pp (row.take 150) → jF (kX6_tokenOf_82 (d + 3) (x + 217) pp (Int32.ofNat n) h) (.inl (some (.int 0))) fun h' => jS (fun a => a = x + 217 ∨ a = x + 218 ∨ jn pp 5 a) h h' ∧ tH h' x bb st (row ++ List.replicate f 0).length i ∧ pU h' pp ((row ++ List.replicate f 0).take 150) := by
  intro f
  induction f with
  | zero =>
    intro n row h hn R H HP
    refine jE_of (fun r => gX6_tokenOf_82) ?_
    simp only [tH_0 H, tH_5 H, Option.bind_some, jm_O_eq (kR_ob R), k_markAt hi R, jc_I_eq, hK]
    rw [if_neg (by rw [jw_lt (by omega) (by omega)]; omega)]
    rw [List.replicate_zero, List.append_nil]
    exact jF_end ⟨jS_rf, H, HP⟩
  | succ f ih =>
    intro n row h hn R H HP
    refine jE_of (fun r => gX6_tokenOf_82) ?_
    simp only [tH_0 H, tH_5 H, Option.bind_some, jm_O_eq (kR_ob R), k_markAt hi R, jc_I_eq, hK, jm_O_eq (tH_ob H)]
    rw [if_pos (by rw [jw_lt (by omega) (by omega)]; omega)]
    have ad := t_addTo (d := d + 1) (e := 0) (by omega) H HP
    have e0 : nm (0 : Int) = 0 := nm0
    rw [show ky 0 = 2 from rfl, e0] at ad
    refine jE_V ad ?_
    rintro h1 ⟨F1, H1, P1⟩
    rw [jw_add1]
    refine jF_mono (ih (n + 1) (row ++ [0]) h1 (by omega) (kR_tr R F1 fun y y1 y2 => by unfold jn at y1 y2; omega) H1 P1) ?_
    rintro h2 ⟨F2, H2, P2⟩
    have el : row ++ [0] ++ List.replicate f 0 = row ++ List.replicate (f + 1) 0 := by rw [List.append_assoc, List.replicate_succ]; rfl
    rw [el] at H2 P2
    exact ⟨jS_tr F1 F2, H2, P2⟩
theorem t_around_loop {w : Nat} (hw : w < q10) (h8 : st.length ≤ 8) (H : tH h x bb st pt i) : ∀ (f n : Nat), n + f = st.length → jm_B d mX6_isMaskAround = jm_B d mX6_isMaskAround → ∃ b : Bool, kX6_isMaskAround_2 d (x + 217) (nm (w : Nat)) (Int32.ofNat n) h = some (.inl (some (.int (if b = true then 1 else 0))), h) ∧ (b = true ↔ ∃ k, n ≤ k ∧ k < st.length ∧ st.getD (st.length - 1 - k) 0 = w) := by
  have H2 := tH_2 H
  have H1' := tH_1 H
  obtain ⟨a, MA, b, c, c2⟩ := H
  have hq : ∀ k, k < st.length → st.getD (st.length - 1 - k) 0 < q10 := fun k hk => by
    refine c2 _ ?_
    rw [List.getD, List.getElem?_eq_getElem (by omega)]
    exact List.getElem_mem _
  intro f
  induction f with
  | zero =>
    intro n hn _
    refine ⟨false, ?_, ⟨fun z => (by cases z), fun ⟨k, k1, k2, _⟩ => by omega⟩⟩
    apply gX6_isMaskAround_2
    simp only [H2, Option.bind_some]
    rw [if_neg (by rw [jw_lt (by omega) (by omega)]; omega)]
    rfl
  | succ f ih =>
    intro n hn _
    obtain ⟨b', e', h'⟩ := ih (n + 1) (by omega) rfl
    by_cases q : st.getD (st.length - 1 - n) 0 = w
    · refine ⟨true, ?_, ⟨fun _ => ⟨n, Nat.le_refl _, by omega, q⟩, fun _ => rfl⟩⟩
      apply gX6_isMaskAround_2
      simp only [H2, H1', Option.bind_some, lC_len b, lC_at b (show n < 8 by omega) (by omega), c n (by omega), lg_0]
      rw [if_pos (by rw [jw_lt (by omega) (by omega)]; omega), if_pos (by rw [jw_lt (by omega) (by omega)]; omega), if_pos (by rw [q])]
      rfl
    · refine ⟨b', ?_, ?_⟩
      · apply gX6_isMaskAround_2
        simp only [H2, H1', Option.bind_some, lC_len b, lC_at b (show n < 8 by omega) (by omega), c n (by omega), lg_0, nm_eqN (hq n (by omega)) hw, jw_add1]
        rw [if_pos (by rw [jw_lt (by omega) (by omega)]; omega), if_pos (by rw [jw_lt (by omega) (by omega)]; omega), if_neg q]
        exact e'
      · rw [h']
        refine ⟨fun ⟨k, k1, k2, k3⟩ => ⟨k, by omega, k2, k3⟩, fun ⟨k, k1, k2, k3⟩ => ⟨k, ?_, k2, k3⟩⟩
        by_cases e : k = n
        · subst e; exact absurd k3 q
        · omega
theorem t_around {w : Nat} (hw : w < q10) (h8 : st.length ≤ 8) (H : tH h x bb st pt i) : jm_D (d + 1) mX6_isMaskAround [.ref (x + 217), .long (nm (w : Nat))] h = some (.inl (some (.int (if w ∈ st then 1 else 0))), h) := by
  apply gX6_isMaskAround
  obtain ⟨b, e, hb⟩ := t_around_loop (d := d) hw h8 H st.length 0 (by omega) rfl
  have e' : kX6_isMaskAround_2 d (x + 217) (nm (w : Nat)) 0 h = _ := e
  rw [e']
  have hm : w ∈ st ↔ b = true := by
    rw [hb]
    constructor
    · intro hw'
      obtain ⟨k, hk, rfl⟩ := List.getElem_of_mem hw'
      refine ⟨st.length - 1 - k, Nat.zero_le _, by omega, ?_⟩
      rw [show st.length - 1 - (st.length - 1 - k) = k by omega, List.getD, List.getElem?_eq_getElem hk]
      rfl
    · rintro ⟨k, -, k2, rfl⟩
      rw [List.getD, List.getElem?_eq_getElem (by omega)]
      exact List.getElem_mem _
  by_cases c : b = true
  · rw [if_pos c, if_pos (hm.mpr c)]
  · rw [if_neg c, if_neg (fun z => c (hm.mp z))]
end TL
/-! ===== LEVEL 3: Telling, parts ===== -/
/-- what one token of a part leaves: the place is that of its last token -/
def xT (x bb ln : Nat) (T : List aK4) (MK : Nat → Int32) (B : aB) (cs : List (Nat × Nat)) (h : jm_H) (r : aX) (v : Option Value ⊕ Nat) (h' : jm_H) : Prop :=
  jS (xU x bb B.2.1.length) h h' ∧ xB h' x bb ln T MK B cs ∧ match r with
  | .inl e => v = .inl (some (.int (Int32.ofNat e.1))) ∧ ∃ st pt, tH h' x bb st pt e.2
  | .inr s => ∃ j, s.2.2 = j + 1 ∧ v = .inl (some (.int 0)) ∧ tH h' x bb s.1 s.2.1.length j ∧ pU h' (bb + 13 + 5 * B.2.1.length) (s.2.1.take 150)
section TP
variable {h h' : jm_H} {d x bb ln i pt : Nat} {T : List aK4} {MK : Nat → Int32} {cs : List (Nat × Nat)} {B : aB} {st : List Nat} {row : List Int} {M : Nat → Nat}
theorem jp_ite {P : Prop} [Decidable P] : jp P = if P then 1 else 0 := by
  by_cases c : P
  · rw [jp_T c, if_pos c]
  · rw [jp_F c, if_neg c]
theorem ky_neg {w : Nat} (h : 0 < w) : ky (-(w : Int)) = 1 := by
  unfold ky
  split
  · omega
  split
  · rfl
  · omega
theorem ky_pos {w : Nat} (h : 0 < w) : ky (w : Int) = 0 := by
  unfold ky
  split
  · omega
  split
  · omega
  · rfl
theorem nm_neg {w : Int} : nm (-w) = nm w := by unfold nm; rw [Int.natAbs_neg]
theorem t_tokenOf (hb : bb = x + 1 ∨ bb = x + 112) (hN : gTn T) (hM : ∀ j, uK T j = 22 → MK j = Int32.ofNat (M j) ∧ M j < 2147483648) (hT : gT T) (h12 : B.2.1.length < 12) (hi : i < 2000) (hk : uK T i < 2147483648) (h8 : st.length ≤ 8) (hG : qGd T (st, row, i)) (H : tH h x bb st row.length i) (HB : xB h x bb ln T MK B cs) (HP : pU h (bb + 13 + 5 * B.2.1.length) (row.take 150)) :
    jE (jm_D (d + 5) mX6_tokenOf [.ref (x + 217), .ref (bb + 13 + 5 * B.2.1.length)] h) (xT x bb ln T MK B cs h (qOn T M B.1 B.2.1 B.2.2.1 (st, row, i))) := by
  have hpp : bb + 13 + 5 * B.2.1.length + 5 ≤ x + 217 ∧ (x + 112 ≤ bb + 13 + 5 * B.2.1.length ∨ bb + 13 + 5 * B.2.1.length + 5 ≤ x + 105) := by omega
  have hQ : ∀ {w : Nat}, vW w ∧ 0 < w → w < q10 := fun z => z.1.1
  have own : ∀ {h1 : jm_H} {l : List Int}, jS (xU x bb B.2.1.length) h h1 → pU h1 (bb + 13 + 5 * B.2.1.length) l → xB h1 x bb ln T MK B cs := fun F P => xB_pl hb h12 HB F P
  have s1 : ∀ {h1 h2 : jm_H}, jS (jn (x + 217) 1) h1 h2 → jS (xU x bb B.2.1.length) h1 h2 := fun F => jS_mn F fun a ha => Or.inl (by unfold jn at ha; omega)
  have s2 : ∀ {h1 h2 : jm_H}, jS (fun a => a = x + 217 ∨ a = x + 218 ∨ jn (bb + 13 + 5 * B.2.1.length) 5 a) h1 h2 → jS (xU x bb B.2.1.length) h1 h2 := fun F => F
  refine jE_of (fun r => gX6_tokenOf) ?_
  simp only [tH_0 H, tH_5 H, Option.bind_some, jm_O_eq (kR_ob HB.1), k_kindAt (show i < 2147483648 by omega) HB.1, jc_I_eq]
  unfold qOn
  by_cases c3 : uK T i = 3
  · rw [if_pos (show Int32.ofNat (uK T i) = 3 by rw [c3]; rfl), if_pos c3]
    obtain ⟨g1, g2⟩ := hG.2.1 c3
    have hw := hN (i + 1) g2
    have g1' : st.length < 8 := g1
    obtain ⟨h1, e1, F1, H1⟩ := tH_at H (i + 1)
    have P1 := pU_tr HP F1 fun y y1 y2 => by unfold jn at y1 y2; omega
    have B1 := own (s1 F1) P1
    simp only [jw_add1, e1, Option.bind_some, jm_O_eq (tH_ob H1)]
    -- mask
    have key : jE (jm_D (d + 4) mX6_mask [.ref (x + 217), .ref (bb + 13 + 5 * B.2.1.length)] h1) (xT x bb ln T MK B cs h1 (if qkn B.1 B.2.1 (uW T (i + 1)) then .inl (2, i + 1) else .inr (uW T (i + 1) :: st, row ++ [-(uW T (i + 1) : Int)], i + 2))) := by
      refine jE_of (fun r => gX6_mask) ?_
      have kn := b_knows (d := d + 1) B1.2.2.2.2.2.2.1 B1.2.2.2.2.2.2.2 (hQ hw) B1.2.1
      simp only [tH_0 H1, tH_5 H1, tH_4 H1, Option.bind_some, jm_O_eq (kR_ob B1.1), k_wordAt (show i + 1 < 2147483648 by omega) B1.1, jc_L_eq, jm_O_eq (bC_ob B1.2.1), kn, jc_I_eq]
      by_cases c : qkn B.1 B.2.1 (uW T (i + 1))
      · rw [jp_T c, if_neg (by decide), if_pos c]
        exact jE_end ⟨jS_rf, B1, rfl, st, row.length, H1⟩
      · rw [jp_F c, if_pos rfl, if_neg c]
        obtain ⟨a, MA, b, cc, c2⟩ := id H1
        obtain ⟨h2, e2, F2, X2⟩ := lC_w (x := nm (uW T (i + 1) : Nat)) b g1' (by omega)
        obtain ⟨h3, e3, F3, X3⟩ := oC_w (k := 2) (t := 0) (v := .int (Int32.ofNat (st.length + 1))) (oC_tr a F2 (by unfold jn; omega)) (by simp) rfl
        have a2 := oC_tr a F2 (by unfold jn; omega)
        have e4 : jr_I h2 (x + 217) 6 2 0 = some (Int32.ofNat st.length) := oC_I a2 rfl
        have H3 : tH h3 x bb (uW T (i + 1) :: st) row.length (i + 1) := by
          refine ⟨X3, _, lC_tr X2 F3 (by unfold jn; omega), fun j hj => ?_, fun v hv => ?_⟩
          · rw [List.length_cons] at hj ⊢
            by_cases e : j = st.length
            · subst e
              rw [show st.length + 1 - 1 - st.length = 0 by omega]
              exact if_pos rfl
            · rw [show st.length + 1 - 1 - j = (st.length - 1 - j) + 1 by omega]
              exact (if_neg e).trans (cc j (by omega))
          · rcases List.mem_cons.mp hv with e | e
            · rw [e]; exact hQ hw
            · exact c2 v e
        have F23 : jS (xU x bb B.2.1.length) h1 h3 := jS_tr (jS_mn F2 fun a ha => Or.inr (Or.inl (by unfold jn at ha; omega))) (s1 F3)
        have P3 : pU h3 (bb + 13 + 5 * B.2.1.length) (row.take 150) := pU_tr (pU_tr P1 F2 fun y y1 y2 => by unfold jn at y1 y2; omega) F3 fun y y1 y2 => by unfold jn at y1 y2; omega
        have ad := t_addTo (d := d + 1) (e := -(uW T (i + 1) : Int)) (by omega) H3 P3
        rw [ky_neg hw.2, nm_neg] at ad
        simp only [tH_2 H1, tH_1 H1, Option.bind_some, lC_len b, e2, e4, jw_add1, e3, jm_O_eq (tH_ob H3)]
        rw [if_neg (by rw [jw_neg (by omega)]; exact id), if_pos (by rw [jw_lt (by omega) (by omega)]; exact g1')]
        refine jE_V ad ?_
        rintro h4 ⟨F4, H4, P4⟩
        have F : jS (xU x bb B.2.1.length) h1 h4 := jS_tr F23 (s2 F4)
        exact jE_end ⟨F, xB_pl hb h12 B1 F P4, i + 1, rfl, rfl, H4, P4⟩
    obtain ⟨v, h2, e2, F2, B2, Q2⟩ := key
    rw [e2]
    have : ∃ y, v = .inl (some (.int y)) := by
      by_cases c : qkn B.1 B.2.1 (uW T (i + 1))
      · rw [if_pos c] at Q2; exact ⟨_, Q2.1⟩
      · rw [if_neg c] at Q2
        obtain ⟨j, -, q, -⟩ := Q2
        exact ⟨_, q⟩
    obtain ⟨y, rfl⟩ := this
    rw [jc_I_eq]
    exact jE_end ⟨jS_tr (s1 F1) F2, B2, Q2⟩
  rw [if_neg (show ¬ Int32.ofNat (uK T i) = 3 from jne (b := 3) hk (by omega) c3), if_neg c3]
  by_cases c21 : uK T i = 21
  · rw [if_pos (show Int32.ofNat (uK T i) = 21 by rw [c21]; rfl), if_pos c21]
    have hne := hG.2.2 c21
    match st, hne, H, h8 with
    | w :: st, _, H, h8 =>
      obtain ⟨h1, e1, F1, H1⟩ := tH_pop H
      have e1' : jm_pf h (x + 217) 6 2 0 (.int (Int32.ofNat (w :: st).length - 1)) = some h1 := by
        rw [List.length_cons, jw_sub1]; exact e1
      simp only [tH_2 H, Option.bind_some, e1']
      have P1 := pU_tr HP F1 fun y y1 y2 => by unfold jn at y1 y2; omega
      exact jE_end ⟨s1 F1, own (s1 F1) P1, i, rfl, rfl, H1, P1⟩
  rw [if_neg (show ¬ Int32.ofNat (uK T i) = 21 from jne (b := 21) hk (by omega) c21), if_neg c21]
  by_cases c22 : uK T i = 22
  · rw [if_pos (show Int32.ofNat (uK T i) = 22 by rw [c22]; rfl), if_pos c22]
    have hM' := hM i c22
    have hl := hT.2 i (by omega) (by omega)
    by_cases c1 : 1 ≤ M i
    · have := t_scenes (d := d + 1) (i := i) hM'.2 hpp (by omega) hM'.1 (M i - 1) 1 row h (by omega) HB.1 H HP
      refine jE_mono this ?_
      rintro w h1 ⟨e1, F1, H1, P1⟩
      exact ⟨s2 F1, own (s2 F1) P1, i, rfl, e1, H1, P1⟩
    · refine jE_of (fun r => gX6_tokenOf_82) ?_
      simp only [tH_0 H, tH_5 H, Option.bind_some, jm_O_eq (kR_ob HB.1), k_markAt (show i < T.length by omega) HB.1, jc_I_eq, hM'.1]
      rw [if_neg (by rw [show (1 : Int32) = Int32.ofNat 1 from rfl, jw_lt (by omega) (by omega)]; omega)]
      refine jE_end ⟨jS_rf, HB, i, rfl, rfl, ?_, ?_⟩
      · show tH h x bb st (row ++ List.replicate (M i - 1) 0).length i
        rw [show M i - 1 = 0 by omega, List.replicate_zero, List.append_nil]; exact H
      · show pU h _ ((row ++ List.replicate (M i - 1) 0).take 150)
        rw [show M i - 1 = 0 by omega, List.replicate_zero, List.append_nil]; exact HP
  rw [if_neg (show ¬ Int32.ofNat (uK T i) = 22 from jne (b := 22) hk (by omega) c22), if_neg c22]
  by_cases c35 : uK T i = 35
  · rw [if_pos (show Int32.ofNat (uK T i) = 35 by rw [c35]; rfl), if_pos c35]
    have hw := hN i c35
    have ad := t_addTo (d := d + 1) (e := (uW T i : Int)) (by omega) H HP
    rw [ky_pos hw.2] at ad
    have adk : ∀ {P : Prop}, jE (jc_V (jm_D (d + 1 + 2) mX6_addTo [.ref (x + 217), .ref (bb + 13 + 5 * B.2.1.length), .int 0, .long (nm (uW T i : Nat))] h) (fun h53 => some (.inl (some (.int 0)), h53)) jx) (xT x bb ln T MK B cs h (.inr (st, row ++ [(uW T i : Int)], i + 1))) := fun {P} => by
      refine jE_V ad ?_
      rintro h1 ⟨F1, H1, P1⟩
      exact jE_end ⟨s2 F1, own (s2 F1) P1, i, rfl, rfl, H1, P1⟩
    have key : jE (jm_D (d + 4) mX6_name [.ref (x + 217), .ref (bb + 13 + 5 * B.2.1.length)] h) (xT x bb ln T MK B cs h (if uW T i ∈ st ∨ 0 ≤ fd B.1 (uW T i) then .inr (st, row ++ [(uW T i : Int)], i + 1) else if 0 ≤ fd B.2.1 (uW T i) then .inr (st, row ++ B.2.2.1 (fd B.2.1 (uW T i)).toNat, i + 1) else .inl (3, i))) := by
      refine jE_of (fun r => gX6_name) ?_
      have ar := t_around (d := d + 2) (hQ hw) h8 H
      have ao := b_actorOf (d := d + 2) HB.2.2.2.2.2.2.1 (hQ hw) HB.2.1
      have po := b_playOf (d := d + 2) HB.2.2.2.2.2.2.2 (hQ hw) HB.2.1
      have fa := fd_b (l := B.1) (x := uW T i)
      have fp := fd_b (l := B.2.1) (x := uW T i)
      have hle := bC_le HB.2.1
      simp only [tH_0 H, tH_5 H, tH_4 H, Option.bind_some, jm_O_eq (kR_ob HB.1), k_wordAt (show i < 2147483648 by omega) HB.1, jc_L_eq, jm_O_eq (tH_ob H), ar, jc_I_eq, jm_O_eq (bC_ob HB.2.1), ao, po]
      by_cases c1 : uW T i ∈ st
      · rw [if_pos c1, if_neg (by decide), if_pos (Or.inl c1)]
        exact adk (P := True)
      rw [if_neg c1, if_pos rfl]
      by_cases c2 : 0 ≤ fd B.1 (uW T i)
      · rw [if_neg (show ¬ Int32.ofInt (fd B.1 (uW T i)) < 0 by rw [← Int.toNat_of_nonneg c2, jw_in, jw_neg (by omega)]; exact id), if_pos (Or.inr c2)]
        exact adk (P := True)
      rw [if_pos (show Int32.ofInt (fd B.1 (uW T i)) < 0 by rw [show fd B.1 (uW T i) = -1 by omega]; decide), if_neg (show ¬ (uW T i ∈ st ∨ 0 ≤ fd B.1 (uW T i)) from fun z => z.elim c1 c2)]
      by_cases c4 : 0 ≤ fd B.2.1 (uW T i)
      · obtain ⟨p, hp⟩ : ∃ p : Nat, fd B.2.1 (uW T i) = (p : Int) := ⟨_, (Int.toNat_of_nonneg c4).symm⟩
        rw [hp, if_neg (show ¬ Int32.ofInt (p : Int) < 0 by rw [jw_in, jw_neg (by omega)]; exact id), if_pos (show (0 : Int) ≤ (p : Int) by omega), jw_in, Int.toNat_natCast]
        have hpl : p < B.2.1.length := by omega
        have PW := HB.2.2.2.1 p hpl
        obtain ⟨K, N, E, O, pc, -⟩ := id (pL_U PW)
        simp only [b_toldAt (d := d + 2) HB.2.1 (show p < 12 by omega), jc_R_eq, pC_n pc, Option.bind_some, jm_O_eq (pU_ob HP)]
        refine jE_V (pU_appT (d := d + 1) (by omega) HP (pL_U PW)) ?_
        rintro h1 ⟨F1, P1⟩
        have F1' : jS (xU x bb B.2.1.length) h h1 := jS_mn F1 fun a ha => Or.inr (Or.inr ha)
        have H1 := tH_tr H F1 (by unfold jn; omega) (by unfold jn; omega)
        have B1 := own F1' P1
        obtain ⟨K', N', E', O', pc', -⟩ := id (pL_U (B1.2.2.2.1 p hpl))
        obtain ⟨h2, e2, F2, H2⟩ := tH_pt H1 (row.length + (B.2.2.1 p).length)
        simp only [tH_3 H1, pC_n pc', Option.bind_some, jw_add, e2]
        have P2 := pU_tr P1 F2 fun y y1 y2 => by unfold jn at y1 y2; omega
        have F := jS_tr F1' (s1 F2)
        refine jE_end ⟨F, own F P2, i, rfl, rfl, ?_, P2⟩
        show tH h2 x bb st (row ++ B.2.2.1 p).length i
        rw [List.length_append]
        exact H2
      · rw [if_pos (show Int32.ofInt (fd B.2.1 (uW T i)) < 0 by rw [show fd B.2.1 (uW T i) = -1 by omega]; decide), if_neg c4]
        exact jE_end ⟨jS_rf, HB, rfl, st, row.length, H⟩
    obtain ⟨v, h2, e2, F2, B2, Q2⟩ := key
    rw [jm_O_eq (tH_ob H), e2]
    have : ∃ y, v = .inl (some (.int y)) := by
      by_cases c1 : uW T i ∈ st ∨ 0 ≤ fd B.1 (uW T i)
      · rw [if_pos c1] at Q2; obtain ⟨j, -, q, -⟩ := Q2; exact ⟨_, q⟩
      rw [if_neg c1] at Q2
      by_cases c2 : 0 ≤ fd B.2.1 (uW T i)
      · rw [if_pos c2] at Q2; obtain ⟨j, -, q, -⟩ := Q2; exact ⟨_, q⟩
      · rw [if_neg c2] at Q2; exact ⟨_, Q2.1⟩
    obtain ⟨y, rfl⟩ := this
    rw [jc_I_eq]
    exact jE_end ⟨F2, B2, Q2⟩
  rw [if_neg (show ¬ Int32.ofNat (uK T i) = 35 from jne (b := 35) hk (by omega) c35), if_neg c35]
  exact jE_end ⟨jS_rf, HB, i, rfl, rfl, H, HP⟩
end TP
/-! ===== LEVEL 3: Telling, actors and plays ===== -/
def xL (x bb ln : Nat) (T : List aK4) (cs : List (Nat × Nat)) (MK : Nat → Int32) (h : jm_H) (nx : Nat) (r : (Nat × Nat) ⊕ aB) (v : Option Value ⊕ Nat) (h' : jm_H) : Prop :=
  jS (fun a => a = x + 217 ∨ a = x + 218 ∨ jn (x + 105) 7 a ∨ jn bb 89 a) h h' ∧ match r with
  | .inl e => v = .inl (some (.int (Int32.ofNat e.1))) ∧ (∃ st pt, tH h' x bb st pt e.2) ∧ ∃ B' MK', xB h' x bb ln T MK' B' cs
  | .inr B' => v = .inl (some (.int 0)) ∧ (∃ st pt, tH h' x bb st pt nx) ∧ xB h' x bb ln T MK B' cs
theorem fdx_app {l : List Nat} {w z : Nat} : ∀ {f i : Nat}, i + f = l.length → 0 ≤ fdx l w f i → fdx (l ++ [z]) w (f + 1) i = fdx l w f i
  | 0, i, h, h0 => by
    have : (0 : Int) ≤ -1 := h0
    omega
  | f + 1, i, h, h0 => by
    have e1 : fdx l w (f + 1) i = if l.getD i 0 = w then (i : Int) else fdx l w f (i + 1) := rfl
    have e2 : fdx (l ++ [z]) w (f + 1 + 1) i = if (l ++ [z]).getD i 0 = w then (i : Int) else fdx (l ++ [z]) w (f + 1) (i + 1) := rfl
    have e3 : (l ++ [z]).getD i 0 = l.getD i 0 := by
      simp only [List.getD]
      rw [List.getElem?_append_left (by omega)]
    rw [e1] at h0 ⊢
    rw [e2, e3]
    by_cases c : l.getD i 0 = w
    · rw [if_pos c, if_pos c]
    · rw [if_neg c] at h0
      rw [if_neg c, if_neg c]
      exact fdx_app (by omega) h0
theorem fd_app {l : List Nat} {w z : Nat} (h : 0 ≤ fd l w) : fd (l ++ [z]) w = fd l w := by
  unfold fd at h ⊢
  rw [List.length_append]
  exact fdx_app (by omega) h
section TP
variable {h h' : jm_H} {d x bb ln i pt : Nat} {T : List aK4} {MK : Nat → Int32} {cs : List (Nat × Nat)} {B : aB} {st : List Nat} {row : List Int} {M : Nat → Nat}
theorem bN_app {l : List Nat} {w : Nat} (h : bN l) (hw : vW w ∧ 0 < w) : bN (l ++ [w]) := fun i hi => by
  rw [List.length_append] at hi
  have hi' : i < l.length + 1 := hi
  by_cases c : i < l.length
  · have : (l ++ [w]).getD i 0 = l.getD i 0 := by
      simp only [List.getD]
      rw [List.getElem?_append_left c]
    rw [this]; exact h i c
  · have : (l ++ [w]).getD i 0 = w := by
      rw [show i = l.length by omega]
      simp [List.getD]
    rw [this]; exact hw
theorem t_play_loop {j1 : Int64} (hb : bb = x + 1 ∨ bb = x + 112) (hN : gTn T) (hM : ∀ j, uK T j = 22 → MK j = Int32.ofNat (M j) ∧ M j ≤ 400) (hT : gT T) (hK : ∀ j, uK T j < 2147483648) (h12 : B.2.1.length < 12) (hW : ∀ p, p < B.2.1.length → (B.2.2.1 p).length ≤ 150) : ∀ (n k : Nat) (s : aQ) (r : aX) (h : jm_H) (o : Option Value), qS T M B.1 B.2.1 B.2.2.1 n s r → k + n ≤ 400 → s.2.2 + 2 * n < 2000 → s.1.length ≤ 8 → s.2.1.length ≤ 400 * k → tH h x bb s.1 s.2.1.length s.2.2 → xB h x bb ln T MK B cs → pU h (bb + 13 + 5 * B.2.1.length) (s.2.1.take 150) →
    match r with
    | .inl e => jE (kX6_play_91 (d + 5) (x + 217) j1 (bb + 13 + 5 * B.2.1.length) (Int32.ofNat k) o h) fun v h' => jS (xU x bb B.2.1.length) h h' ∧ v = .inl (some (.int (Int32.ofNat e.1))) ∧ (∃ st pt, tH h' x bb st pt e.2) ∧ xB h' x bb ln T MK B cs
    | .inr s' => s'.2.1.length ≤ 400 * (k + n) ∧ ∃ h' o', jS (xU x bb B.2.1.length) h h' ∧ tH h' x bb s'.1 s'.2.1.length s'.2.2 ∧ xB h' x bb ln T MK B cs ∧ pU h' (bb + 13 + 5 * B.2.1.length) (s'.2.1.take 150) ∧ ∀ R, kX6_play_91 (d + 5) (x + 217) j1 (bb + 13 + 5 * B.2.1.length) (Int32.ofNat (k + n)) o' h' = some R → kX6_play_91 (d + 5) (x + 217) j1 (bb + 13 + 5 * B.2.1.length) (Int32.ofNat k) o h = some R := by
  intro n
  induction n with
  | zero =>
    intro k s r h o hq hk hi h8 hr H HB HP
    have hq' : r = .inr s := hq
    subst hq'
    exact ⟨hr, h, o, jS_rf, H, HB, HP, fun R z => z⟩
  | succ n ih =>
    intro k s r h o hq hk hi h8 hr H HB HP
    obtain ⟨hG, hq⟩ := hq
    obtain ⟨st, row, i⟩ := s
    have hi' : i + 2 * (n + 1) < 2000 := hi
    have hr' : row.length ≤ 400 * k := hr
    have tok := t_tokenOf (d := d) hb hN (fun j z => ⟨(hM j z).1, by have := (hM j z).2; omega⟩) hT h12 (by omega) (hK i) h8 hG H HB HP
    have hn24 : uK T i ≠ 24 := hG.1
    have step : ∀ {R : jm_R}, jc_I (jm_D (d + 5) mX6_tokenOf [.ref (x + 217), .ref (bb + 13 + 5 * B.2.1.length)] h) (fun x65 h63 => (if x65 = 0 then (jr_I h63 (x + 217) 6 5 0).bind fun x67 => (jm_pf h63 (x + 217) 6 5 0 (.int (x67 + 1))).bind fun h69 => kX6_play_91 (d + 5) (x + 217) j1 (bb + 13 + 5 * B.2.1.length) (Int32.ofNat k + 1) (some (.int x65)) h69 else some (.inl (some (.int x65)), h63))) jx = some R → kX6_play_91 (d + 5) (x + 217) j1 (bb + 13 + 5 * B.2.1.length) (Int32.ofNat k) o h = some R := by
      intro R z
      apply gX6_play_91
      simp only [tH_0 H, tH_5 H, Option.bind_some, jm_O_eq (kR_ob HB.1), k_kindAt (show i < 2147483648 by omega) HB.1, jc_I_eq, jm_O_eq (tH_ob H)]
      rw [if_pos (by rw [show (400 : Int32) = Int32.ofNat 400 from rfl, jw_lt (by omega) (by omega)]; omega), if_neg (show ¬ Int32.ofNat (uK T i) = 24 from jne (b := 24) (hK i) (by omega) hn24)]
      exact z
    obtain ⟨v, h1, e1, F1, B1, Q1⟩ := tok
    have el : ∀ s', qOn T M B.1 B.2.1 B.2.2.1 (st, row, i) = .inr s' → s'.1.length ≤ 8 ∧ s'.2.1.length ≤ row.length + 400 ∧ s'.2.2 ≤ i + 2 := by
      intro s' e
      unfold qOn at e
      split at e
      · rename_i c
        split at e
        · cases e
        · cases e
          have := (hG.2.1 c).1
          have this' : st.length < 8 := this
          refine ⟨by show (_ :: st).length ≤ 8; simp; omega, by show (row ++ [_]).length ≤ _; simp, by show i + 2 ≤ i + 2; omega⟩
      split at e
      · cases e
        have h8' : st.length ≤ 8 := h8
        exact ⟨by show st.tail.length ≤ 8; simp; omega, by show row.length ≤ _; omega, by show i + 1 ≤ i + 2; omega⟩
      split at e
      · rename_i c
        cases e
        have := (hM i c).2
        exact ⟨h8, by show (row ++ List.replicate (M i - 1) 0).length ≤ _; simp; omega, by show i + 1 ≤ i + 2; omega⟩
      split at e
      · split at e
        · cases e
          exact ⟨h8, by show (row ++ [_]).length ≤ _; simp, by show i + 1 ≤ i + 2; omega⟩
        split at e
        · rename_i c
          cases e
          have fp := fd_b (l := B.2.1) (x := uW T i)
          have c' : 0 ≤ fd B.2.1 (uW T i) := c
          have := hW (fd B.2.1 (uW T i)).toNat (by omega)
          exact ⟨h8, by show (row ++ B.2.2.1 (fd B.2.1 (uW T i)).toNat).length ≤ _; simp; omega, by show i + 1 ≤ i + 2; omega⟩
        · cases e
      · cases e
        exact ⟨h8, by show row.length ≤ _; omega, by show i + 1 ≤ i + 2; omega⟩
    cases hq2 : qOn T M B.1 B.2.1 B.2.2.1 (st, row, i) with
    | inl e =>
      rw [hq2] at hq Q1
      have hq' : r = .inl e := hq
      subst hq'
      obtain ⟨rfl, tt⟩ := Q1
      refine ⟨_, _, step ?_, F1, rfl, tt, B1⟩
      rw [e1, jc_I_eq]
      have he : ¬ Int32.ofNat e.1 = 0 := by
        have : e.1 = 2 ∨ e.1 = 3 := by
          unfold qOn at hq2
          split at hq2
          · split at hq2
            · cases hq2; exact Or.inl rfl
            · cases hq2
          split at hq2
          · cases hq2
          split at hq2
          · cases hq2
          split at hq2
          · split at hq2
            · cases hq2
            split at hq2
            · cases hq2
            · cases hq2; exact Or.inr rfl
          · cases hq2
        rcases this with q | q <;> (rw [q]; decide)
      rw [if_neg he]
    | inr s' =>
      rw [hq2] at hq Q1
      have hq' : qS T M B.1 B.2.1 B.2.2.1 n s' r := hq
      obtain ⟨l1, l2, l3⟩ := el s' hq2
      obtain ⟨j, hj, rfl, H1, P1⟩ := Q1
      obtain ⟨h2, e2, F2, H2⟩ := tH_at H1 (j + 1)
      have F12 : jS (xU x bb B.2.1.length) h h2 := jS_tr F1 (jS_mn F2 fun a ha => Or.inl (by unfold jn at ha; omega))
      have P2 := pU_tr P1 F2 fun y y1 y2 => by unfold jn at y1 y2; omega
      have B2 := xB_pl hb h12 HB F12 P2
      rw [← hj] at H2
      have I := ih (k + 1) s' r h2 (some (.int 0)) hq' (by omega) (by omega) l1 (by omega) H2 B2 P2
      have st1 : ∀ R, kX6_play_91 (d + 5) (x + 217) j1 (bb + 13 + 5 * B.2.1.length) (Int32.ofNat (k + 1)) (some (.int 0)) h2 = some R → kX6_play_91 (d + 5) (x + 217) j1 (bb + 13 + 5 * B.2.1.length) (Int32.ofNat k) o h = some R := by
        intro R z
        apply step
        rw [e1, jc_I_eq, if_pos rfl]
        simp only [tH_5 H1, Option.bind_some, jw_add1, e2]
        exact z
      cases r with
      | inl e =>
        obtain ⟨v, h3, e3, F3, Q3⟩ := I
        exact ⟨v, h3, st1 _ e3, jS_tr F12 F3, Q3⟩
      | inr s2 =>
        obtain ⟨I1, h3, o3, F3, Q3, Q4, Q5, Q6⟩ := I
        refine ⟨by rw [show k + (n + 1) = k + 1 + n by omega]; exact I1, h3, o3, jS_tr F12 F3, Q3, Q4, Q5, fun R z => st1 R (Q6 R ?_)⟩
        rw [show k + 1 + n = k + (n + 1) by omega]
        exact z
theorem qGo_of {as ps : List Nat} {W : Nat → List Int} : ∀ {n f : Nat} {s : aQ} {r : aX}, qS T M as ps W n s r → n < f → (∀ s', r = .inr s' → uK T s'.2.2 = 24) → qGo T M as ps W f s = r
  | 0, f, s, r, h, hf, h2 => by
    cases h
    match f, hf with
    | f + 1, _ =>
      unfold qGo
      rw [if_pos (h2 s rfl)]
  | n + 1, f, s, r, h, hf, h2 => by
    match f, hf with
    | f + 1, hf =>
      obtain ⟨g, h⟩ := h
      unfold qGo
      rw [if_neg g.1]
      cases hq : qOn T M as ps W s with
      | inl e => rw [hq] at h; exact h.symm
      | inr s' => rw [hq] at h; exact qGo_of h (by omega) h2
theorem t_actor {n : Nat} {R : uR} (hb : bb = x + 1 ∨ bb = x + 112) (hN : gTn T) (hi : i < 400) (k0 : uK T i = 0) (k1 : uK T (i + 1) = 35) (H : tH h x bb st pt i) (HB : xB h x bb ln T MK B cs) : jE (jm_D (d + 4) mX6_actor [.ref (x + 217)] h) (xL x bb ln T cs MK h (i + 3) (qLn T M R i B)) := by
  have hw := hN (i + 1) k1
  refine jE_of (fun r => gX6_actor) ?_
  obtain ⟨h1, e1, F1, H1⟩ := tH_at H (i + 1)
  have B1 := xB_tr HB F1 (fun y y1 y2 => by unfold jn at y1 y2; omega) (fun y y1 y2 => by unfold jn at y1 y2; omega)
  have kn := b_knows (d := d + 1) B1.2.2.2.2.2.2.1 B1.2.2.2.2.2.2.2 hw.1.1 B1.2.1
  have hle := bC_le B1.2.1
  have e0 : jr_I h1 bb 0 0 0 = some (Int32.ofNat B.1.length) := by
    obtain ⟨AN, PN, u, v, CK, CV, a1, -⟩ := B1.2.1
    exact oC_I a1 rfl
  have f1 : jS (fun a => a = x + 217 ∨ a = x + 218 ∨ jn (x + 105) 7 a ∨ jn bb 89 a) h h1 := jS_mn F1 fun a ha => Or.inl (by unfold jn at ha; omega)
  simp only [tH_5 H, jw_add1, e1, Option.bind_some, tH_0 H1, tH_5 H1, tH_4 H1, jm_O_eq (kR_ob B1.1), k_wordAt (show i + 1 < 2147483648 by omega) B1.1, jc_L_eq, jm_O_eq (bC_ob B1.2.1), kn, jc_I_eq, e0]
  unfold qLn
  rw [if_pos k0]
  by_cases c : qkn B.1 B.2.1 (uW T (i + 1))
  · rw [jp_T c, if_neg (by decide), if_pos c]
    exact jE_end ⟨f1, rfl, ⟨st, pt, H1⟩, B, MK, B1⟩
  rw [jp_F c, if_pos rfl, if_neg c]
  by_cases c8 : 8 ≤ B.1.length
  · rw [if_neg (by rw [show (8 : Int32) = Int32.ofNat 8 from rfl, jw_lt (by omega) (by omega)]; omega), if_pos c8]
    exact jE_end ⟨f1, rfl, ⟨st, pt, H1⟩, B, MK, B1⟩
  rw [if_pos (by rw [show (8 : Int32) = Int32.ofNat 8 from rfl, jw_lt (by omega) (by omega)]; omega), if_neg c8]
  refine jE_V (b_addActor (d := d + 2) (by omega) B1.2.1) ?_
  rintro h2 ⟨F2, X2⟩
  have H2 := tH_tr H1 F2 (by unfold jn; omega) (by unfold jn; omega)
  obtain ⟨h3, e3, F3, H3⟩ := tH_at H2 (i + 3)
  have e3' : jm_pf h2 (x + 217) 6 5 0 (.int (Int32.ofNat (i + 1) + 2)) = some h3 := by
    rw [show Int32.ofNat (i + 1) + 2 = Int32.ofNat (i + 3) from jw_addL (b := 2)]; exact e3
  simp only [tH_5 H2, Option.bind_some, e3']
  have F23 : jS (fun a => a = x + 217 ∨ jn bb 7 a) h1 h3 := jS_tr (jS_mn F2 fun a ha => Or.inr ha) (jS_mn F3 fun a ha => Or.inl (by unfold jn at ha; omega))
  refine jE_end ⟨jS_tr f1 (jS_mn F23 fun a ha => ha.elim Or.inl fun z => Or.inr (Or.inr (Or.inr (by unfold jn at z ⊢; omega)))), rfl, ⟨st, pt, H3⟩, ?_⟩
  obtain ⟨a1, a2, a3, a4, a5, a6, a7, a8⟩ := B1
  refine ⟨kR_tr a1 F23 fun y y1 y2 => by unfold jn at y1 y2; omega, bC_tr X2 F3 (fun y y1 y2 => by unfold jn at y1 y2; omega), fun p hp => ?_, fun p hp => ?_, fun n hn => ?_, fun n hn => ?_, bN_app a7 hw, a8⟩
  · obtain ⟨l, hl⟩ := a3 p hp
    exact ⟨l, pU_tr hl F23 fun y y1 y2 => by unfold jn at y1 y2; omega⟩
  · exact pL_tr (a4 p hp) F23 fun y y1 y2 => by
      have : p < B.2.1.length := hp
      unfold jn at y1 y2; omega
  · obtain ⟨x1, x2, x3, x4, hx⟩ := a5 n hn
    exact ⟨x1, x2, x3, x4, oC_tr hx F23 fun z => by unfold jn at z; omega⟩
  · exact nA_tr (a6 n hn) F23 fun z => by
      have : n < B.2.2.2.length := hn
      unfold jn at z; omega
end TP
/-! ===== LEVEL 3: Telling, plays and notes ===== -/
def xK (T : List aK4) (MK : Nat → Int32) (ps : List Nat) (ops : List aI) : Prop := ∀ o ∈ ops, (10 ≤ o.1 ∧ o.1 ≤ 14 → 0 ≤ fd ps (uW T o.2.1) ∧ MK o.2.1 = Int32.ofNat (qpl T ps o.2.1)) ∧ (o.1 = 14 → 0 ≤ fd ps (uW T o.2.2) ∧ MK o.2.2 = Int32.ofNat (qpl T ps o.2.2))
def xV (x bb a : Nat) : Prop := a = x + 217 ∨ a = x + 218 ∨ jn (x + 105) 7 a ∨ jn bb 89 a
def xM (x bb ln : Nat) (T : List aK4) (cs : List (Nat × Nat)) (MK : Nat → Int32) (h : jm_H) (i nx : Nat) (ops : List aI) (r : (Nat × Nat) ⊕ aB) (v : Option Value ⊕ Nat) (h' : jm_H) : Prop :=
  jS (xV x bb) h h' ∧ match r with
  | .inl e => v = .inl (some (.int (Int32.ofNat e.1))) ∧ (∃ st pt, tH h' x bb st pt e.2) ∧ ∃ B' MK', xB h' x bb ln T MK' B' cs
  | .inr B' => v = .inl (some (.int 0)) ∧ (∃ st pt, tH h' x bb st pt nx) ∧ ∃ MK', xB h' x bb ln T MK' B' cs ∧ (∀ j, j < i ∨ uK T j ≠ 35 → MK' j = MK j) ∧ xK T MK' B'.2.1 ops
section TP
variable {h h' : jm_H} {d x bb ln i pt : Nat} {T : List aK4} {MK : Nat → Int32} {cs : List (Nat × Nat)} {B : aB} {st : List Nat} {row : List Int} {M : Nat → Nat}
theorem xL_xM {nx : Nat} {r : (Nat × Nat) ⊕ aB} {v : Option Value ⊕ Nat} (H : xL x bb ln T cs MK h nx r v h') : xM x bb ln T cs MK h i nx [] r v h' := by
  obtain ⟨F, Q⟩ := H
  refine ⟨F, ?_⟩
  cases r with
  | inl e => exact Q
  | inr B' => exact ⟨Q.1, Q.2.1, MK, Q.2.2, fun _ _ => rfl, fun o ho => (by cases ho)⟩
theorem t_play {R : uR} (hb : bb = x + 1 ∨ bb = x + 112) (hN : gTn T) (hM : ∀ j, uK T j = 22 → MK j = Int32.ofNat (M j) ∧ M j ≤ 400) (hT : gT T) (hK : ∀ j, uK T j < 2147483648) (hW : ∀ p, p < B.2.1.length → gR (B.2.2.1 p)) (hi : i < 397) (k0 : uK T i = 1) (k1 : uK T (i + 1) = 35) (k3 : (uPart T 8 (i + 3)).1 = true) (k4 : uK T (uPart T 8 (i + 3)).2.1 = 24) (k5 : ∀ m ∈ (uPart T 8 (i + 3)).2.2.2, M m.1 = m.2) (H : tH h x bb st pt i) (HB : xB h x bb ln T MK B cs) : jE (jm_D (d + 6) mX6_play [.ref (x + 217)] h) (xL x bb ln T cs MK h ((uPart T 8 (i + 3)).2.1 + 1) (qLn T M R i B)) := by
  have hw := hN (i + 1) k1
  refine jE_of (fun r => gX6_play) ?_
  obtain ⟨h1, e1, F1, H1⟩ := tH_at H (i + 1)
  have B1 := xB_tr HB F1 (fun y y1 y2 => by unfold jn at y1 y2; omega) (fun y y1 y2 => by unfold jn at y1 y2; omega)
  have kn := b_knows (d := d + 3) B1.2.2.2.2.2.2.1 B1.2.2.2.2.2.2.2 hw.1.1 B1.2.1
  have hle := bC_le B1.2.1
  have e0 : ∀ {g : jm_H}, bC g bb B.1 B.2.1 B.2.2.2.length cs → jr_I g bb 0 1 0 = some (Int32.ofNat B.2.1.length) := fun z => by
    obtain ⟨AN, PN, u, v, CK, CV, a1, -⟩ := z
    exact oC_I a1 rfl
  have f1 : jS (fun a => a = x + 217 ∨ a = x + 218 ∨ jn (x + 105) 7 a ∨ jn bb 89 a) h h1 := jS_mn F1 fun a ha => Or.inl (by unfold jn at ha; omega)
  simp only [tH_5 H, jw_add1, e1, Option.bind_some, tH_0 H1, tH_5 H1, tH_4 H1, jm_O_eq (kR_ob B1.1), k_wordAt (show i + 1 < 2147483648 by omega) B1.1, jc_L_eq, jm_O_eq (bC_ob B1.2.1), kn, jc_I_eq, e0 B1.2.1]
  unfold qLn
  rw [if_neg (show ¬ uK T i = 0 by omega), if_pos k0]
  by_cases c : qkn B.1 B.2.1 (uW T (i + 1))
  · rw [jp_T c, if_neg (by decide), if_pos c]
    exact jE_end ⟨f1, rfl, ⟨st, pt, H1⟩, B, MK, B1⟩
  rw [jp_F c, if_pos rfl, if_neg c]
  by_cases c8 : 12 ≤ B.2.1.length
  · rw [if_neg (by rw [show (12 : Int32) = Int32.ofNat 12 from rfl, jw_lt (by omega) (by omega)]; omega), if_pos c8]
    exact jE_end ⟨f1, rfl, ⟨st, pt, H1⟩, B, MK, B1⟩
  rw [if_pos (by rw [show (12 : Int32) = Int32.ofNat 12 from rfl, jw_lt (by omega) (by omega)]; omega), if_neg c8]
  obtain ⟨h2, e2, F2, H2⟩ := tH_at H1 (i + 3)
  have e2' : jm_pf h1 (x + 217) 6 5 0 (.int (Int32.ofNat (i + 1) + 2)) = some h2 := by
    rw [show Int32.ofNat (i + 1) + 2 = Int32.ofNat (i + 3) from jw_addL (b := 2)]; exact e2
  have B2 := xB_tr B1 F2 (fun y y1 y2 => by unfold jn at y1 y2; omega) (fun y y1 y2 => by unfold jn at y1 y2; omega)
  obtain ⟨l0, P0⟩ := B2.2.2.1 B.2.1.length (by omega)
  simp only [e2', Option.bind_some, tH_4 H2, e0 B2.2.1, jm_O_eq (bC_ob B2.2.1), b_toldAt B2.2.1 (show B.2.1.length < 12 by omega), jc_R_eq, jm_O_eq (pU_ob P0)]
  refine jE_V (pU_clear P0) ?_
  rintro h3 ⟨F3, P3⟩
  have H3 := tH_tr H2 F3 (by unfold jn; omega) (by unfold jn; omega)
  obtain ⟨h4, e4, F4, H4⟩ := tH_pt H3 0
  obtain ⟨a5, MA5, b5, c5⟩ := H4
  obtain ⟨h5, e5, F5, X5⟩ := oC_w (k := 2) (t := 0) (v := .int 0) a5 (by simp) rfl
  have e4' : jm_pf h3 (x + 217) 6 3 0 (.int 0) = some h4 := e4
  simp only [e4', e5, Option.bind_some]
  have H5 : tH h5 x bb [] 0 (i + 3) := ⟨X5, MA5, lC_tr b5 F5 (by unfold jn; omega), fun j hj => absurd hj (Nat.not_lt_zero _), fun w hw => (by cases hw)⟩
  have F25 : jS (xU x bb B.2.1.length) h2 h5 := jS_tr (jS_mn F3 fun a ha => Or.inr (Or.inr ha)) (jS_tr (jS_mn F4 fun a ha => Or.inl (by unfold jn at ha; omega)) (jS_mn F5 fun a ha => Or.inl (by unfold jn at ha; omega)))
  have P5 : pU h5 (bb + 13 + 5 * B.2.1.length) [] := pU_tr (pU_tr P3 F4 fun y y1 y2 => by unfold jn at y1 y2; omega) F5 fun y y1 y2 => by unfold jn at y1 y2; omega
  have B5 := xB_pl hb (by omega) B2 F25 P5
  have fU : ∀ {g1 g2 : jm_H}, jS (xU x bb B.2.1.length) g1 g2 → jS (fun a => a = x + 217 ∨ a = x + 218 ∨ jn (x + 105) 7 a ∨ jn bb 89 a) g1 g2 := fun F => jS_mn F fun a ha => by
    rcases ha with z | z | z
    · exact Or.inl z
    · exact Or.inr (Or.inl z)
    · exact Or.inr (Or.inr (Or.inr (by unfold jn at z ⊢; omega)))
  have f5 : jS (fun a => a = x + 217 ∨ a = x + 218 ∨ jn (x + 105) 7 a ∨ jn bb 89 a) h h5 := jS_tr f1 (jS_tr (jS_mn F2 fun a ha => Or.inl (by unfold jn at ha; omega)) (fU F25))
  have gp3 := gp_part hT 8 (i + 3) (by omega)
  have gp2 := gp3.2.1
  obtain ⟨n, hn, hq⟩ := q_part (as := B.1) (ps := B.2.1) (W := B.2.2.1) hT hN (fun p hp => ⟨(hW p hp).1, (hW p hp).2.1⟩) 8 (i + 3) (by omega) k3 k5 [] [] (Nat.le_refl _)
  have hn' : n + (i + 3) ≤ (uPart T 8 (i + 3)).2.1 := hn
  have LP := fun r z => t_play_loop (d := d) (j1 := nm (uW T (i + 1) : Nat)) (cs := cs) (h := h5) (MK := MK) (o := none) (r := r) hb hN hM hT hK (by omega) (fun p hp => (hW p hp).2.2) n 0 ([], [], i + 3) z (by omega) (by show i + 3 + 2 * n < 2000; omega) (Nat.zero_le _) (Nat.zero_le _) H5 B5 P5
  rcases hq with ⟨r, hr, hq⟩ | ⟨e, hq⟩
  · have hgo := qGo_of (f := 400) hq (by omega) (fun s' z => by cases z; exact k4)
    rw [hgo]
    obtain ⟨l1, h6, o6, F6, H6, B6, P6, go⟩ := LP _ hq
    have l1' : r.length ≤ 400 * (0 + n) := l1
    have H6' : tH h6 x bb [] r.length (uPart T 8 (i + 3)).2.1 := H6
    have P6' : pU h6 (bb + 13 + 5 * B.2.1.length) (r.take 150) := P6
    refine jE_of (fun R z => go R z) ?_
    refine jE_of (fun r => gX6_play_91) ?_
    have to146 : jE (kX6_play_146 (d + 5) (x + 217) (nm (uW T (i + 1) : Nat)) (bb + 13 + 5 * B.2.1.length) (some (.int (Int32.ofNat (0 + n)))) o6 h6) (xL x bb ln T cs MK h ((uPart T 8 (i + 3)).2.1 + 1) (if 150 < r.length then .inl (5, (uPart T 8 (i + 3)).2.1) else .inr (B.1, B.2.1 ++ [uW T (i + 1)], aup B.2.2.1 B.2.1.length r, B.2.2.2))) := by
      refine jE_of (fun r => gX6_play_146) ?_
      simp only [tH_3 H6', Option.bind_some]
      by_cases c150 : 150 < r.length
      · rw [if_pos (by rw [show (150 : Int32) = Int32.ofNat 150 from rfl, jw_lt (by omega) (by omega)]; exact c150), if_pos c150]
        exact jE_end ⟨jS_tr f5 (fU F6), rfl, ⟨_, _, H6'⟩, B, MK, B6⟩
      rw [if_neg (by rw [show (150 : Int32) = Int32.ofNat 150 from rfl, jw_lt (by omega) (by omega)]; exact c150), if_neg c150, jm_O_eq (pU_ob P6')]
      rw [List.take_of_length_le (by omega)] at P6'
      refine jE_V (pU_link (d := d + 3) P6' hr.1) ?_
      rintro h7 ⟨F7, P7⟩
      have F7' : jS (xU x bb B.2.1.length) h6 h7 := jS_mn F7 fun a ha => Or.inr (Or.inr ha)
      have B7 := xB_pl hb (by omega) B6 F7' (pL_U P7)
      have H7 := tH_tr H6' F7 (by unfold jn; omega) (by unfold jn; omega)
      simp only [tH_4 H7, Option.bind_some, jm_O_eq (bC_ob B7.2.1)]
      refine jE_V (b_addPlay (by omega) B7.2.1) ?_
      rintro h8 ⟨F8, X8⟩
      have H8 := tH_tr H7 F8 (by unfold jn; omega) (by unfold jn; omega)
      obtain ⟨h9, e9, F9, H9⟩ := tH_at H8 ((uPart T 8 (i + 3)).2.1 + 1)
      simp only [tH_5 H8, Option.bind_some, jw_add1, e9]
      have F79 : jS (fun a => a = x + 217 ∨ jn bb 7 a) h7 h9 := jS_tr (jS_mn F8 fun a ha => Or.inr ha) (jS_mn F9 fun a ha => Or.inl (by unfold jn at ha; omega))
      refine jE_end ⟨jS_tr f5 (jS_tr (fU F6) (jS_tr (fU F7') (jS_mn F79 fun a ha => ha.elim Or.inl fun z => Or.inr (Or.inr (Or.inr (by unfold jn at z ⊢; omega)))))), rfl, ⟨_, _, H9⟩, ?_⟩
      obtain ⟨a1, a2, a3, a4, a5, a6, a7, a8⟩ := B7
      refine ⟨kR_tr a1 F79 fun y y1 y2 => by unfold jn at y1 y2; omega, bC_tr X8 F9 (fun y y1 y2 => by unfold jn at y1 y2; omega), fun p hp => ?_, fun p hp => ?_, fun n hn => ?_, fun n hn => ?_, a7, bN_app a8 hw⟩
      · obtain ⟨l, hl⟩ := a3 p hp
        exact ⟨l, pU_tr hl F79 fun y y1 y2 => by unfold jn at y1 y2; omega⟩
      · have hp' : p < B.2.1.length + 1 := by
          have : p < (B.2.1 ++ [uW T (i + 1)]).length := hp
          rw [List.length_append] at this
          exact this
        show pL h9 (bb + 13 + 5 * p) (aup B.2.2.1 B.2.1.length r p)
        unfold aup
        by_cases e : p = B.2.1.length
        · rw [if_pos e, e]
          exact pL_tr P7 F79 fun y y1 y2 => by unfold jn at y1 y2; omega
        · rw [if_neg e]
          exact pL_tr (a4 p (by omega)) F79 fun y y1 y2 => by unfold jn at y1 y2; omega
      · obtain ⟨x1, x2, x3, x4, hx⟩ := a5 n hn
        exact ⟨x1, x2, x3, x4, oC_tr hx F79 fun z => by unfold jn at z; omega⟩
      · exact nA_tr (a6 n hn) F79 fun z => by
          have : n < B.2.2.2.length := hn
          unfold jn at z; omega
    show jE _ (xL x bb ln T cs MK h ((uPart T 8 (i + 3)).2.1 + 1) (if 150 < r.length then .inl (5, (uPart T 8 (i + 3)).2.1) else .inr (B.1, B.2.1 ++ [uW T (i + 1)], aup B.2.2.1 B.2.1.length r, B.2.2.2)))
    rw [if_pos (by rw [show (400 : Int32) = Int32.ofNat 400 from rfl, jw_lt (by omega) (by omega)]; omega)]
    simp only [tH_0 H6', tH_5 H6', Option.bind_some, jm_O_eq (kR_ob B6.1), k_kindAt (show (uPart T 8 (i + 3)).2.1 < 2147483648 by omega) B6.1, jc_I_eq]
    rw [if_pos (show Int32.ofNat (uK T (uPart T 8 (i + 3)).2.1) = 24 by rw [k4]; rfl)]
    exact to146
  · have hgo := qGo_of (f := 400) hq (by omega) (fun s' z => (by cases z))
    rw [hgo]
    obtain ⟨v, h6, e6, F6, rfl, tt, B6⟩ := LP _ hq
    have e6' : kX6_play_91 (d + 5) (x + 217) (nm (uW T (i + 1) : Nat)) (bb + 13 + 5 * B.2.1.length) 0 none h5 = _ := e6
    rw [e6']
    exact jE_end ⟨jS_tr f5 (fU F6), rfl, tt, B, MK, B6⟩
end TP
