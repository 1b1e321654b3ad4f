/-! ===== LEVEL 3: the reference, telling: lines of actors and notes ===== -/
theorem fd_mem {l : List Nat} {x : Nat} : 0 ≤ fd l x ↔ x ∈ l := by
  constructor
  · intro h
    have hb := fd_b (l := l) (x := x)
    have e := fd_at (l := l) (x := x) (n := (fd l x).toNat) (by omega)
    have hl : (fd l x).toNat < l.length := by omega
    rw [List.getD_eq_getElem?_getD, List.getElem?_eq_getElem hl] at e
    rw [← e]
    exact List.getElem_mem hl
  · intro h
    obtain ⟨k, hk, e⟩ := List.getElem_of_mem h
    have go : ∀ f i, i + f = l.length → i ≤ k → 0 ≤ fdx l x f i := by
      intro f
      induction f with
      | zero => intro i h1 h2; omega
      | succ f ih =>
        intro i h1 h2
        unfold fdx
        by_cases c : l.getD i 0 = x
        · rw [if_pos c]; omega
        · rw [if_neg c]
          by_cases c2 : i = k
          · exfalso
            apply c
            rw [c2, List.getD_eq_getElem?_getD, List.getElem?_eq_getElem hk]
            exact e
          · exact ih (i + 1) (by omega) (by omega)
    exact go l.length 0 (by omega) (Nat.zero_le _)
section ZT
variable {h h' h1 h2 : jm_H} {d D m b i q k n a e p j E c29 : Nat} {T : List aK4} {A : zA3} {nt oc : Nat} {as ps : List Nat} {W : Nat → List Int} {r : List Int} {M : Nat → Nat} {s s' : aQ} {nts : List aN}
theorem zQp_a {w : Nat} (P : zQp as ps W) (hl : as.length < 8) (hw : w < q10) (hn : ¬ qkn as ps w) : zQp (as ++ [w]) ps W := by
  obtain ⟨p1, p2, p3, p4, p5, p6⟩ := P
  refine ⟨by rw [List.length_append, List.length_singleton]; omega, p2, fun x hx => ?_, p4, p5, fun v hv => ?_⟩
  · rcases List.mem_append.mp hx with c | c
    · exact p3 x c
    · rw [List.mem_singleton.mp c]; exact hw
  · rcases List.mem_append.mp (fd_mem.mp hv) with c | c
    · exact p6 v (fd_mem.mpr c)
    · rw [List.mem_singleton.mp c]
      have : ¬ 0 ≤ fd ps w := fun z => hn (Or.inr z)
      omega
theorem zQp_p {w : Nat} {row : List Int} (P : zQp as ps W) (hl : ps.length < 12) (hw : w < q10) (hn : ¬ qkn as ps w) (hr : row.length ≤ 150) : zQp as (ps ++ [w]) (aup W ps.length row) := by
  obtain ⟨p1, p2, p3, p4, p5, p6⟩ := P
  refine ⟨p1, by rw [List.length_append, List.length_singleton]; omega, p3, fun x hx => ?_, fun p hp => ?_, fun v hv => ?_⟩
  · rcases List.mem_append.mp hx with c | c
    · exact p4 x c
    · rw [List.mem_singleton.mp c]; exact hw
  · rw [List.length_append, List.length_singleton] at hp
    by_cases c : p = ps.length
    · rw [show aup W ps.length row p = row from if_pos c]; exact hr
    · rw [show aup W ps.length row p = W p from if_neg c]; exact p5 p (by omega)
  · have hb := fd_b (l := ps ++ [w]) (x := v)
    by_cases c : 0 ≤ fd (ps ++ [w]) v
    · exfalso
      rcases List.mem_append.mp (fd_mem.mp c) with c | c
      · have := p6 v hv
        have := fd_mem.mpr c
        omega
      · rw [List.mem_singleton.mp c] at hv
        exact hn (Or.inl hv)
    · omega
/-- what telling rests on -/
def zHt (m b : Nat) (T : List aK4) (A : zA3) (E : Nat) : Prop := (b = m + 2 ∨ m + 36 ≤ b) ∧ (∀ j, uK T j < 39) ∧ E < 401 ∧ T.length = E + 1 ∧ (∀ j, j < E → A.1 j = zme T j) ∧ (∀ j, uK T j = 35 → j < E → A.2.1 j = zar T j) ∧ (∀ j, uK T j = 35 → uW T j < q10)
/-- fields that telling writes where it goes -/
def zTG (k : Nat) : Prop := k = 28 ∨ k = 29 ∨ k = 30
/-- what a line's telling comes to -/
def zLT (h : jm_H) (d m b : Nat) (T : List aK4) (A : zA3) (nt oc E i e : Nat) (x : (Nat × Nat) ⊕ aB) : Prop :=
  (∃ y, x = .inl y ∧ ∀ o, zErr h m b T y (kX13_read_50 d m b (Int32.ofNat i) o h)) ∨ (∃ B', x = .inr B' ∧ ∃ h', zS m (zTU b) zTG h h' ∧ zTf h' m b T A nt oc B'.1 B'.2.1 B'.2.2.1 [] E B'.2.2.2.length ∧ zQp B'.1 B'.2.1 B'.2.2.1 ∧ ∀ o, ∃ o', ∀ res, kX13_read_50 d m b (Int32.ofNat e) o' h' = some res → kX13_read_50 d m b (Int32.ofNat i) o h = some res)
theorem zErr_fr {x : Nat × Nat} {o o1 : Option jm_R} (F : zS m (zTU b) zTG h h1) (g : ∀ r, o1 = some r → o = some r) (H : zErr h1 m b T x o1) : zErr h m b T x o := by
  obtain ⟨h2, e, F2, q⟩ := H
  exact ⟨h2, g _ e, zS_tr (zS_mn F (fun c z => z) (fun k z => Or.inr z)) F2, q⟩
theorem zTf_F {as' ps' : List Nat} {W' : Nat → List Int} {r' : List Int} (H : zTf h m b T A nt oc as ps W r E c29) (F : zS m (zTU b) (fun _ => False) h h') (H' : zTe h' m b T A nt oc as' ps' W' r') : zTf h' m b T A nt oc as' ps' W' r' E c29 := ⟨H', (zS_I F id).trans H.2.1, (zS_I F id).trans H.2.2⟩
/-- an actor's line is told -/
theorem z_tellA {R : uR} (Y : zHt m b T A E) (hk : uK T i = 0) (k1 : uK T (i + 1) = 35) (k2 : uK T (i + 2) = 24) (hls : ∀ j, i ≤ j → j ≤ i + 2 → zls T j = i) (heE : i + 3 ≤ E) (P : zQp as ps W) (H : zTf h m b T A nt oc as ps W [] E nts.length) : zLT h (d + 3) m b T A nt oc E i (i + 3) (qLn T M R i (as, ps, W, nts)) := by
  obtain ⟨hb, hK, hE, hTl, hA1, hA2, hq⟩ := Y
  have em : ∀ j, i ≤ j → j ≤ i + 2 → A.1 j = if uK T j = 35 then 1 else 0 := fun j a1 a2 => by
    rw [hA1 j (by omega)]
    unfold zme
    rw [hls j a1 a2, if_pos hk]
  have e0 := em i (by omega) (by omega)
  rw [if_neg (by omega)] at e0
  have e1 := em (i + 1) (by omega) (by omega)
  rw [if_pos k1] at e1
  have e2 := em (i + 2) (by omega) (by omega)
  rw [if_neg (by omega)] at e2
  have g0 := fun o => z_go (o := o) (zTe_ob H.1) H.2.1 hE (show i < E by omega) (z_e0 (d := d + 2) H.1 (by omega) e0)
  obtain ⟨c1, c2, c3⟩ := z_e1 (d := d) H.1 P hb (show i + 1 < T.length by omega) (by omega) k1 (hq _ k1) e1
  unfold qLn
  rw [if_pos hk]
  show zLT h (d + 3) m b T A nt oc E i (i + 3) (if qkn as ps (uW T (i + 1)) then .inl (2, i + 1) else if 8 ≤ as.length then .inl (4, i + 1) else .inr (as ++ [uW T (i + 1)], ps, W, nts))
  by_cases c : qkn as ps (uW T (i + 1))
  · rw [if_pos c]
    refine Or.inl ⟨_, rfl, fun o => zErr_fr zS_rf (g0 o) (z_stop (c := 2) (zTe_ob H.1) H.2.1 hE (by omega) (by omega) (c1 c) zS_rf H.1 (by omega))⟩
  · rw [if_neg c]
    by_cases c8 : 8 ≤ as.length
    · rw [if_pos c8]
      refine Or.inl ⟨_, rfl, fun o => zErr_fr zS_rf (g0 o) (z_stop (c := 4) (zTe_ob H.1) H.2.1 hE (by omega) (by omega) (c2 c c8) zS_rf H.1 (by omega))⟩
    · rw [if_neg c8]
      obtain ⟨h1, e3, F1, H1⟩ := c3 c (by omega)
      have H1' := zTf_F H F1 H1
      refine Or.inr ⟨_, rfl, h1, zS_mn F1 (fun c z => z) (fun k z => z.elim), H1', zQp_a P (by omega) (hq _ k1) c, fun o => ⟨some (.int 0), fun res hres => ?_⟩⟩
      refine g0 o _ (z_go (zTe_ob H.1) H.2.1 hE (show i + 1 < E by omega) e3 _ ?_)
      exact z_go (zTe_ob H1) H1'.2.1 hE (show i + 2 < E by omega) (z_e0 (d := d + 2) H1 (by omega) e2) _ hres
/-- names of a note -/
theorem z_tellN0 (Y : zHt m b T A E) (hk : uK T i = 4 ∨ uK T i = 5 ∨ uK T i = 7) (he : uK T e = 24) (hls : ∀ j, i ≤ j → j ≤ e → zls T j = i) (h24 : ∀ j, i ≤ j → j < e → uK T j ≠ 24) (heE : e < E) (P : zQp as ps W) (H : zTf h m b T A nt oc as ps W [] E c29) : ∀ f j, i + 1 ≤ j → j ≤ e → e < j + f →
    (∃ y, qNm T ps f j = some y ∧ ∀ o, zErr h m b T (3, y) (kX13_read_50 (d + 3) m b (Int32.ofNat j) o h)) ∨ (qNm T ps f j = none ∧ ∀ o, ∃ o', ∀ res, kX13_read_50 (d + 3) m b (Int32.ofNat e) o' h = some res → kX13_read_50 (d + 3) m b (Int32.ofNat j) o h = some res) := by
  obtain ⟨hb, hK, hE, hTl, hA1, hA2, hq⟩ := Y
  intro f
  induction f with
  | zero => intro j h1 h2; omega
  | succ f ih =>
    intro j h1 h2 h3
    unfold qNm
    by_cases c : j = e
    · rw [if_pos (by rw [c]; exact he)]
      exact Or.inr ⟨rfl, fun o => ⟨o, fun res hres => by rw [c]; exact hres⟩⟩
    rw [if_neg (h24 j (by omega) (by omega))]
    have em : A.1 j = if uK T j = 35 then 5 else 0 := by
      rw [hA1 j (by omega)]
      unfold zme
      rw [hls j (by omega) h2, if_neg (by omega), if_neg (by omega), if_neg (show ¬ j = i by omega)]
    have next : (jm_D (d + 3) mX13_errorOf [.ref m, .ref b, .int (Int32.ofNat j)] h = some (.inl (some (.int 0)), h)) → (∃ y, qNm T ps f (j + 1) = some y ∧ ∀ o, zErr h m b T (3, y) (kX13_read_50 (d + 3) m b (Int32.ofNat j) o h)) ∨ (qNm T ps f (j + 1) = none ∧ ∀ o, ∃ o', ∀ res, kX13_read_50 (d + 3) m b (Int32.ofNat e) o' h = some res → kX13_read_50 (d + 3) m b (Int32.ofNat j) o h = some res) := fun er => by
      have g := fun o => z_go (o := o) (zTe_ob H.1) H.2.1 hE (show j < E by omega) er
      rcases ih (j + 1) (by omega) (by omega) (by omega) with ⟨y, y1, y2⟩ | ⟨y1, y2⟩
      · exact Or.inl ⟨y, y1, fun o => zErr_fr zS_rf (g o) (y2 _)⟩
      · refine Or.inr ⟨y1, fun o => ?_⟩
        obtain ⟨o', g2⟩ := y2 (some (.int 0))
        exact ⟨o', fun res hres => g o _ (g2 res hres)⟩
    by_cases c35 : uK T j = 35
    · rw [if_pos c35] at em
      have er := z_e5 (d := d) H.1 P (show j < T.length by omega) (by omega) c35 (hq _ c35) em
      by_cases cf : fd ps (uW T j) < 0
      · rw [if_pos cf] at er
        rw [if_pos ⟨c35, cf⟩]
        exact Or.inl ⟨j, rfl, fun o => z_stop (c := 3) (zTe_ob H.1) H.2.1 hE (by omega) (by omega) er zS_rf H.1 (by omega)⟩
      · rw [if_neg cf] at er
        rw [if_neg (fun z => cf z.2)]
        exact next er
    · rw [if_neg c35] at em
      rw [if_neg (fun z => c35 z.1)]
      exact next (z_e0 (d := d + 2) H.1 (by omega) em)
/-- a note's line is told -/
theorem z_tellN {R : uR} (Y : zHt m b T A E) (hk : uK T i = 4 ∨ uK T i = 5 ∨ uK T i = 7) (he : uK T e = 24) (hie : i + 1 ≤ e) (hls : ∀ j, i ≤ j → j ≤ e → zls T j = i) (h24 : ∀ j, i ≤ j → j < e → uK T j ≠ 24) (heE : e < E) (P : zQp as ps W) (hn : nts.length ≤ 16) (H : zTf h m b T A nt oc as ps W [] E nts.length) : zLT h (d + 3) m b T A nt oc E i (e + 1) (qLn T M R i (as, ps, W, nts)) := by
  have Y' := Y
  obtain ⟨hb, hK, hE, hTl, hA1, hA2, hq⟩ := Y
  have e0 : A.1 i = 6 := by
    rw [hA1 i (by omega)]
    unfold zme
    rw [hls i (Nat.le_refl _) (by omega), if_neg (by omega), if_neg (by omega), if_neg (by omega), if_pos rfl]
  have ee : A.1 e = 0 := by
    rw [hA1 e heE]
    unfold zme
    rw [hls e (by omega) (Nat.le_refl _), if_neg (by omega), if_neg (by omega), if_neg (by omega), if_neg (by omega)]
  obtain ⟨h1, er, F1, H1, q1⟩ := z_e6 (d := d) H.1 hb (show i < 401 by omega) e0 H.2.2 hn
  have FF : zS m (zTU b) zTG h h1 := zS_mn F1 (fun c z => z.elim) (fun k z => by unfold zTG; omega)
  unfold qLn
  rw [if_neg (by omega), if_neg (by omega)]
  show zLT h (d + 3) m b T A nt oc E i (e + 1) (if 16 ≤ nts.length then .inl (4, i) else match qNm T ps 400 (i + 1) with
    | some j => .inl (3, j)
    | none => .inr (as, ps, W, nts ++ [qnt T ps R i]))
  by_cases c : 16 ≤ nts.length
  · rw [if_pos c] at er ⊢
    exact Or.inl ⟨_, rfl, fun o => z_stop (c := 4) (zTe_ob H.1) H.2.1 hE (by omega) (by omega) er (zS_mn FF (fun c z => z) (fun k z => Or.inr z)) H1 (by omega)⟩
  · rw [if_neg c] at er ⊢
    have g0 := fun o => z_go (o := o) (zTe_ob H.1) H.2.1 hE (show i < E by omega) er
    have H1' : zTf h1 m b T A nt oc as ps W [] E (nts.length + 1) := ⟨H1, (zS_I F1 (by omega)).trans H.2.1, q1⟩
    rcases z_tellN0 (d := d) Y' hk he hls h24 heE P H1' 400 (i + 1) (by omega) hie (by omega) with ⟨y, y1, y2⟩ | ⟨y1, y2⟩
    · rw [y1]
      exact Or.inl ⟨_, rfl, fun o => zErr_fr FF (g0 o) (y2 _)⟩
    · rw [y1]
      refine Or.inr ⟨_, rfl, h1, FF, ?_, P, fun o => ?_⟩
      · show zTf h1 m b T A nt oc as ps W [] E (nts ++ [qnt T ps R i]).length
        rw [List.length_append, List.length_singleton]
        exact H1'
      · obtain ⟨o', g⟩ := y2 (some (.int 0))
        exact ⟨some (.int 0), fun res hres => g0 o _ (g _ (z_go (zTe_ob H1) H1'.2.1 hE (show e < E by omega) (z_e0 (d := d + 2) H1 (by omega) ee) _ hres))⟩
end ZT
