/-! ===== LEVEL 3: the reference, telling: a play's line, and the book ===== -/
section ZT
variable {h h' h1 h2 : jm_H} {d D m b i q k n a e p j E c29 : Nat} {T : List aK4} {A : zA3} {nt oc : Nat} {as ps : List Nat} {W : Nat → List Int} {r : List Int} {M : Nat → Nat} {s s' : aQ} {nts : List aN}
theorem z_tellP {R : uR} (Y : zHt m b T A E) (hk : uK T i = 1) (k1 : uK T (i + 1) = 35) (k2 : uK T (i + 2) = 2) (hp : (uPart T 8 (i + 3)).1 = true) (ee : (uPart T 8 (i + 3)).2.1 = e) (he : uK T e = 24) (hls : ∀ j, i ≤ j → j ≤ e → zls T j = i) (heE : e < E) (P : zQp as ps W) (hm : ∀ x ∈ (uPart T 8 (i + 3)).2.2.2, M x.1 = x.2) (hA3 : ∀ j, j < E → uK T j ≠ 8 → A.2.2 j = Int32.ofNat (M j)) (H : zTf h m b T A nt oc as ps W [] E nts.length) : zLT h (d + 5) m b T A nt oc E i (e + 1) (qLn T M R i (as, ps, W, nts)) := by
  obtain ⟨hb, hK, hE, hTl, hA1, hA2, hq⟩ := Y
  have pe := zpe_part 8 _ hp
  have pz := (zps_part 8 _ hp).2
  have pm := zmm_part 8 _ hp
  have pv := mv_part (T := T) 8 (i + 3)
  unfold zmm at pm
  rw [ee] at pe pz pm
  have h3e : i + 3 < e := pe.2.2
  have hM : ∀ j, i + 3 ≤ j → j < e → uK T j = 22 → A.2.2 j = Int32.ofNat (M j) ∧ 2 ≤ M j ∧ M j ≤ 400 := fun j a1 a2 a3 => by
    obtain ⟨n, n1, n2⟩ := pm j a1 a2 a3
    have e1 : M j = n := hm _ n2
    have e2 : n ≤ 400 := pv _ n2
    exact ⟨hA3 j (by omega) (by omega), by omega, by omega⟩
  have h0 : zmk T (i + 3) = [] := ((zmk_s (j := i + 2) (by omega)).trans (zmk_s (j := i + 1) (by omega))).trans (zmk_1 hk)
  have h20 : uK T (i + 3) ≠ 20 := fun z => by
    have := ((pz (i + 3) (Nat.le_refl _) h3e).2.2 z).1
    omega
  have em : ∀ j, i ≤ j → j ≤ i + 2 → A.1 j = if uK T j = 35 then (if j = i + 1 then 2 else mu4 T j) else if uK T j = 24 then 7 else 0 := fun j a1 a2 => by
    rw [hA1 j (by omega)]
    unfold zme
    rw [hls j a1 (by omega), if_neg (by omega), if_pos hk]
  have e0 := em i (by omega) (by omega)
  rw [if_neg (by omega), if_neg (by omega)] at e0
  have e1 := em (i + 1) (by omega) (by omega)
  rw [if_pos k1, if_pos rfl] at e1
  have e2 := em (i + 2) (by omega) (by omega)
  rw [if_neg (by omega), if_neg (by omega)] at e2
  have g0 := fun o => z_go (o := o) (zTe_ob H.1) H.2.1 hE (show i < E by omega) (z_e0 (d := d + 4) H.1 (by omega) e0)
  obtain ⟨c1, c2, c3⟩ := z_e2 (d := d + 2) H.1 P hb (show i + 1 < T.length by omega) (by omega) k1 (hq _ k1) e1
  unfold qLn
  rw [if_neg (by omega), if_pos hk]
  show zLT h (d + 5) m b T A nt oc E i (e + 1) (if qkn as ps (uW T (i + 1)) then .inl (2, i + 1) else if 12 ≤ ps.length then .inl (4, i + 1) else match qGo T M as ps W 400 ([], [], i + 3) with
    | .inl e => .inl e
    | .inr s => if 150 < s.2.1.length then .inl (5, s.2.2) else .inr (as, ps ++ [uW T (i + 1)], aup W ps.length s.2.1, nts))
  by_cases c : qkn as ps (uW T (i + 1))
  · rw [if_pos c]
    exact Or.inl ⟨_, rfl, fun o => zErr_fr zS_rf (g0 o) (z_stop (c := 2) (zTe_ob H.1) H.2.1 hE (by omega) (by omega) (c1 c) zS_rf H.1 (by omega))⟩
  rw [if_neg c]
  by_cases c12 : 12 ≤ ps.length
  · rw [if_pos c12]
    exact Or.inl ⟨_, rfl, fun o => zErr_fr zS_rf (g0 o) (z_stop (c := 4) (zTe_ob H.1) H.2.1 hE (by omega) (by omega) (c2 c c12) zS_rf H.1 (by omega))⟩
  rw [if_neg c12]
  obtain ⟨h1, er, F1, H1, q1, q2⟩ := c3 c (by omega)
  have FF : zS m (zTU b) zTG h h1 := zS_mn F1 (fun c z => z.elim) (fun k z => by unfold zTG; omega)
  have H1' : zTf h1 m b T A nt oc as ps W [] E nts.length := ⟨H1, (zS_I F1 (by omega)).trans H.2.1, (zS_I F1 (by omega)).trans H.2.2⟩
  have g3 : ∀ o r, kX13_read_50 (d + 5) m b (Int32.ofNat (i + 3)) (some (.int 0)) h1 = some r → kX13_read_50 (d + 5) m b (Int32.ofNat i) o h = some r := fun o r hr => g0 o _ (z_go (zTe_ob H.1) H.2.1 hE (show i + 1 < E by omega) er _ (z_go (zTe_ob H1) H1'.2.1 hE (show i + 2 < E by omega) (z_e0 (d := d + 4) H1 (by omega) e2) _ hr))
  have J : zJ T (i + 3) e ([], [], i + 3) := by
    refine ⟨Nat.le_refl _, by show i + 3 ≤ e; omega, ?_, ?_⟩
    · show [] = (zsq T (i + 3)).map (uW T)
      unfold zsq
      rw [if_neg h20, h0]
      rfl
    · show uK T (i + 3 - 1) ≠ 3
      rw [show i + 3 - 1 = i + 2 by omega]
      omega
  rcases z_errP (d := d + 2) (M := M) pz he hk hls h0 heE hE hTl hA1 hA2 hq P H1' 400 ([], [], i + 3) (by show e < i + 3 + 400; omega) J with ⟨x, y1, y2⟩ | ⟨sf, y1, y2, y3⟩
  · rw [y1]
    exact Or.inl ⟨x, rfl, fun o => zErr_fr FF (g3 o) (y2 _)⟩
  rw [y1]
  obtain ⟨w1, w2⟩ := z_e7 (d := d) hK hb (by omega) pz (by omega) he hk k2 hls h0 h20 heE hE hTl hA1 hA2 hq P hM y1 H1 q1 q2
  obtain ⟨o', g4⟩ := y3 (some (.int 0))
  show zLT h (d + 5) m b T A nt oc E i (e + 1) (if 150 < sf.2.1.length then .inl (5, sf.2.2) else .inr (as, ps ++ [uW T (i + 1)], aup W ps.length sf.2.1, nts))
  by_cases c150 : 150 < sf.2.1.length
  · rw [if_pos c150, y2]
    obtain ⟨h2, r', er2, F2, H2⟩ := w1 c150
    exact Or.inl ⟨_, rfl, fun o => zErr_fr FF (fun r hr => g3 o r (g4 r hr)) (z_stop (c := 5) (zTe_ob H1) H1'.2.1 hE heE (by omega) er2 (zS_mn F2 (fun c z => z) (fun k z => z.elim)) H2 (by omega))⟩
  · rw [if_neg c150]
    obtain ⟨h2, er2, F2, H2⟩ := w2 (by omega)
    refine Or.inr ⟨_, rfl, h2, zS_tr FF (zS_mn F2 (fun c z => z) (fun k z => z.elim)), zTf_F H1' F2 H2, zQp_p P (by omega) (hq _ k1) c (by omega), fun o => ⟨some (.int 0), fun res hres => g3 o _ (g4 _ (z_go (zTe_ob H1) H1'.2.1 hE heE er2 _ hres))⟩⟩
theorem qLn_16 {R : uR} {B B' : aB} (h : qLn T M R i B = .inr B') (hn : B.2.2.2.length ≤ 16) : B'.2.2.2.length ≤ 16 := by
  unfold qLn at h
  split at h
  · split at h
    · cases h
    split at h
    · cases h
    · cases h; exact hn
  split at h
  · split at h
    · cases h
    split at h
    · cases h
    split at h
    · cases h
    · split at h
      · cases h
      · cases h; exact hn
  split at h
  · cases h
  · split at h
    · cases h
    · cases h
      show (B.2.2.2 ++ [_]).length ≤ 16
      rw [List.length_append, List.length_singleton]
      omega
/-- a line is told -/
theorem z_tellL {B : aB} (hT : gT T) (Y : zHt m b T A E) (hR : (uLine T n i).1 = true) (hi : i ≤ 400) (hz : zls T i = i) (hRE : (uLine T n i).2.1 ≤ E) (P : zQp B.1 B.2.1 B.2.2.1) (hn : B.2.2.2.length ≤ 16) (hm : ∀ x ∈ (uLine T n i).2.2.2, M x.1 = x.2) (hA3 : ∀ j, j < E → uK T j ≠ 8 → A.2.2 j = Int32.ofNat (M j)) (H : zTf h m b T A nt oc B.1 B.2.1 B.2.2.1 [] E B.2.2.2.length) : zLT h (d + 5) m b T A nt oc E i (uLine T n i).2.1 (qLn T M (uLine T n i) i B) := by
  obtain ⟨w, w1, w2, w3, w4⟩ := line_e hT hi hR
  have hl := zls_in hz w4
  obtain ⟨as, ps, W, nts⟩ := B
  have S := q_shape hR
  have h24 := w4
  rcases S with ⟨k0, k1, k2, k3⟩ | ⟨k0, k1, k2, k3, k4, k5⟩ | ⟨w', hw, k1, -⟩
  · have e : (uLine T n i).2.1 = i + 3 := by rw [k3]; rfl
    rw [e] at hRE ⊢
    exact z_tellA (d := d + 2) Y k0 k1 k2 (fun j a1 a2 => hl j a1 (by omega)) hRE P H
  · have e : (uLine T n i).2.1 = (uPart T 8 (i + 3)).2.1 + 1 := by rw [k5]
    have em : (uLine T n i).2.2.2 = (uPart T 8 (i + 3)).2.2.2 := by rw [k5]
    rw [em] at hm
    rw [e] at hRE ⊢
    exact z_tellP (d := d) Y k0 k1 k2 k3 rfl k4 (fun j a1 a2 => hl j a1 (by omega)) (by omega) P hm hA3 H
  · have hk : uK T i = 4 ∨ uK T i = 5 ∨ uK T i = 7 := by omega
    rw [w1] at hRE ⊢
    exact z_tellN (d := d + 2) Y hk w2 (by omega) hl h24 (by omega) P hn H
theorem z_tellB (hT : gT T) (Y : zHt m b T A E) (hA3 : ∀ j, j < E → uK T j ≠ 8 → A.2.2 j = Int32.ofNat (M j)) : ∀ f n i (B : aB) h, (401 ≤ f + i ∨ f = 400 ∧ i = 0) → i ≤ 400 → (uBk T f n i).1 = true → (uBk T f n i).2.1 = E → zls T i = i → zQp B.1 B.2.1 B.2.2.1 → B.2.2.2.length ≤ 16 → (∀ x ∈ (uBk T f n i).2.2.2, M x.1 = x.2) → zTf h m b T A nt oc B.1 B.2.1 B.2.2.1 [] E B.2.2.2.length → zLT h (d + 5) m b T A nt oc E i E (qBk T M f n i B) ∧ ∀ B', qBk T M f n i B = .inr B' → B'.2.2.2.length ≤ 16 := by
  intro f
  induction f with
  | zero => intro n i B h hf hi; omega
  | succ f ih =>
    intro n i B h hf hi hU hE hz P hn hm H
    by_cases c : uK T i = 37
    · have e : uBk T (f + 1) n i = ug i := by unfold uBk; rw [if_pos c]
      have e2 : qBk T M (f + 1) n i B = .inr B := by unfold qBk; rw [if_pos c]
      rw [e] at hE
      have hE' : i = E := hE
      rw [e2, hE']
      exact ⟨Or.inr ⟨B, rfl, h, zS_rf, H, P, fun o => ⟨o, fun res hres => hres⟩⟩, fun B' z => by cases z; exact hn⟩
    · have e : uBk T (f + 1) n i = ub (uLine T n i) (uBk T f (n + (cF (uLine T n i).2.2.1).length)) := by
        conv => lhs; unfold uBk
        rw [if_neg c]
      rw [e] at hU hE hm
      obtain ⟨u1, u2, u3, u4, u5⟩ := ub_ok hU
      rw [u3] at hE
      rw [u5] at hm
      obtain ⟨w, w1, w2, w3, w4⟩ := line_e hT hi u1
      have gl := gp_line (n := n) hT hi
      have gb := (gM_bk hT f _ _ gl.2.1 u2).1
      rw [hE] at gb
      have L := z_tellL (d := d) hT Y u1 hi hz gb P hn (fun x hx => hm x (List.mem_append_left _ hx)) hA3 H
      have eq1 : qBk T M (f + 1) n i B = match qLn T M (uLine T n i) i B with
        | .inl e => .inl e
        | .inr B' => qBk T M f (n + (cF (uLine T n i).2.2.1).length) (uLine T n i).2.1 B' := by
        conv => lhs; unfold qBk
        rw [if_neg c]
        cases qLn T M (uLine T n i) i B <;> rfl
      rcases L with ⟨y, y1, y2⟩ | ⟨B1, y1, h1, F1, H1, P1, g1⟩
      · rw [eq1, y1]
        exact ⟨Or.inl ⟨y, rfl, y2⟩, fun B' z => by cases z⟩
      · rw [eq1, y1]
        show zLT h (d + 5) m b T A nt oc E i E (qBk T M f (n + (cF (uLine T n i).2.2.1).length) (uLine T n i).2.1 B1) ∧ ∀ B', qBk T M f (n + (cF (uLine T n i).2.2.1).length) (uLine T n i).2.1 B1 = .inr B' → B'.2.2.2.length ≤ 16
        obtain ⟨I1, I2⟩ := ih (n + (cF (uLine T n i).2.2.1).length) (uLine T n i).2.1 B1 h1 (by rw [w1]; omega) gl.2.1 u2 hE (by rw [w1]; exact zls_24 w2) P1 (qLn_16 y1 hn) (fun x hx => hm x (List.mem_append_right _ hx)) H1
        refine ⟨?_, I2⟩
        rcases I1 with ⟨y, z1, z2⟩ | ⟨B2, z1, h2, F2, H2, P2, g2⟩
        · refine Or.inl ⟨y, z1, fun o => ?_⟩
          obtain ⟨o', g⟩ := g1 o
          exact zErr_fr F1 g (z2 o')
        · refine Or.inr ⟨B2, z1, h2, zS_tr F1 F2, H2, P2, fun o => ?_⟩
          obtain ⟨o', g⟩ := g1 o
          obtain ⟨o'', g'⟩ := g2 o'
          exact ⟨o'', fun res hres => g res (g' res hres)⟩
end ZT
