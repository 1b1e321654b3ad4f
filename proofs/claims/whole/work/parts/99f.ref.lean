/-! ===== LEVEL 3: the reference, telling: the errors of a part ===== -/
def zsq (T : List aK4) (p : Nat) : List Nat := if uK T p = 20 then (p - 1) :: zmk T p else zmk T p
def zJ (T : List aK4) (i e : Nat) (s : aQ) : Prop := i ≤ s.2.2 ∧ s.2.2 ≤ e ∧ s.1 = (zsq T s.2.2).map (uW T) ∧ uK T (s.2.2 - 1) ≠ 3
section ZT
variable {h h' h1 h2 : jm_H} {d D m b i q k n a e p j E c29 : Nat} {T : List aK4} {A : zA3} {nt oc : Nat} {as ps : List Nat} {W : Nat → List Int} {r : List Int} {M : Nat → Nat} {s s' : aQ}
theorem zJ_s (hp : zps T i e) (he : uK T e = 24) (H : zJ T i e s) (hl : s.2.2 < e) (h : qOn T M as ps W s = .inr s') : zJ T i e s' ∧ s.2.2 < s'.2.2 := by
  obtain ⟨st, row, p⟩ := s
  obtain ⟨a1, a2, a3, a4⟩ := H
  have a1 : i ≤ p := a1
  have a2 : p ≤ e := a2
  have hl : p < e := hl
  have a4 : uK T (p - 1) ≠ 3 := a4
  have a3 : st = (zsq T p).map (uW T) := a3
  obtain ⟨x1, x2, x3⟩ := hp p a1 hl
  have n20 : uK T p ≠ 3 → uK T (p + 1) ≠ 20 := fun z w => by
    by_cases c : p + 1 = e
    · rw [c] at w; omega
    · obtain ⟨y1, y2, y3⟩ := (hp (p + 1) (by omega) (by omega)).2.2 w
      have y3' : uK T (p - 1) = 3 := by rw [← y3]; congr 1
      exact a4 y3'
  have one : ∀ st' row', uK T p ≠ 3 → st' = (zmk T (p + 1)).map (uW T) → zJ T i e (st', row', p + 1) ∧ p < p + 1 := fun st' row' z w => by
    refine ⟨⟨by show i ≤ p + 1; omega, hl, ?_, by show uK T (p + 1 - 1) ≠ 3; rw [Nat.add_sub_cancel]; exact z⟩, Nat.lt_succ_self p⟩
    show st' = (zsq T (p + 1)).map (uW T)
    unfold zsq
    rw [if_neg (n20 z)]
    exact w
  unfold qOn at h
  simp only [] at h
  by_cases c3 : uK T p = 3
  · rw [if_pos c3] at h
    obtain ⟨y1, y2, y3⟩ := x2 c3
    by_cases c : qkn as ps (uW T (p + 1))
    · rw [if_pos c] at h; cases h
    · rw [if_neg c] at h
      cases h
      refine ⟨⟨by show i ≤ p + 2; omega, by show p + 2 ≤ e; omega, ?_, ?_⟩, by show p < p + 2; omega⟩
      · show uW T (p + 1) :: st = (zsq T (p + 2)).map (uW T)
        unfold zsq
        rw [if_pos y2]
        show uW T (p + 1) :: st = uW T (p + 2 - 1) :: (zmk T (p + 2)).map (uW T)
        have e1 : zmk T (p + 2) = zmk T p := (zmk_s (j := p + 1) (by omega)).trans (zmk_s (by omega))
        rw [e1, a3]
        unfold zsq
        rw [if_neg (by omega)]
        rfl
      · show uK T (p + 2 - 1) ≠ 3
        have : uK T (p + 2 - 1) = 35 := y1
        omega
  rw [if_neg c3] at h
  have e20 : uK T p ≠ 20 → st = (zmk T p).map (uW T) := fun z => by
    rw [a3]
    unfold zsq
    rw [if_neg z]
  by_cases c21 : uK T p = 21
  · rw [if_pos c21] at h
    cases h
    refine one _ _ c3 ?_
    rw [zmk_21 c21, e20 (by omega), List.map_tail]
  rw [if_neg c21] at h
  by_cases c22 : uK T p = 22
  · rw [if_pos c22] at h
    cases h
    refine one _ _ c3 ?_
    rw [zmk_s (by omega), e20 (by omega)]
  rw [if_neg c22] at h
  by_cases c35 : uK T p = 35
  · rw [if_pos c35] at h
    by_cases c : uW T p ∈ st ∨ 0 ≤ fd as (uW T p)
    · rw [if_pos c] at h
      cases h
      refine one _ _ c3 ?_
      rw [zmk_s (by omega), e20 (by omega)]
    · rw [if_neg c] at h
      by_cases c' : 0 ≤ fd ps (uW T p)
      · rw [if_pos c'] at h
        cases h
        refine one _ _ c3 ?_
        rw [zmk_s (by omega), e20 (by omega)]
      · rw [if_neg c'] at h
        cases h
  rw [if_neg c35] at h
  cases h
  refine one _ _ c3 ?_
  by_cases c20 : uK T p = 20
  · rw [zmk_20 c20, a3]
    unfold zsq
    rw [if_pos c20]
  · rw [zmk_s (by omega), e20 c20]
theorem z_errP (hp : zps T (i + 3) e) (he : uK T e = 24) (hk : uK T i = 1) (hls : ∀ j, i ≤ j → j ≤ e → zls T j = i) (h0 : zmk T (i + 3) = []) (heE : e < E) (hE : E < 401) (hTl : T.length = E + 1) (hA1 : ∀ j, j < E → A.1 j = zme T j) (hA2 : ∀ j, uK T j = 35 → j < E → A.2.1 j = zar T j) (hq : ∀ j, uK T j = 35 → uW T j < q10) (P : zQp as ps W) (H : zTf h m b T A nt oc as ps W r E c29) : ∀ f s, e < s.2.2 + f → zJ T (i + 3) e s →
    (∃ x, qGo T M as ps W f s = .inl x ∧ ∀ o, zErr h m b T x (kX13_read_50 (d + 3) m b (Int32.ofNat s.2.2) o h)) ∨ (∃ s', qGo T M as ps W f s = .inr s' ∧ s'.2.2 = e ∧ ∀ o, ∃ o', ∀ r, kX13_read_50 (d + 3) m b (Int32.ofNat e) o' h = some r → kX13_read_50 (d + 3) m b (Int32.ofNat s.2.2) o h = some r) := by
  have hob := zTe_ob H.1
  have hc := zch_part hp (by omega) h0 (fun j a1 a2 => by rw [hls j (by omega) (by omega)]; exact hk)
  have em : ∀ j, i + 3 ≤ j → j ≤ e → uK T j ≠ 24 → A.1 j = if uK T j = 35 then mu4 T j else 0 := fun j a1 a2 a3 => by
    rw [hA1 j (by omega)]
    unfold zme
    rw [hls j (by omega) a2, if_neg (by omega), if_pos hk]
    by_cases c : uK T j = 35
    · rw [if_pos c, if_pos c, if_neg (by omega)]
    · rw [if_neg c, if_neg c, if_neg a3]
  intro f
  induction f with
  | zero => intro s h1 h2; have := h2.2.1; omega
  | succ f ih =>
    intro s h1 hJ
    by_cases c24 : s.2.2 = e
    · refine Or.inr ⟨s, ?_, c24, fun o => ⟨o, fun r hr => by rw [c24]; exact hr⟩⟩
      unfold qGo
      rw [if_pos (by rw [c24]; exact he)]
    have hlt : s.2.2 < e := by have := hJ.2.1; omega
    obtain ⟨x1, x2, x3⟩ := hp s.2.2 hJ.1 hlt
    have n24 : uK T s.2.2 ≠ 24 := by omega
    have hj1 := hJ.1
    -- one step on, or an error
    have key : (∃ x, qOn T M as ps W s = .inl x ∧ ∀ o, zErr h m b T x (kX13_read_50 (d + 3) m b (Int32.ofNat s.2.2) o h)) ∨ (∃ s', qOn T M as ps W s = .inr s' ∧ ∀ o, ∃ o', ∀ r, kX13_read_50 (d + 3) m b (Int32.ofNat s'.2.2) o' h = some r → kX13_read_50 (d + 3) m b (Int32.ofNat s.2.2) o h = some r) := by
      obtain ⟨st, row, p⟩ := s
      have hlt : p < e := hlt
      have hj1 : i + 3 ≤ p := hj1
      have n24 : uK T p ≠ 24 := n24
      have hst : st = (zsq T p).map (uW T) := hJ.2.2.1
      have hpm : uK T (p - 1) ≠ 3 := hJ.2.2.2
      have step0 : A.1 p = 0 → ∀ o, ∀ r, kX13_read_50 (d + 3) m b (Int32.ofNat (p + 1)) (some (.int 0)) h = some r → kX13_read_50 (d + 3) m b (Int32.ofNat p) o h = some r := fun z o => z_go hob H.2.1 hE (by omega) (z_e0 (d := d + 2) H.1 (by omega) z)
      unfold qOn
      simp only []
      by_cases c3 : uK T p = 3
      · rw [if_pos c3]
        obtain ⟨y1, y2, y3⟩ := x2 c3
        have y1 : uK T (p + 1) = 35 := y1
        have y3 : p + 2 < e := y3
        have e0 := em p hj1 (by omega) n24
        rw [if_neg (by omega)] at e0
        have e1 := em (p + 1) (by omega) (by omega) (by omega)
        have e2 : mu4 T (p + 1) = 3 := if_pos (by rw [Nat.add_sub_cancel]; exact c3)
        rw [if_pos y1, e2] at e1
        have er := z_e3 (d := d) H.1 P (show p + 1 < T.length by omega) (by omega) y1 (hq _ y1) e1
        by_cases c : qkn as ps (uW T (p + 1))
        · rw [if_pos c] at er ⊢
          refine Or.inl ⟨(2, p + 1), rfl, fun o => ?_⟩
          obtain ⟨h2, e2, F2, q2⟩ := z_stop (o := some (.int 0)) (c := 2) hob H.2.1 hE (show p + 1 < E by omega) (by omega) er zS_rf H.1 (by omega)
          exact ⟨h2, step0 e0 o _ e2, F2, q2⟩
        · rw [if_neg c] at er ⊢
          exact Or.inr ⟨_, rfl, fun o => ⟨_, fun r hr => step0 e0 o r (z_go hob H.2.1 hE (show p + 1 < E by omega) er r hr)⟩⟩
      rw [if_neg c3]
      by_cases c35 : uK T p = 35
      · rw [if_neg (by omega), if_neg (by omega), if_pos c35]
        have e0 := em p hj1 (by omega) n24
        have e2 : mu4 T p = 4 := if_neg hpm
        rw [if_pos c35, e2] at e0
        have hcp := hc p hj1 (by omega)
        have hst' : st = (zmk T p).map (uW T) := by
          rw [hst]
          unfold zsq
          rw [if_neg (by omega)]
        have er := z_e4 (d := d) (e := E) (l := zmk T p) H.1 P (by omega) (show p < T.length by omega) c35 hA2 hq (by omega) hcp.1 (fun t ht => by have := hcp.2 t ht; omega) (by
          unfold zar
          rw [hls p (by omega) (by omega), if_pos hk]
          rfl) e0
        rw [← hst'] at er
        by_cases c : uW T p ∈ st ∨ 0 ≤ fd as (uW T p)
        · rw [if_pos c]
          rw [if_pos (c.imp id Or.inl)] at er
          exact Or.inr ⟨_, rfl, fun o => ⟨_, z_go hob H.2.1 hE (show p < E by omega) er⟩⟩
        · rw [if_neg c]
          by_cases c' : 0 ≤ fd ps (uW T p)
          · rw [if_pos c']
            rw [if_pos (Or.inr (Or.inr c'))] at er
            exact Or.inr ⟨_, rfl, fun o => ⟨_, z_go hob H.2.1 hE (show p < E by omega) er⟩⟩
          · rw [if_neg c']
            rw [if_neg (fun z => z.elim (fun y => c (Or.inl y)) (fun y => y.elim (fun w => c (Or.inr w)) c'))] at er
            exact Or.inl ⟨(3, p), rfl, fun o => z_stop (c := 3) hob H.2.1 hE (show p < E by omega) (by omega) er zS_rf H.1 (by omega)⟩
      have e0 := em p hj1 (by omega) n24
      rw [if_neg c35] at e0
      by_cases c21 : uK T p = 21
      · rw [if_pos c21]
        exact Or.inr ⟨_, rfl, fun o => ⟨_, step0 e0 o⟩⟩
      rw [if_neg c21]
      by_cases c22 : uK T p = 22
      · rw [if_pos c22]
        exact Or.inr ⟨_, rfl, fun o => ⟨_, step0 e0 o⟩⟩
      rw [if_neg c22, if_neg c35]
      exact Or.inr ⟨_, rfl, fun o => ⟨_, step0 e0 o⟩⟩
    have eu : ∀ v, qOn T M as ps W s = v → qGo T M as ps W (f + 1) s = match v with
      | .inl e => .inl e
      | .inr s' => qGo T M as ps W f s' := fun v z => by
        conv => lhs; unfold qGo
        rw [if_neg n24, z]
        cases v <;> rfl
    rcases key with ⟨x, kx, k2⟩ | ⟨s', kx, k2⟩
    · exact Or.inl ⟨x, eu _ kx, k2⟩
    · obtain ⟨j1, j2⟩ := zJ_s hp he hJ hlt kx
      rw [eu _ kx]
      rcases ih s' (by omega) j1 with ⟨x, y1, y2⟩ | ⟨s'', y1, y2, y3⟩
      · refine Or.inl ⟨x, y1, fun o => ?_⟩
        obtain ⟨o', g⟩ := k2 o
        obtain ⟨h2, e2, F2, q2⟩ := y2 o'
        exact ⟨h2, g _ e2, F2, q2⟩
      · refine Or.inr ⟨s'', y1, y2, fun o => ?_⟩
        obtain ⟨o', g⟩ := k2 o
        obtain ⟨o'', g2⟩ := y3 o'
        exact ⟨o'', fun r hr => g r (g2 r hr)⟩
end ZT
