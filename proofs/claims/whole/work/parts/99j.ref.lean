/-! ===== LEVEL 3: the reference, telling: tokens of a row ===== -/
section ZT
variable {h h' h1 h2 : jm_H} {d D m b i q k n a e p j E c29 : Nat} {T : List aK4} {A : zA3} {nt oc : Nat} {as ps : List Nat} {W : Nat → List Int} {r : List Int} {M : Nat → Nat} {s s' : aQ}
theorem z_tok0 (hK : ∀ j, uK T j < 39) (hr : r.length ≤ 150) (H : zTe h m b T A nt oc as ps W r) (hpT : p < T.length) (he : e < 401) (hpe : p < e) (h22 : uK T p ≠ 22) (h35 : uK T p ≠ 35) : zTok h (d + 3) m b T A nt oc as ps W e p r r := by
  refine z_70 (k := 0) hr (by omega) rfl (fun _ => ?_) (fun o res hres => ?_)
  · obtain ⟨v, h1, e1, e2, e3⟩ := z_lay_0 (h := h) (b := b) (d := d) (p := p) (x := Int32.ofNat (150 * ps.length + r.length))
    rw [e3] at e1
    exact ⟨v, h, e1, e2, zS_rf, H⟩
  · apply gX13_tell_16
    rw [if_pos (by rw [jw_lt (by omega) (by omega)]; exact hpe), zTe_R (k := 0) (x := b + 1) H rfl, Option.bind_some, zTe_kind H hpT, Option.bind_some, if_neg (show ¬ Int32.ofNat (zki (uK T p)) = 91 from fun z => h22 ((zki_eq (hK p) (show 22 < 39 by omega)).mp z)), Option.bind_some, zTe_kind H hpT, Option.bind_some, if_neg (show ¬ Int32.ofNat (zki (uK T p)) = 30 from fun z => h35 ((zki_eq (hK p) (show 35 < 39 by omega)).mp z))]
    exact hres
theorem z_tok22 (hK : ∀ j, uK T j < 39) (hb : b = m + 2 ∨ m + 36 ≤ b) (P : zQp as ps W) (hps : ps.length < 12) (hr : r.length ≤ 150) (H : zTe h m b T A nt oc as ps W r) (hpT : p < T.length) (he : e < 401) (hpe : p < e) (h22 : uK T p = 22) (hM : A.2.2 p = Int32.ofNat (M p) ∧ 2 ≤ M p ∧ M p ≤ 400) : zTok h (d + 3) m b T A nt oc as ps W e p r (r ++ List.replicate (M p - 1) 0) := by
  refine z_70 (k := M p - 1) hr (by omega) (by rw [List.length_append, List.length_replicate]) (fun hl => ?_) (fun o res hres => ?_)
  · exact z_lay_z hb P hps (by omega) hl H hpT hK (by omega)
  · apply gX13_tell_16
    rw [if_pos (by rw [jw_lt (by omega) (by omega)]; exact hpe), zTe_R (k := 0) (x := b + 1) H rfl, Option.bind_some, zTe_kind H hpT, Option.bind_some, if_pos (show Int32.ofNat (zki (uK T p)) = 91 by rw [h22]; rfl), zTe_R (k := 5) (x := b + 6) H rfl, Option.bind_some, zTe_pa H (by omega), Option.bind_some, hM.1]
    have e1 : Int32.ofNat (M p) - 1 = Int32.ofNat (M p - 1) := by
      conv => lhs; rw [show M p = (M p - 1) + 1 by omega]
      exact jw_sub1
    rw [Option.bind_some, zTe_kind H hpT, Option.bind_some, if_neg (show ¬ Int32.ofNat (zki (uK T p)) = 30 from fun z => by have := (zki_eq (hK p) (show 35 < 39 by omega)).mp z; omega), e1, jw_add]
    exact hres
theorem z_tok35 {sz : Nat} {r' : List Int} (hr : r.length ≤ 150) (H : zTe h m b T A nt oc as ps W r) (hpT : p < T.length) (he : e < 401) (hpe : p < e) (h35 : uK T p = 35) (hsz : sz < 1000) (hsize : jm_D (d + 3) mX13_sizeOfName [.ref b, .int (Int32.ofNat p)] h = some (.inl (some (.int (Int32.ofNat sz))), h)) (hl : r'.length = r.length + sz) (hlay : r.length + sz ≤ 150 → jF (jm_D (d + 3) mX13_layOut [.ref b, .int (Int32.ofNat p), .int (Int32.ofNat (150 * ps.length + r.length)), .int (Int32.ofNat sz)] h) (.inl none) fun h' => zS m (fun c => c = b + 9) (fun _ => False) h h' ∧ zTe h' m b T A nt oc as ps W r') : zTok h (d + 3) m b T A nt oc as ps W e p r r' := by
  refine z_70 (k := sz) hr hsz hl hlay (fun o res hres => ?_)
  apply gX13_tell_16
  rw [if_pos (by rw [jw_lt (by omega) (by omega)]; exact hpe), zTe_R (k := 0) (x := b + 1) H rfl, Option.bind_some, zTe_kind H hpT, Option.bind_some, if_neg (show ¬ Int32.ofNat (zki (uK T p)) = 91 by rw [h35]; decide), Option.bind_some, zTe_kind H hpT, Option.bind_some, if_pos (show Int32.ofNat (zki (uK T p)) = 30 by rw [h35]; rfl), hsize, jc_I_eq, jw_add]
  exact hres
/-- the walk -/
theorem z_tellW (hK : ∀ j, uK T j < 39) (hb : b = m + 2 ∨ m + 36 ≤ b) (hps : ps.length < 12) (hp : zps T (i + 3) e) (he : uK T e = 24) (hk : uK T i = 1) (hls : ∀ j, i ≤ j → j ≤ e → zls T j = i) (h0 : zmk T (i + 3) = []) (heE : e < E) (hE : E < 401) (hTl : T.length = E + 1) (hA1 : ∀ j, j < E → A.1 j = zme T j) (hA2 : ∀ j, uK T j = 35 → j < E → A.2.1 j = zar T j) (hq : ∀ j, uK T j = 35 → uW T j < q10) (P : zQp as ps W) (hM : ∀ j, i + 3 ≤ j → j < e → uK T j = 22 → A.2.2 j = Int32.ofNat (M j) ∧ 2 ≤ M j ∧ M j ≤ 400) : ∀ f s h sf, e < s.2.2 + f → zJ T (i + 3) e s → qGo T M as ps W f s = .inr sf → s.2.1.length ≤ 150 → zTe h m b T A nt oc as ps W s.2.1 →
    (150 < sf.2.1.length ∧ ∀ o, ∃ h' r', kX13_tell_16 (d + 3) m b (Int32.ofNat e) (Int32.ofNat s.2.1.length) (Int32.ofNat ps.length) (Int32.ofNat s.2.2) o h = some (.inl (some (.int 0)), h') ∧ zS m (fun c => c = b + 9) (fun _ => False) h h' ∧ zTe h' m b T A nt oc as ps W r') ∨ (sf.2.1.length ≤ 150 ∧ ∃ h', zS m (fun c => c = b + 9) (fun _ => False) h h' ∧ zTe h' m b T A nt oc as ps W sf.2.1 ∧ ∀ o, ∃ o', ∀ res, kX13_tell_16 (d + 3) m b (Int32.ofNat e) (Int32.ofNat sf.2.1.length) (Int32.ofNat ps.length) (Int32.ofNat e) o' h' = some res → kX13_tell_16 (d + 3) m b (Int32.ofNat e) (Int32.ofNat s.2.1.length) (Int32.ofNat ps.length) (Int32.ofNat s.2.2) o h = some res) := by
  have hc := zch_part hp (by omega) h0 (fun j a1 a2 => by rw [hls j (by omega) (by omega)]; exact hk)
  have em : ∀ j, i + 3 ≤ j → j ≤ e → uK T j ≠ 24 → A.1 j = if uK T j = 35 then mu4 T j else 0 := fun j a1 a2 a3 => by
    rw [hA1 j (by omega)]
    unfold zme
    rw [hls j (by omega) a2, if_neg (by omega), if_pos hk]
    by_cases c : uK T j = 35
    · rw [if_pos c, if_pos c, if_neg (by omega)]
    · rw [if_neg c, if_neg c, if_neg a3]
  intro f
  induction f with
  | zero => intro s h sf h1 hJ; have := hJ.2.1; omega
  | succ f ih =>
    intro s h sf h1 hJ hgo hlen H
    by_cases c24 : s.2.2 = e
    · have : sf = s := by
        unfold qGo at hgo
        rw [if_pos (by rw [c24]; exact he)] at hgo
        cases hgo
        rfl
      subst this
      exact Or.inr ⟨hlen, h, zS_rf, H, fun o => ⟨o, fun res hres => by rw [c24]; exact hres⟩⟩
    have hlt : s.2.2 < e := by have := hJ.2.1; omega
    obtain ⟨x1, x2, x3⟩ := hp s.2.2 hJ.1 hlt
    have n24 : uK T s.2.2 ≠ 24 := by omega
    have hj1 := hJ.1
    -- the pure step
    obtain ⟨s', kq, kgo⟩ : ∃ s', qOn T M as ps W s = .inr s' ∧ qGo T M as ps W f s' = .inr sf := by
      unfold qGo at hgo
      rw [if_neg n24] at hgo
      cases hv : qOn T M as ps W s with
      | inl x => rw [hv] at hgo; cases hgo
      | inr s' => rw [hv] at hgo; exact ⟨s', rfl, hgo⟩
    obtain ⟨j1, j2⟩ := zJ_s hp he hJ hlt kq
    have hmono := qGo_len kgo
    -- the step of the reference
    have key : (150 < s'.2.1.length ∧ ∀ o, ∃ h' r', kX13_tell_16 (d + 3) m b (Int32.ofNat e) (Int32.ofNat s.2.1.length) (Int32.ofNat ps.length) (Int32.ofNat s.2.2) o h = some (.inl (some (.int 0)), h') ∧ zS m (fun c => c = b + 9) (fun _ => False) h h' ∧ zTe h' m b T A nt oc as ps W r') ∨ (s'.2.1.length ≤ 150 ∧ ∃ h', zS m (fun c => c = b + 9) (fun _ => False) h h' ∧ zTe h' m b T A nt oc as ps W s'.2.1 ∧ ∀ o, ∃ o', ∀ res, kX13_tell_16 (d + 3) m b (Int32.ofNat e) (Int32.ofNat s'.2.1.length) (Int32.ofNat ps.length) (Int32.ofNat s'.2.2) o' h' = some res → kX13_tell_16 (d + 3) m b (Int32.ofNat e) (Int32.ofNat s.2.1.length) (Int32.ofNat ps.length) (Int32.ofNat s.2.2) o h = some res) := by
      obtain ⟨st, row, p⟩ := s
      have hlt : p < e := hlt
      have hj1 : i + 3 ≤ p := hj1
      have n24 : uK T p ≠ 24 := n24
      have hst : st = (zsq T p).map (uW T) := hJ.2.2.1
      have hpm : uK T (p - 1) ≠ 3 := hJ.2.2.2
      have hlen : row.length ≤ 150 := hlen
      have H : zTe h m b T A nt oc as ps W row := H
      have one : ∀ {st' : List Nat} {r' : List Int}, zTok h (d + 3) m b T A nt oc as ps W e p row r' → (150 < (st', r', p + 1).2.1.length ∧ ∀ o, ∃ h' r', kX13_tell_16 (d + 3) m b (Int32.ofNat e) (Int32.ofNat row.length) (Int32.ofNat ps.length) (Int32.ofNat p) o h = some (.inl (some (.int 0)), h') ∧ zS m (fun c => c = b + 9) (fun _ => False) h h' ∧ zTe h' m b T A nt oc as ps W r') ∨ ((st', r', p + 1).2.1.length ≤ 150 ∧ ∃ h', zS m (fun c => c = b + 9) (fun _ => False) h h' ∧ zTe h' m b T A nt oc as ps W (st', r', p + 1).2.1 ∧ ∀ o, ∃ o', ∀ res, kX13_tell_16 (d + 3) m b (Int32.ofNat e) (Int32.ofNat (st', r', p + 1).2.1.length) (Int32.ofNat ps.length) (Int32.ofNat (st', r', p + 1).2.2) o' h' = some res → kX13_tell_16 (d + 3) m b (Int32.ofNat e) (Int32.ofNat row.length) (Int32.ofNat ps.length) (Int32.ofNat p) o h = some res) := by
        intro st' r' Z
        rcases Z with ⟨z1, z2⟩ | ⟨z1, h', z2, z3, z4⟩
        · exact Or.inl ⟨z1, fun o => ⟨h, row, z2 o, zS_rf, H⟩⟩
        · exact Or.inr ⟨z1, h', z2, z3, z4⟩
      unfold qOn at kq
      simp only [] at kq
      by_cases c3 : uK T p = 3
      · rw [if_pos c3] at kq
        obtain ⟨y1, y2, y3⟩ := x2 c3
        have y1 : uK T (p + 1) = 35 := y1
        have y3 : p + 2 < e := y3
        by_cases c : qkn as ps (uW T (p + 1))
        · rw [if_pos c] at kq; cases kq
        · rw [if_neg c] at kq
          cases kq
          rcases z_tok0 (d := d) (e := e) (p := p) hK hlen H (by omega) (by omega) hlt (by omega) (by omega) with ⟨z1, -⟩ | ⟨-, h1', F1, H1, g1⟩
          · omega
          have e1 := em (p + 1) (by omega) (by omega) (by omega)
          have e2 : mu4 T (p + 1) = 3 := if_pos (by rw [Nat.add_sub_cancel]; exact c3)
          rw [if_pos y1, e2] at e1
          have pf := z_playFor0 (d := d) H1 (show p + 1 < 401 by omega) (by rw [e1]; decide)
          have Z := z_tok35 (d := d) (e := e) (p := p + 1) (sz := 1) (r' := row ++ [-(uW T (p + 1) : Int)]) hlen H1 (by omega) (by omega) (by omega) y1 (by omega) (z_size1 H1 pf) (by rw [List.length_append]; rfl) (fun hl => by
            have := z_lay_1 (w := 0) (d := d) hb P hps (by omega) H1 (show p + 1 < T.length by omega) (by omega) y1 pf
            rw [if_pos e1] at this
            exact this)
          rcases Z with ⟨z1, z2⟩ | ⟨z1, h2', z2, z3, z4⟩
          · exact Or.inl ⟨z1, fun o => by
              obtain ⟨o', g⟩ := g1 o
              exact ⟨h1', row, g _ (z2 o'), F1, H1⟩⟩
          · refine Or.inr ⟨z1, h2', zS_tr F1 z2, z3, fun o => ?_⟩
            obtain ⟨o', g⟩ := g1 o
            obtain ⟨o'', g2⟩ := z4 o'
            exact ⟨o'', fun res hres => g res (g2 res hres)⟩
      rw [if_neg c3] at kq
      by_cases c21 : uK T p = 21
      · rw [if_pos c21] at kq
        cases kq
        exact one (z_tok0 hK hlen H (by omega) (by omega) hlt (by omega) (by omega))
      rw [if_neg c21] at kq
      by_cases c22 : uK T p = 22
      · rw [if_pos c22] at kq
        cases kq
        exact one (z_tok22 hK hb P hps hlen H (by omega) (by omega) hlt c22 (hM p hj1 hlt c22))
      rw [if_neg c22] at kq
      by_cases c35 : uK T p = 35
      · rw [if_pos c35] at kq
        have e0 := em p hj1 (by omega) n24
        have e2 : mu4 T p = 4 := if_neg hpm
        rw [if_pos c35, e2] at e0
        have hcp := hc p hj1 (by omega)
        have hst' : st = (zmk T p).map (uW T) := by
          rw [hst]
          unfold zsq
          rw [if_neg (by omega)]
        have pf := z_playFor4 (d := d) (e := E) (l := zmk T p) H P (by omega) (show p < T.length by omega) c35 hA2 hq (by omega) hcp.1 (fun t ht => by have := hcp.2 t ht; omega) (by
          unfold zar
          rw [hls p (by omega) (by omega), if_pos hk]
          rfl) e0
        rw [← hst'] at pf
        by_cases c : uW T p ∈ st ∨ 0 ≤ fd as (uW T p)
        · rw [if_pos c] at kq
          cases kq
          have pf1 : jm_D (d + 2) mX13_playFor [.ref b, .int (Int32.ofNat p)] h = some (.inl (some (.int (-1))), h) := by
            by_cases cw : uW T p ∈ st
            · rw [if_pos cw] at pf
              exact pf
            · rw [if_neg cw, (fd_neg (by have := P.2.1; omega)).mpr (P.2.2.2.2.2 _ (c.resolve_left cw))] at pf
              exact pf
          refine one (z_tok35 (sz := 1) hlen H (by omega) (by omega) hlt c35 (by omega) (z_size1 H pf1) (by rw [List.length_append]; rfl) (fun hl => ?_))
          have := z_lay_1 (w := 0) (d := d) hb P hps (by omega) H (show p < T.length by omega) (by omega) c35 pf1
          rw [if_neg (by rw [e0]; decide)] at this
          exact this
        · rw [if_neg c] at kq
          by_cases c' : 0 ≤ fd ps (uW T p)
          · rw [if_pos c'] at kq
            cases kq
            have hfb := fd_b (l := ps) (x := uW T p)
            have hkk : (fd ps (uW T p)).toNat < ps.length := by omega
            have pf2 : jm_D (d + 2) mX13_playFor [.ref b, .int (Int32.ofNat p)] h = some (.inl (some (.int (Int32.ofNat (fd ps (uW T p)).toNat))), h) := by
              rw [if_neg (fun z => c (Or.inl z))] at pf
              have e5 : Int32.ofInt (fd ps (uW T p)) = Int32.ofNat (fd ps (uW T p)).toNat := by
                rw [← jw_in (n := (fd ps (uW T p)).toNat)]
                congr 1
                omega
              rw [e5] at pf
              exact pf
            have := P.2.2.2.2.1 _ hkk
            exact one (z_tok35 hlen H (by omega) (by omega) hlt c35 (by omega) (z_sizeK H P hkk pf2) (by rw [List.length_append]) (fun hl => z_lay_k hb P hps hkk hl H (by omega) c35 pf2))
          · rw [if_neg c'] at kq; cases kq
      rw [if_neg c35] at kq
      cases kq
      exact one (z_tok0 hK hlen H (by omega) (by omega) hlt c22 c35)
    rcases key with ⟨k1, k2⟩ | ⟨k1, h', k2, k3, k4⟩
    · exact Or.inl ⟨by omega, k2⟩
    · rcases ih s' h' sf (by omega) j1 kgo k1 k3 with ⟨y1, y2⟩ | ⟨y1, h'', y2, y3, y4⟩
      · refine Or.inl ⟨y1, fun o => ?_⟩
        obtain ⟨o', g⟩ := k4 o
        obtain ⟨hx, rx, w1, w2, w3⟩ := y2 o'
        exact ⟨hx, rx, g _ w1, zS_tr k2 w2, w3⟩
      · refine Or.inr ⟨y1, h'', zS_tr k2 y2, y3, fun o => ?_⟩
        obtain ⟨o', g⟩ := k4 o
        obtain ⟨o'', g2⟩ := y4 o'
        exact ⟨o'', fun res hres => g res (g2 res hres)⟩
end ZT
