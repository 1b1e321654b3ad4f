/-! ===== LEVEL 3: the reference, a book that is settled ===== -/
theorem qBk_gE {T : List aK4} {M : Nat → Nat} (hT : gT T) (hN : gTn T) : ∀ f n i B B', (401 ≤ f + i ∨ f = 400 ∧ i = 0) → i ≤ 400 → (uBk T f n i).1 = true → (∀ x ∈ (uBk T f n i).2.2.2, M x.1 = x.2) → qBk T M f n i B = .inr B' → gE T B → gE T B' := by
  intro f
  induction f with
  | zero => intro n i B B' hf hi; omega
  | succ f ih =>
    intro n i B B' hf hi hU hm hq hB
    by_cases c : uK T i = 37
    · have e3 : qBk T M (f + 1) n i B = .inr B := by unfold qBk; rw [if_pos c]
      rw [e3] at hq
      cases hq
      exact hB
    · have e : uBk T (f + 1) n i = ub (uLine T n i) (uBk T f (n + (cF (uLine T n i).2.2.1).length)) := by
        conv => lhs; unfold uBk
        rw [if_neg c]
      rw [e] at hU hm
      obtain ⟨u1, u2, u3, u4, u5⟩ := ub_ok hU
      rw [u5] at hm
      obtain ⟨w, w1, w2, w3, w4⟩ := line_e hT hi u1
      have gl := gp_line (n := n) hT hi
      unfold qBk at hq
      rw [if_neg c] at hq
      cases hv : qLn T M (uLine T n i) i B with
      | inl y => rw [hv] at hq; cases hq
      | inr B1 =>
        rw [hv] at hq
        exact ih (n + (cF (uLine T n i).2.2.1).length) (uLine T n i).2.1 B1 B' (by rw [w1]; omega) gl.2.1 u2 (fun x hx => hm x (List.mem_append_right _ hx)) hq (qLn_gE hT hN (q_shape u1) gl.2.1 (fun x hx => hm x (List.mem_append_left _ hx)) hB hv)
section ZT
variable {h h' h1 h2 : jm_H} {d D m b i q k n a e p j E c29 : Nat} {T : List aK4} {A : zA3} {nt oc : Nat} {as ps : List Nat} {W : Nat → List Int} {r : List Int} {M : Nat → Nat} {os : List aI} {NL : List zNl} {B : aB}
theorem zo_q {o : aI} : (zo (qI T ps o)).1 = (zo o).1 := by
  by_cases c : 10 ≤ o.1 ∧ o.1 ≤ 13
  · obtain ⟨x1, x2⟩ := zo_1 (T := T) (ps := ps) c
    rw [x1, x2]
  · by_cases c4 : o.1 = 14
    · obtain ⟨x1, x2⟩ := zo_14 (T := T) (ps := ps) c4
      rw [x1, x2]
    · have : qI T ps o = o := by
        unfold qI
        rw [if_neg c, if_neg c4]
      rw [this]
theorem zts_map {f : List aI → List aI} {t : Option (List aI)} (h : f [] = []) : zts (t.map f) = f (zts t) := by
  cases t with
  | none => exact h.symm
  | some t => rfl
def zSV (b c : Nat) : Prop := c = b + 12 ∨ c = b + 13 ∨ c = b + 17
theorem z_settle (hb : b = m + 2 ∨ m + 36 ≤ b) (hm : 128 ≤ m) (P : zQp B.1 B.2.1 B.2.2.1) (hq : ∀ j, uK T j = 35 → uW T j < q10) (hTl : ∀ j, uK T j = 35 → j < T.length) (hE : gE T B) (hos : os.length ≤ 800) (hG : ∀ o ∈ os, zGo T B.2.1 o) (hl : B.2.2.2.length = NL.length) (hZ : ∀ k, k < B.2.2.2.length → zGn T B.2.1 0 os (NL.getD k zn0) (B.2.2.2.getD k n0)) (H : zTe h m b T A NL.length os.length B.1 B.2.1 B.2.2.1 []) (N : zNw h b T B.2.1 NL 0) (O : zOw h b T B.2.1 os 0) : jF (jm_D (d + 2) mX13_settle [.ref m, .ref b] h) (.inl none) fun h' => zS m (zSV b) (fun _ => False) h h' ∧ zD h' b (qFi T B) := by
  obtain ⟨as, ps, W, nts⟩ := B
  have hn16 : NL.length ≤ 16 := by rw [← hl]; exact hE.2.2.1
  have hmemB : ∀ k, k < nts.length → nts.getD k n0 ∈ nts := fun k hk => by
    rw [List.getD_eq_getElem?_getD, List.getElem?_eq_getElem hk]
    exact List.getElem_mem hk
  have hl' : nts.length = NL.length := hl
  have hZ' : ∀ k, k < nts.length → zGn T ps 0 os (NL.getD k zn0) (nts.getD k n0) := hZ
  have hNg : ∀ x ∈ NL, zNg T ps x := fun x hx => by
    obtain ⟨k, hk, e⟩ := List.getElem_of_mem hx
    have ek : NL.getD k zn0 = x := by rw [List.getD_eq_getElem?_getD, List.getElem?_eq_getElem hk]; exact e
    have z := hZ' k (by omega)
    rw [ek] at z
    obtain ⟨z1, z2, z3, z4, z5, z6, z7, z8⟩ := z
    have g := (hE.2.2.2.2.2.2 _ (hmemB k (by omega))).1
    rw [z1] at g
    exact ⟨by omega, z2, z4, fun c => ⟨(z6 c).1, (z6 c).2.2.1⟩⟩
  refine jE_of (fun r => gX13_settle) ?_
  obtain ⟨h1, F1, H1, N1, g1⟩ := z_set1 (d := d) (o0 := some (.ref m)) hb hm P hq hTl hn16 hNg NL.length 0 h (by omega) H N
  have O1 : zOw h1 b T ps os 0 := by
    obtain ⟨OR, WI, AS, o1, o2, o3, o4⟩ := O
    exact ⟨OR, WI, AS, aC_z o1 F1 (by omega) (by omega), aC_z o2 F1 (by omega) (by omega), aC_z o3 F1 (by omega) (by omega), o4⟩
  obtain ⟨v, h2, e2, rfl, F2, O2⟩ := z_set2 (d := d) (o0 := some (.ref m)) hb hm P hq hTl hos hG os.length 0 h1 (by omega) H1 O1
  have eg := g1 _ e2
  have H2 := zTe_y H1 hb F2 (fun c z => by omega)
  have FA : zS m (zSV b) (fun _ => False) h h2 := zS_2 F1 F2 (fun c z => by unfold zSV; omega) (fun c z => by unfold zSV; omega) (fun k z => z) (fun k z => z)
  refine ⟨_, h2, eg, rfl, FA, ?_⟩
  obtain ⟨NK, WH, TO, BG, EN, M5, N2⟩ := N1
  obtain ⟨m1, m2, m3, m4, m5⟩ := zN5_z hb M5 F2 (fun c z => by omega)
  obtain ⟨OR, WI, AS, o1, o2, o3, o4⟩ := O2
  obtain ⟨-, k2, -, -, -, -, k7, -, ⟨TD, t1, t2, t3⟩, k10⟩ := H2
  refine ⟨⟨Int32.ofNat os.length, ?_⟩, k7, ⟨TD, t1, t2⟩, k10, ⟨NK, WH, TO, BG, EN, OR, WI, m1, m2, m3, m4, m5, o1, o2, fun n hn => ?_⟩, gE_gB hE⟩
  · show oC h2 b 11 (zbF b (Int32.ofNat as.length) (Int32.ofNat ps.length) (Int32.ofNat (nts.map fun n => (n.1, n.2.1, n.2.2.1, n.2.2.2.map (List.map (qI T ps)))).length) (Int32.ofNat os.length))
    rw [List.length_map, hl']
    exact k2
  · have hn' : n < nts.length := by
      have : n < (nts.map fun n => (n.1, n.2.1, n.2.2.1, n.2.2.2.map (List.map (qI T ps)))).length := hn
      rw [List.length_map] at this
      exact this
    have egD : (qFi T (as, ps, W, nts)).2.2.2.getD n n0 = ((nts.getD n n0).1, (nts.getD n n0).2.1, (nts.getD n n0).2.2.1, (nts.getD n n0).2.2.2.map (List.map (qI T ps))) := by
      show (nts.map fun n => (n.1, n.2.1, n.2.2.1, n.2.2.2.map (List.map (qI T ps)))).getD n n0 = _
      rw [List.getD_eq_getElem?_getD, List.getElem?_map, List.getD_eq_getElem?_getD, List.getElem?_eq_getElem hn']
      rfl
    rw [egD]
    obtain ⟨r1, r2, r3, r4, r5⟩ := N2 n (by omega)
    rw [if_pos (by omega)] at r2 r3
    obtain ⟨z1, z2, z3, z4, z5, z6, z7, z8, z9, z10, z11⟩ := hZ' n hn'
    generalize nts.getD n n0 = nt at *
    generalize NL.getD n zn0 = x at *
    refine ⟨by rw [r1, ← z1], fun c => ?_, fun c => ?_, x.2.2.2.1, r4, ?_, ?_, fun i hi => ?_⟩
    · have c' : x.1 = 5 := by rw [← z1]; exact c
      exact ⟨by rw [r2, ← z5], by rw [r3 c', (z6 c').2.2.2]⟩
    · have c' : x.1 ≠ 5 := by rw [← z1]; exact c
      show WH n = Int32.ofNat nt.2.1
      rw [r2, z7 c']
    · show EN n = Int32.ofNat (x.2.2.2.1 + (zts (nt.2.2.2.map (List.map (qI T ps)))).length)
      rw [zts_map rfl, List.length_map, r5, z9]
    · show x.2.2.2.1 + (zts (nt.2.2.2.map (List.map (qI T ps)))).length ≤ 800
      rw [zts_map rfl, List.length_map, ← z9]
      omega
    · have hi : i < (zts (nt.2.2.2.map (List.map (qI T ps)))).length := hi
      rw [zts_map rfl, List.length_map] at hi
      have ei : (zts (nt.2.2.2.map (List.map (qI T ps)))).getD i oI0 = qI T ps ((zts nt.2.2.2).getD i oI0) := by
        rw [zts_map rfl, List.getD_eq_getElem?_getD, List.getElem?_map, List.getD_eq_getElem?_getD, List.getElem?_eq_getElem hi]
        rfl
      show OR (x.2.2.2.1 + i) = Int32.ofNat (zo ((zts (nt.2.2.2.map (List.map (qI T ps)))).getD i oI0)).1 ∧ WI (x.2.2.2.1 + i) = Int32.ofNat (zo ((zts (nt.2.2.2.map (List.map (qI T ps)))).getD i oI0)).2
      rw [ei]
      obtain ⟨w1, w2, w3⟩ := o4 (x.2.2.2.1 + i) (by omega)
      rw [if_pos (by omega)] at w3
      have eo := z11 i hi
      rw [Nat.sub_zero] at eo
      rw [eo] at w1 w3
      exact ⟨by rw [w1, zo_q], w3⟩
end ZT
