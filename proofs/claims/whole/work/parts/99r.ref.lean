/-! ===== LEVEL 3: the reference, settling: notes ===== -/
section ZT
variable {h h' h1 h2 : jm_H} {d D m b i q k n a e p j E c29 : Nat} {T : List aK4} {A : zA3} {nt oc : Nat} {as ps : List Nat} {W : Nat → List Int} {r : List Int} {M : Nat → Nat} {os : List aI} {NL : List zNl}
/-- notes, so many of them settled -/
def zNw (h : jm_H) (b : Nat) (T : List aK4) (ps : List Nat) (NL : List zNl) (k : Nat) : Prop := ∃ NK WH TO BG EN, zN5 h b NK WH TO BG EN ∧ ∀ n, n < NL.length → NK n = Int32.ofNat (NL.getD n zn0).1 ∧ WH n = Int32.ofNat (if n < k then qpl T ps (NL.getD n zn0).2.1 else (NL.getD n zn0).2.1) ∧ ((NL.getD n zn0).1 = 5 → TO n = Int32.ofNat (if n < k then qpl T ps (NL.getD n zn0).2.2.1 else (NL.getD n zn0).2.2.1)) ∧ BG n = Int32.ofNat (NL.getD n zn0).2.2.2.1 ∧ EN n = Int32.ofNat (NL.getD n zn0).2.2.2.2
def zNg (T : List aK4) (ps : List Nat) (x : zNl) : Prop := x.1 < 40 ∧ uK T x.2.1 = 35 ∧ 0 ≤ fd ps (uW T x.2.1) ∧ (x.1 = 5 → uK T x.2.2.1 = 35 ∧ 0 ≤ fd ps (uW T x.2.2.1))
theorem zN5_z {U : Nat → Prop} {NK WH TO BG EN : Nat → Int32} (hb : b = m + 2 ∨ m + 36 ≤ b) (H : zN5 h b NK WH TO BG EN) (F1 : zS m U (fun _ => False) h h') (q : ∀ c, U c → ¬ (b + 11 ≤ c ∧ c ≤ b + 15)) : zN5 h' b NK WH TO BG EN := by
  obtain ⟨a1, a2, a3, a4, a5⟩ := H
  have np : ∀ j, 11 ≤ j → j ≤ 15 → ¬ U (b + j) := fun j h1 h2 z => q _ z (by omega)
  exact ⟨aC_z a1 F1 (by omega) (np 11 (by omega) (by omega)), aC_z a2 F1 (by omega) (np 12 (by omega) (by omega)), aC_z a3 F1 (by omega) (np 13 (by omega) (by omega)), aC_z a4 F1 (by omega) (np 14 (by omega) (by omega)), aC_z a5 F1 (by omega) (np 15 (by omega) (by omega))⟩
theorem z_set1 {o0 : Option Value} (hb : b = m + 2 ∨ m + 36 ≤ b) (hm : 128 ≤ m) (P : zQp as ps W) (hq : ∀ j, uK T j = 35 → uW T j < q10) (hTl : ∀ j, uK T j = 35 → j < T.length) (hn : NL.length ≤ 16) (hG : ∀ x ∈ NL, zNg T ps x) : ∀ f k h, k + f = NL.length → zTe h m b T A NL.length oc as ps W r → zNw h b T ps NL k → ∃ h', zS m (fun c => c = b + 12 ∨ c = b + 13) (fun _ => False) h h' ∧ zTe h' m b T A NL.length oc as ps W r ∧ zNw h' b T ps NL NL.length ∧ ∀ r, kX13_settle_84 (d + 1) o0 b 0 h' = some r → kX13_settle_2 (d + 1) o0 b (Int32.ofNat k) h = some r := by
  intro f
  induction f with
  | zero =>
    intro k h hk H N
    refine ⟨h, zS_rf, H, by rw [show k = NL.length by omega] at N; exact N, fun r hr => ?_⟩
    apply gX13_settle_2
    rw [zTe_I (k := 12) H rfl, Option.bind_some, if_neg (by rw [jw_lt (by omega) (by omega)]; omega)]
    exact hr
  | succ f ih =>
    intro k h hk H N
    obtain ⟨NK, WH, TO, BG, EN, N5, hN⟩ := N
    obtain ⟨p1, p2, p3, p4, p5⟩ := hN k (by omega)
    rw [if_neg (Nat.lt_irrefl k)] at p2 p3
    have hmem : NL.getD k zn0 ∈ NL := by
      rw [List.getD_eq_getElem?_getD, List.getElem?_eq_getElem (by omega)]
      exact List.getElem_mem _
    obtain ⟨G0, G1, G2, G3⟩ := hG _ hmem
    obtain ⟨a1, a2, a3, a4, a5⟩ := N5
    obtain ⟨y, ey, ef⟩ := z_look (d := d) H P hq G1 (hTl _ G1) G2
    obtain ⟨h1, e1, F1, L1⟩ := z_asi (m := m) (i := k) (x := Int32.ofNat (qpl T ps (NL.getD k zn0).2.1)) a2 (by omega) (by omega) (by omega)
    rw [nar0] at L1
    have H1 := zTe_y H hb F1 (fun c z => by omega)
    have f1 := aC_at (i := k) (aC_z a1 F1 (by omega) (by omega)) (by omega) (by omega)
    have head : ∀ r, (if Int32.ofNat (NL.getD k zn0).1 = 5 then (jr_R h1 b 11 15 2).bind fun a28 => (jr_R h1 b 11 9 2).bind fun a30 => (jr_I h1 b 11 8 0).bind fun x32 => (jr_R h1 b 11 3 2).bind fun a34 => (jr_R h1 b 11 15 2).bind fun a36 => (jm_ali h1 a36 0 (Int32.ofNat k)).bind fun x38 => (jm_all h1 a34 x38).bind fun y40 => jc_I (jm_D (d + 1) mX13_find [.ref a30, .int x32, .long y40] h1) (fun x44 h42 => (jm_asi h42 a28 0 (Int32.ofNat k) x44).bind fun h45 => kX13_settle_2 (d + 1) o0 b (Int32.ofNat k + 1) h45) jx else kX13_settle_2 (d + 1) o0 b (Int32.ofNat k + 1) h1) = some r → kX13_settle_2 (d + 1) o0 b (Int32.ofNat k) h = some r := fun r hr => by
      apply gX13_settle_2
      rw [zTe_I (k := 12) H rfl, Option.bind_some, if_pos (by rw [jw_lt (by omega) (by omega)]; omega), zTe_R (k := 14) (x := b + 12) H rfl, Option.bind_some, zTe_R (k := 9) (x := b + 8) H rfl, Option.bind_some, zTe_I (k := 8) H rfl, Option.bind_some, zTe_R (k := 3) (x := b + 4) H rfl, Option.bind_some, Option.bind_some, aC_at a2 (by omega) (by omega), Option.bind_some, p2, ey, Option.bind_some, ef, jc_I_eq, e1, Option.bind_some, zTe_R (k := 13) (x := b + 11) H1 rfl, Option.bind_some, f1, Option.bind_some, p1]
      exact hr
    have fin : ∀ (h2 : jm_H) (TO' : Nat → Int32), zTe h2 m b T A NL.length oc as ps W r → zS m (fun c => c = b + 12 ∨ c = b + 13) (fun _ => False) h h2 → zN5 h2 b NK (upd WH k (Int32.ofNat (qpl T ps (NL.getD k zn0).2.1))) TO' BG EN → (∀ j, j ≠ k → TO' j = TO j) → ((NL.getD k zn0).1 = 5 → TO' k = Int32.ofNat (qpl T ps (NL.getD k zn0).2.2.1)) → (∀ r, kX13_settle_2 (d + 1) o0 b (Int32.ofNat (k + 1)) h2 = some r → kX13_settle_2 (d + 1) o0 b (Int32.ofNat k) h = some r) → ∃ h', zS m (fun c => c = b + 12 ∨ c = b + 13) (fun _ => False) h h' ∧ zTe h' m b T A NL.length oc as ps W r ∧ zNw h' b T ps NL NL.length ∧ ∀ r, kX13_settle_84 (d + 1) o0 b 0 h' = some r → kX13_settle_2 (d + 1) o0 b (Int32.ofNat k) h = some r := by
      intro h2 TO' H2 F2 N2 t1 t2 g
      have Nk : zNw h2 b T ps NL (k + 1) := ⟨_, _, _, _, _, N2, fun n hn => by
        obtain ⟨r1, r2, r3, r4, r5⟩ := hN n hn
        by_cases c : n = k
        · subst c
          rw [if_pos (Nat.lt_succ_self n), if_pos (Nat.lt_succ_self n)]
          exact ⟨r1, if_pos rfl, t2, r4, r5⟩
        · have ec : (n < k + 1) ↔ n < k := by omega
          simp only [ec]
          exact ⟨r1, (if_neg c).trans r2, fun z => (t1 n c).trans (r3 z), r4, r5⟩⟩
      obtain ⟨h3, F3, H3, N3, g3⟩ := ih (k + 1) h2 (by omega) H2 Nk
      exact ⟨h3, zS_tr F2 F3, H3, N3, fun r hr => g r (g3 r hr)⟩
    have FA : zS m (fun c => c = b + 12 ∨ c = b + 13) (fun _ => False) h h1 := zS_mn F1 (fun c z => Or.inl z) (fun k z => z)
    have N1 : zN5 h1 b NK (upd WH k (Int32.ofNat (qpl T ps (NL.getD k zn0).2.1))) TO BG EN := ⟨aC_z a1 F1 (by omega) (by omega), L1, aC_z a3 F1 (by omega) (by omega), aC_z a4 F1 (by omega) (by omega), aC_z a5 F1 (by omega) (by omega)⟩
    by_cases c5 : (NL.getD k zn0).1 = 5
    · obtain ⟨q1, q2⟩ := G3 c5
      obtain ⟨y', ey', ef'⟩ := z_look (d := d) H1 P hq q1 (hTl _ q1) q2
      obtain ⟨b1, b2, b3, b4, b5⟩ := N1
      obtain ⟨h2, e2, F2, L2⟩ := z_asi (m := m) (i := k) (x := Int32.ofNat (qpl T ps (NL.getD k zn0).2.2.1)) b3 (by omega) (by omega) (by omega)
      rw [nar0] at L2
      have p3' := p3 c5
      refine fin h2 _ (zTe_y H1 hb F2 (fun c z => by omega)) (zS_tr FA (zS_mn F2 (fun c z => Or.inr z) (fun k z => z))) ⟨aC_z b1 F2 (by omega) (by omega), aC_z b2 F2 (by omega) (by omega), L2, aC_z b4 F2 (by omega) (by omega), aC_z b5 F2 (by omega) (by omega)⟩ (fun j hj => if_neg hj) (fun _ => if_pos rfl) (fun r hr => head r ?_)
      rw [c5, if_pos (show Int32.ofNat 5 = 5 from rfl), zTe_R (k := 15) (x := b + 13) H1 rfl, Option.bind_some, zTe_R (k := 9) (x := b + 8) H1 rfl, Option.bind_some, zTe_I (k := 8) H1 rfl, Option.bind_some, zTe_R (k := 3) (x := b + 4) H1 rfl, Option.bind_some, Option.bind_some, aC_at b3 (by omega) (by omega), Option.bind_some, p3', ey', Option.bind_some, ef', jc_I_eq, e2, Option.bind_some, jw_add1]
      exact hr
    · refine fin h1 TO H1 FA N1 (fun j _ => rfl) (fun z => absurd z c5) (fun r hr => head r ?_)
      rw [if_neg (show ¬ Int32.ofNat (NL.getD k zn0).1 = 5 from fun z => c5 ((jw_eq (by omega) (show 5 < 2147483648 by omega)).mp z)), jw_add1]
      exact hr
end ZT
