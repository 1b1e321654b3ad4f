/-! ===== LEVEL 3: the reference, settling: orders ===== -/
section ZT
variable {h h' h1 h2 : jm_H} {d D m b i q k n a e p j E c29 : Nat} {T : List aK4} {A : zA3} {nt oc : Nat} {as ps : List Nat} {W : Nat → List Int} {r : List Int} {M : Nat → Nat} {os : List aI}
theorem zTe_y {U : Nat → Prop} (H : zTe h m b T A nt oc as ps W r) (hb : b = m + 2 ∨ m + 36 ≤ b) (F1 : zS m U (fun _ => False) h h') (q : ∀ c, U c → b + 11 ≤ c ∧ c ≤ b + 18) : zTe h' m b T A nt oc as ps W r := by
  obtain ⟨a1, a2, ⟨KD, FR, VL, k1, k2, k3, k4⟩, a4, a5, a6, ⟨AN, b1, b2⟩, ⟨PN, c1, c2⟩, ⟨TD, t1, t2⟩, ⟨SZ, d1, d2⟩⟩ := H
  have np : ∀ j, j < 11 → ¬ U (b + j) := fun j hj z => by have := q _ z; omega
  exact ⟨zB_tr a1 F1 (fun k z => z.elim), oC_z a2 F1 (by omega) (np 0 (by omega)), ⟨KD, FR, VL, aC_z k1 F1 (by omega) (np 1 (by omega)), aC_z k2 F1 (by omega) (np 2 (by omega)), lC_z k3 F1 (by omega) (np 4 (by omega)), k4⟩, aC_z a4 F1 (by omega) (np 3 (by omega)), aC_z a5 F1 (by omega) (np 5 (by omega)), aC_z a6 F1 (by omega) (np 6 (by omega)), ⟨AN, lC_z b1 F1 (by omega) (np 7 (by omega)), b2⟩, ⟨PN, lC_z c1 F1 (by omega) (np 8 (by omega)), c2⟩, ⟨TD, lC_z t1 F1 (by omega) (np 9 (by omega)), t2⟩, ⟨SZ, aC_z d1 F1 (by omega) (np 10 (by omega)), d2⟩⟩
theorem fd_pl (h : 0 ≤ fd ps (uW T j)) : Int32.ofInt (fd ps (uW T j)) = Int32.ofNat (qpl T ps j) := by
  unfold qpl
  rw [← jw_in]
  congr 1
  omega
/-- a play looked up by its name's token -/
theorem z_look (H : zTe h m b T A nt oc as ps W r) (P : zQp as ps W) (hq : ∀ j, uK T j = 35 → uW T j < q10) (hj : uK T j = 35) (hjT : j < T.length) (hf : 0 ≤ fd ps (uW T j)) : ∃ y, jm_all h (b + 4) (Int32.ofNat j) = some y ∧ jm_D (d + 1) mX13_find [.ref (b + 8), .int (Int32.ofNat ps.length), .long y] h = some (.inl (some (.int (Int32.ofNat (qpl T ps j)))), h) := by
  refine ⟨_, zTe_word H hjT hj, ?_⟩
  rw [zTe_fp H P (hq j hj), fd_pl hf]
def zOw (h : jm_H) (b : Nat) (T : List aK4) (ps : List Nat) (os : List aI) (k : Nat) : Prop := ∃ OR WI AS, aC h (b + 16) 0 800 OR ∧ aC h (b + 17) 0 800 WI ∧ aC h (b + 18) 0 800 AS ∧ ∀ j, j < os.length → OR j = Int32.ofNat (zo (os.getD j oI0)).1 ∧ AS j = Int32.ofInt (zoq (os.getD j oI0)) ∧ WI j = Int32.ofNat (if j < k then (zo (qI T ps (os.getD j oI0))).2 else zow (os.getD j oI0))
theorem zo_n {o : aI} (h : ¬ (10 ≤ o.1 ∧ o.1 ≤ 14)) : (zo (qI T ps o)).2 = zow o := by
  unfold qI
  rw [if_neg (by omega), if_neg (by omega)]
  unfold zo zow
  by_cases c : o.1 = 36
  · rw [if_pos c, if_pos c]
  · rw [if_neg c, if_neg c, if_neg (by omega), if_neg (by omega)]
    split
    · rfl
    split
    · rfl
    split
    · rfl
    · rfl
theorem zo_1 {o : aI} (h : 10 ≤ o.1 ∧ o.1 ≤ 13) : zo (qI T ps o) = (o.1, qpl T ps o.2.1) ∧ (zo o).1 = o.1 := by
  unfold qI
  rw [if_pos h]
  unfold zo
  constructor
  · rw [if_neg (by show ¬ o.1 = 36; omega), if_pos (by show 10 ≤ o.1 ∧ o.1 ≤ 13; exact h)]
  · rw [if_neg (by omega), if_pos h]
theorem zo_14 {o : aI} (h : o.1 = 14) : zo (qI T ps o) = (14, 12 * qpl T ps o.2.1 + qpl T ps o.2.2) ∧ (zo o).1 = 14 := by
  unfold qI
  rw [if_neg (by omega), if_pos h]
  unfold zo
  constructor
  · rfl
  · rw [if_neg (by omega), if_neg (by omega), if_pos h]
theorem z_set2 {o0 : Option Value} (hb : b = m + 2 ∨ m + 36 ≤ b) (hm : 128 ≤ m) (P : zQp as ps W) (hq : ∀ j, uK T j = 35 → uW T j < q10) (hTl : ∀ j, uK T j = 35 → j < T.length) (hos : os.length ≤ 800) (hG : ∀ o ∈ os, zGo T ps o) : ∀ f k h, k + f = os.length → zTe h m b T A nt os.length as ps W r → zOw h b T ps os k → jF (kX13_settle_84 (d + 1) o0 b (Int32.ofNat k) h) (.inl none) fun h' => zS m (fun c => c = b + 17) (fun _ => False) h h' ∧ zOw h' b T ps os os.length := by
  intro f
  induction f with
  | zero =>
    intro k h hk H O
    refine jE_of (fun r => gX13_settle_84) ?_
    rw [zTe_I (k := 20) H rfl, Option.bind_some, if_neg (by rw [jw_lt (by omega) (by omega)]; omega)]
    rw [show k = os.length by omega] at O
    exact jF_end ⟨zS_rf, O⟩
  | succ f ih =>
    intro k h hk H O
    have O' := O
    obtain ⟨OR, WI, AS, o1, o2, o3, o4⟩ := O
    obtain ⟨p1, p2, p3⟩ := o4 k (by omega)
    rw [if_neg (Nat.lt_irrefl k)] at p3
    have hmem : os.getD k oI0 ∈ os := by
      rw [List.getD_eq_getElem?_getD, List.getElem?_eq_getElem (by omega)]
      exact List.getElem_mem _
    obtain ⟨G1, G2⟩ := hG _ hmem
    -- a value at k, and on
    have fin : ∀ (h1 : jm_H) (x : Nat), zTe h1 m b T A nt os.length as ps W r → zS m (fun c => c = b + 17) (fun _ => False) h h1 → (∃ WI', aC h1 (b + 17) 0 800 WI' ∧ (∀ j, j ≠ k → WI' j = WI j) ∧ WI' k = Int32.ofNat (zo (qI T ps (os.getD k oI0))).2) → jF (kX13_settle_84 (d + 1) o0 b (Int32.ofNat (k + 1)) h1) (.inl none) fun h' => zS m (fun c => c = b + 17) (fun _ => False) h h' ∧ zOw h' b T ps os os.length := by
      intro h1 x H1 F1 ⟨WI', w1, w2, w3⟩
      have O1 : zOw h1 b T ps os (k + 1) := ⟨OR, WI', AS, aC_z o1 F1 (by omega) (by omega), w1, aC_z o3 F1 (by omega) (by omega), fun j hj => by
        obtain ⟨r1, r2, r3⟩ := o4 j hj
        refine ⟨r1, r2, ?_⟩
        by_cases c : j = k
        · subst c
          rw [w3, if_pos (Nat.lt_succ_self j)]
        · rw [w2 j c, r3]
          by_cases c2 : j < k
          · rw [if_pos c2, if_pos (by omega)]
          · rw [if_neg c2, if_neg (by omega)]⟩
      obtain ⟨v, h2, e2, e3, F2, O2⟩ := ih (k + 1) h1 (by omega) H1 O1
      exact ⟨v, h2, e2, e3, zS_tr F1 F2, O2⟩
    refine jE_of (fun r => gX13_settle_84) ?_
    rw [zTe_I (k := 20) H rfl, Option.bind_some, if_pos (by rw [jw_lt (by omega) (by omega)]; omega), zTe_R (k := 21) (x := b + 18) H rfl, Option.bind_some, aC_at o3 (by omega) (by omega), Option.bind_some, p2]
    generalize os.getD k oI0 = o at *
    by_cases c : 10 ≤ o.1 ∧ o.1 ≤ 14
    · obtain ⟨g1, g2, g3⟩ := G1 c
      have eq : Int32.ofInt (zoq o) = Int32.ofNat o.2.1 := by
        unfold zoq
        rw [if_pos c, jw_in]
      rw [eq] at p2
      obtain ⟨y, ey, ef⟩ := z_look (d := d) H P hq g1 (hTl _ g1) g3
      obtain ⟨h1, e1, F1, L1⟩ := z_asi (m := m) (i := k) (x := Int32.ofNat (qpl T ps o.2.1)) o2 (by omega) (by omega) (by omega)
      rw [nar0] at L1
      have H1 := zTe_y H hb F1 (fun c z => by omega)
      have f1 := aC_at (i := k) (aC_z o1 F1 (by omega) (by omega)) (by omega) (by omega)
      rw [eq, if_neg (ofNat_n1 (by omega)), zTe_R (k := 19) (x := b + 17) H rfl, Option.bind_some, zTe_R (k := 9) (x := b + 8) H rfl, Option.bind_some, zTe_I (k := 8) H rfl, Option.bind_some, zTe_R (k := 3) (x := b + 4) H rfl, Option.bind_some, Option.bind_some, aC_at o3 (by omega) (by omega), Option.bind_some, p2, ey, Option.bind_some, ef, jc_I_eq, e1, Option.bind_some, zTe_R (k := 18) (x := b + 16) H1 rfl, Option.bind_some, f1, Option.bind_some, p1]
      by_cases c14 : o.1 = 14
      · obtain ⟨x1, x2⟩ := zo_14 (T := T) (ps := ps) c14
        obtain ⟨q1, q2, q3, q4⟩ := G2 c14
        rw [q1] at q2 q3 q4
        obtain ⟨y', ey', ef'⟩ := z_look (d := d) H1 P hq q2 (hTl _ q2) q4
        obtain ⟨h2, e2, F2, L2⟩ := z_asi (m := m) (i := k) (x := Int32.ofNat (12 * qpl T ps o.2.1 + qpl T ps (o.2.1 + 1))) L1 (by omega) (by omega) (by omega)
        rw [nar0] at L2
        have e12 : 12 * Int32.ofNat (qpl T ps o.2.1) + Int32.ofNat (qpl T ps (o.2.1 + 1)) = Int32.ofNat (12 * qpl T ps o.2.1 + qpl T ps (o.2.1 + 1)) := by
          rw [show (12 : Int32) = Int32.ofNat 12 from rfl, jw_mul, jw_add]
        have fW := aC_at (i := k) L1 (by omega) (by omega)
        have fA := aC_at (i := k) (aC_z o3 F1 (by omega) (by omega)) (by omega) (by omega)
        rw [show upd WI k (Int32.ofNat (qpl T ps o.2.1)) k = Int32.ofNat (qpl T ps o.2.1) from if_pos rfl] at fW
        rw [p2] at fA
        rw [x2, if_pos (show Int32.ofNat 14 = 14 from rfl), zTe_R (k := 19) (x := b + 17) H1 rfl, Option.bind_some, Option.bind_some, fW, Option.bind_some, zTe_R (k := 9) (x := b + 8) H1 rfl, Option.bind_some, zTe_I (k := 8) H1 rfl, Option.bind_some, zTe_R (k := 3) (x := b + 4) H1 rfl, Option.bind_some, zTe_R (k := 21) (x := b + 18) H1 rfl, Option.bind_some, fA, Option.bind_some, jw_add1, ey', Option.bind_some, ef', jc_I_eq, e12, e2, Option.bind_some, jw_add1]
        refine fin h2 0 (zTe_y H1 hb F2 (fun c z => by omega)) (zS_tr F1 F2) ⟨_, L2, fun j hj => (if_neg hj).trans (if_neg hj), ?_⟩
        rw [x1]
        show (if k = k then _ else _) = _
        rw [if_pos rfl, q1]
      · obtain ⟨x1, x2⟩ := zo_1 (T := T) (ps := ps) (o := o) (by omega)
        rw [x2, if_neg (show ¬ Int32.ofNat o.1 = 14 from fun z => c14 ((jw_eq (by omega) (show 14 < 2147483648 by omega)).mp z)), jw_add1]
        refine fin h1 0 H1 F1 ⟨_, L1, fun j hj => if_neg hj, ?_⟩
        rw [x1]
        exact if_pos rfl
    · have eq : Int32.ofInt (zoq o) = -1 := by
        unfold zoq
        rw [if_neg c]
        rfl
      rw [eq, if_pos rfl, jw_add1]
      exact fin h 0 H zS_rf ⟨WI, o2, fun j _ => rfl, by rw [p3, zo_n c]⟩
end ZT
