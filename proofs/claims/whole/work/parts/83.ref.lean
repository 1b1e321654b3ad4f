/-! ===== LEVEL 3: the reference, the tokens of a tape ===== -/
theorem zks_ok : ∀ n, n < 256 → ∀ c : Bool, (if 0 ≤ fd sy n then (if c = true ∧ n = 60 then zki 33 else if c = true ∧ n = 62 then zki 34 else zki (20 + (fd sy n).toNat)) else 32) = (if (n = 60 ∨ n = 62) ∧ c = true then 256 + n else if n ∈ sy then n else 32) ∧ fd sy n < 13 := by decide +kernel
theorem kkw_19 {w : Nat} : kkw w ≤ 19 ∨ kkw w = 35 := by
  have hb := fd_b (l := kws) (x := w)
  rw [kws_len] at hb
  unfold kkw
  split
  · left; omega
  · right; rfl
section ZU
variable {h h' h1 h2 : jm_H} {d m a b n t k p q pc idx : Nat} {U V W F : Nat → Prop} {tp : List Nat} {sc : Nat × (Nat → Int32)} {KD FR : Nat → Int32} {VL : Nat → Int64} {T : List aK4}
theorem z_k186 {o0 o1 o2 o3 o4 : Option Value} {x : Int32} : kX13_kindOf_186 d o0 o1 o2 o3 o4 x h = some (.inl (some (.int x)), h) := gX13_kindOf_186 rfl
theorem z_signs {o0 o1 o2 o3 o4 : Option Value} (hn : n < 256) : (if Int32.ofNat n = 40 then kX13_kindOf_186 d o0 o1 o2 o3 o4 (Int32.ofNat n) h else (if Int32.ofNat n = 41 then kX13_kindOf_186 d o0 o1 o2 o3 o4 (Int32.ofNat n) h else (if Int32.ofNat n = 91 then kX13_kindOf_186 d o0 o1 o2 o3 o4 (Int32.ofNat n) h else (if Int32.ofNat n = 93 then kX13_kindOf_186 d o0 o1 o2 o3 o4 (Int32.ofNat n) h else (if Int32.ofNat n = 59 then kX13_kindOf_186 d o0 o1 o2 o3 o4 (Int32.ofNat n) h else (if Int32.ofNat n = 44 then kX13_kindOf_186 d o0 o1 o2 o3 o4 (Int32.ofNat n) h else (if Int32.ofNat n = 43 then kX13_kindOf_186 d o0 o1 o2 o3 o4 (Int32.ofNat n) h else (if Int32.ofNat n = 45 then kX13_kindOf_186 d o0 o1 o2 o3 o4 (Int32.ofNat n) h else (if Int32.ofNat n = 42 then kX13_kindOf_186 d o0 o1 o2 o3 o4 (Int32.ofNat n) h else (if Int32.ofNat n = 47 then kX13_kindOf_186 d o0 o1 o2 o3 o4 (Int32.ofNat n) h else (if Int32.ofNat n = 60 then kX13_kindOf_186 d o0 o1 o2 o3 o4 (Int32.ofNat n) h else (if Int32.ofNat n = 62 then kX13_kindOf_186 d o0 o1 o2 o3 o4 (Int32.ofNat n) h else (if Int32.ofNat n = 61 then kX13_kindOf_186 d o0 o1 o2 o3 o4 (Int32.ofNat n) h else some (.inl (some (.int 32)), h)))))))))))))) = some (.inl (some (.int (Int32.ofNat (if n ∈ sy then n else 32)))), h) := by
  have e : ∀ k, k < 2147483648 → ((Int32.ofNat n = (OfNat.ofNat k : Int32)) ↔ n = k) := fun k hk => jw_eqL (by omega) hk
  simp only [z_k186, show (Int32.ofNat n = 40) ↔ n = 40 from jw_eqL (b := 40) (by omega) (by omega), show (Int32.ofNat n = 41) ↔ n = 41 from jw_eqL (b := 41) (by omega) (by omega), show (Int32.ofNat n = 91) ↔ n = 91 from jw_eqL (b := 91) (by omega) (by omega), show (Int32.ofNat n = 93) ↔ n = 93 from jw_eqL (b := 93) (by omega) (by omega), show (Int32.ofNat n = 59) ↔ n = 59 from jw_eqL (b := 59) (by omega) (by omega), show (Int32.ofNat n = 44) ↔ n = 44 from jw_eqL (b := 44) (by omega) (by omega), show (Int32.ofNat n = 43) ↔ n = 43 from jw_eqL (b := 43) (by omega) (by omega), show (Int32.ofNat n = 45) ↔ n = 45 from jw_eqL (b := 45) (by omega) (by omega), show (Int32.ofNat n = 42) ↔ n = 42 from jw_eqL (b := 42) (by omega) (by omega), show (Int32.ofNat n = 47) ↔ n = 47 from jw_eqL (b := 47) (by omega) (by omega), show (Int32.ofNat n = 60) ↔ n = 60 from jw_eqL (b := 60) (by omega) (by omega), show (Int32.ofNat n = 62) ↔ n = 62 from jw_eqL (b := 62) (by omega) (by omega), show (Int32.ofNat n = 61) ↔ n = 61 from jw_eqL (b := 61) (by omega) (by omega)]
  by_cases c40 : n = 40
  · rw [if_pos c40, if_pos (by rw [c40]; decide)]
  rw [if_neg c40]
  by_cases c41 : n = 41
  · rw [if_pos c41, if_pos (by rw [c41]; decide)]
  rw [if_neg c41]
  by_cases c91 : n = 91
  · rw [if_pos c91, if_pos (by rw [c91]; decide)]
  rw [if_neg c91]
  by_cases c93 : n = 93
  · rw [if_pos c93, if_pos (by rw [c93]; decide)]
  rw [if_neg c93]
  by_cases c59 : n = 59
  · rw [if_pos c59, if_pos (by rw [c59]; decide)]
  rw [if_neg c59]
  by_cases c44 : n = 44
  · rw [if_pos c44, if_pos (by rw [c44]; decide)]
  rw [if_neg c44]
  by_cases c43 : n = 43
  · rw [if_pos c43, if_pos (by rw [c43]; decide)]
  rw [if_neg c43]
  by_cases c45 : n = 45
  · rw [if_pos c45, if_pos (by rw [c45]; decide)]
  rw [if_neg c45]
  by_cases c42 : n = 42
  · rw [if_pos c42, if_pos (by rw [c42]; decide)]
  rw [if_neg c42]
  by_cases c47 : n = 47
  · rw [if_pos c47, if_pos (by rw [c47]; decide)]
  rw [if_neg c47]
  by_cases c60 : n = 60
  · rw [if_pos c60, if_pos (by rw [c60]; decide)]
  rw [if_neg c60]
  by_cases c62 : n = 62
  · rw [if_pos c62, if_pos (by rw [c62]; decide)]
  rw [if_neg c62]
  by_cases c61 : n = 61
  · rw [if_pos c61, if_pos (by rw [c61]; decide)]
  rw [if_neg c61]
  rw [if_neg (show ¬ n ∈ sy from fun z => by
    unfold sy at z
    simp only [List.mem_cons, List.not_mem_nil, or_false] at z
    omega)]
  rfl
theorem z_kindOf (hbm : b = m + 2 ∨ m + 36 ≤ b) (hp : p ≤ tp.length) (hidx : idx < 401) (hl : tp.length ≤ 2000) (B0 : zB h m) (RB : zbR h b) (e2 : jr_I h m 12 2 0 = some (Int32.ofNat tp.length)) (Tq : zTq h m tp) (L : lC h (b + 4) 401 VL) (O : kO h sc) : ∃ k VL', k < 1000 ∧ jF (jm_D (d + 7) mX13_kindOf [.ref m, .ref b, .int (Int32.ofNat idx), .int (Int32.ofNat p), .int (Int32.ofNat (zend tp p))] h) (.inl (some (.int (Int32.ofNat k)))) (fun h' => zS m (fun c => c = b + 4) (fun _ => False) h h' ∧ lC h' (b + 4) 401 VL') ∧ (∀ j, j ≠ idx → VL' j = VL j) ∧ (p = tp.length → k = 33) ∧ (p < tp.length → ktk tp p = none → k = 32) ∧ (∀ q, p < tp.length → ktk tp p = some q → k = zki q.1.1 ∧ (q.1.1 = 36 → VL' idx = Int64.ofNat q.1.2.2.2) ∧ (q.1.1 ≤ 19 ∨ q.1.1 = 35 → VL' idx = Int64.ofNat q.1.2.2.1) ∧ zend tp p = q.2) := by
  have hb := bt_bz Tq p
  have hm := B0.1
  have q33 : (Int32.ofInt (bt tp p) = -1) ↔ bt tp p = -1 := by
    rw [← Int32.toInt_inj, jw_z (by omega) (by omega)]
    exact Iff.rfl
  by_cases cp : p = tp.length
  · refine ⟨33, VL, by omega, jE_of (fun r => gX13_kindOf) ?_, fun _ _ => rfl, fun _ => rfl, fun z => by omega, fun q z => by omega⟩
    simp only [jm_O_eq (zB_ob B0), z_byteOf (d := d + 5) (i := p) (by omega) hl B0 e2 Tq, jc_I_eq, q33]
    rw [if_pos (bt_end (by omega))]
    exact jF_end ⟨zS_rf, L⟩
  have hpl : p < tp.length := by omega
  have hbn := bt_in hpl
  have hn1 : ¬ bt tp p = -1 := by rw [hbn]; omega
  have updO : ∀ (x : Int64) j, j ≠ idx → vp_updL VL idx x j = VL j := fun x j hj => if_neg hj
  have updT : ∀ (x : Int64), vp_updL VL idx x idx = x := fun x => if_pos rfl
  by_cases cd : isD (bt tp p) = true
  · have cl : ¬ isL (bt tp p) = true := fun z => by have := isL_b z; have := isD_b cd; omega
    have ez : zend tp p = kdg tp (tp.length - p) p := by
      unfold zend
      rw [if_neg cl, if_pos cd]
      obtain ⟨f, hf⟩ : ∃ f, tp.length - p = f + 1 := ⟨tp.length - p - 1, by omega⟩
      rw [hf, show tp.length - (p + 1) = f by omega]
      show _ = if isD (bt tp p) = true then kdg tp f (p + 1) else p
      rw [if_pos cd]
    have hkb := kdg_b (tp := tp) (tp.length - p) p
    have ek : ktk tp p = if kdg tp (tp.length - p) p - p ≤ 6 then some ((36, p, 0, knv tp p (kdg tp (tp.length - p) p - p)), kdg tp (tp.length - p) p) else none := by
      unfold ktk
      rw [if_neg cl, if_pos cd]
    rw [ez, ek]
    generalize hE : kdg tp (tp.length - p) p = e at *
    have hmid : ∀ k, p ≤ k → k < e → isD (bt tp k) = true := fun k k1 k2 => kdg_mid (f := tp.length - p) k1 (by rw [hE]; exact k2)
    by_cases c6 : e - p ≤ 6
    · rw [if_pos c6]
      refine ⟨31, vp_updL VL idx (Int64.ofNat (knv tp p (e - p))), by omega, jE_of (fun r => gX13_kindOf) ?_, updO _, fun z => absurd z cp, fun _ z => (by cases z), fun q _ z => ?_⟩
      · simp only [jm_O_eq (zB_ob B0), z_byteOf (d := d + 5) (i := p) (by omega) hl B0 e2 Tq, jc_I_eq, q33]
        rw [if_neg hn1]
        simp only [z_isDigit (d := d + 5) hb.1 hb.2, jc_I_eq]
        rw [if_pos cd, if_neg (by decide), jw_sub (show p ≤ e by omega), if_neg (by rw [show (6 : Int32) = Int32.ofNat 6 from rfl, jw_lt (by omega) (by omega)]; omega)]
        have := z_num_loop (d := d + 5) (o3 := some (.int (Int32.ofNat p))) (idx := idx) hbm (show e ≤ tp.length by omega) c6 hmid hidx hl B0 RB Tq L (e - p) p (by omega) (Nat.le_refl _)
        rw [Nat.sub_self] at this
        simp only [jm_O_eq (zB_ob B0)]
        refine jE_I (jE_of (fun r => gX13_numberAt) this) ?_
        rintro h1 ⟨F1, L1⟩
        exact jF_end ⟨F1, L1⟩
      · cases z
        exact ⟨rfl, fun _ => updT _, fun z => by simp at z, rfl⟩
    · rw [if_neg c6]
      refine ⟨32, VL, by omega, jE_of (fun r => gX13_kindOf) ?_, fun _ _ => rfl, fun z => absurd z cp, fun _ _ => rfl, fun q _ z => (by cases z)⟩
      simp only [jm_O_eq (zB_ob B0), z_byteOf (d := d + 5) (i := p) (by omega) hl B0 e2 Tq, jc_I_eq, q33]
      rw [if_neg hn1]
      simp only [z_isDigit (d := d + 5) hb.1 hb.2, jc_I_eq]
      rw [if_pos cd, if_neg (by decide), jw_sub (show p ≤ e by omega), if_pos (by rw [show (6 : Int32) = Int32.ofNat 6 from rfl, jw_lt (by omega) (by omega)]; omega)]
      exact jF_end ⟨zS_rf, L⟩
  by_cases cl : isL (bt tp p) = true
  · have ez : zend tp p = kwd tp (tp.length - p) p := by
      unfold zend
      rw [if_pos cl]
      obtain ⟨f, hf⟩ : ∃ f, tp.length - p = f + 1 := ⟨tp.length - p - 1, by omega⟩
      rw [hf, show tp.length - (p + 1) = f by omega]
      show _ = if isL (bt tp p) = true ∨ isD (bt tp p) = true then kwd tp f (p + 1) else p
      rw [if_pos (Or.inl cl)]
    have hkb := kwd_b (tp := tp) (tp.length - p) p
    have ek : ktk tp p = if kwd tp (tp.length - p) p - p ≤ 10 then some ((kkw (kwv tp p (kwd tp (tp.length - p) p - p)), p, kwv tp p (kwd tp (tp.length - p) p - p), 0), kwd tp (tp.length - p) p) else none := by
      unfold ktk
      rw [if_pos cl]
    rw [ez, ek]
    generalize hE : kwd tp (tp.length - p) p = e at *
    have hmid : ∀ k, p ≤ k → k < e → isL (bt tp k) = true ∨ isD (bt tp k) = true := fun k k1 k2 => kwd_mid (f := tp.length - p) k1 (by rw [hE]; exact k2)
    by_cases c6 : e - p ≤ 10
    · rw [if_pos c6]
      have hkk := kkw_19 (w := kwv tp p (e - p))
      refine ⟨zki (kkw (kwv tp p (e - p))), vp_updL VL idx (Int64.ofNat (kwv tp p (e - p))), zki_b _ (by omega), jE_of (fun r => gX13_kindOf) ?_, updO _, fun z => absurd z cp, fun _ z => (by cases z), fun q _ z => ?_⟩
      · simp only [jm_O_eq (zB_ob B0), z_byteOf (d := d + 5) (i := p) (by omega) hl B0 e2 Tq, jc_I_eq, q33]
        rw [if_neg hn1]
        simp only [z_isDigit (d := d + 5) hb.1 hb.2, z_isSmall (d := d + 5) hb.1 hb.2, jc_I_eq]
        rw [if_neg cd, if_pos rfl, if_pos cl, if_neg (by decide), jw_sub (show p ≤ e by omega), if_neg (by rw [show (10 : Int32) = Int32.ofNat 10 from rfl, jw_lt (by omega) (by omega)]; omega)]
        have := z_word_loop (d := d) (o3 := some (.int (Int32.ofNat p))) (idx := idx) hbm hm (show e ≤ tp.length by omega) c6 hmid hidx hl B0 RB Tq L O (e - p) p (by omega) (Nat.le_refl _)
        rw [Nat.sub_self] at this
        simp only [jm_O_eq (zB_ob B0)]
        refine jE_I (jE_of (fun r => gX13_wordAt) this) ?_
        rintro h1 ⟨F1, L1⟩
        exact jF_end ⟨F1, L1⟩
      · cases z
        exact ⟨rfl, fun z => by simp only [] at z; omega, fun _ => updT _, rfl⟩
    · rw [if_neg c6]
      refine ⟨32, VL, by omega, jE_of (fun r => gX13_kindOf) ?_, fun _ _ => rfl, fun z => absurd z cp, fun _ _ => rfl, fun q _ z => (by cases z)⟩
      simp only [jm_O_eq (zB_ob B0), z_byteOf (d := d + 5) (i := p) (by omega) hl B0 e2 Tq, jc_I_eq, q33]
      rw [if_neg hn1]
      simp only [z_isDigit (d := d + 5) hb.1 hb.2, z_isSmall (d := d + 5) hb.1 hb.2, jc_I_eq]
      rw [if_neg cd, if_pos rfl, if_pos cl, if_neg (by decide), jw_sub (show p ≤ e by omega), if_pos (by rw [show (10 : Int32) = Int32.ofNat 10 from rfl, jw_lt (by omega) (by omega)]; omega)]
      exact jF_end ⟨zS_rf, L⟩
  -- a sign
  have hn : tp.getD p 0 < 256 := by
    obtain ⟨TP, t1, t2⟩ := Tq
    exact (t2 p hpl).2
  obtain ⟨ks1, ks2⟩ := zks_ok (tp.getD p 0) hn (decide (bt tp (p + 1) = 61))
  have efd := fd_b (l := sy) (x := tp.getD p 0)
  have ez : zend tp p = if (bt tp p = 60 ∨ bt tp p = 62) ∧ bt tp (p + 1) = 61 then p + 2 else p + 1 := by
    unfold zend
    rw [if_neg cl, if_neg cd]
  have ek : ktk tp p = match ksy (bt tp p) (bt tp (p + 1)) with
      | none => none
      | some k => some ((k, p, 0, 0), if k = 33 ∨ k = 34 then p + 2 else p + 1) := by
    unfold ktk
    rw [if_neg cl, if_neg cd]
    cases ksy (bt tp p) (bt tp (p + 1)) <;> rfl
  have etw : ((bt tp p = 60 ∨ bt tp p = 62) ∧ bt tp (p + 1) = 61) ↔ ((tp.getD p 0 = 60 ∨ tp.getD p 0 = 62) ∧ decide (bt tp (p + 1) = 61) = true) := by
    rw [hbn, decide_eq_true_iff]
    omega
  have run : jF (jm_D (d + 7) mX13_kindOf [.ref m, .ref b, .int (Int32.ofNat idx), .int (Int32.ofNat p), .int (Int32.ofNat (zend tp p))] h) (.inl (some (.int (Int32.ofNat (if (tp.getD p 0 = 60 ∨ tp.getD p 0 = 62) ∧ decide (bt tp (p + 1) = 61) = true then 256 + tp.getD p 0 else if tp.getD p 0 ∈ sy then tp.getD p 0 else 32))))) (fun h' => zS m (fun c => c = b + 4) (fun _ => False) h h' ∧ lC h' (b + 4) 401 VL) := by
    refine jE_of (fun r => gX13_kindOf) ?_
    simp only [jm_O_eq (zB_ob B0), z_byteOf (d := d + 5) (i := p) (by omega) hl B0 e2 Tq, jc_I_eq, q33]
    rw [if_neg hn1]
    simp only [z_isDigit (d := d + 5) hb.1 hb.2, z_isSmall (d := d + 5) hb.1 hb.2, jc_I_eq]
    rw [if_neg cd, if_pos rfl, if_neg cl, if_pos rfl, ez, hbn, jw_in]
    rw [hbn] at etw
    by_cases c2 : (tp.getD p 0 = 60 ∨ tp.getD p 0 = 62) ∧ decide (bt tp (p + 1) = 61) = true
    · rw [if_pos (etw.mpr c2), jw_sub (show p ≤ p + 2 by omega), if_pos (by rw [Nat.add_sub_cancel_left]; rfl), if_pos c2, show (256 : Int32) = Int32.ofNat 256 from rfl, jw_add]
      exact jF_end ⟨zS_rf, L⟩
    · rw [if_neg (fun z => c2 (etw.mp z)), jw_sub (show p ≤ p + 1 by omega), if_neg (by rw [Nat.add_sub_cancel_left]; decide), if_neg c2, z_signs hn]
      exact jF_end ⟨zS_rf, L⟩
  rw [← ks1] at run
  rw [ek]
  have esy : ksy (bt tp p) (bt tp (p + 1)) = if 0 ≤ fd sy (tp.getD p 0) then some (if decide (bt tp (p + 1) = 61) = true ∧ tp.getD p 0 = 60 then 33 else if decide (bt tp (p + 1) = 61) = true ∧ tp.getD p 0 = 62 then 34 else 20 + (fd sy (tp.getD p 0)).toNat) else none := by
    unfold ksy
    have i60 : ((tp.getD p 0 : Nat) : Int) = 60 ↔ tp.getD p 0 = 60 := by omega
    have i62 : ((tp.getD p 0 : Nat) : Int) = 62 ↔ tp.getD p 0 = 62 := by omega
    rw [hbn, Int.toNat_natCast]
    simp only [decide_eq_true_iff, i60, i62]
    by_cases c0 : 0 ≤ fd sy (tp.getD p 0)
    · rw [if_pos c0, if_pos ⟨by omega, c0⟩]
    · rw [if_neg c0, if_neg (fun z => c0 z.2)]
  rw [esy]
  by_cases c0 : 0 ≤ fd sy (tp.getD p 0)
  · rw [if_pos c0] at run ⊢
    refine ⟨_, VL, ?_, run, fun _ _ => rfl, fun z => absurd z cp, fun _ z => (by cases z), fun q _ z => ?_⟩
    · split
      · decide
      · split
        · decide
        · exact zki_b _ (by omega)
    · cases z
      simp only []
      refine ⟨?_, fun z => ?_, fun z => ?_, ?_⟩
      · split
        · rfl
        · split <;> rfl
      · exfalso
        revert z
        split
        · omega
        · split
          · omega
          · omega
      · exfalso
        revert z
        split
        · omega
        · split
          · omega
          · omega
      · rw [ez]
        by_cases c1 : decide (bt tp (p + 1) = 61) = true ∧ tp.getD p 0 = 60
        · rw [if_pos c1, if_pos (etw.mpr ⟨Or.inl c1.2, c1.1⟩), if_pos (Or.inl rfl)]
        · rw [if_neg c1]
          by_cases c3 : decide (bt tp (p + 1) = 61) = true ∧ tp.getD p 0 = 62
          · rw [if_pos c3, if_pos (etw.mpr ⟨Or.inr c3.2, c3.1⟩), if_pos (Or.inr rfl)]
          · rw [if_neg c3, if_neg (fun z => (etw.mp z).1.elim (fun y => c1 ⟨(etw.mp z).2, y⟩) (fun y => c3 ⟨(etw.mp z).2, y⟩)), if_neg (by omega)]
  · rw [if_neg c0] at run ⊢
    exact ⟨32, VL, by omega, run, fun _ _ => rfl, fun z => absurd z cp, fun _ _ => rfl, fun q _ z => (by cases z)⟩
end ZU
