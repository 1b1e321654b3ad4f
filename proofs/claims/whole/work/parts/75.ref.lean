/-! ===== LEVEL 3: the reference, its playbook; tests ===== -/
def zbF (b : Nat) (ac pc nc oc : Int32) : List Value := [.ref (b + 1), .ref (b + 2), .ref (b + 3), .ref (b + 4), .ref (b + 5), .ref (b + 6), .int ac, .ref (b + 7), .int pc, .ref (b + 8), .ref (b + 9), .ref (b + 10), .int nc, .ref (b + 11), .ref (b + 12), .ref (b + 13), .ref (b + 14), .ref (b + 15), .ref (b + 16), .ref (b + 17), .int oc, .ref (b + 18)]
/-- an order as the reference keeps it -/
def zo (o : aI) : Nat × Nat := if o.1 = 36 then (100, o.2.1) else if 10 ≤ o.1 ∧ o.1 ≤ 13 then (o.1, o.2.1) else if o.1 = 14 then (14, 12 * o.2.1 + o.2.2) else if o.1 = 39 then (105, 0) else if 26 ≤ o.1 ∧ o.1 ≤ 29 then (o.1 + 75, 0) else if 30 ≤ o.1 ∧ o.1 ≤ 34 then (o.1 + 76, 0) else (o.1, 0)
def zts : Option (List aI) → List aI
  | none => []
  | some t => t
def oI0 : aI := (0, 0, 0)
/-- a note -/
def zNt (n : aN) (nk wh to bg en : Int32) (OR WI : Nat → Int32) : Prop := nk = Int32.ofNat n.1 ∧ (n.1 = 5 → wh = Int32.ofNat n.2.2.1 ∧ to = Int32.ofNat n.2.1) ∧ (n.1 ≠ 5 → wh = Int32.ofNat n.2.1) ∧ ∃ k, bg = Int32.ofNat k ∧ en = Int32.ofNat (k + (zts n.2.2.2).length) ∧ k + (zts n.2.2.2).length ≤ 800 ∧ ∀ i, i < (zts n.2.2.2).length → OR (k + i) = Int32.ofNat (zo ((zts n.2.2.2).getD i oI0)).1 ∧ WI (k + i) = Int32.ofNat (zo ((zts n.2.2.2).getD i oI0)).2
/-- the notes -/
def zDn (h : jm_H) (b : Nat) (B : aB) : Prop := ∃ NK WH TO BG EN OR WI, aC h (b + 11) 0 16 NK ∧ aC h (b + 12) 0 16 WH ∧ aC h (b + 13) 0 16 TO ∧ aC h (b + 14) 0 16 BG ∧ aC h (b + 15) 0 16 EN ∧ aC h (b + 16) 0 800 OR ∧ aC h (b + 17) 0 800 WI ∧ ∀ n, n < B.2.2.2.length → zNt (B.2.2.2.getD n n0) (NK n) (WH n) (TO n) (BG n) (EN n) OR WI
/-- a Book that is told -/
def zD (h : jm_H) (b : Nat) (B : aB) : Prop := (∃ oc, oC h b 11 (zbF b (Int32.ofNat B.1.length) (Int32.ofNat B.2.1.length) (Int32.ofNat B.2.2.2.length) oc)) ∧ (∃ AN, lC h (b + 7) 8 AN ∧ ∀ i, i < B.1.length → AN i = Int64.ofNat (B.1.getD i 0)) ∧ (∃ TD, lC h (b + 9) 1800 TD ∧ ∀ p, p < B.2.1.length → ∀ i, i < (B.2.2.1 p).length → TD (150 * p + i) = Int64.ofInt ((B.2.2.1 p).getD i 0)) ∧ (∃ SZ, aC h (b + 10) 0 12 SZ ∧ ∀ p, p < B.2.1.length → SZ p = Int32.ofNat (B.2.2.1 p).length) ∧ zDn h b B ∧ gB B
section ZD
variable {h h' h1 h2 : jm_H} {d m a b n t k p q pc : Nat} {U V W F G K : Nat → Prop} {l u : List Int} {S : aS} {B : aB} {sc : Nat × (Nat → Int32)} {ev dn : Int32} {fs : List Value} {ci : Nat}
theorem oC_z (H : oC h a ci fs) (A : zS m U F h h') (p : a ≠ m) (q : ¬ U a) : oC h' a ci fs := ⟨(zS_at A p q).trans H.1, H.2⟩
theorem zD_eq (H : zD h b B) (e : ∀ c, b ≤ c → c ≤ b + 18 → h'.2.2 c = h.2.2 c) : zD h' b B := by
  obtain ⟨⟨oc, a1⟩, ⟨AN, a2, a3⟩, ⟨TD, a4, a5⟩, ⟨SZ, a6, a7⟩, ⟨NK, WH, TO, BG, EN, OR, WI, b1, b2, b3, b4, b5, b6, b7, b8⟩, g⟩ := H
  exact ⟨⟨oc, (e _ (by omega) (by omega)).trans a1.1, a1.2⟩, ⟨AN, ⟨(e _ (by omega) (by omega)).trans a2.1, a2.2⟩, a3⟩, ⟨TD, ⟨(e _ (by omega) (by omega)).trans a4.1, a4.2⟩, a5⟩, ⟨SZ, ⟨(e _ (by omega) (by omega)).trans a6.1, a6.2⟩, a7⟩, ⟨NK, WH, TO, BG, EN, OR, WI, ⟨(e _ (by omega) (by omega)).trans b1.1, b1.2⟩, ⟨(e _ (by omega) (by omega)).trans b2.1, b2.2⟩, ⟨(e _ (by omega) (by omega)).trans b3.1, b3.2⟩, ⟨(e _ (by omega) (by omega)).trans b4.1, b4.2⟩, ⟨(e _ (by omega) (by omega)).trans b5.1, b5.2⟩, ⟨(e _ (by omega) (by omega)).trans b6.1, b6.2⟩, ⟨(e _ (by omega) (by omega)).trans b7.1, b7.2⟩, b8⟩, g⟩
theorem zD_g (H : zD h b B) : gB B := H.2.2.2.2.2
theorem zD_6 (H : zD h b B) : jr_I h b 11 6 0 = some (Int32.ofNat B.1.length) := by
  obtain ⟨⟨oc, a1⟩, -⟩ := H
  exact oC_I a1 rfl
theorem zD_8 (H : zD h b B) : jr_I h b 11 8 0 = some (Int32.ofNat B.2.1.length) := by
  obtain ⟨⟨oc, a1⟩, -⟩ := H
  exact oC_I a1 rfl
theorem zD_12 (H : zD h b B) : jr_I h b 11 12 0 = some (Int32.ofNat B.2.2.2.length) := by
  obtain ⟨⟨oc, a1⟩, -⟩ := H
  exact oC_I a1 rfl
theorem zD_R (H : zD h b B) {k x : Nat} (e : ∀ oc, (zbF b (Int32.ofNat B.1.length) (Int32.ofNat B.2.1.length) (Int32.ofNat B.2.2.2.length) oc)[k]? = some (.ref x)) : jr_R h b 11 k 2 = some x := by
  obtain ⟨⟨oc, a1⟩, -⟩ := H
  exact oC_R a1 (e oc)
/-- what evenings look at -/
def zE (h : jm_H) (m b : Nat) (B : aB) (S : aS) (ev dn : Int32) : Prop := zB h m ∧ jr_R h m 12 4 2 = some b ∧ zD h b B ∧ zG h (m + 21) B.2.1.length S ∧ jr_I h m 12 14 0 = some ev ∧ jr_I h m 12 15 0 = some dn ∧ (b = m + 2 ∨ m + 36 ≤ b)
/-- fields and cells that serve -/
def zsF (k : Nat) : Prop := k = 0 ∨ k = 16 ∨ k = 17 ∨ k = 19 ∨ k = 24
def zsU (m c : Nat) : Prop := jn (m + 24) 11 c
theorem zsF_r {k : Nat} (h : zsF k) : zr k = 0 := by
  rcases h with rfl | rfl | rfl | rfl | rfl <;> rfl
theorem zE_z (H : zE h m b B S ev dn) (A : zS m U F h h') (p : ∀ c, U c → zsU m c) (q : ∀ k, F k → zsF k) : zE h' m b B S ev dn := by
  obtain ⟨a1, a2, a3, a4, a5, a6, a7⟩ := H
  have q4 : ¬ F 4 := fun z => by have := q 4 z; unfold zsF at this; omega
  have q14 : ¬ F 14 := fun z => by have := q 14 z; unfold zsF at this; omega
  have q15 : ¬ F 15 := fun z => by have := q 15 z; unfold zsF at this; omega
  refine ⟨zB_tr a1 A (fun k z => zsF_r (q k z)), (zS_R A q4).trans a2, zD_eq a3 (fun c c1 c2 => zS_at A (by omega) fun z => by have := p c z; unfold zsU jn at this; omega), zG_zm a4 A (fun c z => by have := p c z; unfold zsU jn at this; omega), (zS_I A q14).trans a5, (zS_I A q15).trans a6, a7⟩
/-! tests -/
theorem z_one {x : Int32} (hx : x = 0 ∨ x = 1) : jm_D (d + 1) mX13_one [.int x] h = some (.inl (some (.int x)), h) := by
  apply gX13_one
  rcases hx with rfl | rfl
  · rw [if_pos rfl]
  · rw [if_neg (by decide)]
theorem z_isIn {x lo hi : Int32} : jm_D (d + 1) mX13_isIn [.int x, .int lo, .int hi] h = some (.inl (some (.int (if ¬ x < lo ∧ ¬ hi < x then 1 else 0))), h) := by
  apply gX13_isIn
  by_cases c1 : x < lo
  · rw [if_pos c1, if_neg (fun z => z.1 c1)]
  · rw [if_neg c1]
    by_cases c2 : hi < x
    · rw [if_pos c2, if_neg (fun z => z.2 c2)]
    · rw [if_neg c2, if_pos ⟨c1, c2⟩]
/-- an order that asks -/
def zoa (o : aI) : Prop := o.1 = 36 ∨ (9 ≤ o.1 ∧ o.1 ≤ 14)
theorem zo_b {o : aI} (h : o.1 ≤ 39) : (zo o).1 ≤ 110 := by
  unfold zo
  split
  · simp
  split
  · simp only []; omega
  split
  · simp
  split
  · simp
  split
  · simp only []; omega
  split
  · simp only []; omega
  · simp only []; omega
theorem zo_ask {o : aI} (h : o.1 ≤ 39) : ((zo o).1 = 100 ∨ (9 ≤ (zo o).1 ∧ (zo o).1 ≤ 14)) ↔ zoa o := by
  unfold zo zoa
  split
  · simp; omega
  split
  · simp only []; omega
  split
  · simp; omega
  split
  · simp; omega
  split
  · simp only []; omega
  split
  · simp only []; omega
  · simp only []; omega
theorem z_isAsked {o : aI} (ho : o.1 ≤ 39) : jm_D (d + 2) mX13_isAsked [.int (Int32.ofNat (zo o).1)] h = some (.inl (some (.int (jp (zoa o)))), h) := by
  have hb := zo_b ho
  have hi := zo_ask ho
  apply gX13_isAsked
  have e100 : (Int32.ofNat (zo o).1 = 100) ↔ (zo o).1 = 100 := jw_eqL (b := 100) (by omega) (by omega)
  have e9 : (Int32.ofNat (zo o).1 < 9) ↔ (zo o).1 < 9 := jw_ltL (b := 9) (by omega) (by omega)
  have e14 : ((14 : Int32) < Int32.ofNat (zo o).1) ↔ 14 < (zo o).1 := jw_Llt (a := 14) (by omega) (by omega)
  by_cases c : (zo o).1 = 100
  · rw [if_pos (e100.mpr c), jp_T (hi.mp (Or.inl c))]
  · rw [if_neg (fun z => c (e100.mp z)), z_isIn, jc_I_eq]
    by_cases c2 : ¬ (zo o).1 < 9 ∧ ¬ 14 < (zo o).1
    · rw [if_pos (show ¬ Int32.ofNat (zo o).1 < 9 ∧ ¬ (14 : Int32) < Int32.ofNat (zo o).1 from ⟨fun z => c2.1 (e9.mp z), fun z => c2.2 (e14.mp z)⟩), if_neg (by decide), jp_T (hi.mp (Or.inr (by omega)))]
    · rw [if_neg (show ¬ (¬ Int32.ofNat (zo o).1 < 9 ∧ ¬ (14 : Int32) < Int32.ofNat (zo o).1) from fun z => c2 ⟨fun y => z.1 (e9.mpr y), fun y => z.2 (e14.mpr y)⟩), if_pos rfl, jp_F (fun z => by have := hi.mpr z; omega)]
theorem z_reckon {o : aI} {x y : Int32} (ho : o.1 = 16 ∨ o.1 = 17 ∨ o.1 = 18 ∨ o.1 = 19 ∨ (26 ≤ o.1 ∧ o.1 ≤ 34)) : jm_D (d + 2) mX13_reckon [.int (Int32.ofNat (zo o).1), .int x, .int y] h = some (.inl (some (.int (ab o.1 x y))), h) := by
  obtain ⟨op, u, v⟩ := o
  simp only [] at ho ⊢
  have o1 := fun {h : jm_H} => z_one (d := d) (h := h) (x := 1) (Or.inr rfl)
  have o0 := fun {h : jm_H} => z_one (d := d) (h := h) (x := 0) (Or.inl rfl)
  apply gX13_reckon
  have cs : op = 16 ∨ op = 17 ∨ op = 18 ∨ op = 19 ∨ op = 26 ∨ op = 27 ∨ op = 28 ∨ op = 29 ∨ op = 30 ∨ op = 31 ∨ op = 32 ∨ op = 33 ∨ op = 34 := by omega
  rcases cs with rfl | rfl | rfl | rfl | rfl | rfl | rfl | rfl | rfl | rfl | rfl | rfl | rfl
  · rfl
  · rfl
  · rfl
  · rfl
  · rfl
  · rfl
  · rfl
  · show ((if y = 0 then some (.inl (some (.int 0)), h) else (if y = 0 then none else some (.inl (some (.int (x / y))), h))) : Option jm_R) = some (.inl (some (.int (if y = 0 then 0 else x / y))), h)
    by_cases c : y = 0
    · rw [if_pos c, if_pos c]
    · rw [if_neg c, if_neg c, if_neg c]
  · show (if x < y then jc_I (jm_D (d + 1) mX13_one [.int 1] h) (fun x19 h17 => some (.inl (some (.int x19)), h17)) jx else jc_I (jm_D (d + 1) mX13_one [.int 0] h) (fun x14 h12 => some (.inl (some (.int x14)), h12)) jx) = some (.inl (some (.int (if x < y then 1 else 0))), h)
    rw [o1, o0, jc_I_eq, jc_I_eq]; split <;> rfl
  · show (if y < x then jc_I (jm_D (d + 1) mX13_one [.int 1] h) (fun x19 h17 => some (.inl (some (.int x19)), h17)) jx else jc_I (jm_D (d + 1) mX13_one [.int 0] h) (fun x14 h12 => some (.inl (some (.int x14)), h12)) jx) = some (.inl (some (.int (if y < x then 1 else 0))), h)
    rw [o1, o0, jc_I_eq, jc_I_eq]; split <;> rfl
  · show (if x = y then jc_I (jm_D (d + 1) mX13_one [.int 1] h) (fun x19 h17 => some (.inl (some (.int x19)), h17)) jx else jc_I (jm_D (d + 1) mX13_one [.int 0] h) (fun x14 h12 => some (.inl (some (.int x14)), h12)) jx) = some (.inl (some (.int (if x = y then 1 else 0))), h)
    rw [o1, o0, jc_I_eq, jc_I_eq]; split <;> rfl
  · show (if y < x then jc_I (jm_D (d + 1) mX13_one [.int 0] h) (fun x19 h17 => some (.inl (some (.int x19)), h17)) jx else jc_I (jm_D (d + 1) mX13_one [.int 1] h) (fun x14 h12 => some (.inl (some (.int x14)), h12)) jx) = some (.inl (some (.int (if y < x then 0 else 1))), h)
    rw [o1, o0, jc_I_eq, jc_I_eq]; split <;> rfl
  · show (if x < y then jc_I (jm_D (d + 1) mX13_one [.int 0] h) (fun x19 h17 => some (.inl (some (.int x19)), h17)) jx else jc_I (jm_D (d + 1) mX13_one [.int 1] h) (fun x14 h12 => some (.inl (some (.int x14)), h12)) jx) = some (.inl (some (.int (if x < y then 0 else 1))), h)
    rw [o1, o0, jc_I_eq, jc_I_eq]; split <;> rfl
/-- what an order asks -/
noncomputable def zas (S : aS) (ev : Int32) (o : aI) : Int32 := if o.1 = 36 then Int32.ofNat o.2.1 else if o.1 = 9 then ev else if o.1 = 14 then jp (ry_like (S.1 o.2.1) (S.1 o.2.2)) else aq S o.1 o.2.1
def zHU (m c : Nat) : Prop := c = m + 27 ∨ c = m + 29
theorem z_ask {o : aI} (ho : zoa o) (h1 : 10 ≤ o.1 ∧ o.1 ≤ 14 → o.2.1 < B.2.1.length) (h2 : o.1 = 14 → o.2.2 < B.2.1.length) (hS : gS B S) (H : zE h m b B S ev dn) : jF (jm_D (d + 5) mX13_ask [.ref m, .int (Int32.ofNat (zo o).1), .int (Int32.ofNat (zo o).2)] h) (.inl (some (.int (zas S ev o)))) fun h' => zS m (zHU m) (fun k => k = 19) h h' := by
  obtain ⟨op, u, v⟩ := o
  unfold zoa at ho
  simp only [] at ho h1 h2
  obtain ⟨B0, -, DB, Gp, e14, -, -⟩ := H
  have g12 := (zD_g DB).2.1
  refine jE_of (fun r => gX13_ask) ?_
  have cs : op = 36 ∨ op = 9 ∨ op = 10 ∨ op = 11 ∨ op = 12 ∨ op = 13 ∨ op = 14 := by omega
  rcases cs with rfl | rfl | rfl | rfl | rfl | rfl | rfl
  · exact jF_end zS_rf
  · show jF ((jr_I h m 12 14 0).bind fun x2 => some (.inl (some (.int x2)), h)) _ _
    rw [e14, Option.bind_some]
    exact jF_end zS_rf
  · have hp := h1 ⟨by omega, by omega⟩
    show jF ((jr_R h m 12 9 2).bind fun a5 => (jm_ali h a5 0 (Int32.ofNat u)).bind fun x7 => some (.inl (some (.int x7)), h)) _ _
    simp only [zB_9 B0, Option.bind_some, zG_many0 Gp hp]
    exact jF_end zS_rf
  · have hp := h1 ⟨by omega, by omega⟩
    show jF (jm_O h m 13 (jc_I (jm_D (d + 4) mX13_masksOf [.ref m, .int (Int32.ofNat u)] h) (fun x12 h10 => some (.inl (some (.int x12)), h10)) jx)) _ _
    simp only [jm_O_eq (zB_ob B0), z_masks (d := d + 3) (gW_gN (hS u hp).2.1) hp B0 Gp, jc_I_eq]
    exact jF_end zS_rf
  · have hp := h1 ⟨by omega, by omega⟩
    show jF ((jr_R h m 12 10 2).bind fun a5 => (jm_ali h a5 0 (Int32.ofNat u)).bind fun x7 => some (.inl (some (.int x7)), h)) _ _
    simp only [zB_10 B0, Option.bind_some, zG_steps0 Gp hp]
    exact jF_end zS_rf
  · have hp := h1 ⟨by omega, by omega⟩
    show jF (jm_O h m 13 (jc_I (jm_D (d + 4) mX13_finished [.ref m, .int (Int32.ofNat u)] h) (fun x24 h22 => (if x24 = 0 then some (.inl (some (.int 0)), h22) else some (.inl (some (.int 1)), h22))) jx)) (.inl (some (.int (jp (ry_r (S.1 u) = none))))) _
    simp only [jm_O_eq (zB_ob B0)]
    refine jE_I (z_finished (d := d + 2) (hS u hp) hp B0 Gp) ?_
    rintro h3 ⟨F3, -⟩
    have F3' : zS m (zHU m) (fun k => k = 19) h h3 := zS_mn F3 (fun c z => Or.inl z) (fun k z => z)
    by_cases c : ry_r (S.1 u) = none
    · rw [jp_T c, if_neg (by decide)]; exact jF_end F3'
    · rw [jp_F c, if_pos rfl]; exact jF_end F3'
  · have hp := h1 ⟨by omega, by omega⟩
    have hq := h2 rfl
    have eo : zo (14, u, v) = (14, 12 * u + v) := rfl
    rw [eo]
    show jF (jm_O h m 13 (jc_I (jm_D (d + 4) mX13_same [.ref m, .int (Int32.ofNat (12 * u + v) / 12), .int (Int32.ofNat (12 * u + v) - Int32.ofNat (12 * u + v) / 12 * 12)] h) (fun x32 h30 => (if x32 = 0 then some (.inl (some (.int 0)), h30) else some (.inl (some (.int 1)), h30))) jx)) (.inl (some (.int (jp (ry_like (S.1 u) (S.1 v)))))) _
    have d1 : Int32.ofNat (12 * u + v) / 12 = Int32.ofNat u := by
      rw [show (12 : Int32) = Int32.ofNat 12 from rfl, ← Int32.ofNat_div (by omega) (by omega)]
      congr 1
      omega
    have d2 : Int32.ofNat (12 * u + v) - Int32.ofNat u * 12 = Int32.ofNat v := by
      rw [show (12 : Int32) = Int32.ofNat 12 from rfl, jw_mul, jw_sub (by omega)]
      congr 1
      omega
    rw [d1, d2]
    simp only [jm_O_eq (zB_ob B0)]
    refine jE_I (z_same (d := d) (hS u hp) (hS v hq) hp hq B0 Gp) ?_
    intro h3 F3
    by_cases c : ry_like (S.1 u) (S.1 v)
    · rw [jp_T c, if_neg (by decide)]; exact jF_end F3
    · rw [jp_F c, if_pos rfl]; exact jF_end F3
end ZD
