/-! ===== the law's entry: all of it ===== -/
theorem je_xw_of {args : Array Value} {s : State} (hts : ∀ w ∈ lw_tbl, w.before args s = true) : ∀ w ∈ jm_xw, va_Nw w s := by
  intro w hw
  have h2 := (List.mem_filter.mp hw).2
  simp only [Bool.and_eq_true] at h2
  exact va_Nw.of h2.1 (hts w (List.mem_filter.mp hw).1)
theorem je_nw_of {args : Array Value} {s : State} (hts : ∀ w ∈ lw_tbl, w.before args s = true) : ∀ w ∈ jm_nw, va_Nw w s := by
  intro w hw
  have h1 := hts w (List.mem_filter.mp hw).1
  have h2 := (List.mem_filter.mp hw).2
  refine va_Nw.of ?_ h1
  cases w <;> first | rfl | (exact absurd h2 (by simp [jm_isN]))
set_option maxRecDepth 100000 in
theorem je_stat {w : Cond} : (w = .laysStatic "java/lang/String" "COMPACT_STRINGS" "Z" ∨ w = .initialized "java/lang/String" ∨ w = .laysStatic "jdk/internal/util/Preconditions" "SIOOBE_FORMATTER" "Ljava/util/function/BiFunction;" ∨ w = .initialized "jdk/internal/util/Preconditions" ∨ w = .laysStatic Bundle.tN "UNASSIGNED_STACK" Bundle.steD ∨ w = .laysStatic Bundle.tN "SUPPRESSED_SENTINEL" Bundle.listD ∨ w = .initialized Bundle.tN ∨ w = .laysStatic "MaskPlaysModel" "WORDS" "[Ljava/lang/String;" ∨ w = .initialized "MaskPlaysModel") → w ∈ lw_tbl := by
  rintro (rfl | rfl | rfl | rfl | rfl | rfl | rfl | rfl | rfl)
  · exact jt_1 (List.mem_of_getElem? (i := 187) rfl)
  · exact jt_1 (List.mem_of_getElem? (i := 7) rfl)
  · exact jt_1 (List.mem_of_getElem? (i := 203) rfl)
  · exact jt_1 (List.mem_of_getElem? (i := 9) rfl)
  · exact jt_4 (List.mem_of_getElem? (i := 157) rfl)
  · exact jt_4 (List.mem_of_getElem? (i := 159) rfl)
  · exact jt_1 (List.mem_of_getElem? (i := 19) rfl)
  · exact jt_7 (List.mem_of_getElem? (i := 212) rfl)
  · exact jt_1 (List.mem_of_getElem? (i := 17) rfl)
theorem je_nc {args : Array Value} {s : State} (hgv : (Jvm.Cond.and given_1 narrow_1).before args s = true) : ∀ x y : Nat, x ≤ 2 → y ≤ 2 → x ≠ y → va_Nc (jm_exn x) (jm_exn y) s := by
  intro x y hx hy hn
  match x, y, hx, hy, hn with
  | 0, 0, _, _, hn => exact absurd rfl hn
  | 0, 1, _, _, _ => exact va_Nc.of (je_at hgv 62 rfl)
  | 0, 2, _, _, _ => exact va_Nc.of (je_at hgv 77 rfl)
  | 1, 0, _, _, _ => exact va_Nc.of (je_at hgv 47 rfl)
  | 1, 1, _, _, hn => exact absurd rfl hn
  | 1, 2, _, _, _ => exact va_Nc.of (je_at hgv 78 rfl)
  | 2, 0, _, _, _ => exact va_Nc.of (je_at hgv 48 rfl)
  | 2, 1, _, _, _ => exact va_Nc.of (je_at hgv 63 rfl)
  | 2, 2, _, _, hn => exact absurd rfl hn
  | n + 3, _, hx, _, _ => omega
  | 0, n + 3, _, hy, _ => omega
  | 1, n + 3, _, hy, _ => omega
  | 2, n + 3, _, hy, _ => omega
theorem je_arrs {args : Array Value} {s : State} (hts : ∀ w ∈ lw_tbl, w.before args s = true) : ∃ cA : Nat → ClassId, ∀ (k : Nat) (q : ClassId × FieldType), ([(cA 0, FieldType.int), (cA 1, .long), (cA 2, .byte), (cA 3, .boolean), (cA 4, .char), (cA 5, .object "MaskPlays$Part"), (cA 6, .object "MaskPlays$Note")] : List (ClassId × FieldType))[k]? = some q → ArrOfT s q.1 q.2 ∧ va_RA s q.1 q.2 := by
  have hws : ∀ w ∈ jm_ws, w.before args s = true := fun w hw => hts w (List.mem_filter.mp hw).1
  obtain ⟨c0, a0⟩ := je_arr (ty := .int) (fun C h => by cases h) (hws _ (jf_ac _ (by decide)))
  obtain ⟨c1, a1⟩ := je_arr (ty := .long) (fun C h => by cases h) (hws _ (jf_ac _ (by decide)))
  obtain ⟨c2, a2⟩ := je_arr (ty := .byte) (fun C h => by cases h) (hws _ (jf_ac _ (by decide)))
  obtain ⟨c3, a3⟩ := je_arr (ty := .boolean) (fun C h => by cases h) (hws _ (jf_ac _ (by decide)))
  obtain ⟨c4, a4⟩ := je_arr (ty := .char) (fun C h => by cases h) (hws _ (jf_ac _ (by decide)))
  obtain ⟨c5, a5⟩ := je_arq (hts _ jf_ao5)
  obtain ⟨c6, a6⟩ := je_arq (hts _ jf_ao6)
  refine ⟨fun t => match t with | 0 => c0 | 1 => c1 | 2 => c2 | 3 => c3 | 4 => c4 | 5 => c5 | _ => c6, fun k q hq => ?_⟩
  match k, hq with
  | 0, hq => cases hq; exact a0
  | 1, hq => cases hq; exact a1
  | 2, hq => cases hq; exact a2
  | 3, hq => cases hq; exact a3
  | 4, hq => cases hq; exact a4
  | 5, hq => cases hq; exact a5
  | 6, hq => cases hq; exact a6
  | k + 7, hq => cases hq
theorem je_classes {args : Array Value} {s : State} (hts : ∀ w ∈ lw_tbl, w.before args s = true) : ∃ D : va_G, ∀ (c : Nat) (q : vw_C), vwCl[c]? = some q → u_Kn s q.1 q.2.1 q.2.2 (D.1 c) (D.2 c) := by
  have hws : ∀ w ∈ jm_ws, w.before args s = true := fun w hw => hts w (List.mem_filter.mp hw).1
  have h0 : ∀ ci : Nat, ∃ q : ClassId × (Nat → Nat), ci < 13 → u_Kn s (jm_vq ci).1 (jm_vq ci).2.1 (jm_vq ci).2.2 q.1 q.2 := by
    intro ci
    by_cases h : ci < 13
    · obtain ⟨cC, iS, hk⟩ := u_known hws (jm_cl_facts h).1 (hts _ (je_inw _ (List.mem_map.mpr ⟨ci, List.mem_range.mpr h, rfl⟩)))
      exact ⟨(cC, iS), fun _ => hk⟩
    · exact ⟨(0, fun _ => 0), fun q => absurd q h⟩
  obtain ⟨f, hf⟩ := Classical.axiomOfChoice h0
  refine ⟨(fun ci => (f ci).1, fun ci => (f ci).2), fun c q hq => ?_⟩
  have hc : c < 13 := (List.getElem?_eq_some_iff.mp hq).1
  have := hf c hc
  have e := jm_vq_some hc
  rw [hq] at e
  cases e
  exact this
theorem je_cst {s : State} {b L : Nat} {xs : Nat → Int32} (hts : ∀ w ∈ lw_tbl, w.before #[Value.ref b] s = true) (hX : va_X b L xs s s.heap) (hbl : b < s.heap.size) (hgv : (Jvm.Cond.and given_1 narrow_1).before #[Value.ref b] s = true) : ∃ X : jm_X, X.N0 = s.heap.size ∧ X.sc = (L, xs) ∧ X.ka 82 = b ∧ jm_cst X s s.heap := by
  have hA : ∀ a : Nat, a < s.heap.size → ¬ (fun q : Nat => s.heap.size ≤ q) a := fun a ha => Nat.not_le.mpr ha
  obtain ⟨D, hD⟩ := je_classes hts
  obtain ⟨cA, hcA⟩ := je_arrs hts
  obtain ⟨adK, adV, hS, hev⟩ := je_S hgv
  obtain ⟨w, hw, hT⟩ := va_Tof (tm := .static "MaskPlaysModel" "WORDS" "[Ljava/lang/String;") (ty := .object "java/lang/String") (N := 20) (f := fun j => .ref (adK (jm_wd.getD j 0))) (A := fun q => s.heap.size ≤ q) (by decide) (je_at hgv 12 rfl) (va_eqt (je_at hgv 13 rfl)) (fun j hj => je_eqr (je_at hgv (14 + j) (je_wds j hj)) (hev _ (je_wd_lt j))) hA
  have hfm : ∃ fv : Value, (fv = .null ∨ ∃ q, fv = .ref q) ∧ va_Z "jdk/internal/util/Preconditions" "SIOOBE_FORMATTER" "Ljava/util/function/BiFunction;" fv (fun q => s.heap.size ≤ q) s s.heap := by
    rcases va_Zqof (A := fun q => s.heap.size ≤ q) (hts _ (je_stat (by simp))) (hts (.initialized "jdk/internal/util/Preconditions") (je_stat (by simp))) (je_at hgv 5 rfl) hA with z | ⟨t, z⟩
    · exact ⟨.null, Or.inl rfl, z⟩
    · exact ⟨.ref t, Or.inr ⟨t, rfl⟩, z⟩
  obtain ⟨fv, hfv, hfz⟩ := hfm
  refine ⟨(D, cA, je_ka adK adV w b, fv, s.heap.size, (L, xs)), rfl, rfl, rfl, ⟨hD, hcA⟩, hfv, ?_, ?_, ⟨hX, Nat.not_le.mpr hbl⟩, ⟨?_, hfz, ?_⟩, je_nw_of hts, ?_, ⟨?_, ?_⟩, ⟨va_AO.of (hts _ jf_ao5), va_AO.of (hts _ jf_ao6)⟩, je_nc hgv, je_xw_of hts⟩
  · rw [je_len_eq, je_byt_eq]
    refine ⟨fun i hi => ?_, fun i j hi hj e => ?_⟩
    · show va_O _ (je_ka adK adV w b i) _ _ _ ∧ va_OF _ _ _ _ (je_ka adK adV w b i) _ _ _ ∧ va_OF _ _ _ (.ref (je_ka adK adV w b (40 + i))) (je_ka adK adV w b i) _ _ _ ∧ va_T _ (je_ka adK adV w b (40 + i)) _ _ _ _ _
      rw [je_ka1 hi, je_ka2 hi]
      exact hS.1 i hi
    · have e1 : je_ka adK adV w b i = je_ka adK adV w b j := e
      rw [je_ka1 hi, je_ka1 hj] at e1
      exact hS.2 i j hi hj e1
  · have e1 : (fun j => Value.ref (je_ka adK adV w b (jm_wd.getD j 0))) = fun j => .ref (adK (jm_wd.getD j 0)) := by
      funext j
      rw [je_ka1 (je_wd_lt j)]
    show va_T _ w 20 (fun j => Value.ref (je_ka adK adV w b (jm_wd.getD j 0))) _ _ _
    rw [e1]
    exact hT
  · exact va_Zof (hts _ (je_stat (by simp))) (hts (.initialized "java/lang/String") (je_stat (by simp))) (va_eqi (je_at hgv 4 rfl)) hA
  · exact va_Zof (hts _ (je_stat (by simp))) (hts (.initialized "MaskPlaysModel") (je_stat (by simp))) hw hA
  · intro k q hq
    have hk : k < 34 := (List.getElem?_eq_some_iff.mp hq).1
    show vk_R _ _ _ (je_ka adK adV w b k) s
    rw [je_ka1 hk]
    refine vk_R.of (A := #[Value.ref b]) (hts _ (je_srw _ (List.mem_map.mpr ⟨q, List.mem_of_getElem? hq, rfl⟩))) ?_
    have h1 := hev k hk
    have e1 : je_tm k = .string q.1 q.2.1 := by
      unfold je_tm
      rw [List.getD_eq_getElem?_getD, hq]
      rfl
    rw [e1] at h1
    exact h1
  · exact vx_Zqof (hts _ (je_stat (by simp))) (hts (.initialized Bundle.tN) (je_stat (by simp))) (je_at hgv 9 rfl) hA
  · exact vx_Zqof (hts _ (je_stat (by simp))) (hts (.initialized Bundle.tN) (je_stat (by simp))) (je_at hgv 10 rfl) hA
/-- the heap at the law's entry -/
def jm_h0 (L : Nat) (xs : Nat → Int32) : jm_H := (128, 0, jm_kon (L, xs))
theorem jm_kon_hi {sc : Nat × (Nat → Int32)} {a : Nat} (h : 128 ≤ a) : jm_kon sc a = none := by
  unfold jm_kon
  rw [if_neg (by omega), if_neg (by omega), if_neg (by omega), if_neg (by omega)]
/-- THE WHOLE CLAIM, OF THE ABSTRACT MACHINE -/
theorem whole_red {p : Program} {e : Env} {s : State} {m : MethodId} {below : List Frame} {meth : Method} {c : Code} (l : Launch) (hflags : l.flags = flags0) {b L : Nat} {xs : Nat → Int32} (C0 : lw_At p s m meth c b L xs) {F d : Nat} {h' : jm_H} (hd : d ≤ 2000)
    (hr : jm_run F (d + 1) mL_law [.ref 82] (jm_h0 L xs) = some (.inl (some (.int 1)), h')) (hroom : h'.1 ≤ 128 + 160642 ∧ h'.2.1 ≤ 8614180) :
    W p l e room_1 s m #[Value.ref b] below meth c s.heap [] 0 0 (lw_Z below #[Value.ref b] s) (entryFrame m ([Value.ref b] : List Value).toArray 9) := by
  obtain ⟨hx, hb, hrt, hml, hown, hts, hX, hbl, hlocks, hgv⟩ := id C0
  obtain ⟨X, x1, x2, x3, hC⟩ := je_cst hts hX hbl hgv
  have hfl : l.stackTraces = false := by
    unfold Launch.stackTraces
    rw [hflags]
    decide
  have hws : ∀ w ∈ jm_ws, w.before #[Value.ref b] s = true := fun w hw => hts w (List.mem_filter.mp hw).1
  have hd0 := Drawn.sameBut.refl s.drawn lw_cs
  have hfc := jm_fv_cat hC.2.1
  have hN : X.N0 ≤ s.heap.size := Nat.le_of_eq x1
  unfold jm_run at hr
  rw [if_pos (by decide)] at hr
  have hbody := jm_body (X := X) (p := p) (lc := l) (e := e) (R := room_1) (s := s) (m := m) (args := #[Value.ref b]) (below := below) (meth := meth) (c := c) (nL := 9) (h0 := jm_h0 L xs) (Q := lw_Z below #[Value.ref b] s) (d := d) (M := mL_law) hfl ⟨by show d + 9 ≤ 2048; omega, by show 41 * d + 141 ≤ 84000; omega⟩ hN hx hb hml hown hws hC (by decide) (fun q => absurd q (by decide)) (fun q => absurd rfl q) (fun q => absurd rfl q) (call := jm_run F d) (fun y vs h r hy hr => jm_run_met hfl X F d y vs h r hy hr) (r0 := (.inl (some (.int 1)), h'))
    (fun pc lo st h v q1 q2 => by
      cases q2
      rcases q1 with ⟨q, ty, x, -, rfl, q3, -⟩ | ⟨-, q, -⟩ | ⟨-, q, -⟩ | ⟨-, ty, x, -, -, -, q⟩ | ⟨-, -, -, q⟩
      · cases q3
        intro H locs cells slots ls ha
        obtain ⟨a1, a2, a3, a4, a5⟩ := ha
        have a3' : cells + 128 = h'.1 := a3
        have a4' : slots + 0 = h'.2.1 := a4
        refine va_forget (fun q hq => by have := a2.2.2 q hq; show s.heap.size ≤ q.base; rw [← x1]; exact this) ?_
        refine W.widen (k := 160642) (n := 8614180) (by omega) (by omega) ?_
        refine W.base ?_
        exact lw_ret hd0 hx hb hrt hlocks q
      · cases q
      · cases q
      · cases q
      · cases q)
    (fun pc lo st h k x t S q1 q2 q3 q4 q5 => by cases q5)
    (fun x h1 pc lo rest q1 q2 => by cases q2)
    F _ _ hr
  have hgo := hbody.2 ⟨hroom.1, by show h'.2.1 ≤ 0 + 8614180; omega⟩
  have e1 : [Value.ref b] = ([.ref 82] : List Value).map (jm_vc X) := by
    show _ = [jm_vc X (.ref 82)]
    rw [jm_vc_k (by decide) (by decide), x3]
  have hat : jm_at X s (jm_h0 L xs) (jm_h0 L xs) s.heap [] 0 0 ((lg_sl ([Value.ref 82].map (jm_vc X)) ++ List.replicate (9 - (lg_sl ([Value.ref 82].map (jm_vc X))).length) Slot.unset).toArray) 9 (jm_pad (jm_ent [.ref 82]) 9) := by
    refine ⟨⟨?_, Nat.le_refl _, fun a x ha hx => ?_, fun a _ => ?_⟩, va_S.rf, Nat.zero_add _, Nat.zero_add _, jm_lr_entry X hfc [.ref 82] (by decide)⟩
    · show s.heap.size + 128 = X.N0 + 128
      rw [x1]
    · have hx' : jm_kon (L, xs) a = some x := hx
      rw [jm_kon_hi ha] at hx'
      cases hx'
    · show jm_kon (L, xs) a = jm_kon X.sc a
      rw [x2]
  have hk := hgo s.heap [] 0 0 _ hat
  rw [← e1] at hk
  rw [lg_entry_eq]
  exact hk
