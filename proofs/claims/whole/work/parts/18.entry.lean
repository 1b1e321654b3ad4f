/-! ===== the law's entry: what is known there of the machine's own things ===== -/
def je_fl : List Cond := flatC (Jvm.Cond.and given_1 narrow_1)
theorem je_at {args : Array Value} {s : State} (h : (Jvm.Cond.and given_1 narrow_1).before args s = true) {w : Cond} (i : Nat) (hi : je_fl[i]? = some w) : w.before args s = true := flat_of_before _ h w (List.mem_of_getElem? hi)
def je_len : List Nat := [100, 13, 21, 5, 22, 26, 30, 22, 20, 23, 34, 20, 27, 17, 4, 5, 4, 2, 4, 4, 2, 5, 4, 7, 4, 5, 5, 8, 4, 3, 3, 2, 3, 3]
def je_byt : List (List Int32) := [[97, 99, 116, 111, 114, 32, 112, 108, 97, 121, 32, 105, 115, 32, 109, 97, 115, 107, 32, 115, 116, 101, 112, 32, 103, 105, 118, 101, 32, 116, 111, 32, 114, 101, 110, 101, 119, 32, 119, 104, 101, 110, 32, 101, 118, 101, 110, 105, 110, 103, 32, 115, 105, 122, 101, 32, 109, 97, 115, 107, 115, 32, 115, 116, 101, 112, 115, 32, 102, 105, 110, 105, 115, 104, 101, 100, 32, 115, 97, 109, 101, 32, 110, 111, 116, 32, 97, 110, 100, 32, 111, 114, 32, 109, 105, 110, 32, 109, 97, 120], [40, 41, 91, 93, 59, 44, 43, 45, 42, 47, 60, 62, 61], [116, 104, 101, 114, 101, 32, 105, 115, 32, 110, 111, 32, 115, 117, 99, 104, 32, 112, 108, 97, 121], [109, 97, 115, 107, 32], [116, 104, 101, 114, 101, 32, 105, 115, 32, 110, 111, 32, 115, 117, 99, 104, 32, 97, 99, 116, 111, 114], [116, 104, 101, 32, 116, 97, 112, 101, 32, 119, 111, 117, 108, 100, 32, 98, 101, 32, 116, 111, 111, 32, 108, 111, 110, 103], [116, 104, 101, 32, 116, 97, 112, 101, 32, 104, 97, 115, 32, 110, 111, 116, 32, 115, 111, 32, 109, 97, 110, 121, 32, 98, 121, 116, 101, 115], [116, 104, 101, 114, 101, 32, 105, 115, 32, 110, 111, 32, 115, 117, 99, 104, 32, 112, 108, 97, 99, 101], [116, 104, 101, 32, 112, 108, 97, 121, 32, 105, 115, 32, 102, 105, 110, 105, 115, 104, 101, 100], [116, 104, 101, 32, 115, 116, 101, 112, 32, 99, 97, 110, 110, 111, 116, 32, 98, 101, 32, 100, 111, 110, 101], [116, 104, 101, 32, 112, 108, 97, 121, 32, 119, 111, 117, 108, 100, 32, 104, 97, 118, 101, 32, 116, 111, 111, 32, 109, 97, 110, 121, 32, 112, 97, 114, 116, 115], [101, 118, 101, 110, 105, 110, 103, 115, 32, 97, 114, 101, 32, 49, 32, 116, 111, 32, 50, 48], [116, 104, 101, 32, 112, 108, 97, 121, 32, 105, 115, 32, 110, 111, 116, 32, 102, 105, 110, 105, 115, 104, 101, 100, 32, 115, 111], [115, 116, 101, 112, 115, 32, 97, 114, 101, 32, 48, 32, 116, 111, 32, 52, 48], [109, 97, 115, 107], [97, 99, 116, 111, 114], [112, 108, 97, 121], [105, 115], [115, 116, 101, 112], [103, 105, 118, 101], [116, 111], [114, 101, 110, 101, 119], [119, 104, 101, 110], [101, 118, 101, 110, 105, 110, 103], [115, 105, 122, 101], [109, 97, 115, 107, 115], [115, 116, 101, 112, 115], [102, 105, 110, 105, 115, 104, 101, 100], [115, 97, 109, 101], [110, 111, 116], [97, 110, 100], [111, 114], [109, 105, 110], [109, 97, 120]]
set_option maxRecDepth 100000 in
theorem je_len_eq : jm_tlen = je_len := by decide +kernel
set_option maxRecDepth 100000 in
theorem je_byt_eq : jm_tbyt = je_byt := by decide +kernel
def je_tm (i : Nat) : Term := .string (jm_tx.getD i ("", 0, "")).1 (jm_tx.getD i ("", 0, "")).2.1
def je_blk (i : Nat) : List Cond := [.exactly (je_tm i) "java/lang/String", .eq (.field (je_tm i) "java/lang/String" "coder" "B") (.int 0), .arrayOf (.field (je_tm i) "java/lang/String" "value" "[B") .byte, .eq (.length (.field (je_tm i) "java/lang/String" "value" "[B")) (.int (Int32.ofNat (je_len.getD i 0)))] ++ (List.range (je_len.getD i 0)).map fun j => .eq (.elem (.field (je_tm i) "java/lang/String" "value" "[B") (.int (Int32.ofNat j))) (.int ((je_byt.getD i []).getD j 0))
set_option maxRecDepth 100000 in
theorem je_blks : je_fl.drop 113 = (List.range 34).flatMap je_blk := by decide +kernel
theorem je_blk_at {args : Array Value} {s : State} (h : (Jvm.Cond.and given_1 narrow_1).before args s = true) {i : Nat} (hi : i < 34) {w : Cond} (hw : w ∈ je_blk i) : w.before args s = true := by
  have h1 : w ∈ je_fl.drop 113 := by
    rw [je_blks]
    exact List.mem_flatMap.mpr ⟨i, List.mem_range.mpr hi, hw⟩
  exact flat_of_before _ h w (List.mem_of_mem_drop h1)
set_option maxRecDepth 100000 in
theorem je_wds : ∀ j, j < 20 → je_fl[14 + j]? = some (.eq (.elem (.static "MaskPlaysModel" "WORDS" "[Ljava/lang/String;") (.int (Int32.ofNat j))) (je_tm (jm_wd.getD j 0))) := by decide +kernel
theorem je_wd_lt (j : Nat) : jm_wd.getD j 0 < 34 := by
  by_cases h : j < 20
  · exact (by decide +kernel : ∀ j, j < 20 → jm_wd.getD j 0 < 34) j h
  · rw [List.getD_eq_getElem?_getD, List.getElem?_eq_none (by show 20 ≤ j; omega)]
    decide
theorem je_len_lt (i : Nat) (hi : i < 34) : je_len.getD i 0 < 2 ^ 31 := (by decide +kernel : ∀ i, i < 34 → je_len.getD i 0 < 2 ^ 31) i hi
set_option maxRecDepth 100000 in
theorem je_ne : ∀ i, i < 34 → ∀ j, j < 34 → i ≠ j → Int32.ofNat (je_len.getD i 0) ≠ Int32.ofNat (je_len.getD j 0) ∨ ∃ k, k < je_len.getD i 0 ∧ k < je_len.getD j 0 ∧ (je_byt.getD i []).getD k 0 ≠ (je_byt.getD j []).getD k 0 := by decide +kernel
theorem je_of {o n d : String} {v w : Value} {t : Nat} {A : Nat → Prop} {U : State} {H : Heap} (h1 : va_OF o n d v t A U H) (h2 : va_OF o n d w t A U H) : v = w := by
  obtain ⟨cf, k, i, f, cell, a1, -, a2, -, a3, -⟩ := h1
  obtain ⟨cf', k', i', f', cell', b1, -, b2, -, b3, -⟩ := h2
  cases a1.symm.trans b1
  cases a2.symm.trans b2
  exact Option.some.inj (a3.symm.trans b3)
theorem je_T {ty ty' : FieldType} {t N M : Nat} {f g : Nat → Value} {A : Nat → Prop} {U : State} {H : Heap} (h1 : va_T ty t N f A U H) (h2 : va_T ty' t M g A U H) : Int32.ofNat N = Int32.ofNat M ∧ ∀ k, k < N → k < M → f k = g k := by
  obtain ⟨c1, a1, -, -, -, a2, a3, -⟩ := h1
  obtain ⟨c2, b1, -, -, -, b2, b3, -⟩ := h2
  cases a1.symm.trans b1
  exact ⟨a2.symm.trans b2, fun k hk hk' => Option.some.inj ((a3 k hk).symm.trans (b3 k hk'))⟩
theorem je_eqr {args : Array Value} {s : State} {t u : Term} {a : Nat} (h : (Cond.eq t u).before args s = true) (hu : u.eval args s none [] s = some (.ref a)) : t.eval args s none [] s = some (.ref a) := by
  cases hv : t.eval args s none [] s with
  | none => simp [Cond.before, Cond.holds, Cond.value, hv] at h
  | some w =>
    simp only [Cond.before, Cond.holds, Cond.value, hv, hu] at h
    cases w <;> simp_all
/-- the texts, and where they lie -/
theorem je_S {args : Array Value} {s : State} (h : (Jvm.Cond.and given_1 narrow_1).before args s = true) : ∃ adK adV : Nat → Nat, vk_S 34 je_len je_byt adK adV (fun q => s.heap.size ≤ q) s s.heap ∧ ∀ i, i < 34 → (je_tm i).eval args s none [] s = some (.ref (adK i)) := by
  have hA : ∀ a : Nat, a < s.heap.size → ¬ (fun q : Nat => s.heap.size ≤ q) a := fun a ha => Nat.not_le.mpr ha
  have h0 : ∀ i : Nat, ∃ q : Nat × Nat, i < 34 → (je_tm i).eval args s none [] s = some (.ref q.1) ∧ va_O "java/lang/String" q.1 (fun q => s.heap.size ≤ q) s s.heap ∧ va_OF "java/lang/String" "coder" "B" (.int 0) q.1 (fun q => s.heap.size ≤ q) s s.heap ∧ va_OF "java/lang/String" "value" "[B" (.ref q.2) q.1 (fun q => s.heap.size ≤ q) s s.heap ∧ va_T .byte q.2 (je_len.getD i 0) (fun j => .int ((je_byt.getD i []).getD j 0)) (fun q => s.heap.size ≤ q) s s.heap := by
    intro i
    by_cases hi : i < 34
    · obtain ⟨adK, adV, hS, he⟩ := vk_Sof (N := 1) (tm := fun _ => je_tm i) (len := [je_len.getD i 0]) (byt := [je_byt.getD i []]) (A := fun q => s.heap.size ≤ q) (args := args) (s := s)
        (fun k hk => by obtain rfl : k = 0 := by omega
                        exact je_len_lt i hi)
        (fun k hk => je_blk_at h hi (List.mem_append_left _ (List.mem_of_getElem? (i := 0) rfl)))
        (fun k hk => je_blk_at h hi (List.mem_append_left _ (List.mem_of_getElem? (i := 1) rfl)))
        (fun k hk => je_blk_at h hi (List.mem_append_left _ (List.mem_of_getElem? (i := 2) rfl)))
        (fun k hk => by obtain rfl : k = 0 := by omega
                        exact je_blk_at h hi (List.mem_append_left _ (List.mem_of_getElem? (i := 3) rfl)))
        (fun k hk j hj => by obtain rfl : k = 0 := by omega
                             exact je_blk_at h hi (List.mem_append_right _ (List.mem_map.mpr ⟨j, List.mem_range.mpr hj, rfl⟩)))
        (fun a b ha hb hn => absurd (by omega) hn) hA
      exact ⟨(adK 0, adV 0), fun _ => ⟨he 0 (by omega), hS.1 0 (by omega)⟩⟩
    · exact ⟨(0, 0), fun q => absurd q hi⟩
  obtain ⟨ad, had⟩ := Classical.axiomOfChoice h0
  refine ⟨fun i => (ad i).1, fun i => (ad i).2, ⟨fun i hi => (had i hi).2, fun i j hi hj e => ?_⟩, fun i hi => (had i hi).1⟩
  by_cases hij : i = j
  · exact hij
  · exfalso
    have e1 : (ad i).1 = (ad j).1 := e
    obtain ⟨-, -, -, v1, t1⟩ := had i hi
    obtain ⟨-, -, -, v2, t2⟩ := had j hj
    rw [← e1] at v2
    have e2 : (ad i).2 = (ad j).2 := by
      have := je_of v1 v2
      injection this
    rw [← e2] at t2
    obtain ⟨q1, q2⟩ := je_T t1 t2
    rcases je_ne i hi j hj hij with z | ⟨k, k1, k2, z⟩
    · exact z q1
    · have := q2 k k1 k2
      injection this with this
      exact z this
theorem je_plT {L : List Cond} (ps : List Nat) (h : L = ps.filterMap (fun i => lw_tbl[i]?)) : ∀ w ∈ L, w ∈ lw_tbl := by
  intro w hw
  rw [h] at hw
  obtain ⟨i, -, hi⟩ := List.mem_filterMap.mp hw
  exact List.mem_of_getElem? hi
set_option maxRecDepth 100000 in
theorem je_srw : ∀ w ∈ jm_tx.map (fun q => Cond.stringRef q.1 q.2.1 q.2.2), w ∈ lw_tbl := je_plT [314, 631, 1028, 1124, 1151, 1181, 1209, 1276, 1284, 1356, 1392, 1423, 1489, 1497, 2062, 2253, 2254, 2255, 2256, 2257, 2258, 2259, 2260, 2261, 2262, 2263, 2264, 2265, 2266, 2267, 2268, 2269, 2270, 2271] (by decide +kernel)
set_option maxRecDepth 100000 in
theorem je_inw : ∀ w ∈ (List.range 13).map (fun ci => Cond.instantiable (jm_vq ci).1 (jm_vq ci).2.2), w ∈ lw_tbl := je_plT [175, 453, 212, 184, 494, 395, 469, 502, 284, 309, 167, 1546, 1540] (by decide +kernel)
/-- where the constants lie -/
def je_ka (adK adV : Nat → Nat) (w b : Nat) (a : Nat) : Nat := if a < 34 then adK a else if 40 ≤ a ∧ a < 74 then adV (a - 40) else if a = 80 then w else b
theorem je_ka1 {adK adV : Nat → Nat} {w b i : Nat} (h : i < 34) : je_ka adK adV w b i = adK i := if_pos h
theorem je_ka2 {adK adV : Nat → Nat} {w b i : Nat} (h : i < 34) : je_ka adK adV w b (40 + i) = adV i := by
  unfold je_ka
  rw [if_neg (by omega), if_pos (by omega), Nat.add_sub_cancel_left]
theorem je_arr {args : Array Value} {s : State} {ty : FieldType} (hn : ∀ C, ty ≠ .object C) (h : (Cond.arrayClass ty).before args s = true) : ∃ cA : ClassId, ArrOfT s cA ty ∧ va_RA s cA ty := by
  obtain ⟨cA, kA, comp, h1, h2, h3⟩ := Cond.arrayClass_spec h
  refine ⟨cA, fun n z => ⟨fun k h => (by cases h), kA, h2, comp, h3⟩, ?_⟩
  cases ty <;> first | exact h1 | exact absurd rfl (hn _)
theorem je_arq {args : Array Value} {s : State} {C : String} (h : (Cond.arrayOver (.object C)).before args s = true) : ∃ cA : ClassId, ArrOfT s cA (.object C) ∧ va_RA s cA (.object C) := by
  obtain ⟨comp, c, k, h1, h2, h3, h4, h5⟩ := Cond.arrayOver_spec h
  exact ⟨c, fun n z => ⟨fun k h => (by cases h), k, h3, comp, h4⟩, k, comp, h3, h4, h1, h5⟩
