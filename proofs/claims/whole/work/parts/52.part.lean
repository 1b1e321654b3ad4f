/-! ===== LEVEL 3: Part, what it holds ===== -/
def ky (x : Int) : Int32 := if x = 0 then 2 else if x < 0 then 1 else 0
/-- names of 37 letters as names of 64 -/
def n6 (n : Nat) : Nat := if _h : n = 0 then 0 else 64 * n6 (n / 37) + n % 37
termination_by n
decreasing_by omega
def nm (x : Int) : Int64 := Int64.ofNat (n6 x.natAbs)
/-- the cells of a part -/
def pC (h : jm_H) (p n : Nat) (K : Nat → Int32) (N : Nat → Int64) (E O : Nat → Int32) : Prop :=
  h.2.2 p = some (.inr (3, [.int (Int32.ofNat n), .ref (p + 1), .ref (p + 2), .ref (p + 3), .ref (p + 4)])) ∧ h.2.2 (p + 1) = some (.inl (0, 150, .inl K)) ∧ h.2.2 (p + 2) = some (.inl (1, 150, .inr (.inl N))) ∧ h.2.2 (p + 3) = some (.inl (0, 150, .inl E)) ∧ h.2.2 (p + 4) = some (.inl (0, 150, .inl O)) ∧ 128 ≤ p ∧ n ≤ 150
/-- its row -/
def pR (l : List Int) (K : Nat → Int32) (N : Nat → Int64) : Prop := ∀ i, i < l.length → K i = ky (l.getD i 0) ∧ N i = nm (l.getD i 0)
/-- ends and masks around -/
def pX (l : List Int) (E O : Nat → Int32) : Prop := ∀ i, i < l.length → E i = Int32.ofNat (ry_n l i) ∧ O i = Int32.ofInt (ry_u l i i)
/-- a part with some row -/
def pU (h : jm_H) (p : Nat) (l : List Int) : Prop := ∃ K N E O, pC h p l.length K N E O ∧ pR l K N
/-- a part that is linked -/
def pL (h : jm_H) (p : Nat) (l : List Int) : Prop := ∃ K N E O, pC h p l.length K N E O ∧ pR l K N ∧ pX l E O
theorem pL_U {h : jm_H} {p : Nat} {l : List Int} (H : pL h p l) : pU h p l := by
  obtain ⟨K, N, E, O, a, b, c⟩ := H
  exact ⟨K, N, E, O, a, b⟩
theorem pC_tr {h h' : jm_H} {p n : Nat} {K : Nat → Int32} {N : Nat → Int64} {E O : Nat → Int32} {S : Nat → Prop} (H : pC h p n K N E O) (F : jS S h h') (D : ∀ x, S x → jn p 5 x → False) : pC h' p n K N E O := by
  obtain ⟨a1, a2, a3, a4, a5, a6, a7⟩ := H
  have g : ∀ k, k < 5 → h'.2.2 (p + k) = h.2.2 (p + k) := fun k hk => F.2.2 _ fun z => D _ z ⟨by omega, by omega⟩
  exact ⟨(g 0 (by omega)).trans a1, (g 1 (by omega)).trans a2, (g 2 (by omega)).trans a3, (g 3 (by omega)).trans a4, (g 4 (by omega)).trans a5, a6, a7⟩
theorem pU_tr {h h' : jm_H} {p : Nat} {l : List Int} {S : Nat → Prop} (H : pU h p l) (F : jS S h h') (D : ∀ x, S x → jn p 5 x → False) : pU h' p l := by
  obtain ⟨K, N, E, O, a, b⟩ := H
  exact ⟨K, N, E, O, pC_tr a F D, b⟩
theorem pL_tr {h h' : jm_H} {p : Nat} {l : List Int} {S : Nat → Prop} (H : pL h p l) (F : jS S h h') (D : ∀ x, S x → jn p 5 x → False) : pL h' p l := by
  obtain ⟨K, N, E, O, a, b, c⟩ := H
  exact ⟨K, N, E, O, pC_tr a F D, b, c⟩
theorem pU_len {h : jm_H} {p : Nat} {l : List Int} (H : pU h p l) : l.length ≤ 150 := by
  obtain ⟨K, N, E, O, a, b⟩ := H
  exact a.2.2.2.2.2.2
theorem pL_len {h : jm_H} {p : Nat} {l : List Int} (H : pL h p l) : l.length ≤ 150 := pU_len (pL_U H)
section PC
variable {h : jm_H} {p n d : Nat} {K : Nat → Int32} {N : Nat → Int64} {E O : Nat → Int32}
theorem pC_ob (H : pC h p n K N E O) : jm_ob h p 3 = true := by
  simp [jm_ob, H.1, jm_c2i]
theorem pC_n (H : pC h p n K N E O) : jr_I h p 3 0 0 = some (Int32.ofNat n) := by
  simp [jr_I, jm_gf, H.1, jm_tk]
theorem pC_1 (H : pC h p n K N E O) : jr_R h p 3 1 2 = some (p + 1) := by
  simp [jr_R, jm_gf, H.1, jm_tk]
theorem pC_2 (H : pC h p n K N E O) : jr_R h p 3 2 2 = some (p + 2) := by
  simp [jr_R, jm_gf, H.1, jm_tk]
theorem pC_3 (H : pC h p n K N E O) : jr_R h p 3 3 2 = some (p + 3) := by
  simp [jr_R, jm_gf, H.1, jm_tk]
theorem pC_4 (H : pC h p n K N E O) : jr_R h p 3 4 2 = some (p + 4) := by
  simp [jr_R, jm_gf, H.1, jm_tk]
theorem pC_l1 (H : pC h p n K N E O) : jm_len h (p + 1) = some 150 := by
  simp [jm_len, H.2.1]
theorem pC_l2 (H : pC h p n K N E O) : jm_len h (p + 2) = some 150 := by
  simp [jm_len, H.2.2.1]
theorem pC_l3 (H : pC h p n K N E O) : jm_len h (p + 3) = some 150 := by
  simp [jm_len, H.2.2.2.1]
theorem pC_l4 (H : pC h p n K N E O) : jm_len h (p + 4) = some 150 := by
  simp [jm_len, H.2.2.2.2.1]
theorem pC_a1 {i : Nat} (H : pC h p n K N E O) (hi : i < 150) : jm_ali h (p + 1) 0 (Int32.ofNat i) = some (K i) := by
  simp [jm_ali, H.2.1, jw_ix hi (by omega), jw_n (show i < 2147483648 by omega)]
theorem pC_a2 {i : Nat} (H : pC h p n K N E O) (hi : i < 150) : jm_all h (p + 2) (Int32.ofNat i) = some (N i) := by
  simp [jm_all, H.2.2.1, jw_ix hi (by omega), jw_n (show i < 2147483648 by omega)]
theorem pC_a3 {i : Nat} (H : pC h p n K N E O) (hi : i < 150) : jm_ali h (p + 3) 0 (Int32.ofNat i) = some (E i) := by
  simp [jm_ali, H.2.2.2.1, jw_ix hi (by omega), jw_n (show i < 2147483648 by omega)]
theorem pC_a4 {i : Nat} (H : pC h p n K N E O) (hi : i < 150) : jm_ali h (p + 4) 0 (Int32.ofNat i) = some (O i) := by
  simp [jm_ali, H.2.2.2.2.1, jw_ix hi (by omega), jw_n (show i < 2147483648 by omega)]
/-- writes -/
theorem pC_wn {m : Nat} (H : pC h p n K N E O) (hm : m ≤ 150) : ∃ h', jm_pf h p 3 0 0 (.int (Int32.ofNat m)) = some h' ∧ jS (jn p 5) h h' ∧ pC h' p m K N E O := by
  refine ⟨jm_set h p (.inr (3, [.int (Int32.ofNat m), .ref (p + 1), .ref (p + 2), .ref (p + 3), .ref (p + 4)])), ?_, jS_set ⟨by omega, by omega⟩, ?_⟩
  · simp only [jm_pf, H.1, if_pos H.2.2.2.2.2.1, jm_tk]
    rfl
  · simp [pC, jm_set_at, H.2.1, H.2.2.1, H.2.2.2.1, H.2.2.2.2.1, H.2.2.2.2.2.1, hm]
theorem pC_w1 {i : Nat} {x : Int32} (H : pC h p n K N E O) (hi : i < 150) : ∃ h', jm_asi h (p + 1) 0 (Int32.ofNat i) x = some h' ∧ jS (jn p 5) h h' ∧ pC h' p n (upd K i x) N E O := by
  refine ⟨jm_set h (p + 1) (.inl (0, 150, .inl (upd K i x))), ?_, jS_set ⟨by omega, by omega⟩, ?_⟩
  · simp only [jm_asi, H.2.1, jw_ix hi (by omega), jw_n (show i < 2147483648 by omega)]
    rw [if_pos ⟨by have := H.2.2.2.2.2.1; omega, trivial, trivial⟩]
    rfl
  · simp [pC, jm_set_at, H.1, H.2.2.1, H.2.2.2.1, H.2.2.2.2.1, H.2.2.2.2.2.1, H.2.2.2.2.2.2, jm_ty, vp_nar]
theorem pC_w2 {i : Nat} {x : Int64} (H : pC h p n K N E O) (hi : i < 150) : ∃ h', jm_asl h (p + 2) (Int32.ofNat i) x = some h' ∧ jS (jn p 5) h h' ∧ pC h' p n K (vp_updL N i x) E O := by
  refine ⟨jm_set h (p + 2) (.inl (1, 150, .inr (.inl (vp_updL N i x)))), ?_, jS_set ⟨by omega, by omega⟩, ?_⟩
  · simp only [jm_asl, H.2.2.1, jw_ix hi (by omega), jw_n (show i < 2147483648 by omega)]
    rw [if_pos ⟨by have := H.2.2.2.2.2.1; omega, trivial⟩]
  · simp [pC, jm_set_at, H.1, H.2.1, H.2.2.2.1, H.2.2.2.2.1, H.2.2.2.2.2.1, H.2.2.2.2.2.2]
theorem pC_w3 {i : Nat} {x : Int32} (H : pC h p n K N E O) (hi : i < 150) : ∃ h', jm_asi h (p + 3) 0 (Int32.ofNat i) x = some h' ∧ jS (jn p 5) h h' ∧ pC h' p n K N (upd E i x) O := by
  refine ⟨jm_set h (p + 3) (.inl (0, 150, .inl (upd E i x))), ?_, jS_set ⟨by omega, by omega⟩, ?_⟩
  · simp only [jm_asi, H.2.2.2.1, jw_ix hi (by omega), jw_n (show i < 2147483648 by omega)]
    rw [if_pos ⟨by have := H.2.2.2.2.2.1; omega, trivial, trivial⟩]
    rfl
  · simp [pC, jm_set_at, H.1, H.2.1, H.2.2.1, H.2.2.2.2.1, H.2.2.2.2.2.1, H.2.2.2.2.2.2, jm_ty, vp_nar]
theorem pC_w4 {i : Nat} {x : Int32} (H : pC h p n K N E O) (hi : i < 150) : ∃ h', jm_asi h (p + 4) 0 (Int32.ofNat i) x = some h' ∧ jS (jn p 5) h h' ∧ pC h' p n K N E (upd O i x) := by
  refine ⟨jm_set h (p + 4) (.inl (0, 150, .inl (upd O i x))), ?_, jS_set ⟨by omega, by omega⟩, ?_⟩
  · simp only [jm_asi, H.2.2.2.2.1, jw_ix hi (by omega), jw_n (show i < 2147483648 by omega)]
    rw [if_pos ⟨by have := H.2.2.2.2.2.1; omega, trivial, trivial⟩]
    rfl
  · simp [pC, jm_set_at, H.1, H.2.1, H.2.2.1, H.2.2.2.1, H.2.2.2.2.2.1, H.2.2.2.2.2.2, jm_ty, vp_nar]
/-! readers -/
theorem pC_kindAt {i : Nat} (H : pC h p n K N E O) (hi : i < n) : jm_D (d + 1) mX3_kindAt [.ref p, .int (Int32.ofNat i)] h = some (.inl (some (.int (K i))), h) := by
  have hn := H.2.2.2.2.2.2
  apply gX3_kindAt
  simp only [pC_n H, pC_1 H, pC_l1 H, pC_a1 H (show i < 150 by omega), Option.bind_some, jw_neg (show i < 2147483648 by omega), jw_lt (show i < 2147483648 by omega) (show n < 2147483648 by omega), jw_lt (show i < 2147483648 by omega) (show 150 < 2147483648 by omega), hi, (show i < 150 by omega), if_true, if_false]
theorem pC_nameAt {i : Nat} (H : pC h p n K N E O) (hi : i < n) : jm_D (d + 1) mX3_nameAt [.ref p, .int (Int32.ofNat i)] h = some (.inl (some (.long (N i))), h) := by
  have hn := H.2.2.2.2.2.2
  apply gX3_nameAt
  simp only [pC_n H, pC_2 H, pC_l2 H, pC_a2 H (show i < 150 by omega), Option.bind_some, jw_neg (show i < 2147483648 by omega), jw_lt (show i < 2147483648 by omega) (show n < 2147483648 by omega), jw_lt (show i < 2147483648 by omega) (show 150 < 2147483648 by omega), hi, (show i < 150 by omega), if_true, if_false]
theorem pC_endAt {i : Nat} (H : pC h p n K N E O) (hi : i < n) : jm_D (d + 1) mX3_endAt [.ref p, .int (Int32.ofNat i)] h = some (.inl (some (.int (E i))), h) := by
  have hn := H.2.2.2.2.2.2
  apply gX3_endAt
  simp only [pC_n H, pC_3 H, pC_l3 H, pC_a3 H (show i < 150 by omega), Option.bind_some, jw_neg (show i < 2147483648 by omega), jw_lt (show i < 2147483648 by omega) (show n < 2147483648 by omega), jw_lt (show i < 2147483648 by omega) (show 150 < 2147483648 by omega), hi, (show i < 150 by omega), if_true, if_false]
theorem pC_endAtN {i : Nat} (H : pC h p n K N E O) (hi : n ≤ i) (hb : i < 2147483648) : jm_D (d + 1) mX3_endAt [.ref p, .int (Int32.ofNat i)] h = some (.inl (some (.int (Int32.ofNat n))), h) := by
  have hn := H.2.2.2.2.2.2
  apply gX3_endAt
  simp only [pC_n H, pC_3 H, Option.bind_some, jw_neg hb, jw_lt hb (show n < 2147483648 by omega), (show ¬ i < n by omega), if_true, if_false]
theorem pC_outerAt {i : Nat} (H : pC h p n K N E O) (hi : i < n) : jm_D (d + 1) mX3_outerAt [.ref p, .int (Int32.ofNat i)] h = some (.inl (some (.int (O i))), h) := by
  have hn := H.2.2.2.2.2.2
  apply gX3_outerAt
  simp only [pC_n H, pC_4 H, pC_l4 H, pC_a4 H (show i < 150 by omega), Option.bind_some, jw_neg (show i < 2147483648 by omega), jw_lt (show i < 2147483648 by omega) (show n < 2147483648 by omega), jw_lt (show i < 2147483648 by omega) (show 150 < 2147483648 by omega), hi, (show i < 150 by omega), if_true, if_false]
/-! writers -/
theorem pC_clear (H : pC h p n K N E O) : jF (jm_D (d + 1) mX3_clear [.ref p] h) (.inl none) fun h' => jS (jn p 5) h h' ∧ pC h' p 0 K N E O := by
  refine jE_of (fun r => gX3_clear) ?_
  obtain ⟨h1, e, F, H1⟩ := pC_wn H (m := 0) (by omega)
  rw [show (0 : Int32) = Int32.ofNat 0 from rfl, e, Option.bind_some]
  exact jF_end (P := fun h' => jS (jn p 5) h h' ∧ pC h' p 0 K N E O) ⟨F, H1⟩
theorem pC_add {x : Int32} {y : Int64} (H : pC h p n K N E O) (hn : n < 150) : jF (jm_D (d + 1) mX3_add [.ref p, .int x, .long y] h) (.inl none) fun h' => jS (jn p 5) h h' ∧ pC h' p (n + 1) (upd K n x) (vp_updL N n y) E O := by
  refine jE_of (fun r => gX3_add) ?_
  obtain ⟨h1, e1, F1, H1⟩ := pC_w1 (x := x) H hn
  obtain ⟨h2, e2, F2, H2⟩ := pC_w2 (x := y) H1 hn
  obtain ⟨h3, e3, F3, H3⟩ := pC_wn H2 (m := n + 1) (by omega)
  simp only [pC_n H, pC_1 H, pC_l1 H, Option.bind_some, jw_neg (show n < 2147483648 by omega), jw_lt (show n < 2147483648 by omega) (show 150 < 2147483648 by omega), hn, if_true, if_false, e1, pC_2 H1, pC_n H1, e2, pC_n H2, jw_add1, e3]
  exact jF_end ⟨jS_tr F1 (jS_tr F2 F3), H3⟩
theorem pC_setOuter {i : Nat} {x : Int32} (H : pC h p n K N E O) (hi : i < 150) : jF (jm_D (d + 1) mX3_setOuter [.ref p, .int (Int32.ofNat i), .int x] h) (.inl none) fun h' => jS (jn p 5) h h' ∧ pC h' p n K N E (upd O i x) := by
  refine jE_of (fun r => gX3_setOuter) ?_
  obtain ⟨h1, e1, F1, H1⟩ := pC_w4 (x := x) H hi
  simp only [pC_4 H, pC_l4 H, Option.bind_some, jw_neg (show i < 2147483648 by omega), jw_lt (show i < 2147483648 by omega) (show 150 < 2147483648 by omega), hi, if_true, if_false, e1]
  exact jF_end ⟨F1, H1⟩
theorem pC_setName {i : Nat} {x : Int64} (H : pC h p n K N E O) (hi : i < 150) : jF (jm_D (d + 1) mX3_setName [.ref p, .int (Int32.ofNat i), .long x] h) (.inl none) fun h' => jS (jn p 5) h h' ∧ pC h' p n K (vp_updL N i x) E O := by
  refine jE_of (fun r => gX3_setName) ?_
  obtain ⟨h1, e1, F1, H1⟩ := pC_w2 (x := x) H hi
  simp only [pC_2 H, pC_l2 H, Option.bind_some, jw_neg (show i < 2147483648 by omega), jw_lt (show i < 2147483648 by omega) (show 150 < 2147483648 by omega), hi, if_true, if_false, e1]
  exact jF_end ⟨F1, H1⟩
end PC
/-! ===== LEVEL 3: Part, its methods ===== -/
theorem ky_0 {x : Int} : ky x = 0 ↔ 0 < x := by
  unfold ky
  split
  · rename_i h; exact ⟨fun z => absurd z (by decide), fun z => by omega⟩
  · split
    · rename_i h; exact ⟨fun z => absurd z (by decide), fun z => by omega⟩
    · exact ⟨fun _ => by omega, fun _ => rfl⟩
theorem ky_1 {x : Int} : ky x = 1 ↔ x < 0 := by
  unfold ky
  split
  · rename_i h; exact ⟨fun z => absurd z (by decide), fun z => by omega⟩
  · split
    · rename_i h; exact ⟨fun _ => h, fun _ => rfl⟩
    · exact ⟨fun z => absurd z (by decide), fun z => by omega⟩
theorem ky_2 {x : Int} : ky x = 2 ↔ x = 0 := by
  unfold ky
  split
  · rename_i h; exact ⟨fun _ => h, fun _ => rfl⟩
  · split
    · rename_i h; exact ⟨fun z => absurd z (by decide), fun z => by omega⟩
    · exact ⟨fun z => absurd z (by decide), fun z => by omega⟩
theorem jm_O_eq {h : jm_H} {b c : Nat} {o : Option jm_R} (H : jm_ob h b c = true) : jm_O h b c o = o := if_pos H
theorem jm_U_eq {b : Nat} {o : Option jm_R} (H : 128 ≤ b) : jm_U b o = o := if_pos H
section PM
variable {h : jm_H} {p q n d : Nat} {K : Nat → Int32} {N : Nat → Int64} {E O : Nat → Int32} {l m : List Int}
theorem pR_add {x : Int} (H : pR l K N) : pR (l ++ [x]) (upd K l.length (ky x)) (vp_updL N l.length (nm x)) := by
  intro i hi
  rw [List.length_append] at hi
  by_cases e : i = l.length
  · subst e
    have : (l ++ [x]).getD l.length 0 = x := by simp
    rw [this]
    exact ⟨if_pos rfl, if_pos rfl⟩
  · have hl : i < l.length := by simp at hi; omega
    have : (l ++ [x]).getD i 0 = l.getD i 0 := by simp [List.getElem?_append_left hl]
    rw [this]
    obtain ⟨a, b⟩ := H i hl
    exact ⟨(if_neg e).trans a, (if_neg e).trans b⟩
theorem pU_add {x : Int} (H : pU h p l) (hl : l.length < 150) : jF (jm_D (d + 1) mX3_add [.ref p, .int (ky x), .long (nm x)] h) (.inl none) fun h' => jS (jn p 5) h h' ∧ pU h' p (l ++ [x]) := by
  obtain ⟨K, N, E, O, a, b⟩ := H
  refine jF_mono (pC_add a hl) fun h' ⟨F, H'⟩ => ⟨F, _, _, E, O, ?_, pR_add b⟩
  rw [List.length_append]
  exact H'
theorem pU_clear (H : pU h p l) : jF (jm_D (d + 1) mX3_clear [.ref p] h) (.inl none) fun h' => jS (jn p 5) h h' ∧ pU h' p [] := by
  obtain ⟨K, N, E, O, a, b⟩ := H
  refine jF_mono (pC_clear a) fun h' ⟨F, H'⟩ => ⟨F, K, N, E, O, H', fun i hi => absurd hi (Nat.not_lt_zero _)⟩
theorem pU_ob (H : pU h p l) : jm_ob h p 3 = true := by
  obtain ⟨K, N, E, O, a, b⟩ := H
  exact pC_ob a
theorem pU_n (H : pU h p l) : jr_I h p 3 0 0 = some (Int32.ofNat l.length) := by
  obtain ⟨K, N, E, O, a, b⟩ := H
  exact pC_n a
theorem pU_kindAt {i : Nat} (H : pU h p l) (hi : i < l.length) : jm_D (d + 1) mX3_kindAt [.ref p, .int (Int32.ofNat i)] h = some (.inl (some (.int (ky (l.getD i 0)))), h) := by
  obtain ⟨K, N, E, O, a, b⟩ := H
  rw [pC_kindAt a hi, (b i hi).1]
theorem pU_nameAt {i : Nat} (H : pU h p l) (hi : i < l.length) : jm_D (d + 1) mX3_nameAt [.ref p, .int (Int32.ofNat i)] h = some (.inl (some (.long (nm (l.getD i 0)))), h) := by
  obtain ⟨K, N, E, O, a, b⟩ := H
  rw [pC_nameAt a hi, (b i hi).2]
theorem pL_endAt {i : Nat} (H : pL h p l) (hi : i < l.length) : jm_D (d + 1) mX3_endAt [.ref p, .int (Int32.ofNat i)] h = some (.inl (some (.int (Int32.ofNat (ry_n l i)))), h) := by
  obtain ⟨K, N, E, O, a, b, c⟩ := H
  rw [pC_endAt a hi, (c i hi).1]
theorem pL_outerAt {i : Nat} (H : pL h p l) (hi : i < l.length) : jm_D (d + 1) mX3_outerAt [.ref p, .int (Int32.ofNat i)] h = some (.inl (some (.int (Int32.ofInt (ry_u l i i)))), h) := by
  obtain ⟨K, N, E, O, a, b, c⟩ := H
  rw [pC_outerAt a hi, (c i hi).2]
/-- append: its loop -/
theorem pU_append_loop {o2 : Option Value} {b : Nat} (hd : p + 5 ≤ q ∨ q + 5 ≤ p) (hb : b ≤ m.length) : ∀ (f i : Nat) (l : List Int) (h : jm_H), i + f = b → l.length + f ≤ 150 → pU h p l → pU h q m →
    jF (kX3_append_3 (d + 1) p q o2 (Int32.ofNat b) (Int32.ofNat i) h) (.inl none) fun h' => jS (jn p 5) h h' ∧ pU h' p (l ++ (m.drop i).take f) := by
  intro f
  induction f with
  | zero =>
    intro i l h hi hl Hp Hq
    have := pU_len Hq
    refine jE_of (fun r => gX3_append_3) ?_
    rw [if_neg (by rw [jw_lt (by omega) (by omega)]; omega)]
    refine jF_end ⟨jS_rf, ?_⟩
    simpa using Hp
  | succ f ih =>
    intro i l h hi hl Hp Hq
    have := pU_len Hq
    refine jE_of (fun r => gX3_append_3) ?_
    rw [if_pos (by rw [jw_lt (by omega) (by omega)]; omega)]
    simp only [jm_O_eq (pU_ob Hp), jm_O_eq (pU_ob Hq), pU_kindAt Hq (show i < m.length by omega), pU_nameAt Hq (show i < m.length by omega), jc_I_eq, jc_L_eq]
    refine jE_V (pU_add Hp (by omega)) ?_
    rintro h1 ⟨F1, H1⟩
    rw [jw_add1]
    refine jF_mono (ih (i + 1) _ h1 (by omega) (by simp; omega) H1 (pU_tr Hq F1 fun x z1 z2 => by unfold jn at z1 z2; omega)) ?_
    rintro h2 ⟨F2, H2⟩
    refine ⟨jS_tr F1 F2, ?_⟩
    rw [ry_drop_cons (show i < m.length by omega), List.take_succ_cons]
    simpa using H2
theorem pU_append {a b : Nat} (hd : p + 5 ≤ q ∨ q + 5 ≤ p) (hb : b ≤ m.length) (hab : a ≤ b) (hl : l.length + (b - a) ≤ 150) (Hp : pU h p l) (Hq : pU h q m) :
    jF (jm_D (d + 2) mX3_append [.ref p, .ref q, .int (Int32.ofNat a), .int (Int32.ofNat b)] h) (.inl none) fun h' => jS (jn p 5) h h' ∧ pU h' p (l ++ (m.drop a).take (b - a)) :=
  jE_of (fun r => gX3_append) (pU_append_loop hd hb (b - a) a l h (by omega) hl Hp Hq)
theorem jw_zm {z : Int} : Int32.ofInt z + (-1) = Int32.ofInt (z - 1) := by
  rw [show z - 1 = z + (-1) by omega, Int32.ofInt_add]
  rfl
theorem jw_zk {k : Nat} : Int32.ofInt (((k + 1 : Nat) : Int) - 1) = Int32.ofNat k := by
  rw [← jw_in]
  congr 1
  omega
/-- link: its second loop -/
theorem pC_link_74 (hP : ry_P l) (hR : pR l K N) (hE : ∀ i, i < l.length → E i = Int32.ofNat (ry_n l i)) : ∀ (f i : Nat) (O : Nat → Int32) (o2 : Option Value) (h : jm_H), i + f = l.length → pC h p l.length K N E O → (∀ j, j < l.length → (j = 0 ∨ ∃ k, k < i ∧ ry_p l k j) → O j = Int32.ofInt (ry_u l j j)) →
    jF (kX3_link_74 (d + 1) p (Int32.ofNat i) o2 h) (.inl none) fun h' => jS (jn p 5) h h' ∧ pL h' p l := by
  intro f
  induction f with
  | zero =>
    intro i O o2 h hi H hO
    have := H.2.2.2.2.2.2
    refine jE_of (fun r => gX3_link_74) ?_
    simp only [pC_n H, Option.bind_some]
    rw [if_neg (by rw [jw_lt (by omega) (by omega)]; omega)]
    refine jF_end ⟨jS_rf, K, N, E, O, H, hR, fun j hj => ⟨hE j hj, hO j hj ?_⟩⟩
    rcases Nat.eq_zero_or_pos j with z | z
    · exact Or.inl z
    · obtain ⟨k, k1, k2⟩ := ry_par hP j j (Nat.le_refl _) z hj
      exact Or.inr ⟨k, by omega, k2⟩
  | succ f ih =>
    intro i O o2 h hi H hO
    have hn := H.2.2.2.2.2.2
    have hil : i < l.length := by omega
    have hOi : O i = Int32.ofInt (ry_u l i i) := by
      refine hO i hil ?_
      rcases Nat.eq_zero_or_pos i with z | z
      · exact Or.inl z
      · obtain ⟨k, k1, k2⟩ := ry_par hP i i (Nat.le_refl _) z hil
        exact Or.inr ⟨k, k1, k2⟩
    refine jE_of (fun r => gX3_link_74) ?_
    simp only [pC_n H, Option.bind_some]
    rw [if_pos (by rw [jw_lt (by omega) (by omega)]; omega)]
    simp only [jm_O_eq (pC_ob H), pC_kindAt H hil, (hR i hil).1, jc_I_eq]
    rcases Int.lt_trichotomy (l.getD i 0) 0 with q | q | q
    · rw [if_pos (ky_1.mpr q), jw_add1]
      have h1l := ry_next hP hil (by omega)
      refine jE_V (pC_setOuter H (by omega)) ?_
      rintro h1 ⟨F1, H1⟩
      refine jF_mono (ih (i + 1) _ _ h1 (by omega) H1 ?_) fun h2 ⟨F2, H2⟩ => ⟨jS_tr F1 F2, H2⟩
      intro j hj hk
      by_cases e : j = i + 1
      · subst e
        refine (if_pos rfl).trans ?_
        rw [ry_u_par hP hil (Or.inl ⟨q, rfl⟩), if_pos q, jw_in]
      · refine (if_neg e).trans (hO j hj ?_)
        rcases hk with z | ⟨k, k1, k2⟩
        · exact Or.inl z
        · by_cases e2 : k = i
          · subst e2
            rcases k2 with ⟨-, k3⟩ | ⟨k3, -⟩
            · exact absurd k3 e
            · omega
          · exact Or.inr ⟨k, by omega, k2⟩
    · rw [if_neg (mt ky_1.mp (by omega)), if_pos (ky_2.mpr q), jw_add1]
      have h1l := ry_next hP hil (by omega)
      have h2l := ry_second hP hil q
      simp only [pC_outerAt H hil, hOi, jc_I_eq, jm_O_eq (pC_ob H)]
      refine jE_V (pC_setOuter (i := i + 1) H (by omega)) ?_
      rintro h1 ⟨F1, H1⟩
      have hOi1 : upd O (i + 1) (Int32.ofInt (ry_u l i i)) i = Int32.ofInt (ry_u l i i) := (if_neg (by omega)).trans hOi
      simp only [jm_O_eq (pC_ob H1), pC_endAt H1 h1l, hE _ h1l, pC_outerAt H1 hil, hOi1, jc_I_eq]
      refine jE_V (pC_setOuter (i := ry_n l (i + 1)) H1 (by omega)) ?_
      rintro h2 ⟨F2, H2⟩
      refine jF_mono (ih (i + 1) _ _ h2 (by omega) H2 ?_) fun h3 ⟨F3, H3⟩ => ⟨jS_tr F1 (jS_tr F2 F3), H3⟩
      intro j hj hk
      have u1 := ry_u_par hP hil (j := i + 1) (Or.inr ⟨q, Or.inl rfl⟩)
      have u2 := ry_u_par hP hil (j := ry_n l (i + 1)) (Or.inr ⟨q, Or.inr rfl⟩)
      rw [if_neg (by omega)] at u1 u2
      by_cases e2 : j = ry_n l (i + 1)
      · subst e2
        refine (if_pos rfl).trans ?_
        rw [u2]
      · refine (if_neg e2).trans ?_
        by_cases e : j = i + 1
        · subst e
          refine (if_pos rfl).trans ?_
          rw [u1]
        · refine (if_neg e).trans (hO j hj ?_)
          rcases hk with z | ⟨k, k1, k2⟩
          · exact Or.inl z
          · by_cases e3 : k = i
            · subst e3
              rcases k2 with ⟨k3, -⟩ | ⟨-, k3 | k3⟩
              · omega
              · exact absurd k3 e
              · exact absurd k3 e2
            · exact Or.inr ⟨k, by omega, k2⟩
    · rw [if_neg (mt ky_1.mp (by omega)), if_neg (mt ky_2.mp (by omega)), jw_add1]
      refine ih (i + 1) _ _ h (by omega) H ?_
      intro j hj hk
      refine hO j hj ?_
      rcases hk with z | ⟨k, k1, k2⟩
      · exact Or.inl z
      · by_cases e3 : k = i
        · subst e3
          rcases k2 with ⟨k3, -⟩ | ⟨k3, -⟩ <;> omega
        · exact Or.inr ⟨k, by omega, k2⟩
/-- link: its first loop -/
theorem pC_link_7 (hP : ry_P l) (hR : pR l K N) : ∀ (k : Nat) (E : Nat → Int32) (o2 : Option Value) (h : jm_H), k ≤ l.length → pC h p l.length K N E O → (∀ i, k ≤ i → i < l.length → E i = Int32.ofNat (ry_n l i)) →
    jF (kX3_link_7 (d + 1) p (Int32.ofInt ((k : Int) - 1)) o2 h) (.inl none) fun h' => jS (jn p 5) h h' ∧ pL h' p l := by
  intro k
  induction k with
  | zero =>
    intro E o2 h hk H hE
    have hn := H.2.2.2.2.2.2
    have h0 := ry_pos hP
    refine jE_of (fun r => gX3_link_7) ?_
    rw [if_pos (by rw [jw_zneg (by omega) (by omega)]; omega), jm_O_eq (pC_ob H)]
    refine jE_V (pC_setOuter (i := 0) H (by omega)) ?_
    rintro h1 ⟨F1, H1⟩
    refine jF_mono (pC_link_74 hP hR (fun i hi => hE i (by omega) hi) l.length 0 _ _ h1 (by omega) H1 ?_) fun h2 ⟨F2, H2⟩ => ⟨jS_tr F1 F2, H2⟩
    intro j hj hk
    rcases hk with z | ⟨k, k1, -⟩
    · subst z; exact if_pos rfl
    · omega
  | succ k ih =>
    intro E o2 h hk H hE
    have hn := H.2.2.2.2.2.2
    have hil : k < l.length := by omega
    have fin : ∀ e : Nat, e = ry_n l k → ∀ h1 : jm_H, pC h1 p l.length K N E O → jS (jn p 5) h h1 → jF (kX3_link_44 (d + 1) p (Int32.ofNat k) (Int32.ofNat e) h1) (.inl none) fun h' => jS (jn p 5) h h' ∧ pL h' p l := by
      intro e he h1 H1 F0
      refine jE_of (fun r => gX3_link_44) ?_
      obtain ⟨h2, e2, F2, H2⟩ := pC_w3 (x := Int32.ofNat e) H1 (show k < 150 by omega)
      simp only [pC_3 H1, pC_l3 H1, Option.bind_some]
      rw [if_pos (by rw [jw_lt (by omega) (by omega)]; omega), e2, Option.bind_some, ← jw_in, jw_zm]
      refine jF_mono (ih _ _ h2 (by omega) H2 ?_) fun h3 ⟨F3, H3⟩ => ⟨jS_tr F0 (jS_tr F2 F3), H3⟩
      intro i h3 h4
      by_cases q : i = k
      · subst q; rw [← he]; exact if_pos rfl
      · exact (if_neg q).trans (hE i (by omega) h4)
    have end1 : ∀ j, k < j → j < l.length → jm_D (d + 1) mX3_endAt [.ref p, .int (Int32.ofNat j)] h = some (.inl (some (.int (Int32.ofNat (ry_n l j)))), h) := fun j h1 h2 => by rw [pC_endAt H h2, hE j (by omega) h2]
    refine jE_of (fun r => gX3_link_7) ?_
    rw [jw_zk, if_neg (by rw [jw_neg (by omega)]; exact id)]
    simp only [jm_O_eq (pC_ob H), pC_kindAt H hil, (hR k hil).1, jc_I_eq]
    rcases Int.lt_trichotomy (l.getD k 0) 0 with q | q | q
    · have h1l := ry_next hP hil (by omega)
      rw [if_neg (mt ky_0.mp (by omega)), jw_add1]
      simp only [end1 _ (show k < k + 1 by omega) h1l, jc_I_eq, jm_O_eq (pC_ob H), pC_kindAt H hil, (hR k hil).1]
      rw [if_neg (mt ky_2.mp (by omega))]
      exact fin _ (ry_n_mask hil q).symm h H jS_rf
    · have h1l := ry_next hP hil (by omega)
      have h2l := ry_second hP hil q
      rw [if_neg (mt ky_0.mp (by omega)), jw_add1]
      simp only [end1 _ (show k < k + 1 by omega) h1l, jc_I_eq, jm_O_eq (pC_ob H), pC_kindAt H hil, (hR k hil).1]
      rw [if_pos (ky_2.mpr q)]
      simp only [end1 _ (show k < ry_n l (k + 1) by have := ry_n_lt h1l; omega) h2l, jc_I_eq]
      exact fin _ (ry_n_scene hil q).symm h H jS_rf
    · rw [if_pos (ky_0.mpr q), if_neg (mt ky_2.mp (by omega)), jw_add1]
      exact fin _ (ry_n_name hil q).symm h H jS_rf
theorem pU_link (H : pU h p l) (hP : ry_P l) : jF (jm_D (d + 2) mX3_link [.ref p] h) (.inl none) fun h' => jS (jn p 5) h h' ∧ pL h' p l := by
  obtain ⟨K, N, E, O, a, b⟩ := H
  have h0 := ry_pos hP
  refine jE_of (fun r => gX3_link) ?_
  obtain ⟨n, hn⟩ : ∃ n, l.length = n + 1 := ⟨l.length - 1, by omega⟩
  simp only [pC_n a, Option.bind_some]
  rw [hn, jw_sub1, ← jw_zk, ← hn]
  exact pC_link_7 hP b l.length E _ h (Nat.le_refl _) a fun i h1 h2 => by omega
end PM
/-! ===== LEVEL 3: Part, its readers ===== -/
theorem n6_eq (n : Nat) : n6 n = 64 * n6 (n / 37) + n % 37 := by
  by_cases h : n = 0
  · subst h
    have : n6 0 = 0 := by unfold n6; rfl
    simp [this]
  · conv => lhs; unfold n6
    rw [dif_neg h]
theorem n6_inj (k : Nat) : ∀ a b : Nat, a + b ≤ k → n6 a = n6 b → a = b := by
  induction k with
  | zero => intro a b h _; omega
  | succ k ih =>
    intro a b h e
    by_cases h0 : a + b = 0
    · omega
    · rw [n6_eq a, n6_eq b] at e
      have := ih (a / 37) (b / 37) (by omega) (by omega)
      omega
theorem n6_lt : ∀ (k n : Nat), n < 37 ^ k → n6 n < 64 ^ k
  | 0, n, h => by
    have : n = 0 := by simpa using h
    subst this
    unfold n6
    simp
  | k + 1, n, h => by
    rw [n6_eq]
    have := n6_lt k (n / 37) (by rw [Nat.pow_succ] at h; exact Nat.div_lt_of_lt_mul (by omega))
    rw [Nat.pow_succ]
    omega
/-- 37 ^ 10 -/
def q10 : Nat := 4808584372417849
def gN (l : List Int) : Prop := ∀ i, (l.getD i 0).natAbs < q10
theorem nm_eq {x y : Int} (hx : x.natAbs < q10) (hy : y.natAbs < q10) : nm x = nm y ↔ x.natAbs = y.natAbs := by
  have e : q10 = 37 ^ 10 := by decide
  have h1 := n6_lt 10 _ (e ▸ hx)
  have h2 := n6_lt 10 _ (e ▸ hy)
  have e2 : (64 : Nat) ^ 10 = 2 ^ 60 := by decide
  rw [e2] at h1 h2
  constructor
  · intro h
    have := congrArg Int64.toInt h
    unfold nm at this
    rw [Int64.toInt_ofNat_of_lt (by omega), Int64.toInt_ofNat_of_lt (by omega)] at this
    exact n6_inj _ _ _ (Nat.le_refl _) (by omega)
  · intro h
    unfold nm
    rw [h]
theorem lg_0 {x y : Int64} : (lg_cmp x y = 0) ↔ x = y := by
  unfold lg_cmp
  constructor
  · intro h
    split at h
    · exact absurd h (by decide)
    · split at h
      · assumption
      · exact absurd h (by decide)
  · intro h
    subst h
    rw [if_neg (fun z => absurd z (Int64.lt_irrefl)), if_pos rfl]
theorem lg_nm {x y : Int} (hx : x.natAbs < q10) (hy : y.natAbs < q10) : (lg_cmp (nm x) (nm y) = 0) ↔ x.natAbs = y.natAbs := lg_0.trans (nm_eq hx hy)
/-- how many of the first ones -/
def jcnt (p : Nat → Bool) : Nat → Nat
  | 0 => 0
  | j + 1 => jcnt p j + if p j = true then 1 else 0
theorem jcnt_s {p : Nat → Bool} {j : Nat} : jcnt p (j + 1) = jcnt p j + if p j = true then 1 else 0 := rfl
theorem jcnt_T {p : Nat → Bool} {j : Nat} (h : p j = true) : jcnt p (j + 1) = jcnt p j + 1 := by rw [jcnt_s, if_pos h]
theorem jcnt_F {p : Nat → Bool} {j : Nat} (h : ¬ p j = true) : jcnt p (j + 1) = jcnt p j := by rw [jcnt_s, if_neg h]; rfl
theorem jcnt_le {p : Nat → Bool} : ∀ n, jcnt p n ≤ n
  | 0 => Nat.le_refl _
  | j + 1 => by
    have := jcnt_le (p := p) j
    unfold jcnt
    split <;> omega
/-- the masks around the name with the most of them -/
def ry_mm (l : List Int) : Nat → Nat
  | 0 => 0
  | j + 1 => if 0 < l.getD j 0 then max (ry_mm l j) (ry_c l j j) else ry_mm l j
theorem ry_mm_le {l : List Int} : ∀ n, ry_mm l n ≤ n
  | 0 => Nat.le_refl _
  | j + 1 => by
    have := ry_mm_le (l := l) j
    have h2 := ry_c_le (l := l) (i := j) j
    unfold ry_mm
    split <;> omega
def ry_ro (l : List Int) : Int := match ry_r l with
  | some s => s
  | none => -1
section PM
variable {h : jm_H} {p q n d : Nat} {K : Nat → Int32} {N : Nat → Int64} {E O : Nat → Int32} {l m : List Int}
theorem pU_readyScene_loop (H : pU h p l) : ∀ (f i : Nat), i + f = l.length → jm_D (d + 2) mX3_readyScene [.ref p] h = jm_D (d + 2) mX3_readyScene [.ref p] h → kX3_readyScene_2 (d + 1) p (Int32.ofNat i) h = some (.inl (some (.int (match ry_ri l f i with | some s => Int32.ofNat s | none => -1))), h) := by
  have hn := pU_len H
  intro f
  induction f with
  | zero =>
    intro i hi _
    apply gX3_readyScene_2
    simp only [pU_n H, Option.bind_some, jw_add1]
    rw [if_neg (by rw [jw_lt (by omega) (by omega)]; omega)]
    rfl
  | succ f ih =>
    intro i hi z
    apply gX3_readyScene_2
    simp only [pU_n H, Option.bind_some, jw_add1]
    by_cases h1 : i + 1 < l.length
    · rw [if_pos (by rw [jw_lt (by omega) (by omega)]; omega)]
      simp only [jm_O_eq (pU_ob H), pU_kindAt H (show i < l.length by omega), pU_kindAt H h1, jc_I_eq, ky_2, ky_1]
      unfold ry_ri
      by_cases q1 : l.getD i 0 = 0
      · by_cases q2 : l.getD (i + 1) 0 < 0
        · rw [if_pos q1, if_pos q2, if_pos ⟨q1, q2⟩]
        · rw [if_pos q1, if_neg q2, if_neg (fun z => q2 z.2)]
          exact ih (i + 1) (by omega) z
      · rw [if_neg q1, if_neg (fun z => q1 z.1)]
        exact ih (i + 1) (by omega) z
    · rw [if_neg (by rw [jw_lt (by omega) (by omega)]; omega)]
      have : f = 0 := by omega
      subst this
      unfold ry_ri
      rw [if_neg (fun z => by have := z.2; rw [ry_gd (by omega)] at this; omega)]
      rfl
theorem pU_readyScene (H : pU h p l) : jm_D (d + 2) mX3_readyScene [.ref p] h = some (.inl (some (.int (Int32.ofInt (ry_ro l)))), h) := by
  apply gX3_readyScene
  have := pU_readyScene_loop (d := d) H l.length 0 (by omega) rfl
  rw [show (0 : Int32) = Int32.ofNat 0 from rfl, this]
  unfold ry_ro ry_r
  cases ry_ri l l.length 0 with
  | none => rfl
  | some s =>
    show some (Sum.inl (some (Value.int (Int32.ofNat s))), h) = some (Sum.inl (some (Value.int (Int32.ofInt ((s : Nat) : Int)))), h)
    rw [jw_in]
theorem pU_countOf_loop {k : Int32} (H : pU h p l) : ∀ (f i : Nat), i + f = l.length → kX3_countOf_4 (d + 1) p k (Int32.ofNat (jcnt (fun j => decide (ky (l.getD j 0) = k)) i)) (Int32.ofNat i) h = some (.inl (some (.int (Int32.ofNat (jcnt (fun j => decide (ky (l.getD j 0) = k)) l.length)))), h) := by
  have hn := pU_len H
  intro f
  induction f with
  | zero =>
    intro i hi
    apply gX3_countOf_4
    simp only [pU_n H, Option.bind_some]
    rw [if_neg (by rw [jw_lt (by omega) (by omega)]; omega)]
    have : i = l.length := by omega
    subst this
    rfl
  | succ f ih =>
    intro i hi
    apply gX3_countOf_4
    simp only [pU_n H, Option.bind_some]
    rw [if_pos (by rw [jw_lt (by omega) (by omega)]; omega)]
    simp only [jm_O_eq (pU_ob H), pU_kindAt H (show i < l.length by omega), jc_I_eq, jw_add1]
    have := ih (i + 1) (by omega)
    by_cases q1 : ky (l.getD i 0) = k
    · rw [jcnt_T (decide_eq_true q1)] at this
      rw [if_pos q1, ← this]
    · rw [jcnt_F (fun z => q1 (of_decide_eq_true z))] at this
      rw [if_neg q1, ← this]
theorem pU_countOf {k : Int32} (H : pU h p l) : jm_D (d + 2) mX3_countOf [.ref p, .int k] h = some (.inl (some (.int (Int32.ofNat (jcnt (fun j => decide (ky (l.getD j 0) = k)) l.length)))), h) :=
  gX3_countOf (pU_countOf_loop (d := d) H l.length 0 (by omega))
/-- maskOf -/
theorem pL_maskOf_loop {i : Nat} (H : pL h p l) (hP : ry_P l) (hg : gN l) (hi : i < l.length) (hx : 0 < l.getD i 0) : ∀ (f b c : Nat) (o1 : Option Value), b ≤ i → b ≤ f → c + f = 150 → kX3_maskOf_41 d p o1 (nm (l.getD i 0)) (Int32.ofInt (ry_u l i b)) (Int32.ofNat c) h = some (.inl (some (.int (Int32.ofInt (ry_w l i b)))), h) := by
  obtain ⟨K, N, E, O, H, hR, hX⟩ := H
  have hn := H.2.2.2.2.2.2
  intro f
  induction f with
  | zero =>
    intro b c o1 hb hf hc
    have : b = 0 := by omega
    subst this
    have : c = 150 := by omega
    subst this
    apply gX3_maskOf_41
    rw [if_neg (by rw [show (150 : Int32) = Int32.ofNat 150 from rfl, jw_lt (by omega) (by omega)]; omega)]
    rfl
  | succ f ih =>
    intro b c o1 hb hf hc
    apply gX3_maskOf_41
    rw [if_pos (by rw [show (150 : Int32) = Int32.ofNat 150 from rfl, jw_lt (by omega) (by omega)]; omega)]
    have hu := ry_u_lt (l := l) (i := i) b
    rw [ry_w_step hx]
    by_cases q : ry_u l i b < 0
    · rw [if_pos (by rw [jw_zneg (by omega) (by omega)]; exact q), if_pos q]
      rfl
    · rw [if_neg (by rw [jw_zneg (by omega) (by omega)]; exact q), if_neg q]
      obtain ⟨k, hk⟩ : ∃ k : Nat, ry_u l i b = k := ⟨(ry_u l i b).toNat, by omega⟩
      obtain ⟨a1, a2, a3, a4⟩ := ry_u_at hk
      rw [hk, jw_in, Int.toNat_natCast]
      simp only [pC_2 H, pC_4 H, pC_l2 H, Option.bind_some, pC_a2 H (show k < 150 by omega), pC_a4 H (show k < 150 by omega), (hR k (by omega)).2, (hX k (by omega)).2, jw_add1]
      rw [if_pos (by rw [jw_lt (by omega) (by omega)]; omega)]
      have e : (lg_cmp (nm (l.getD k 0)) (nm (l.getD i 0)) = 0) ↔ l.getD k 0 = - l.getD i 0 := by
        rw [lg_nm (hg k) (hg i)]; omega
      by_cases q2 : l.getD k 0 = - l.getD i 0
      · rw [if_pos (e.mpr q2), if_pos q2]
        rw [jw_in]
      · rw [if_neg (mt e.mp q2), if_neg q2, ry_u_next hP hi hb hk]
        exact ih k (c + 1) o1 (by omega) (by omega) (by omega)
theorem pL_maskOf {i : Nat} (H : pL h p l) (hP : ry_P l) (hg : gN l) (hi : i < l.length) (hx : 0 < l.getD i 0) : jm_D (d + 1) mX3_maskOf [.ref p, .int (Int32.ofNat i)] h = some (.inl (some (.int (Int32.ofInt (ry_w l i i)))), h) := by
  have hl := pL_maskOf_loop (d := d) H hP hg hi hx 150 i 0 (some (.int (Int32.ofNat i))) (Nat.le_refl _) (by have := pL_len H; omega) (by omega)
  obtain ⟨K, N, E, O, H, hR, hX⟩ := H
  have hn := H.2.2.2.2.2.2
  apply gX3_maskOf
  rw [if_neg (by rw [jw_neg (by omega)]; exact id)]
  simp only [pC_n H, pC_2 H, pC_4 H, pC_l2 H, Option.bind_some, pC_a2 H (show i < 150 by omega), pC_a4 H (show i < 150 by omega), (hR i hi).2, (hX i hi).2]
  rw [if_pos (by rw [jw_lt (by omega) (by omega)]; omega), if_pos (by rw [jw_lt (by omega) (by omega)]; omega)]
  exact hl
/-- countOfOpen -/
theorem pL_countOfOpen_loop {x : Int} (H : pL h p l) (hP : ry_P l) (hg : gN l) (hx : x.natAbs < q10) (hx0 : 0 < x) : ∀ (f i : Nat), i + f = l.length → kX3_countOfOpen_5 (d + 1) p (nm x) (Int32.ofNat (jcnt (fun j => decide (l.getD j 0 = x ∧ ry_w l j j < 0)) i)) (Int32.ofNat i) h = some (.inl (some (.int (Int32.ofNat (jcnt (fun j => decide (l.getD j 0 = x ∧ ry_w l j j < 0)) l.length)))), h) := by
  have hn := pL_len H
  intro f
  induction f with
  | zero =>
    intro i hi
    apply gX3_countOfOpen_5
    simp only [pU_n (pL_U H), Option.bind_some]
    rw [if_neg (by rw [jw_lt (by omega) (by omega)]; omega)]
    have : i = l.length := by omega
    subst this
    rfl
  | succ f ih =>
    intro i hi
    have hil : i < l.length := by omega
    apply gX3_countOfOpen_5
    simp only [pU_n (pL_U H), Option.bind_some]
    rw [if_pos (by rw [jw_lt (by omega) (by omega)]; omega)]
    simp only [jm_O_eq (pU_ob (pL_U H)), pU_kindAt (pL_U H) hil, pU_nameAt (pL_U H) hil, jc_I_eq, jc_L_eq, jw_add1, ky_0, lg_nm (hg i) hx]
    have := ih (i + 1) (by omega)
    by_cases q1 : 0 < l.getD i 0
    · rw [if_pos q1]
      by_cases q2 : (l.getD i 0).natAbs = x.natAbs
      · rw [if_pos q2, pL_maskOf H hP hg hil q1]
        have e : l.getD i 0 = x := by omega
        have hw := ry_w_lt (l := l) (i := i) i
        simp only [jc_I_eq, jw_zneg (show -2147483648 ≤ ry_w l i i by omega) (show ry_w l i i < 2147483648 by omega)]
        by_cases q3 : ry_w l i i < 0
        · rw [jcnt_T (decide_eq_true ⟨e, q3⟩)] at this
          rw [if_pos q3, this]
        · rw [jcnt_F (fun z => q3 (of_decide_eq_true z).2)] at this
          rw [if_neg q3, this]
      · rw [jcnt_F (fun z => q2 (by rw [(of_decide_eq_true z).1]))] at this
        rw [if_neg q2, this]
    · rw [jcnt_F (fun z => q1 (by rw [(of_decide_eq_true z).1]; exact hx0))] at this
      rw [if_neg q1, this]
theorem pL_countOfOpen {x : Int} (H : pL h p l) (hP : ry_P l) (hg : gN l) (hx : x.natAbs < q10) (hx0 : 0 < x) : jm_D (d + 2) mX3_countOfOpen [.ref p, .long (nm x)] h = some (.inl (some (.int (Int32.ofNat (jcnt (fun j => decide (l.getD j 0 = x ∧ ry_w l j j < 0)) l.length)))), h) :=
  gX3_countOfOpen (pL_countOfOpen_loop (d := d) H hP hg hx hx0 l.length 0 (by omega))
end PM
/-! ===== LEVEL 3: Part, further methods ===== -/
theorem jp_if {P : Prop} [Decidable P] {a b : Int32} {h : jm_H} : (if P then (some (.inl (some (.int a)), h) : Option jm_R) else some (.inl (some (.int b)), h)) = some (.inl (some (.int (if P then a else b))), h) := by
  split <;> rfl
section PM
variable {h : jm_H} {p q n d : Nat} {K : Nat → Int32} {N : Nat → Int64} {E O : Nat → Int32} {l m : List Int}
theorem pL_masksAround_loop {i : Nat} (H : pL h p l) (hP : ry_P l) (hi : i < l.length) : ∀ (f b c : Nat) (o1 : Option Value), b ≤ i → b ≤ f → c + f = 150 → kX3_masksAround_8 (d + 1) p o1 (Int32.ofInt (ry_u l i b)) (Int32.ofNat c) h = some (.inl (some (.int (Int32.ofNat (c + ry_c l i b)))), h) := by
  have hn := pL_len H
  intro f
  induction f with
  | zero =>
    intro b c o1 hb hf hc
    have : b = 0 := by omega
    subst this
    have : c = 150 := by omega
    subst this
    apply gX3_masksAround_8
    rw [if_neg (by rw [jw_lt150 (by omega)]; omega)]
    rfl
  | succ f ih =>
    intro b c o1 hb hf hc
    apply gX3_masksAround_8
    rw [if_pos (by rw [jw_lt150 (by omega)]; omega)]
    have hu := ry_u_lt (l := l) (i := i) b
    rw [ry_c_step b]
    by_cases q : ry_u l i b < 0
    · rw [if_pos (by rw [jw_zneg (by omega) (by omega)]; exact q), if_pos q, Nat.add_zero]
    · rw [if_neg (by rw [jw_zneg (by omega) (by omega)]; exact q), if_neg q]
      obtain ⟨k, hk⟩ : ∃ k : Nat, ry_u l i b = k := ⟨(ry_u l i b).toNat, by omega⟩
      obtain ⟨a1, a2, a3, a4⟩ := ry_u_at hk
      rw [hk, jw_in, Int.toNat_natCast]
      simp only [jm_O_eq (pU_ob (pL_U H)), pL_outerAt H (show k < l.length by omega), jc_I_eq, jw_add1]
      rw [ry_u_next hP hi hb hk, ih k (c + 1) _ (by omega) (by omega) (by omega)]
      congr 6
      omega
theorem pL_masksAround {i : Nat} (H : pL h p l) (hP : ry_P l) (hi : i < l.length) : jm_D (d + 2) mX3_masksAround [.ref p, .int (Int32.ofNat i)] h = some (.inl (some (.int (Int32.ofNat (ry_c l i i)))), h) := by
  have hn := pL_len H
  apply gX3_masksAround
  simp only [jm_O_eq (pU_ob (pL_U H)), pL_outerAt H hi, jc_I_eq]
  have := pL_masksAround_loop (d := d) H hP hi 150 i 0 (some (.int (Int32.ofNat i))) (Nat.le_refl _) (by omega) (by omega)
  rw [Nat.zero_add] at this
  exact this
theorem jw_max {a b : Nat} (ha : a < 2147483648) (hb : b < 2147483648) : (if Int32.ofNat a < Int32.ofNat b then Int32.ofNat b else Int32.ofNat a) = Int32.ofNat (max a b) := by
  by_cases q : a < b
  · rw [if_pos ((jw_lt ha hb).mpr q), Nat.max_eq_right (by omega)]
  · rw [if_neg (mt (jw_lt ha hb).mp q), Nat.max_eq_left (by omega)]
theorem pL_mostMasks_loop (H : pL h p l) (hP : ry_P l) : ∀ (f i : Nat), i + f = l.length → kX3_mostMasks_4 (d + 2) p (Int32.ofNat (ry_mm l i)) (Int32.ofNat i) h = some (.inl (some (.int (Int32.ofNat (ry_mm l l.length)))), h) := by
  have hn := pL_len H
  intro f
  induction f with
  | zero =>
    intro i hi
    apply gX3_mostMasks_4
    simp only [pU_n (pL_U H), Option.bind_some]
    rw [if_neg (by rw [jw_lt (by omega) (by omega)]; omega)]
    have : i = l.length := by omega
    subst this
    rfl
  | succ f ih =>
    intro i hi
    apply gX3_mostMasks_4
    simp only [pU_n (pL_U H), Option.bind_some]
    rw [if_pos (by rw [jw_lt (by omega) (by omega)]; omega)]
    simp only [jm_O_eq (pU_ob (pL_U H)), pU_kindAt (pL_U H) (show i < l.length by omega), jc_I_eq, jw_add1, ky_0, pL_masksAround H hP (show i < l.length by omega)]
    have h2 := ry_mm_le (l := l) i
    have h3 := ry_c_le (l := l) (i := i) i
    have h4 : ry_mm l (i + 1) = if 0 < l.getD i 0 then max (ry_mm l i) (ry_c l i i) else ry_mm l i := rfl
    have := ih (i + 1) (by omega)
    rw [h4] at this
    by_cases q1 : 0 < l.getD i 0
    · rw [if_pos q1] at this
      rw [if_pos q1, jw_max (by omega) (by omega), this]
    · rw [if_neg q1] at this
      rw [if_neg q1, this]
theorem pL_mostMasks (H : pL h p l) (hP : ry_P l) : jm_D (d + 3) mX3_mostMasks [.ref p] h = some (.inl (some (.int (Int32.ofNat (ry_mm l l.length)))), h) :=
  gX3_mostMasks (pL_mostMasks_loop (d := d) H hP l.length 0 (by omega))
/-- holdsName -/
theorem pU_holdsName_loop {x : Nat} {t : Nat} (H : pU h p l) (hg : gN l) (hx : x < q10) (ht : t ≤ l.length) : ∀ (f i : Nat) (o3 : Option Value), i + f = t → kX3_holdsName_11 d p (nm x) o3 (Int32.ofNat t) (Int32.ofNat i) h = some (.inl (some (.int (jp (∃ j, i ≤ j ∧ j < t ∧ (l.getD j 0 = x ∨ l.getD j 0 = -(x : Int)))))), h) := by
  obtain ⟨K, N, E, O, H, hR⟩ := H
  have hn := H.2.2.2.2.2.2
  intro f
  induction f with
  | zero =>
    intro i o3 hi
    apply gX3_holdsName_11
    rw [if_neg (by rw [jw_lt (by omega) (by omega)]; omega), jp_F (by rintro ⟨j, h1, h2, -⟩; omega)]
  | succ f ih =>
    intro i o3 hi
    apply gX3_holdsName_11
    rw [if_pos (by rw [jw_lt (by omega) (by omega)]; omega)]
    simp only [pC_n H, pC_2 H, pC_l2 H, Option.bind_some, pC_a2 H (show i < 150 by omega), (hR i (by omega)).2, jw_add1]
    rw [if_pos (by rw [jw_lt (by omega) (by omega)]; omega), if_pos (by rw [jw_lt (by omega) (by omega)]; omega)]
    have e : (lg_cmp (nm (l.getD i 0)) (nm x) = 0) ↔ (l.getD i 0 = x ∨ l.getD i 0 = -(x : Int)) := by
      rw [lg_nm (hg i) (by simpa using hx)]; omega
    by_cases q : l.getD i 0 = x ∨ l.getD i 0 = -(x : Int)
    · rw [if_pos (e.mpr q), jp_T ⟨i, by omega, by omega, q⟩]
    · rw [if_neg (mt e.mp q), ih (i + 1) o3 (by omega)]
      congr 5
      refine jp_cg ⟨?_, ?_⟩
      · rintro ⟨j, h1, h2, h3⟩
        exact ⟨j, by omega, h2, h3⟩
      · rintro ⟨j, h1, h2, h3⟩
        by_cases e2 : j = i
        · subst e2; exact absurd h3 q
        · exact ⟨j, by omega, h2, h3⟩
theorem pU_holdsName {x : Nat} {a t : Nat} (H : pU h p l) (hg : gN l) (hx : x < q10) (ht : t ≤ l.length) (ha : a ≤ t) : jm_D (d + 1) mX3_holdsName [.ref p, .long (nm x), .int (Int32.ofNat a), .int (Int32.ofNat t)] h = some (.inl (some (.int (jp (ry_nm l x a t = true)))), h) := by
  have hn := pU_len H
  apply gX3_holdsName
  rw [if_neg (by rw [jw_neg (by omega)]; exact id), pU_holdsName_loop H hg hx ht (t - a) a _ (by omega), jp_cg ry_nm_iff]
/-- the same text -/
theorem ky_eq {x y : Int} : ky x = ky y ↔ x.sign = y.sign := by
  rcases Int.lt_trichotomy x 0 with h1 | h1 | h1
  · rw [ky_1.mpr h1, Int.sign_eq_neg_one_of_neg h1]
    constructor
    · intro h; rw [Int.sign_eq_neg_one_of_neg (ky_1.mp h.symm)]
    · intro h; exact (ky_1.mpr (Int.sign_eq_neg_one_iff_neg.mp h.symm)).symm
  · subst h1
    constructor
    · intro h; rw [ky_2.mp (h.symm.trans (ky_2.mpr rfl))]
    · intro h; rw [Int.sign_eq_zero_iff_zero.mp h.symm]
  · rw [ky_0.mpr h1, Int.sign_eq_one_of_pos h1]
    constructor
    · intro h; rw [Int.sign_eq_one_of_pos (ky_0.mp h.symm)]
    · intro h; exact (ky_0.mpr (Int.sign_eq_one_iff_pos.mp h.symm)).symm
theorem ky_nm {x y : Int} (hx : x.natAbs < q10) (hy : y.natAbs < q10) : (ky x = ky y ∧ nm x = nm y) ↔ x = y := by
  rw [nm_eq hx hy, ky_eq]
  constructor
  · rintro ⟨h1, h2⟩
    rw [← Int.sign_mul_natAbs x, ← Int.sign_mul_natAbs y, h1, h2]
  · rintro rfl
    exact ⟨rfl, rfl⟩
theorem pU_hasTextOf_loop (Hp : pU h p l) (Hq : pU h q m) (hgl : gN l) (hgm : gN m) (hlm : l.length = m.length) : ∀ (f i : Nat), i + f = l.length → kX3_hasTextOf_15 (d + 1) p q (Int32.ofNat i) h = some (.inl (some (.int (jp (∀ j, i ≤ j → j < l.length → l.getD j 0 = m.getD j 0)))), h) := by
  have hn := pU_len Hp
  intro f
  induction f with
  | zero =>
    intro i hi
    apply gX3_hasTextOf_15
    simp only [pU_n Hp, Option.bind_some]
    rw [if_neg (by rw [jw_lt (by omega) (by omega)]; omega), jp_T (fun j h1 h2 => by omega)]
  | succ f ih =>
    intro i hi
    apply gX3_hasTextOf_15
    simp only [pU_n Hp, Option.bind_some]
    rw [if_pos (by rw [jw_lt (by omega) (by omega)]; omega)]
    simp only [jm_O_eq (pU_ob Hp), jm_O_eq (pU_ob Hq), pU_kindAt Hp (show i < l.length by omega), pU_kindAt Hq (show i < m.length by omega), pU_nameAt Hp (show i < l.length by omega), pU_nameAt Hq (show i < m.length by omega), jc_I_eq, jc_L_eq, jw_add1, lg_0]
    have e := ky_nm (hgl i) (hgm i)
    have step : l.getD i 0 = m.getD i 0 → ((∀ j, i + 1 ≤ j → j < l.length → l.getD j 0 = m.getD j 0) ↔ ∀ j, i ≤ j → j < l.length → l.getD j 0 = m.getD j 0) := by
      intro q
      constructor
      · intro z j h1 h2
        by_cases e2 : j = i
        · subst e2; exact q
        · exact z j (by omega) h2
      · intro z j h1 h2; exact z j (by omega) h2
    by_cases q1 : ky (l.getD i 0) = ky (m.getD i 0)
    · by_cases q2 : nm (l.getD i 0) = nm (m.getD i 0)
      · rw [if_pos q1, if_pos q2, ih (i + 1) (by omega), jp_cg (step (e.mp ⟨q1, q2⟩))]
      · rw [if_pos q1, if_neg q2, jp_F (fun z => q2 (e.mpr (z i (Nat.le_refl _) (by omega))).2)]
    · rw [if_neg q1, jp_F (fun z => q1 (e.mpr (z i (Nat.le_refl _) (by omega))).1)]
theorem ry_ext {a b : List Int} (hl : a.length = b.length) (h : ∀ j, j < a.length → a.getD j 0 = b.getD j 0) : a = b := by
  refine List.ext_getElem hl fun i h1 h2 => ?_
  have := h i h1
  rw [List.getD_eq_getElem?_getD, List.getD_eq_getElem?_getD, List.getElem?_eq_getElem h1, List.getElem?_eq_getElem h2] at this
  exact this
theorem pU_hasTextOf (Hp : pU h p l) (Hq : pU h q m) (hgl : gN l) (hgm : gN m) : jm_D (d + 2) mX3_hasTextOf [.ref p, .ref q] h = some (.inl (some (.int (jp (l = m)))), h) := by
  have hn := pU_len Hp
  have hn2 := pU_len Hq
  apply gX3_hasTextOf
  simp only [pU_n Hp, pU_n Hq, Option.bind_some, jw_eq (show l.length < 2147483648 by omega) (show m.length < 2147483648 by omega)]
  by_cases q : l.length = m.length
  · rw [if_pos q]
    have := pU_hasTextOf_loop (d := d) Hp Hq hgl hgm q l.length 0 (by omega)
    rw [show (0 : Int32) = Int32.ofNat 0 from rfl, this]
    congr 5
    refine jp_cg ⟨fun z => ry_ext q fun j hj => z j (Nat.zero_le _) hj, ?_⟩
    rintro rfl j _ _
    rfl
  · rw [if_neg q, jp_F (fun z => q (by rw [z]))]
/-- the same but for the names of masks -/
theorem pL_belongsLike_loop {i : Nat} (Hp : pL h p l) (Hq : pU h q m) (hP : ry_P l) (hgl : gN l) (hgm : gN m) (hlm : l.length = m.length) (hi : i < l.length) (hx : 0 < l.getD i 0) (hs : ∀ j, j ≤ i → (l.getD j 0).sign = (m.getD j 0).sign) : ∀ (f b c : Nat) (o5 o6 : Option Value), b ≤ i → b ≤ f → c + f = 150 → kX3_belongsLike_9 (d + 1) p (Int32.ofNat i) q (Int32.ofInt (ry_u l i b)) (Int32.ofNat c) o5 o6 h = some (.inl (some (.int (jp (ry_b l m i b)))), h) := by
  have hn := pL_len Hp
  have hmi : 0 < m.getD i 0 := Int.sign_eq_one_iff_pos.mp ((hs i (Nat.le_refl _)).symm.trans (Int.sign_eq_one_of_pos hx))
  have e0 : (nm (l.getD i 0) = nm (m.getD i 0)) ↔ l.getD i 0 = m.getD i 0 := by
    rw [nm_eq (hgl i) (hgm i)]; omega
  intro f
  induction f with
  | zero =>
    intro b c o5 o6 hb hf hc
    have : b = 0 := by omega
    subst this
    have : c = 150 := by omega
    subst this
    apply gX3_belongsLike_9
    rw [if_neg (by rw [jw_lt150 (by omega)]; omega)]
    simp only [jm_O_eq (pU_ob (pL_U Hp)), jm_O_eq (pU_ob Hq), pU_nameAt (pL_U Hp) hi, pU_nameAt Hq (show i < m.length by omega), jc_L_eq, lg_0, jp_if]
    rw [show ry_b l m i 0 = (l.getD i 0 = m.getD i 0) from rfl]
    by_cases q : l.getD i 0 = m.getD i 0
    · rw [if_pos (e0.mpr q), jp_T q]
    · rw [if_neg (mt e0.mp q), jp_F q]
  | succ f ih =>
    intro b c o5 o6 hb hf hc
    apply gX3_belongsLike_9
    rw [if_pos (by rw [jw_lt150 (by omega)]; omega)]
    have hu := ry_u_lt (l := l) (i := i) b
    rw [ry_b_step]
    by_cases q : ry_u l i b < 0
    · rw [if_pos (by rw [jw_zneg (by omega) (by omega)]; exact q), if_pos q]
      simp only [jm_O_eq (pU_ob (pL_U Hp)), jm_O_eq (pU_ob Hq), pU_nameAt (pL_U Hp) hi, pU_nameAt Hq (show i < m.length by omega), jc_L_eq, lg_0, jp_if]
      by_cases q : l.getD i 0 = m.getD i 0
      · rw [if_pos (e0.mpr q), jp_T q]
      · rw [if_neg (mt e0.mp q), jp_F q]
    · rw [if_neg (by rw [jw_zneg (by omega) (by omega)]; exact q), if_neg q]
      obtain ⟨k, hk⟩ : ∃ k : Nat, ry_u l i b = k := ⟨(ry_u l i b).toNat, by omega⟩
      obtain ⟨a1, a2, a3, a4⟩ := ry_u_at hk
      have hmk : m.getD k 0 < 0 := Int.sign_eq_neg_one_iff_neg.mp ((hs k (by omega)).symm.trans (Int.sign_eq_neg_one_of_neg a1))
      rw [hk, jw_in, Int.toNat_natCast]
      simp only [jm_O_eq (pU_ob (pL_U Hp)), jm_O_eq (pU_ob Hq), pU_nameAt (pL_U Hp) (show k < l.length by omega), pU_nameAt Hq (show k < m.length by omega), pU_nameAt (pL_U Hp) hi, pU_nameAt Hq (show i < m.length by omega), jc_L_eq, lg_0]
      have e1 : (nm (l.getD k 0) = nm (l.getD i 0)) ↔ l.getD k 0 = - l.getD i 0 := by
        rw [nm_eq (hgl k) (hgl i)]; omega
      have e2 : (nm (m.getD k 0) = nm (m.getD i 0)) ↔ m.getD k 0 = - m.getD i 0 := by
        rw [nm_eq (hgm k) (hgm i)]; omega
      simp only [e1, e2]
      by_cases c1 : l.getD k 0 = - l.getD i 0
      · by_cases c2 : m.getD k 0 = - m.getD i 0
        · rw [if_pos c1, if_pos c2, if_pos (Or.inl c1), jp_T ⟨c1, c2⟩]
          exact gX3_belongsLike_61 rfl
        · rw [if_pos c1, if_neg c2, if_pos (Or.inl c1), jp_F (fun z => c2 z.2)]
          exact gX3_belongsLike_61 rfl
      · by_cases c2 : m.getD k 0 = - m.getD i 0
        · rw [if_neg c1, if_pos c2, if_pos (Or.inr c2), jp_F (fun z => c1 z.1)]
          exact gX3_belongsLike_61 rfl
        · rw [if_neg c1, if_neg c2, if_neg (fun z => z.elim c1 c2)]
          apply gX3_belongsLike_61
          rw [if_pos rfl, if_pos rfl]
          simp only [jm_O_eq (pU_ob (pL_U Hp)), pL_outerAt Hp (show k < l.length by omega), jc_I_eq, jw_add1]
          rw [ry_u_next hP hi hb hk]
          exact ih k (c + 1) _ _ (by omega) (by omega) (by omega)
theorem pL_belongsLike {i : Nat} (Hp : pL h p l) (Hq : pU h q m) (hP : ry_P l) (hgl : gN l) (hgm : gN m) (hlm : l.length = m.length) (hi : i < l.length) (hx : 0 < l.getD i 0) (hs : ∀ j, j ≤ i → (l.getD j 0).sign = (m.getD j 0).sign) : jm_D (d + 2) mX3_belongsLike [.ref p, .int (Int32.ofNat i), .ref q] h = some (.inl (some (.int (jp (ry_b l m i i)))), h) := by
  have hn := pL_len Hp
  apply gX3_belongsLike
  simp only [jm_O_eq (pU_ob (pL_U Hp)), pL_outerAt Hp hi, jc_I_eq]
  exact pL_belongsLike_loop Hp Hq hP hgl hgm hlm hi hx hs 150 i 0 _ _ (Nat.le_refl _) (by omega) (by omega)
theorem pL_isLike_loop (Hp : pL h p l) (Hq : pU h q m) (hP : ry_P l) (hgl : gN l) (hgm : gN m) (hlm : l.length = m.length) : ∀ (f i : Nat), i + f = l.length → (∀ j, j < i → (l.getD j 0).sign = (m.getD j 0).sign) → kX3_isLike_15 (d + 2) p q (Int32.ofNat i) h = some (.inl (some (.int (jp (∀ j, i ≤ j → j < l.length → (l.getD j 0).sign = (m.getD j 0).sign ∧ (0 < l.getD j 0 → ry_b l m j j))))), h) := by
  have hn := pL_len Hp
  intro f
  induction f with
  | zero =>
    intro i hi hs
    apply gX3_isLike_15
    simp only [pU_n (pL_U Hp), Option.bind_some]
    rw [if_neg (by rw [jw_lt (by omega) (by omega)]; omega), jp_T (fun j h1 h2 => by omega)]
  | succ f ih =>
    intro i hi hs
    apply gX3_isLike_15
    simp only [pU_n (pL_U Hp), Option.bind_some]
    rw [if_pos (by rw [jw_lt (by omega) (by omega)]; omega)]
    simp only [jm_O_eq (pU_ob (pL_U Hp)), jm_O_eq (pU_ob Hq), pU_kindAt (pL_U Hp) (show i < l.length by omega), pU_kindAt Hq (show i < m.length by omega), jc_I_eq, jw_add1, ky_eq, ky_0]
    by_cases q1 : (l.getD i 0).sign = (m.getD i 0).sign
    · have hs' : ∀ j, j < i + 1 → (l.getD j 0).sign = (m.getD j 0).sign := fun j hj => by
        by_cases e : j = i
        · subst e; exact q1
        · exact hs j (by omega)
      have step : (0 < l.getD i 0 → ry_b l m i i) → ((∀ j, i + 1 ≤ j → j < l.length → (l.getD j 0).sign = (m.getD j 0).sign ∧ (0 < l.getD j 0 → ry_b l m j j)) ↔ ∀ j, i ≤ j → j < l.length → (l.getD j 0).sign = (m.getD j 0).sign ∧ (0 < l.getD j 0 → ry_b l m j j)) := by
        intro q
        constructor
        · intro z j h1 h2
          by_cases e2 : j = i
          · subst e2; exact ⟨q1, q⟩
          · exact z j (by omega) h2
        · intro z j h1 h2; exact z j (by omega) h2
      rw [if_pos q1]
      by_cases q2 : 0 < l.getD i 0
      · rw [if_pos q2, pL_belongsLike Hp Hq hP hgl hgm hlm (by omega) q2 (fun j hj => hs' j (by omega)), jc_I_eq]
        by_cases q3 : ry_b l m i i
        · rw [if_neg (by rw [jp_0]; exact fun z => z q3), ih (i + 1) (by omega) hs', jp_cg (step fun _ => q3)]
        · rw [if_pos (jp_0.mpr q3), jp_F (fun z => q3 ((z i (Nat.le_refl _) (by omega)).2 q2))]
      · rw [if_neg q2, ih (i + 1) (by omega) hs', jp_cg (step fun z => absurd z q2)]
    · rw [if_neg q1, jp_F (fun z => q1 (z i (Nat.le_refl _) (by omega)).1)]
theorem pL_isLike (Hp : pL h p l) (Hq : pU h q m) (hP : ry_P l) (hgl : gN l) (hgm : gN m) : jm_D (d + 3) mX3_isLike [.ref p, .ref q] h = some (.inl (some (.int (jp (ry_like l m)))), h) := by
  have hn := pL_len Hp
  have hn2 := pU_len Hq
  apply gX3_isLike
  simp only [pU_n (pL_U Hp), pU_n Hq, Option.bind_some, jw_eq (show l.length < 2147483648 by omega) (show m.length < 2147483648 by omega)]
  by_cases e : l.length = m.length
  · rw [if_pos e]
    have := pL_isLike_loop (d := d) Hp Hq hP hgl hgm e l.length 0 (by omega) (fun j hj => by omega)
    rw [show (0 : Int32) = Int32.ofNat 0 from rfl, this]
    congr 5
    refine jp_cg ⟨fun z => ?_, fun z j _ h2 => ⟨z.1.2 j h2, fun hx => (ry_b_iff z.1 hx j).mpr (z.2 j h2 hx)⟩⟩
    have hs : ry_s l m := ⟨e, fun j hj => (z j (Nat.zero_le _) hj).1⟩
    exact ⟨hs, fun j hj hx => (ry_b_iff hs hx j).mp ((z j (Nat.zero_le _) hj).2 hx)⟩
  · rw [if_neg e, jp_F (fun z => e z.1.1)]
theorem pU_fitInScene (Hp : pU h p l) (Hq : pU h q m) : jm_D (d + 1) mX3_fitInScene [.ref p, .ref q] h = some (.inl (some (.int (jp (1 + l.length + m.length ≤ 150)))), h) := by
  have hn := pU_len Hp
  have hn2 := pU_len Hq
  apply gX3_fitInScene
  simp only [pU_n Hp, pU_n Hq, Option.bind_some, jw_1add, jw_add, jw_150lt (show 1 + l.length + m.length < 2147483648 by omega)]
  by_cases q : 150 < 1 + l.length + m.length
  · rw [if_pos q, jp_F (by omega)]
  · rw [if_neg q, jp_T (by omega)]
end PM
/-! ===== LEVEL 3: Part, copies and new names ===== -/
theorem jw_0lt {a : Nat} (ha : a < 2147483648) : ((0 : Int32) < Int32.ofNat a) ↔ 0 < a := jw_lt (a := 0) (by omega) ha
theorem nm_00 : nm 0 = 0 := by
  unfold nm
  rw [show (0 : Int).natAbs = 0 from rfl, show n6 0 = 0 by unfold n6; rfl]
  rfl
section PM
variable {h : jm_H} {p q q2 n d : Nat} {K K' : Nat → Int32} {N N' : Nat → Int64} {E E' O O' : Nat → Int32} {l m k : List Int}
theorem jm_cpyI {h : jm_H} {a b n0 n1 k : Nat} {f g : Nat → Int32} (ha : 128 ≤ a) (hb : 128 ≤ b) (e1 : h.2.2 a = some (.inl (0, n0, .inl f))) (e2 : h.2.2 b = some (.inl (0, n1, .inl g))) (h1 : k ≤ n0) (h2 : k ≤ n1) (hk : k < 2147483648) : jm_cpy h a 0 b 0 (Int32.ofNat k) = some (jm_set h b (.inl (0, n1, .inl (va_cpy f g 0 0 k)))) := by
  unfold jm_cpy
  rw [if_pos ⟨ha, hb, by decide, by decide, by rw [jw_neg hk]; exact id⟩, e1, e2]
  have z : (0 : Int32).toNatClampNeg = 0 := rfl
  simp only [z, jw_n hk]
  rw [if_pos ⟨by omega, by omega⟩]
theorem jm_cpyL {h : jm_H} {a b n0 n1 k : Nat} {f g : Nat → Int64} (ha : 128 ≤ a) (hb : 128 ≤ b) (e1 : h.2.2 a = some (.inl (1, n0, .inr (.inl f)))) (e2 : h.2.2 b = some (.inl (1, n1, .inr (.inl g)))) (h1 : k ≤ n0) (h2 : k ≤ n1) (hk : k < 2147483648) : jm_cpy h a 0 b 0 (Int32.ofNat k) = some (jm_set h b (.inl (1, n1, .inr (.inl (va_cpy f g 0 0 k))))) := by
  unfold jm_cpy
  rw [if_pos ⟨ha, hb, by decide, by decide, by rw [jw_neg hk]; exact id⟩, e1, e2]
  have z : (0 : Int32).toNatClampNeg = 0 := rfl
  simp only [z, jw_n hk]
  rw [if_pos ⟨by omega, by omega⟩]
theorem va_cpy0 {α : Type} {f g : Nat → α} {n i : Nat} (hi : i < n) : va_cpy f g 0 0 n i = f i := by
  unfold va_cpy
  rw [if_pos ⟨by omega, by omega⟩]
  congr 1
  omega
theorem pC_setTo (hd : p + 5 ≤ q ∨ q + 5 ≤ p) (Hp : pC h p n K' N' E' O') {m : Nat} (Hq : pC h q m K N E O) : jF (jm_D (d + 1) mX3_setTo [.ref p, .ref q] h) (.inl none) fun h' => jS (jn p 5) h h' ∧ pC h' p m (va_cpy K K' 0 0 m) (va_cpy N N' 0 0 m) (va_cpy E E' 0 0 m) (va_cpy O O' 0 0 m) := by
  have hm := Hq.2.2.2.2.2.2
  have hp8 := Hp.2.2.2.2.2.1
  have hq8 := Hq.2.2.2.2.2.1
  have dis : ∀ x, jn p 5 x → jn q 5 x → False := fun x z1 z2 => by unfold jn at z1 z2; omega
  refine jE_of (fun r => gX3_setTo) ?_
  have em : (if (150 : Int32) < Int32.ofNat m then 150 else Int32.ofNat m) = Int32.ofNat m := by
    rw [if_neg (by rw [jw_150lt (by omega)]; omega)]
  have em2 : (if (0 : Int32) < Int32.ofNat m then Int32.ofNat m else 0) = Int32.ofNat m := by
    by_cases z : m = 0
    · subst z; rfl
    · rw [if_pos ((jw_0lt (by omega)).mpr (by omega))]
  simp only [pC_n Hq, Option.bind_some, em, em2, pC_1 Hq, pC_1 Hp]
  -- kinds
  have e1 := jm_cpyI (k := m) (by omega) (by omega) Hq.2.1 Hp.2.1 hm hm (by omega)
  generalize hh1 : jm_set h (p + 1) _ = h1 at e1
  have F1 : jS (jn p 5) h h1 := by rw [← hh1]; exact jS_set ⟨by omega, by omega⟩
  have Hp1 : pC h1 p n (va_cpy K K' 0 0 m) N' E' O' := by
    rw [← hh1]
    simp [pC, jm_set_at, Hp.1, Hp.2.2.1, Hp.2.2.2.1, Hp.2.2.2.2.1, Hp.2.2.2.2.2.1, Hp.2.2.2.2.2.2]
  have Hq1 := pC_tr Hq F1 dis
  simp only [e1, Option.bind_some, pC_2 Hq1, pC_2 Hp1]
  have e2 := jm_cpyL (k := m) (by omega) (by omega) Hq1.2.2.1 Hp1.2.2.1 hm hm (by omega)
  generalize hh2 : jm_set h1 (p + 2) _ = h2 at e2
  have F2 : jS (jn p 5) h1 h2 := by rw [← hh2]; exact jS_set ⟨by omega, by omega⟩
  have Hp2 : pC h2 p n (va_cpy K K' 0 0 m) (va_cpy N N' 0 0 m) E' O' := by
    rw [← hh2]
    simp [pC, jm_set_at, Hp1.1, Hp1.2.1, Hp1.2.2.2.1, Hp1.2.2.2.2.1, Hp1.2.2.2.2.2.1, Hp1.2.2.2.2.2.2]
  have Hq2 := pC_tr Hq1 F2 dis
  simp only [e2, Option.bind_some, pC_3 Hq2, pC_3 Hp2]
  have e3 := jm_cpyI (k := m) (by omega) (by omega) Hq2.2.2.2.1 Hp2.2.2.2.1 hm hm (by omega)
  generalize hh3 : jm_set h2 (p + 3) _ = h3 at e3
  have F3 : jS (jn p 5) h2 h3 := by rw [← hh3]; exact jS_set ⟨by omega, by omega⟩
  have Hp3 : pC h3 p n (va_cpy K K' 0 0 m) (va_cpy N N' 0 0 m) (va_cpy E E' 0 0 m) O' := by
    rw [← hh3]
    simp [pC, jm_set_at, Hp2.1, Hp2.2.1, Hp2.2.2.1, Hp2.2.2.2.2.1, Hp2.2.2.2.2.2.1, Hp2.2.2.2.2.2.2]
  have Hq3 := pC_tr Hq2 F3 dis
  simp only [e3, Option.bind_some, pC_4 Hq3, pC_4 Hp3]
  have e4 := jm_cpyI (k := m) (by omega) (by omega) Hq3.2.2.2.2.1 Hp3.2.2.2.2.1 hm hm (by omega)
  generalize hh4 : jm_set h3 (p + 4) _ = h4 at e4
  have F4 : jS (jn p 5) h3 h4 := by rw [← hh4]; exact jS_set ⟨by omega, by omega⟩
  have Hp4 : pC h4 p n (va_cpy K K' 0 0 m) (va_cpy N N' 0 0 m) (va_cpy E E' 0 0 m) (va_cpy O O' 0 0 m) := by
    rw [← hh4]
    simp [pC, jm_set_at, Hp3.1, Hp3.2.1, Hp3.2.2.1, Hp3.2.2.2.1, Hp3.2.2.2.2.2.1, Hp3.2.2.2.2.2.2]
  obtain ⟨h5, e5, F5, Hp5⟩ := pC_wn Hp4 hm
  simp only [e4, Option.bind_some, e5]
  exact jF_end ⟨jS_tr F1 (jS_tr F2 (jS_tr F3 (jS_tr F4 F5))), Hp5⟩
theorem pL_setTo (hd : p + 5 ≤ q ∨ q + 5 ≤ p) (Hp : pU h p k) (Hq : pL h q m) : jF (jm_D (d + 1) mX3_setTo [.ref p, .ref q] h) (.inl none) fun h' => jS (jn p 5) h h' ∧ pL h' p m := by
  obtain ⟨K', N', E', O', Hp, -⟩ := Hp
  obtain ⟨K, N, E, O, Hq, hR, hX⟩ := Hq
  refine jF_mono (pC_setTo hd Hp Hq) fun h' ⟨F, H⟩ => ⟨F, _, _, _, _, H, fun i hi => ?_, fun i hi => ?_⟩
  · rw [va_cpy0 hi, va_cpy0 hi]; exact hR i hi
  · rw [va_cpy0 hi, va_cpy0 hi]; exact hX i hi
theorem ry_P_scene {a b : List Int} (ha : ry_P a) (hb : ry_P b) : ry_P (0 :: a ++ b) := by
  show ry_o 2 (a ++ b) = some 0
  rw [ry_o_app, ry_o_up (k := 1) (m := 1) ha]
  exact hb
theorem pU_setToScene (hd : p + 5 ≤ q ∨ q + 5 ≤ p) (hd2 : p + 5 ≤ q2 ∨ q2 + 5 ≤ p) (Hp : pU h p k) (Hq : pU h q l) (Hq2 : pU h q2 m) (hl : 1 + l.length + m.length ≤ 150) (h1 : ry_P l) (h2 : ry_P m) : jF (jm_D (d + 3) mX3_setToScene [.ref p, .ref q, .ref q2] h) (.inl none) fun h' => jS (jn p 5) h h' ∧ pL h' p (0 :: l ++ m) := by
  have dis : ∀ x, jn p 5 x → jn q 5 x → False := fun x z1 z2 => by unfold jn at z1 z2; omega
  have dis2 : ∀ x, jn p 5 x → jn q2 5 x → False := fun x z1 z2 => by unfold jn at z1 z2; omega
  refine jE_of (fun r => gX3_setToScene) ?_
  simp only [jm_O_eq (pU_ob Hp)]
  refine jE_V (pU_clear Hp) ?_
  rintro h1' ⟨F1, H1⟩
  simp only [jm_O_eq (pU_ob H1)]
  have ha := pU_add (d := d + 1) (x := 0) H1 (by simp)
  rw [nm_00, show ky 0 = 2 from rfl] at ha
  refine jE_V ha ?_
  rintro h2' ⟨F2, H2⟩
  have Hq' := pU_tr (pU_tr Hq F1 dis) F2 dis
  have Hq2' := pU_tr (pU_tr Hq2 F1 dis2) F2 dis2
  simp only [pU_n Hq', Option.bind_some, jm_O_eq (pU_ob H2)]
  refine jE_V (pU_append (a := 0) (b := l.length) hd (Nat.le_refl _) (Nat.zero_le _) (by simp; omega) H2 Hq') ?_
  rintro h3' ⟨F3, H3⟩
  have Hq2'' := pU_tr Hq2' F3 dis2
  simp only [pU_n Hq2'', Option.bind_some, jm_O_eq (pU_ob H3)]
  refine jE_V (pU_append (a := 0) (b := m.length) hd2 (Nat.le_refl _) (Nat.zero_le _) (by simp; omega) H3 Hq2'') ?_
  rintro h4' ⟨F4, H4⟩
  have e : [] ++ [0] ++ List.take (l.length - 0) (List.drop 0 l) ++ List.take (m.length - 0) (List.drop 0 m) = 0 :: l ++ m := by simp
  rw [e] at H4
  simp only [jm_O_eq (pU_ob H4)]
  refine jE_V (pU_link H4 (ry_P_scene h1 h2)) ?_
  rintro h5' ⟨F5, H5⟩
  exact jF_end ⟨jS_tr F1 (jS_tr F2 (jS_tr F3 (jS_tr F4 F5))), H5⟩
/-! a new name for a mask -/
theorem pL_set {i : Nat} {x : Int} (H : pL h p l) (hi : i < l.length) (hs : (l.getD i 0).sign = x.sign) : jF (jm_D (d + 1) mX3_setName [.ref p, .int (Int32.ofNat i), .long (nm x)] h) (.inl none) fun h' => jS (jn p 5) h h' ∧ pL h' p (l.set i x) := by
  obtain ⟨K, N, E, O, H, hR, hX⟩ := H
  have hn := H.2.2.2.2.2.2
  have hsg : ry_s l (l.set i x) := by
    refine ⟨by simp, fun j hj => ?_⟩
    rw [ry_set_at]
    split
    · rename_i q; rw [← q.1]; exact hs
    · rfl
  refine jF_mono (pC_setName (x := nm x) H (by omega)) fun h' ⟨F, H'⟩ => ⟨F, K, _, E, O, by rw [List.length_set]; exact H', fun j hj => ?_, fun j hj => ?_⟩
  · rw [List.length_set] at hj
    rw [ry_set_at]
    by_cases e : i = j
    · subst e
      rw [if_pos ⟨rfl, hj⟩, (hR i hj).1]
      exact ⟨ky_eq.mpr hs, if_pos rfl⟩
    · rw [if_neg (fun z => e z.1)]
      exact ⟨(hR j hj).1, (if_neg (fun z => e z.symm)).trans (hR j hj).2⟩
  · rw [List.length_set] at hj
    rw [← ry_s_n hsg, ← ry_s_u hsg]
    exact hX j hj
theorem ry_rs_next {l : List Int} {k z i : Nat} (hi : i < l.length) : ry_rs l k z (fun j => decide (j < i + 1)) = if k < i ∧ i < ry_n l k ∧ l.getD i 0 = - l.getD k 0 ∧ ry_w l i i = (k : Int) then (ry_rs l k z (fun j => decide (j < i))).set i (z : Int) else ry_rs l k z (fun j => decide (j < i)) := by
  refine ry_ext (by split <;> simp [ry_rs_len]) fun j hj => ?_
  rw [ry_rs_len] at hj
  split
  · rename_i q
    rw [ry_set_at, ry_rs_at, ry_rs_at, ry_rs_len]
    by_cases e : i = j
    · subst e
      rw [if_pos ⟨hj, q.1, q.2.1, q.2.2.1, q.2.2.2, by simp⟩, if_pos ⟨rfl, hj⟩]
    · rw [if_neg (c := i = j ∧ j < l.length) (fun z => e z.1)]
      have : (j < i + 1) ↔ j < i := by omega
      simp only [this]
  · rename_i q
    rw [ry_rs_at, ry_rs_at]
    by_cases e : i = j
    · subst e
      rw [if_neg (fun z => q ⟨z.2.1, z.2.2.1, z.2.2.2.1, z.2.2.2.2.1⟩), if_neg (fun z => q ⟨z.2.1, z.2.2.1, z.2.2.2.1, z.2.2.2.2.1⟩)]
    · have : (j < i + 1) ↔ j < i := by omega
      simp only [this]
theorem ry_rs_gN {l : List Int} {k z : Nat} {p : Nat → Bool} (hg : gN l) (hz : z < q10) : gN (ry_rs l k z p) := by
  intro i
  rw [ry_rs_at]
  split
  · simpa using hz
  · exact hg i
theorem ry_rn_gN {l : List Int} {k z : Nat} (hk : k < l.length) (hg : gN l) (hz : z < q10) : gN (ry_rn l k z) := by
  intro i
  rw [ry_rn_at hk]
  split
  · simpa using hz
  · split
    · simpa using hz
    · exact hg i
theorem pL_renameMask_loop {z a : Nat} (hP : ry_P l) (hg : gN l) (hz : 0 < z) (hz2 : z < q10) (ha : a < l.length) (hm : l.getD a 0 < 0) : ∀ (f i : Nat) (h : jm_H), i + f = ry_n l a → a < i → pL h p (ry_rs l a z (fun j => decide (j < i))) →
    jF (kX3_renameMask_12 (d + 1) p (Int32.ofNat a) (nm z) (nm (l.getD a 0)) (Int32.ofNat i) h) (.inl none) fun h' => jS (jn p 5) h h' ∧ pL h' p (ry_rn l a z) := by
  intro f
  induction f with
  | zero =>
    intro i h hi hai H
    have hn := pL_len H
    rw [ry_rs_len] at hn
    have hle := ry_n_le (l := l) (i := a) (by omega)
    have hs := ry_rs_s (l := l) (k := a) (p := fun j => decide (j < i)) hz hm
    refine jE_of (fun r => gX3_renameMask_12) ?_
    simp only [jm_O_eq (pU_ob (pL_U H)), pL_endAt H (show a < _ by rw [ry_rs_len]; exact ha), jc_I_eq, ← ry_s_n hs]
    rw [if_neg (by rw [jw_lt (by omega) (by omega)]; omega)]
    have enm : nm (-(z : Int)) = nm (z : Int) := by unfold nm; simp
    rw [← enm]
    refine jE_V (pL_set H (by rw [ry_rs_len]; exact ha) ?_) ?_
    · rw [← hs.2 a ha, Int.sign_eq_neg_one_of_neg hm, Int.sign_eq_neg_one_of_neg (by omega)]
    · rintro h1 ⟨F1, H1⟩
      refine jF_end ⟨F1, ?_⟩
      have : (ry_rs l a z (fun j => decide (j < i))).set a (-(z : Int)) = ry_rn l a z := by
        unfold ry_rn
        congr 1
        refine ry_ext (by rw [ry_rs_len, ry_rs_len]) fun j hj => ?_
        rw [ry_rs_at, ry_rs_at]
        by_cases q : a < j ∧ j < ry_n l a
        · have : j < i := by omega
          simp only [this, decide_true]
        · rw [if_neg (fun z => q ⟨z.2.1, z.2.2.1⟩), if_neg (fun z => q ⟨z.2.1, z.2.2.1⟩)]
      rw [← this]
      exact H1
  | succ f ih =>
    intro i h hi hai H
    have hn := pL_len H
    rw [ry_rs_len] at hn
    have hle := ry_n_le (l := l) (i := a) (by omega)
    have hil : i < l.length := by omega
    have hs := ry_rs_s (l := l) (k := a) (p := fun j => decide (j < i)) hz hm
    have hil' : i < (ry_rs l a z (fun j => decide (j < i))).length := by rw [ry_rs_len]; exact hil
    have hP' := (ry_s_P hs).mp hP
    have hg' := ry_rs_gN (k := a) (p := fun j => decide (j < i)) hg hz2
    have eat : (ry_rs l a z (fun j => decide (j < i))).getD i 0 = l.getD i 0 := by
      rw [ry_rs_at, if_neg (fun z => by simp at z)]
    refine jE_of (fun r => gX3_renameMask_12) ?_
    simp only [jm_O_eq (pU_ob (pL_U H)), pL_endAt H (show a < _ by rw [ry_rs_len]; exact ha), jc_I_eq, ← ry_s_n hs]
    rw [if_pos (by rw [jw_lt (by omega) (by omega)]; omega)]
    simp only [pU_kindAt (pL_U H) hil', pU_nameAt (pL_U H) hil', jc_I_eq, jc_L_eq, jm_O_eq (pU_ob (pL_U H)), eat, ky_0, lg_nm (hg i) (hg a), jw_add1]
    have stay : ¬ (a < i ∧ i < ry_n l a ∧ l.getD i 0 = - l.getD a 0 ∧ ry_w l i i = (a : Int)) → jF (kX3_renameMask_12 (d + 1) p (Int32.ofNat a) (nm z) (nm (l.getD a 0)) (Int32.ofNat (i + 1)) h) (.inl none) fun h' => jS (jn p 5) h h' ∧ pL h' p (ry_rn l a z) := by
      intro q
      refine ih (i + 1) h (by omega) (by omega) ?_
      rw [ry_rs_next hil, if_neg q]
      exact H
    by_cases q1 : 0 < l.getD i 0
    · rw [if_pos q1]
      by_cases q2 : (l.getD i 0).natAbs = (l.getD a 0).natAbs
      · rw [if_pos q2]
        have hw := ry_rs_w (l := l) (k := a) (z := z) (i := i) (p := fun j => decide (j < i)) hz hm q1 (by simp)
        simp only [pL_maskOf H hP' hg' hil' (by rw [eat]; exact q1), hw, jc_I_eq]
        have hwl := ry_w_lt (l := l) (i := i) i
        by_cases q3 : ry_w l i i = (a : Int)
        · rw [if_pos (by rw [q3, jw_in]), jm_O_eq (pU_ob (pL_U H))]
          refine jE_V (pL_set H hil' ?_) ?_
          · rw [eat, Int.sign_eq_one_of_pos q1, Int.sign_eq_one_of_pos (by omega)]
          · rintro h1 ⟨F1, H1⟩
            refine jF_mono (ih (i + 1) h1 (by omega) (by omega) ?_) fun h2 ⟨F2, H2⟩ => ⟨jS_tr F1 F2, H2⟩
            rw [ry_rs_next hil, if_pos ⟨hai, by omega, by omega, q3⟩]
            exact H1
        · rw [if_neg (by rw [jw_zeq (by omega) (by omega) (by omega)]; exact q3)]
          exact stay fun z => q3 z.2.2.2
      · rw [if_neg q2]
        exact stay fun z => q2 (by omega)
    · rw [if_neg q1]
      exact stay fun z => q1 (by omega)
theorem pL_renameMask {z a : Nat} (H : pL h p l) (hP : ry_P l) (hg : gN l) (hz : 0 < z) (hz2 : z < q10) (ha : a < l.length) (hm : l.getD a 0 < 0) : jF (jm_D (d + 2) mX3_renameMask [.ref p, .int (Int32.ofNat a), .long (nm z)] h) (.inl none) fun h' => jS (jn p 5) h h' ∧ pL h' p (ry_rn l a z) := by
  refine jE_of (fun r => gX3_renameMask) ?_
  simp only [jm_O_eq (pU_ob (pL_U H)), pU_nameAt (pL_U H) ha, jc_L_eq, jw_add1]
  have hlt := ry_n_lt ha
  refine pL_renameMask_loop hP hg hz hz2 ha hm (ry_n l a - (a + 1)) (a + 1) h (by omega) (by omega) ?_
  have : ry_rs l a z (fun j => decide (j < a + 1)) = l := by
    refine ry_ext ry_rs_len fun j hj => ?_
    rw [ry_rs_at, if_neg (fun z => by have := of_decide_eq_true z.2.2.2.2.2; omega)]
  rw [this]
  exact H
end PM
