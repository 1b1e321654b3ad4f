/-! ===== LEVEL 3: the reference, notes' lines, whole ===== -/
section ZL
variable {h h' h1 h2 : jm_H} {d D m b i q k n a idx : Nat} {T : List aK4} {mu al : Nat → Int32} {s s1 : zSt} {o : Option jm_R} {R : uR} {f : Nat → uR} {kk : jm_H → Option jm_R} {mk : Int} {NL : List zNl} {NK WH TO BG EN : Nat → Int32}
theorem zTl_fr (F : zS m (zLU b) zRF h h1) (H : zTl o h1 m b T a s NK WH TO BG EN idx R) : zTl o h m b T a s NK WH TO BG EN idx R := by
  obtain ⟨v, h2, rfl, e, F2, q⟩ := H
  exact ⟨v, h2, rfl, e, zS_tr F F2, q⟩
def uN97 (T : List aK4) (k n a : Nat) : uR := if k = 4 ∧ uK T a = 24 then ut T 24 a else ub (uWh T n a) (ut T 24)
theorem z_97 (Y : zHy m b T) (hk : k = 4 ∨ k = 5 ∨ k = 7) (hidx : idx ≤ 15) (hs : s.1 = 0) (hm : s.2.1 = -1) (hos : s.2.2.1.length ≤ a) (ha : a ≤ 400) (H5 : zN5 h b NK WH TO BG EN) (H : zRd h m b T a s) : zTl (kX13_isNote_97 (d + 80) m b (Int32.ofNat k) (Int32.ofNat idx) h) h m b T a (s.1, s.2.1, s.2.2.1, s.2.2.2.1 + 1, s.2.2.2.2) NK WH TO (upd BG idx (Int32.ofNat s.2.2.1.length)) EN idx (uN97 T k n a) := by
  refine zTl_of (fun r => gX13_isNote_97) ?_
  obtain ⟨h1, e1, F1, H5', H1⟩ := zN5_4 (Int32.ofNat s.2.2.1.length) Y H5 hidx H
  rw [zRd_R (k := 16) (x := b + 14) H rfl, Option.bind_some, zRd_I (k := 20) H rfl, Option.bind_some, e1, Option.bind_some, zRd_I (k := 12) H1 rfl, Option.bind_some, jw_add1]
  obtain ⟨h2, e2, F2, H2⟩ := zRd_nn (s.2.2.2.1 + 1) Y H1
  rw [e2, Option.bind_some]
  have H5'' := zN5_r Y H5' F2
  have FA : zS m (zLU b) zRF h h2 := zS_tr F1 (zLU_of F2)
  have hl := zRd_lt H2
  unfold uN97
  by_cases c4 : k = 4
  · subst c4
    rw [if_pos (show Int32.ofNat 4 = 4 from rfl)]
    simp only [zbR_0 (zRd_bR H2), H2.2.1, Option.bind_some, zRd_kind H2 hl.1]
    by_cases c8 : uK T a = 8
    · rw [if_pos (show Int32.ofNat (zki (uK T a)) = 8 by rw [c8]; rfl), if_neg (by omega)]
      exact zTl_fr FA (z_136 (n := n) Y hidx hs hm hos ha H5'' H2)
    · rw [if_neg (show ¬ Int32.ofNat (zki (uK T a)) = 8 from fun z => c8 ((zki_eq (Y.2.2.2 a) (show 8 < 39 by omega)).mp z))]
      have E := z_end (d := d + 79) (Ro := []) (Rm := []) (kk := fun x98 h96 => jm_Y .boolean x98 (some (.inl (some (.int x98)), h96))) Y (fun x h => by
        by_cases c0 : x = 0
        · exact Or.inl (by rw [c0]; rfl)
        by_cases c1 : x = 1
        · exact Or.inl (by rw [c1]; rfl)
        · exact Or.inr ⟨c0, c1⟩) hidx FA (show zNx T a a mu5 (alc (-1)) (zop []) [] (s.1, s.2.1, s.2.2.1, s.2.2.2.1 + 1, s.2.2.2.2) (s.1, s.2.1, s.2.2.1, s.2.2.2.1 + 1, s.2.2.2.2) from zNx_0) (Nat.le_refl _) H5'' H2
      by_cases c24 : uK T a = 24
      · rw [if_pos ⟨trivial, c24⟩]
        have e : ((ut T 24 a).1, (ut T 24 a).2.1, ([] : List aI), ([] : List (Nat × Nat))) = ut T 24 a := by
          rw [show ut T 24 a = ug (a + 1) from if_pos c24]
          rfl
        rw [e] at E
        exact E
      · rw [if_neg (fun z => c24 z.2)]
        obtain ⟨x1, x2⟩ := wh_n (n := n) c8
        obtain ⟨v, h3, e3, rfl, F3, s3, X3, -⟩ := E
        rw [show ut T 24 a = uf a from if_neg c24] at X3 e3
        rw [e3]
        exact zTl_F (s1 := s3) (by rw [x2]; exact X3) F3 x1
  · rw [if_neg (show ¬ Int32.ofNat k = 4 from fun z => c4 ((jw_eq (by omega) (show 4 < 2147483648 by omega)).mp z)), if_neg (fun z => c4 z.1)]
    exact zTl_fr FA (z_136 (n := n) Y hidx hs hm hos ha H5'' H2)
theorem z_min15 {n : Nat} (hn : n < 2147483648) : (if Int32.ofNat n < 15 then Int32.ofNat n else 15) = Int32.ofNat (min n 15) := by
  by_cases c : n < 15
  · rw [if_pos (by rw [show (15 : Int32) = Int32.ofNat 15 from rfl, jw_lt hn (by omega)]; exact c), Nat.min_eq_left (by omega)]
  · rw [if_neg (by rw [show (15 : Int32) = Int32.ofNat 15 from rfl, jw_lt hn (by omega)]; exact c), Nat.min_eq_right (by omega)]
    rfl
/-- the list of notes, with one more -/
theorem zRn_app {x : zNl} {TO' : Nat → Int32} (hL : ∀ (_ : NL.length ≤ 16), ∀ n, n < NL.length → NK n = Int32.ofNat (NL.getD n zn0).1 ∧ WH n = Int32.ofNat (NL.getD n zn0).2.1 ∧ ((NL.getD n zn0).1 = 5 → TO n = Int32.ofNat (NL.getD n zn0).2.2.1) ∧ BG n = Int32.ofNat (NL.getD n zn0).2.2.2.1 ∧ EN n = Int32.ofNat (NL.getD n zn0).2.2.2.2) (hT1 : x.1 = 5 → TO' (min NL.length 15) = Int32.ofNat x.2.2.1) (hT2 : ∀ j, j ≠ min NL.length 15 → TO' j = TO j) (H : zN5 h b (upd NK (min NL.length 15) (Int32.ofNat x.1)) (upd WH (min NL.length 15) (Int32.ofNat x.2.1)) TO' (upd BG (min NL.length 15) (Int32.ofNat x.2.2.2.1)) (upd EN (min NL.length 15) (Int32.ofNat x.2.2.2.2))) : zRn h b (NL ++ [x]) := by
  obtain ⟨a1, a2, a3, a4, a5⟩ := H
  refine ⟨_, _, _, _, _, a1, a2, a3, a4, a5, fun hl n hn => ?_⟩
  rw [List.length_append, List.length_singleton] at hl hn
  have em : min NL.length 15 = NL.length := Nat.min_eq_left (by omega)
  rw [em] at hT1 hT2 ⊢
  by_cases e : n = NL.length
  · subst e
    have eg : (NL ++ [x]).getD NL.length zn0 = x := by
      rw [List.getD_eq_getElem?_getD, List.getElem?_append_right (Nat.le_refl _), Nat.sub_self]
      rfl
    rw [eg]
    exact ⟨if_pos rfl, if_pos rfl, hT1, if_pos rfl, if_pos rfl⟩
  · have eg : (NL ++ [x]).getD n zn0 = NL.getD n zn0 := by
      rw [List.getD_eq_getElem?_getD, List.getElem?_append_left (by omega), ← List.getD_eq_getElem?_getD]
    rw [eg]
    obtain ⟨p1, p2, p3, p4, p5⟩ := hL (by omega) n (by omega)
    exact ⟨(if_neg e).trans p1, (if_neg e).trans p2, fun z => (hT2 n e).trans (p3 z), (if_neg e).trans p4, (if_neg e).trans p5⟩
end ZL
