/-! ===== LEVEL 3: the reference, notes' lines, from their start ===== -/
section ZL
variable {h h' h1 h2 : jm_H} {d D m b i q k n a idx : Nat} {T : List aK4} {mu al : Nat → Int32} {s s1 : zSt} {o : Option jm_R} {R : uR} {f : Nat → uR} {kk : jm_H → Option jm_R} {mk : Int} {NL : List zNl} {NK WH TO BG EN : Nat → Int32}
/-- from a tail to a line -/
theorem z_lineN1 {TO' : Nat → Int32} {s0 : zSt} (Y : zHy m b T) (hz : zls T i = i) (hk : uK T i = 4 ∨ uK T i = 5 ∨ uK T i = 7) (hia : i + 1 ≤ a) (hR1 : R.1 = true → a ≤ R.2.1) (hX : ∀ j, i ≤ j → s.2.2.2.2.1 j = 0) (hn : s.2.2.2.1 = NL.length)
    (h24 : R.1 = true → uK T (R.2.1 - 1) = 24 ∧ ∀ u, i ≤ u → u + 1 < R.2.1 → uK T u ≠ 24) (hm8 : R.1 = true → ∀ j, uK T j ≠ 8 → um s.2.2.2.2.2.2 R.2.2.2 j = s.2.2.2.2.2.2 j)
    (hs : s.1 = 0) (hm : s.2.1 = -1)
    (hL : ∀ (_ : NL.length ≤ 16), ∀ n, n < NL.length → NK n = Int32.ofNat (NL.getD n zn0).1 ∧ WH n = Int32.ofNat (NL.getD n zn0).2.1 ∧ ((NL.getD n zn0).1 = 5 → TO n = Int32.ofNat (NL.getD n zn0).2.2.1) ∧ BG n = Int32.ofNat (NL.getD n zn0).2.2.2.1 ∧ EN n = Int32.ofNat (NL.getD n zn0).2.2.2.2)
    (hT1 : uK T i = 5 → TO' (min NL.length 15) = Int32.ofNat (i + 3)) (hT2 : ∀ j, j ≠ min NL.length 15 → TO' j = TO j)
    (N0 : zNx T i a mu5 (alc (-1)) [] [] (s.1, s.2.1, s.2.2.1, s.2.2.2.1 + 1, upd s.2.2.2.2.1 i 6, s.2.2.2.2.2) (s0.1, s0.2.1, s0.2.2.1, s0.2.2.2.1 + 1, s0.2.2.2.2))
    (F0 : zS m (zLU b) zRF h h1) (H : zTl o h1 m b T a (s0.1, s0.2.1, s0.2.2.1, s0.2.2.2.1 + 1, s0.2.2.2.2) (upd NK (min NL.length 15) (Int32.ofNat (uK T i))) (upd WH (min NL.length 15) (Int32.ofNat (i + 1))) TO' (upd BG (min NL.length 15) (Int32.ofNat s0.2.2.1.length)) EN (min NL.length 15) R) : zLq o h m b T i s NL R := by
  obtain ⟨v, h2, rfl, rfl, F2, s3, X3, n3⟩ := H
  refine jE_end ⟨rfl, zS_tr F0 F2, s3, X3, fun z => ?_⟩
  obtain ⟨p1, p2⟩ := n3 z
  have N := zNx_tr N0 p2 (by omega) (hR1 z)
  obtain ⟨x1, x2⟩ := h24 z
  have hl := zls_in (e := R.2.1 - 1) hz (fun u a1 a2 => x2 u a1 (by omega))
  obtain ⟨q1, q2, q3, q4, q5, q6, q7⟩ := N
  have eos : s0.2.2.1 = s.2.2.1 := by
    have := N0.2.2.1
    rw [List.append_nil] at this
    exact this
  have hRa := hR1 z
  rw [eos] at p1
  refine ⟨NL ++ [(uK T i, i + 1, i + 3, s.2.2.1.length, s3.2.2.1.length)], zRn_app (x := (uK T i, i + 1, i + 3, s.2.2.1.length, s3.2.2.1.length)) hL hT1 hT2 p1, ?_, q1.trans hs, q2.trans hm, ?_, fun j => ?_, fun j k35 => ?_, fun j hj => ?_, ?_⟩
  · rw [List.length_append, List.length_singleton, ← hn]
    exact q4
  · exact q3
  · have q5' : zMA T i R.2.1 mu5 (upd s.2.2.2.2.1 i 6) s3.2.2.2.2.1 := q5
    rw [q5' j]
    by_cases c : i ≤ j ∧ j < R.2.1
    · rw [if_pos c]
      have ez : zme T j = if uK T j = 35 then 5 else if j = i then 6 else 0 := by
        unfold zme
        rw [hl j c.1 (by omega), if_neg (by omega), if_neg (by omega)]
      rw [ez]
      by_cases k : uK T j = 35
      · rw [if_pos ⟨c.1, c.2, k⟩, if_pos k]
        rfl
      · rw [if_neg (fun z => k z.2.2), if_neg k]
        by_cases e : j = i
        · rw [if_pos e]
          exact if_pos e
        · rw [if_neg e]
          exact (if_neg e).trans (hX j c.1)
    · rw [if_neg c, if_neg (fun z => c ⟨z.1, z.2.1⟩)]
      exact if_neg (by omega)
  · have q6' : zMA T i R.2.1 (alc (-1)) s.2.2.2.2.2.1 s3.2.2.2.2.2.1 := q6
    exact zMA_al q6' (g := zar T) (fun j a1 a2 _ => by
      unfold zar
      rw [hl j a1 (by omega), if_neg (by omega)]
      rfl) j k35
  · have q7' : s3.2.2.2.2.2.2 = s.2.2.2.2.2.2 := q7
    rw [q7', hm8 z j hj]
  · rw [if_neg (by omega)]
end ZL
