/-! ===== LEVEL 3: the reference, rows ===== -/
/-- a row as longs -/
def vR (h : jm_H) (a n : Nat) (l : List Int) : Prop := ∃ V, lC h a n V ∧ l.length ≤ n ∧ ∀ i, i < l.length → V i = Int64.ofInt (l.getD i 0)
section RF
variable {h : jm_H} {d a n : Nat} {l : List Int}
theorem ln_z {x : Int} (h : x.natAbs < q10) : (Int64.ofInt x).toInt = x := by
  have e : q10 = 4808584372417849 := by decide
  rw [e] at h
  rw [Int64.toInt_ofInt]
  have es : Int64.size = 18446744073709551616 := rfl
  rw [es, Int.bmod_eq_of_le] <;> omega
theorem ln_0 {x : Int} (h : x.natAbs < q10) : (lg_cmp (Int64.ofInt x) 0 = 0) ↔ x = 0 := by
  rw [lg_0]
  constructor
  · intro z
    have := congrArg Int64.toInt z
    rw [ln_z h] at this
    exact this
  · intro z; rw [z]; rfl
theorem ln_neg {x : Int} (h : x.natAbs < q10) : (lg_cmp (Int64.ofInt x) 0 < 0) ↔ x < 0 := by
  have e : (Int64.ofInt x > 0) ↔ 0 < x := by
    show (0 : Int64) < Int64.ofInt x ↔ _
    rw [Int64.lt_iff_toInt_lt, ln_z h]
    exact Iff.rfl
  have e2 : (Int64.ofInt x = 0) ↔ x = 0 := lg_0.symm.trans (ln_0 h)
  unfold lg_cmp
  by_cases c : 0 < x
  · rw [if_pos (e.mpr c)]
    exact ⟨fun z => absurd z (by decide), fun z => by omega⟩
  · rw [if_neg (fun z => c (e.mp z))]
    by_cases c2 : x = 0
    · rw [if_pos (e2.mpr c2)]
      exact ⟨fun z => absurd z (by decide), fun z => by omega⟩
    · rw [if_neg (fun z => c2 (e2.mp z))]
      exact ⟨fun _ => by omega, fun _ => by decide⟩
/-- where a part ends -/
theorem f_end_loop (hV : vR h a n l) (hn : n < 2147483648) (hg : gN l) : ∀ (f i k j : Nat) (o1 : Option Value), i + f = l.length → k < 2147483000 → ry_o (k + j) (l.drop i) = some 0 → k + 3 * f < 2147483000 → kX13_end_4 d a o1 (Int32.ofNat k) (Int32.ofNat i) h = some (.inl (some (.int (Int32.ofNat (i + ry_e k (l.drop i))))), h) := by
  obtain ⟨V, L, hl, hV⟩ := hV
  intro f
  induction f with
  | zero =>
    intro i k j o1 hi hk hR hb
    have e : l.drop i = [] := List.drop_eq_nil_of_le (by omega)
    rw [e] at hR ⊢
    have k0 : k = 0 := by
      match k, j, hR with
      | 0, _, _ => rfl
      | k + 1, j, hR =>
        rw [show k + 1 + j = (k + j) + 1 by omega] at hR
        have : some (k + j + 1) = some 0 := hR
        injection this with this
        omega
    subst k0
    apply gX13_end_4
    rw [if_neg (by decide)]
    rfl
  | succ f ih =>
    intro i k j o1 hi hk hR hb
    apply gX13_end_4
    match k, hR, hk, hb with
    | 0, hR, hk, hb =>
      rw [if_neg (by decide)]
      cases l.drop i <;> rfl
    | k + 1, hR, hk, hb =>
      have hx := hg i
      rw [ry_drop_cons (show i < l.length by omega)] at hR ⊢
      have hR' : ry_o (ry_x (l.getD i 0) (k + j)) (l.drop (i + 1)) = some 0 := by
        rw [show k + 1 + j = (k + j) + 1 by omega] at hR
        exact hR
      rw [ry_x_add] at hR'
      rw [if_pos (by rw [show (0 : Int32) = Int32.ofNat 0 from rfl, jw_lt (by omega) (by omega)]; omega)]
      simp only [lC_at L (show i < n by omega) hn, hV i (by omega), Option.bind_some, ln_0 hx, ln_neg hx, jw_add1]
      have er : ry_e (k + 1) (l.getD i 0 :: l.drop (i + 1)) = ry_e (ry_x (l.getD i 0) k) (l.drop (i + 1)) + 1 := rfl
      have fin : ∀ m, m = ry_x (l.getD i 0) k → m < k + 3 → ∀ o, kX13_end_4 d a o (Int32.ofNat m) (Int32.ofNat (i + 1)) h = some (.inl (some (.int (Int32.ofNat (i + ry_e (k + 1) (l.getD i 0 :: l.drop (i + 1)))))), h) := by
        intro m hm hmk o
        have := ih (i + 1) m j o (by omega) (by omega) (by rw [hm]; exact hR') (by omega)
        rw [this, er, hm, show i + 1 + ry_e (ry_x (l.getD i 0) k) (l.drop (i + 1)) = i + (ry_e (ry_x (l.getD i 0) k) (l.drop (i + 1)) + 1) by omega]
      by_cases c1 : l.getD i 0 = 0
      · rw [if_pos c1]
        exact fin (k + 1 + 1) (by unfold ry_x; rw [if_pos c1]) (by omega) _
      · rw [if_neg c1]
        by_cases c2 : l.getD i 0 < 0
        · rw [if_pos c2, Int32.add_zero]
          exact fin (k + 1) (by unfold ry_x; rw [if_neg c1, if_pos c2]) (by omega) _
        · rw [if_neg c2, show Int32.ofNat (k + 1) + (-1) = Int32.ofNat k from (Int32.sub_eq_add_neg _ _).symm.trans jw_sub1]
          exact fin k (by unfold ry_x; rw [if_neg c1, if_neg c2]) (by omega) _
theorem f_end {i : Nat} (hV : vR h a n l) (hn : n < 2000000) (hg : gN l) (hP : ry_P l) (hi : i < l.length) : jm_D (d + 1) mX13_end [.ref a, .int (Int32.ofNat i)] h = some (.inl (some (.int (Int32.ofNat (ry_n l i)))), h) := by
  apply gX13_end
  obtain ⟨k, -, hk⟩ := ry_mid hP hi
  have hl : l.length ≤ n := by
    obtain ⟨V, -, hl, -⟩ := hV
    exact hl
  exact f_end_loop (d := d) hV (by omega) hg (l.length - i) i 1 k (some (.int (Int32.ofNat i))) (by omega) (by omega) (by rw [Nat.add_comm]; exact hk) (by omega)
end RF
