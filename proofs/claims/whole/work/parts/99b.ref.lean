/-! ===== LEVEL 3: the reference, the whole book by the grammar ===== -/
theorem um_cg {j : Nat} : ∀ {l : List (Nat × Nat)} {X X' : Nat → Int32}, X j = X' j → um X l j = um X' l j
  | [], _, _, h => h
  | (i, n) :: l, X, X', h => um_cg (l := l) (X := upd X i (Int32.ofNat n)) (X' := upd X' i (Int32.ofNat n)) (by
    by_cases c : j = i
    · exact (if_pos c).trans (if_pos c).symm
    · exact (if_neg c).trans (h.trans (if_neg c).symm))
def zbo (T : List aK4) : Nat → Nat → Nat → List aI
  | 0, _, _ => []
  | f + 1, n, i => if uK T i = 37 then [] else zop (uLine T n i).2.2.1 ++ zbo T f (n + (cF (uLine T n i).2.2.1).length) (uLine T n i).2.1
def zbn (T : List aK4) : Nat → Nat → Nat → Nat → List zNl
  | 0, _, _, _ => []
  | f + 1, n, i, l => if uK T i = 37 then [] else (if uK T i = 0 ∨ uK T i = 1 then [] else [(uK T i, i + 1, i + 3, l, l + (zop (uLine T n i).2.2.1).length)]) ++ zbn T f (n + (cF (uLine T n i).2.2.1).length) (uLine T n i).2.1 (l + (zop (uLine T n i).2.2.1).length)
theorem zop_l {ops : List aI} : (zop ops).length ≤ ops.length := by
  unfold zop
  split
  · exact Nat.zero_le _
  · rw [List.length_dropLast]
    exact Nat.sub_le _ _
theorem line_e {T : List aK4} {i n : Nat} (hT : gT T) (hi : i ≤ 400) (h : (uLine T n i).1 = true) : ∃ e, (uLine T n i).2.1 = e + 1 ∧ uK T e = 24 ∧ i + 2 ≤ e ∧ ∀ u, i ≤ u → u < e → uK T u ≠ 24 := by
  have S := q_shape h
  have S' := S
  rcases S with ⟨k0, k1, k2, k3⟩ | ⟨k0, k1, k2, k3, k4, k5⟩ | ⟨w, hw, k1, -⟩
  · refine ⟨i + 2, by rw [k3]; rfl, k2, Nat.le_refl _, fun u a1 a2 => ?_⟩
    rcases (by omega : u = i ∨ u = i + 1) with rfl | rfl <;> omega
  · have g := gs_part 8 _ k3
    refine ⟨_, by rw [k5], k4, by have := g.1; omega, fun u a1 a2 => ?_⟩
    by_cases a3 : i + 3 ≤ u
    · exact g.2.1 u a3 a2
    · rcases (by omega : u = i ∨ u = i + 1 ∨ u = i + 2) with rfl | rfl | rfl <;> omega
  · have hk : uK T i = 4 ∨ uK T i = 5 ∨ uK T i = 7 := by omega
    obtain ⟨e, e1, e2, e3, e4, e5, e6, e7, -⟩ := sh_note hT S' hk (gp_line (n := n) hT hi).2.1
    refine ⟨e, e3, e1, e4, fun u a1 a2 => ?_⟩
    by_cases c : u = i
    · rw [c]; omega
    · exact e7 u (by omega) a2
section ZL
variable {h h' h1 h2 : jm_H} {d D m b i q k n a idx : Nat} {T : List aK4} {mu al : Nat → Int32} {s s1 : zSt} {o : Option jm_R} {R : uR} {f : Nat → uR} {kk : jm_H → Option jm_R} {mk : Int} {NL : List zNl}
theorem z_line (Y : zHy m b T) (hz : zls T i = i) (hs : s.1 = 0) (hm : s.2.1 = -1) (hos : s.2.2.1.length ≤ i) (hX : ∀ j, i ≤ j → s.2.2.2.2.1 j = 0) (hn : s.2.2.2.1 = NL.length) (hnn : NL.length ≤ i) (HN : zRn h b NL) (H : zRd h m b T i s) : zLq (jm_D (d + 82) mX13_isLine [.ref m, .ref b] h) h m b T i s NL (uLine T n i) := by
  have hl := zRd_lt H
  refine zLq_of (fun r => gX13_isLine) ?_
  rw [zbR_0 (zRd_bR H), Option.bind_some, H.2.1, Option.bind_some, zRd_kind H hl.1, Option.bind_some]
  have nn : ∀ k, k < 39 → uK T i ≠ k → ¬ Int32.ofNat (zki (uK T i)) = Int32.ofNat (zki k) := fun k hk c z => c ((zki_eq (Y.2.2.2 i) hk).mp z)
  have L := fun k => z_lineN (h := h) (s := s) (NL := NL) (d := d) (n := n) (i := i) Y hz k
  by_cases c0 : uK T i = 0
  · rw [if_pos (show Int32.ofNat (zki (uK T i)) = 0 by rw [c0]; rfl)]
    have := z_lineA (d := d + 79) (n := n) Y hz c0 hs hm hX hn HN H
    rw [H.2.1, Option.bind_some] at this
    exact this
  rw [if_neg (show ¬ Int32.ofNat (zki (uK T i)) = 0 from nn 0 (by omega) c0)]
  by_cases c1 : uK T i = 1
  · rw [if_pos (show Int32.ofNat (zki (uK T i)) = 1 by rw [c1]; rfl)]
    have := z_lineP (d := d + 60) (n := n) Y hz c1 hs hX hn HN H
    rw [H.2.1, Option.bind_some] at this
    exact this
  rw [if_neg (show ¬ Int32.ofNat (zki (uK T i)) = 1 from nn 1 (by omega) c1)]
  by_cases c4 : uK T i = 4
  · rw [if_pos (show Int32.ofNat (zki (uK T i)) = 4 by rw [c4]; rfl)]
    have := L (Or.inl c4) hs hm hos hX hn hnn HN H
    rw [c4] at this ⊢
    exact this
  rw [if_neg (show ¬ Int32.ofNat (zki (uK T i)) = 4 from nn 4 (by omega) c4)]
  by_cases c5 : uK T i = 5
  · rw [if_pos (show Int32.ofNat (zki (uK T i)) = 5 by rw [c5]; rfl)]
    have := L (Or.inr (Or.inl c5)) hs hm hos hX hn hnn HN H
    rw [c5] at this ⊢
    exact this
  rw [if_neg (show ¬ Int32.ofNat (zki (uK T i)) = 5 from nn 5 (by omega) c5)]
  by_cases c7 : uK T i = 7
  · rw [if_pos (show Int32.ofNat (zki (uK T i)) = 7 by rw [c7]; rfl)]
    have := L (Or.inr (Or.inr c7)) hs hm hos hX hn hnn HN H
    rw [c7] at this ⊢
    exact this
  rw [if_neg (show ¬ Int32.ofNat (zki (uK T i)) = 7 from nn 7 (by omega) c7)]
  have eu : uLine T n i = uf i := by
    unfold uLine
    rw [if_neg c0, if_neg c1, if_neg c4, if_neg c5, if_neg c7]
  rw [eu]
  exact zLq_F (R := uf i) H zS_rf rfl
/-- what a book leaves -/
def zBx (T : List aK4) (f n i : Nat) (s s' : zSt) (NL NL' : List zNl) : Prop :=
  uK T (uBk T f n i).2.1 = 37 ∧ i ≤ (uBk T f n i).2.1 ∧ s'.2.2.2.1 = NL'.length ∧ s'.2.2.1 = s.2.2.1 ++ zbo T f n i ∧ NL' = NL ++ zbn T f n i s.2.2.1.length ∧ (∀ j, s'.2.2.2.2.1 j = if i ≤ j ∧ j < (uBk T f n i).2.1 then zme T j else s.2.2.2.2.1 j) ∧ (∀ j, uK T j = 35 → s'.2.2.2.2.2.1 j = if i ≤ j ∧ j < (uBk T f n i).2.1 then zar T j else s.2.2.2.2.2.1 j) ∧ (∀ j, uK T j ≠ 8 → s'.2.2.2.2.2.2 j = um s.2.2.2.2.2.2 (uBk T f n i).2.2.2 j)
theorem z_isBook (Y : zHy m b T) : ∀ (f n i : Nat) (s : zSt) (NL : List zNl) (h : jm_H), (401 ≤ f + i ∨ f = 400 ∧ i = 0) → i ≤ 400 → zls T i = i → s.1 = 0 → s.2.1 = -1 → s.2.2.1.length ≤ i → (∀ j, i ≤ j → s.2.2.2.2.1 j = 0) → s.2.2.2.1 = NL.length → NL.length ≤ i → zRn h b NL → zRd h m b T i s → jE (kX13_isBook_0 (d + 82) m b h) fun v h' => v = .inl (some (.int (if (uBk T f n i).1 = true then 1 else 0))) ∧ zS m (zLU b) zRF h h' ∧ ∃ s', zRd h' m b T (uBk T f n i).2.1 s' ∧ ((uBk T f n i).1 = true → ∃ NL', zRn h' b NL' ∧ zBx T f n i s s' NL NL') := by
  intro f
  induction f with
  | zero => intro n i s NL h hf hi; omega
  | succ f ih =>
    intro n i s NL h hf hi hz hs hm hos hX hn hnn HN H
    have hl := zRd_lt H
    refine jE_of (fun r => gX13_isBook_0) ?_
    rw [zbR_0 (zRd_bR H), Option.bind_some, H.2.1, Option.bind_some, zRd_kind H hl.1, Option.bind_some]
    by_cases c : uK T i = 37
    · have e : uBk T (f + 1) n i = ug i := by unfold uBk; rw [if_pos c]
      have e1 : zbo T (f + 1) n i = [] := by unfold zbo; rw [if_pos c]
      have e2 : zbn T (f + 1) n i s.2.2.1.length = [] := by unfold zbn; rw [if_pos c]
      rw [if_pos (show Int32.ofNat (zki (uK T i)) = 33 by rw [c]; rfl)]
      refine jE_end ⟨by rw [e]; rfl, zS_rf, s, by rw [e]; exact H, fun _ => ⟨NL, HN, ?_⟩⟩
      unfold zBx
      rw [e, e1, e2, List.append_nil, List.append_nil]
      exact ⟨c, Nat.le_refl _, hn, rfl, rfl, fun j => (if_neg (fun z => by have : j < i := z.2; omega)).symm, fun j _ => (if_neg (fun z => by have : j < i := z.2; omega)).symm, fun j _ => rfl⟩
    · rw [if_neg (show ¬ Int32.ofNat (zki (uK T i)) = 33 from fun z => c ((zki_eq (Y.2.2.2 i) (show 37 < 39 by omega)).mp z)), jm_O_eq (zRd_ob H)]
      obtain ⟨v, h1, e1, rfl, F1, s1, X1, n1⟩ := z_line (d := d) (n := n) Y hz hs hm hos hX hn hnn HN H
      have e : uBk T (f + 1) n i = ub (uLine T n i) (uBk T f (n + (cF (uLine T n i).2.2.1).length)) := by
        conv => lhs; unfold uBk
        rw [if_neg c]
      have e3 : zbo T (f + 1) n i = zop (uLine T n i).2.2.1 ++ zbo T f (n + (cF (uLine T n i).2.2.1).length) (uLine T n i).2.1 := by
        conv => lhs; unfold zbo
        rw [if_neg c]
      have e4 : zbn T (f + 1) n i s.2.2.1.length = (if uK T i = 0 ∨ uK T i = 1 then [] else [(uK T i, i + 1, i + 3, s.2.2.1.length, s.2.2.1.length + (zop (uLine T n i).2.2.1).length)]) ++ zbn T f (n + (cF (uLine T n i).2.2.1).length) (uLine T n i).2.1 (s.2.2.1.length + (zop (uLine T n i).2.2.1).length) := by
        conv => lhs; unfold zbn
        rw [if_neg c]
      rw [e1, jc_I_eq]
      by_cases cR : (uLine T n i).1 = true
      · rw [if_pos cR, if_neg (by decide)]
        have gl := gp_line (n := n) Y.2.2.1 hi
        obtain ⟨NL1, HN1, q0, q1, q2, q3, q4, q5, q6, q7⟩ := n1 cR
        obtain ⟨w, w1, w2, w3, w4⟩ := line_e Y.2.2.1 hi cR
        have go := gp_os gl cR
        have lz := zop_l (ops := (uLine T n i).2.2.1)
        have l1 : s1.2.2.1.length = s.2.2.1.length + (zop (uLine T n i).2.2.1).length := by rw [q3, List.length_append]
        have lN : NL1.length ≤ (uLine T n i).2.1 := by
          rw [q7, w1]
          split
          · omega
          · rw [List.length_append, List.length_singleton]; omega
        obtain ⟨v, h2, e2, rfl, F2, s2, X2, n2⟩ := ih (n + (cF (uLine T n i).2.2.1).length) (uLine T n i).2.1 s1 NL1 h1 (by rw [w1]; omega) gl.2.1 (by rw [w1]; exact zls_24 w2) q1 q2 (by omega) (fun j hj => by rw [q4 j, if_neg (by omega)]; exact hX j (by omega)) q0 lN HN1 X1
        rw [e2, e, ub_T cR]
        refine jE_end ⟨rfl, zS_tr F1 F2, s2, X2, fun z => ?_⟩
        obtain ⟨NL2, HN2, p1, p2, p3, p4, p5, p6, p7, p8⟩ := n2 z
        refine ⟨NL2, HN2, ?_⟩
        unfold zBx
        rw [e, ub_T cR, e3, e4]
        refine ⟨p1, by show i ≤ (uBk T f _ _).2.1; omega, p3, ?_, ?_, fun j => ?_, fun j k35 => ?_, fun j hj => ?_⟩
        · rw [p4, q3, List.append_assoc]
        · rw [p5, q7, l1]
          split
          · rfl
          · rw [List.append_assoc]
        · rw [p6 j, q4 j]
          by_cases a1 : (uLine T n i).2.1 ≤ j ∧ j < (uBk T f (n + (cF (uLine T n i).2.2.1).length) (uLine T n i).2.1).2.1
          · rw [if_pos a1, if_pos ⟨by omega, a1.2⟩]
          · rw [if_neg a1]
            by_cases a2 : i ≤ j ∧ j < (uLine T n i).2.1
            · rw [if_pos a2, if_pos ⟨a2.1, by show j < (uBk T f _ _).2.1; omega⟩]
            · rw [if_neg a2, if_neg (fun a3 => by have a4 : j < (uBk T f (n + (cF (uLine T n i).2.2.1).length) (uLine T n i).2.1).2.1 := a3.2; omega)]
        · rw [p7 j k35, q5 j k35]
          by_cases a1 : (uLine T n i).2.1 ≤ j ∧ j < (uBk T f (n + (cF (uLine T n i).2.2.1).length) (uLine T n i).2.1).2.1
          · rw [if_pos a1, if_pos ⟨by omega, a1.2⟩]
          · rw [if_neg a1]
            by_cases a2 : i ≤ j ∧ j < (uLine T n i).2.1
            · rw [if_pos a2, if_pos ⟨a2.1, by show j < (uBk T f _ _).2.1; omega⟩]
            · rw [if_neg a2, if_neg (fun a3 => by have a4 : j < (uBk T f (n + (cF (uLine T n i).2.2.1).length) (uLine T n i).2.1).2.1 := a3.2; omega)]
        · rw [p8 j hj]
          show _ = um _ (_ ++ _) j
          rw [um_app]
          exact um_cg (q6 j hj)
      · rw [if_neg cR, if_pos rfl, e, ub_F cR]
        exact jE_end ⟨by rw [if_neg cR], F1, s1, X1, fun z => absurd z cR⟩
end ZL
