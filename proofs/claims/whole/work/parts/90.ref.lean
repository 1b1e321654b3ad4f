/-! ===== LEVEL 3: the reference, single tests, all levels ===== -/
section ZG
variable {h h' h1 h2 : jm_H} {d D m b i q k : Nat} {T : List aK4} {mu al : Nat → Int32} {s s1 : zSt} {o : Option jm_R} {R : uR} {f : Nat → uR} {kk : jm_H → Option jm_R} {mk : Int}
/-- what compares -/
def uCp (T : List aK4) (S : Nat → uR) (i : Nat) : uR := ub (S i) fun a => if 30 ≤ uK T a ∧ uK T a ≤ 34 then ub (S (a + 1)) (ue (uK T a, 0, 0)) else uf a
theorem zle_cp {T : List aK4} {S : Nat → uR} (hT : gT T) (gS : ∀ a, a ≤ 400 → gp 0 a (S a)) (hi : i ≤ 400) : zle i (uCp T S i) := by
  refine zle_ub (zle_gp (gS i hi)) fun a ha => ?_
  split
  · rename_i c
    have := hT.2 a (by omega) (by omega)
    exact zle_up (zle_ub (zle_gp (gS (a + 1) (by omega))) fun a ha => zle_ue ha) (Nat.le_succ a)
  · exact ⟨ha, fun z => (by cases z)⟩
theorem z_cmp {S : Nat → uR} (Y : zHy m b T) (hS : zLv m b T mk D mX13_isSum q S) (gS : ∀ a, a ≤ 400 → gp 0 a (S a)) : zLv m b T mk (D + 1 + 1) mX13_isCompare q (uCp T S) := by
  intro d hd h i s H hs hmk hos hi4
  obtain ⟨d, rfl⟩ : ∃ e, d = e + 1 + 1 := ⟨d - 2, by omega⟩
  refine zQr_of (fun r => gX13_isCompare) ?_
  rw [jm_O_eq (zRd_ob H)]
  have g1 := gS i hi4
  have K := Y.2.2.2
  refine zQr_seq (gp_le g1) (hS (d + 1) (by omega) h i s H hs hmk hos hi4) fun h2 s2 c2 n2 H2 => ⟨(?_ : zle (S i).2.1 _).2, ?_⟩
  · split
    · rename_i c
      have := Y.2.2.1.2 (S i).2.1 (by omega) (by omega)
      exact zle_up (zle_ub (zle_gp (gS ((S i).2.1 + 1) (by omega))) fun a ha => zle_ue ha) (Nat.le_succ _)
    · exact ⟨g1.2.1, fun z => (by cases z)⟩
  have l2 : s2.2.2.1.length ≤ (S i).2.1 := by
    have := gp_os g1 c2
    rw [n2.2.2.1, List.length_append]
    omega
  have l3 := g1.2.1
  generalize (S i).2.1 = a at *
  have hl := zRd_lt H2
  have go : ∀ v, 30 ≤ uK T a ∧ uK T a ≤ 34 → zQr (kX13_isCompare_78 (d + 1) m b v none (Int32.ofNat (uK T a + 76)) h2) h2 m b T mu5 (alc mk) a s2 (if 30 ≤ uK T a ∧ uK T a ≤ 34 then ub (S (a + 1)) (ue (uK T a, 0, 0)) else uf a) := by
    intro v c
    have hn := zHy_n Y (i := a) (by omega)
    have g3 := gS (a + 1) (by omega)
    obtain ⟨h3, e3, F3, H3, hi⟩ := z_skip Y (show uK T a ≤ 36 by omega) rfl H2
    rw [if_pos c]
    refine zQr_of (fun r => gX13_isCompare_78) ?_
    rw [if_neg (show ¬ Int32.ofNat (uK T a + 76) = -1 from fun z => by
      have hh : (Int32.ofNat (uK T a + 76)).toInt = (-1 : Int32).toInt := by rw [z]
      rw [jw_i (by omega)] at hh
      rw [show (-1 : Int32).toInt = -1 from rfl] at hh
      omega)]
    simp only [H2.2.1, Option.bind_some, jw_add1, e3, jm_O_eq (zRd_ob H3)]
    refine zQr_fr F3 (zQr_sk (by omega) (zle_ub (zle_gp g3) fun a ha => zle_ue ha).2 ?_)
    refine zQr_seq (gp_le g3) (hS (d + 1) (by omega) h3 (a + 1) s2 H3 (n2.1.trans hs) (n2.2.1.trans hmk) (by omega) (by omega)) fun h4 s4 c4 n4 H4 => ⟨ue_b, ?_⟩
    rw [jm_O_eq (zRd_ob H4)]
    have ez : zo (uK T a, 0, 0) = (uK T a + 76, 0) := by
      unfold zo
      rw [if_neg (show ¬ (uK T a, 0, 0).1 = 36 by simp only []; omega), if_neg (by simp only []; omega), if_neg (by simp only []; omega), if_neg (by simp only []; omega), if_neg (by simp only []; omega), if_pos (by simp only []; omega)]
    refine z_ordE (d := d) (o := (uK T a, 0, 0)) (by rw [ez]) (by rw [zow_0 (by omega)]; rfl) (by rw [zoq_0 (by omega)]; rfl) Y ?_ H4
    have := gp_os g3 c4
    have := g3.2.1
    rw [n4.2.2.1, List.length_append]
    omega
  simp only [zbR_0 (zRd_bR H2), H2.2.1, Option.bind_some, zRd_kind H2 hl.1]
  have n : ∀ k, k < 39 → uK T a ≠ k → ¬ Int32.ofNat (zki (uK T a)) = Int32.ofNat (zki k) := fun k hk c z => c ((zki_eq (K a) hk).mp z)
  by_cases c30 : uK T a = 30
  · rw [if_pos (show Int32.ofNat (zki (uK T a)) = 60 by rw [c30]; rfl)]
    have := go (some (.int (Int32.ofNat (zki (uK T a))))) (by omega)
    rw [show Int32.ofNat (uK T a + 76) = 106 by rw [c30]; rfl] at this
    exact this
  rw [if_neg (show ¬ Int32.ofNat (zki (uK T a)) = 60 from n 30 (by omega) c30)]
  by_cases c31 : uK T a = 31
  · rw [if_pos (show Int32.ofNat (zki (uK T a)) = 62 by rw [c31]; rfl)]
    have := go (some (.int (Int32.ofNat (zki (uK T a))))) (by omega)
    rw [show Int32.ofNat (uK T a + 76) = 107 by rw [c31]; rfl] at this
    exact this
  rw [if_neg (show ¬ Int32.ofNat (zki (uK T a)) = 62 from n 31 (by omega) c31)]
  by_cases c32 : uK T a = 32
  · rw [if_pos (show Int32.ofNat (zki (uK T a)) = 61 by rw [c32]; rfl)]
    have := go (some (.int (Int32.ofNat (zki (uK T a))))) (by omega)
    rw [show Int32.ofNat (uK T a + 76) = 108 by rw [c32]; rfl] at this
    exact this
  rw [if_neg (show ¬ Int32.ofNat (zki (uK T a)) = 61 from n 32 (by omega) c32)]
  by_cases c33 : uK T a = 33
  · rw [if_pos (show Int32.ofNat (zki (uK T a)) = 316 by rw [c33]; rfl)]
    have := go (some (.int (Int32.ofNat (zki (uK T a))))) (by omega)
    rw [show Int32.ofNat (uK T a + 76) = 109 by rw [c33]; rfl] at this
    exact this
  rw [if_neg (show ¬ Int32.ofNat (zki (uK T a)) = 316 from n 33 (by omega) c33)]
  by_cases c34 : uK T a = 34
  · rw [if_pos (show Int32.ofNat (zki (uK T a)) = 318 by rw [c34]; rfl)]
    have := go (some (.int (Int32.ofNat (zki (uK T a))))) (by omega)
    rw [show Int32.ofNat (uK T a + 76) = 110 by rw [c34]; rfl] at this
    exact this
  rw [if_neg (show ¬ Int32.ofNat (zki (uK T a)) = 318 from n 34 (by omega) c34)]
  refine zQr_of (fun r => gX13_isCompare_78) ?_
  rw [if_pos rfl, if_neg (by omega)]
  exact zQr_F (R := uf a) H2 zS_rf rfl
end ZG
