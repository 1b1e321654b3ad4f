/-! ===== LEVEL 3: the reference, notes' tails ===== -/
section ZL
variable {h h' h1 h2 : jm_H} {d D m b i q k n a idx : Nat} {T : List aK4} {mu al : Nat → Int32} {s s1 : zSt} {o : Option jm_R} {R : uR} {f : Nat → uR} {kk : jm_H → Option jm_R} {mk : Int} {NL : List zNl} {NK WH TO BG EN : Nat → Int32}
def zTl (o : Option jm_R) (h : jm_H) (m b : Nat) (T : List aK4) (a : Nat) (s : zSt) (NK WH TO BG EN : Nat → Int32) (idx : Nat) (R : uR) : Prop := jE o fun v h' => v = .inl (some (.int (if R.1 = true then 1 else 0))) ∧ zS m (zLU b) zRF h h' ∧ ∃ s3, zRd h' m b T R.2.1 s3 ∧ (R.1 = true → zN5 h' b NK WH TO BG (upd EN idx (Int32.ofNat s3.2.2.1.length)) ∧ zNx T a R.2.1 mu5 (alc (-1)) (zop R.2.2.1) [] s s3)
theorem zTl_F (H : zRd h' m b T R.2.1 s1) (F : zS m (zLU b) zRF h h') (c : R.1 = false) : zTl (some (.inl (some (.int 0)), h')) h m b T a s NK WH TO BG EN idx R := jE_end ⟨by rw [if_neg (by rw [c]; decide)], F, s1, H, fun z => by rw [c] at z; cases z⟩
theorem zTl_of {o' : Option jm_R} (g : ∀ r, o = some r → o' = some r) (H : zTl o h m b T a s NK WH TO BG EN idx R) : zTl o' h m b T a s NK WH TO BG EN idx R := jE_of g H
/-- the end of a note: where its orders end, and ';' -/
theorem z_end {s0 : zSt} {Ro : List aI} {Rm : List (Nat × Nat)} {kk : Int32 → jm_H → Option jm_R} (Y : zHy m b T) (hkk : ∀ x h, kk x h = some (.inl (some (.int x)), h) ∨ x ≠ 0 ∧ x ≠ 1) (hidx : idx ≤ 15) (F0 : zS m (zLU b) zRF h h1) (N0 : zNx T a i mu5 (alc (-1)) (zop Ro) [] s0 s) (ha : a ≤ i) (H5 : zN5 h1 b NK WH TO BG EN) (H : zRd h1 m b T i s) : zTl ((jr_R h1 b 11 17 2).bind fun a90 => (jr_I h1 b 11 20 0).bind fun x92 => (jm_asi h1 a90 0 (Int32.ofNat idx) x92).bind fun h94 => jm_O h94 m 13 (jc_I (jm_D (d + 1) mX13_eat [.ref m, .ref b, .int 59] h94) (fun x98 h96 => kk x98 h96) jx)) h m b T a s0 NK WH TO BG EN idx ((ut T 24 i).1, (ut T 24 i).2.1, Ro, Rm) := by
  obtain ⟨h2, e2, F2, H5', H2⟩ := zN5_5 (Int32.ofNat s.2.2.1.length) Y H5 hidx H
  rw [zRd_R (k := 17) (x := b + 15) H rfl, Option.bind_some, zRd_I (k := 20) H rfl, Option.bind_some, e2, Option.bind_some, jm_O_eq (zRd_ob H2)]
  by_cases c : uK T i = 24
  · obtain ⟨h3, e3, F3, H3⟩ := z_eatY (d := d) (k := 24) Y (by omega) c H2
    have e3' : jm_D (d + 1) mX13_eat [.ref m, .ref b, .int 59] h2 = some (.inl (some (.int 1)), h3) := e3
    have x : ut T 24 i = ug (i + 1) := if_pos c
    rw [e3', jc_I_eq, x, (hkk 1 h3).resolve_right (fun z => z.2 rfl)]
    refine jE_end ⟨rfl, zS_tr F0 (zS_tr F2 (zLU_of F3)), s, H3, fun _ => ⟨zN5_r Y H5' F3, ?_⟩⟩
    have := zNx_tr N0 (zNx_s (T := T) (i := i) (mu := mu5) (al := alc (-1)) (s := s) (by omega)) ha (Nat.le_succ _)
    rw [List.append_nil, List.append_nil] at this
    exact this
  · have e3 := z_eatN (d := d) (k := 24) Y (by omega) c H2
    have e3' : jm_D (d + 1) mX13_eat [.ref m, .ref b, .int 59] h2 = some (.inl (some (.int 0)), h2) := e3
    have x : ut T 24 i = uf i := if_neg c
    rw [e3', jc_I_eq, x, (hkk 0 h2).resolve_right (fun z => z.1 rfl)]
    exact zTl_F (R := (false, i, Ro, Rm)) H2 (zS_tr F0 F2) rfl
theorem z_136 {o2 : Option Value} (Y : zHy m b T) (hidx : idx ≤ 15) (hs : s.1 = 0) (hm : s.2.1 = -1) (hos : s.2.2.1.length ≤ a) (ha : a ≤ 400) (H5 : zN5 h b NK WH TO BG EN) (H : zRd h m b T a s) : zTl (kX13_isNote_136 (d + 80) m b o2 (Int32.ofNat idx) h) h m b T a s NK WH TO BG EN idx (ub (uWh T n a) (ut T 24)) := by
  refine zTl_of (fun r => gX13_isNote_136) ?_
  rw [jm_O_eq (zRd_ob H)]
  by_cases c : uK T a = 8
  · obtain ⟨h1, e1, F1, H1⟩ := z_eatY (d := d + 79) (k := 8) Y (by omega) c H
    have e1' : jm_D (d + 80) mX13_eat [.ref m, .ref b, .int 8] h = some (.inl (some (.int 1)), h1) := e1
    have hn := zHy_n Y (i := a) (by omega)
    rw [e1', jc_I_eq, if_neg (by decide), jm_O_eq (zRd_ob H1)]
    have g := (gp_lev Y.2.2.1 8).2.2.2 (a + 1) (by omega)
    rcases zQr_el ((z_lev (mk := -1) Y 8 (Nat.le_refl _)).2.2.2 (d + 80) (by omega) h1 (a + 1) s H1 hs hm (by omega) (by omega)) with ⟨c1, h2, s2, e2, F2, H2⟩ | ⟨c1, h2, s2, e2, F2, H2, N2⟩
    · rw [e2, jc_I_eq, if_pos rfl]
      obtain ⟨x1, x2⟩ := wh_f (n := n) c c1
      exact zTl_F (by rw [x2]; exact H2) (zLU_of (zS_tr F1 F2)) x1
    · rw [e2, jc_I_eq, if_neg (by decide), wh_t c c1]
      have N1 : zNx T a (a + 1) mu5 (alc (-1)) [] [] s s := zNx_s (by omega)
      rw [(nm_lev 8).2.2.2 (a + 1)] at N2
      have NA := zNx_tr N1 N2 (by omega) g.1
      refine z_end (d := d + 79) (kk := fun x98 h96 => jm_Y .boolean x98 (some (.inl (some (.int x98)), h96))) Y (fun x h => ?_) hidx (zLU_of (zS_tr F1 F2)) ?_ (by have := g.1; omega) (zN5_r Y H5 (zS_tr F1 F2)) H2
      · by_cases c0 : x = 0
        · exact Or.inl (by rw [c0]; rfl)
        by_cases c1 : x = 1
        · exact Or.inl (by rw [c1]; rfl)
        · exact Or.inr ⟨c0, c1⟩
      · have e : zop (((uLev T 8).2.2.2 (a + 1)).2.2.1 ++ [(37, 0, 0)]) = [] ++ ((uLev T 8).2.2.2 (a + 1)).2.2.1 := by
          unfold zop
          rw [if_neg (by simp), List.dropLast_concat, List.nil_append]
        rw [e]
        exact NA
  · have e1 := z_eatN (d := d + 79) (k := 8) Y (by omega) c H
    have e1' : jm_D (d + 80) mX13_eat [.ref m, .ref b, .int 8] h = some (.inl (some (.int 0)), h) := e1
    obtain ⟨x1, x2⟩ := wh_n (n := n) c
    rw [e1', jc_I_eq, if_pos rfl]
    exact zTl_F (by rw [x2]; exact H) zS_rf x1
end ZL
