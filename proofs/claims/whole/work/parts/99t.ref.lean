/-! ===== LEVEL 3: the reference, reading a tape ===== -/
theorem ktks_K {tp : List Nat} : (∀ j, uK (ktks tp 401 0) j < 39) ∧ 0 < (ktks tp 401 0).length ∧ (∀ j, uK (ktks tp 401 0) j = 37 → j < (ktks tp 401 0).length → (ktks tp 401 0).length = j + 1) ∧ ∀ j, uK (ktks tp 401 0) j = 35 → j < (ktks tp 401 0).length := by
  obtain ⟨g1, g2, g3, g4⟩ := ktks_g (tp := tp) 401 0 (Nat.zero_le _) (by omega)
  have out : ∀ j, (ktks tp 401 0).length ≤ j → uK (ktks tp 401 0) j = 37 := fun j hj => by
    unfold uK
    rw [List.getD_eq_getElem?_getD, List.getElem?_eq_none hj]
    rfl
  have ins : ∀ j, j < (ktks tp 401 0).length → (j + 1 < (ktks tp 401 0).length ∧ uK (ktks tp 401 0) j ≤ 36) ∨ (j + 1 = (ktks tp 401 0).length ∧ (uK (ktks tp 401 0) j = 37 ∨ uK (ktks tp 401 0) j = 38)) := fun j hj => by
    by_cases c : j + 1 < (ktks tp 401 0).length
    · exact Or.inl ⟨c, (g3 j c).1⟩
    · exact Or.inr ⟨by omega, g4 j (by omega)⟩
  refine ⟨fun j => ?_, g1, fun j hj hl => ?_, fun j hj => ?_⟩
  · by_cases c : j < (ktks tp 401 0).length
    · rcases ins j c with ⟨-, x⟩ | ⟨-, x⟩ <;> omega
    · rw [out j (by omega)]; omega
  · rcases ins j hl with ⟨-, x⟩ | ⟨x, -⟩ <;> omega
  · by_cases c : j < (ktks tp 401 0).length
    · exact c
    · have := out j (by omega)
      omega
theorem uM_out : ∀ {l : List (Nat × Nat)} {j : Nat}, (∀ m ∈ l, m.1 ≠ j) → uM l j = 0
  | [], _, _ => rfl
  | (a, b) :: l, j, h => by
    show (if a = j then b else uM l j) = 0
    rw [if_neg (h (a, b) List.mem_cons_self)]
    exact uM_out fun m hm => h m (List.mem_cons_of_mem _ hm)
theorem um_uM {l : List (Nat × Nat)} (hn : (l.map (·.1)).Nodup) (j : Nat) : um (fun _ => 0) l j = Int32.ofNat (uM l j) := by
  by_cases c : ∀ m ∈ l, m.1 ≠ j
  · rw [um_out c, uM_out c]
    rfl
  · have : ∃ m ∈ l, m.1 = j := Classical.byContradiction fun z => c fun m hm e => z ⟨m, hm, e⟩
    obtain ⟨m, hm, rfl⟩ := this
    rw [um_at hn hm, uM_at hn hm]
/-- a new book -/
def zNB (h : jm_H) (b : Nat) : Prop := oC h b 11 (zbF b 0 0 0 0) ∧ aC h (b + 1) 0 401 (fun _ => 0) ∧ aC h (b + 2) 0 401 (fun _ => 0) ∧ aC h (b + 3) 0 401 (fun _ => 0) ∧ lC h (b + 4) 401 (fun _ => 0) ∧ aC h (b + 5) 0 401 (fun _ => 0) ∧ aC h (b + 6) 0 401 (fun _ => 0) ∧ lC h (b + 7) 8 (fun _ => 0) ∧ lC h (b + 8) 12 (fun _ => 0) ∧ lC h (b + 9) 1800 (fun _ => 0) ∧ aC h (b + 10) 0 12 (fun _ => 0) ∧ aC h (b + 11) 0 16 (fun _ => 0) ∧ aC h (b + 12) 0 16 (fun _ => 0) ∧ aC h (b + 13) 0 16 (fun _ => 0) ∧ aC h (b + 14) 0 16 (fun _ => 0) ∧ aC h (b + 15) 0 16 (fun _ => 0) ∧ aC h (b + 16) 0 800 (fun _ => 0) ∧ aC h (b + 17) 0 800 (fun _ => 0) ∧ aC h (b + 18) 0 800 (fun _ => 0)
def zRW (k : Nat) : Prop := k = 5 ∨ k = 6 ∨ k = 7 ∨ k = 28 ∨ k = 29 ∨ k = 30
section ZN
variable {h h' h1 h2 : jm_H} {d D m b i q k n a e p j E c29 : Nat} {T : List aK4} {A : zA3} {nt oc : Nat} {as ps : List Nat} {W : Nat → List Int} {r : List Int} {M : Nat → Nat} {os : List aI} {NL : List zNl} {B : aB} {tp : List Nat} {sc : Nat × (Nat → Int32)} {s : zSt}
theorem gE_0 : gE T aB0 := ⟨Nat.zero_le _, Nat.zero_le _, Nat.zero_le _, fun i hi => absurd hi (Nat.not_lt_zero _), fun i hi => absurd hi (Nat.not_lt_zero _), fun p hp => absurd hp (Nat.not_lt_zero _), fun n hn => by cases hn⟩
theorem fd_nil {w : Nat} : fd [] w = -1 := rfl
/-- from a book that is read to its telling -/
theorem z_readB (hm : 128 ≤ m) (hb : b = m + 2 ∨ m + 36 ≤ b) (eT : T = ktks tp 401 0) (hU : (uBk T 400 0 0).1 = true) (hE : (uBk T 400 0 0).2.1 = E) (H : zRd h m b T E s) (hN : zRn h b NL) (X : zBx T 400 0 0 (0, -1, [], 0, (fun _ => 0), (fun _ => 0), (fun _ => 0)) s [] NL) (h29 : jr_I h m 12 29 0 = some 0)
    (l7 : lC h (b + 7) 8 (fun _ => 0)) (l8 : lC h (b + 8) 12 (fun _ => 0)) (l9 : lC h (b + 9) 1800 (fun _ => 0)) (l10 : aC h (b + 10) 0 12 (fun _ => 0)) :
    (∃ x, qBk T (uM (uBk T 400 0 0).2.2.2) 400 0 0 aB0 = .inl x ∧ ∀ o, zErr h m b T x (kX13_read_50 (d + 5) m b 0 o h)) ∨ (∃ B', qBk T (uM (uBk T 400 0 0).2.2.2) 400 0 0 aB0 = .inr B' ∧ ∀ o, ∃ h', kX13_read_50 (d + 5) m b 0 o h = some (.inl (some (.int 0)), h') ∧ zS m (jn b 19) zRW h h' ∧ zD h' b (qFi T B')) := by
  obtain ⟨hT, hNm, -⟩ := ktks_T (tp := tp)
  obtain ⟨hK, hpos, hEnd, h35⟩ := ktks_K (tp := tp)
  rw [← eT] at hT hNm hK hpos hEnd h35
  obtain ⟨x1, x2, x3, x4, x5, x6, x7, x8⟩ := X
  rw [hE] at x1 x2 x6 x7
  have hl := zRd_lt H
  have hTl := hEnd E x1 hl.1
  have gM := (gM_bk hT 400 0 0 (Nat.zero_le _) hU).2
  have hmk : ∀ x ∈ (uBk T 400 0 0).2.2.2, uM (uBk T 400 0 0).2.2.2 x.1 = x.2 := fun x hx => uM_at gM.2.1 hx
  have hq : ∀ j, uK T j = 35 → uW T j < q10 := fun j hj => (hNm j hj).1.1
  have Y : zHt m b T (s.2.2.2.2.1, s.2.2.2.2.2.1, s.2.2.2.2.2.2) E := ⟨hb, hK, by omega, hTl, fun j hj => by show s.2.2.2.2.1 j = _; rw [x6 j, if_pos ⟨Nat.zero_le _, hj⟩], fun j k hj => by show s.2.2.2.2.2.1 j = _; rw [x7 j k, if_pos ⟨Nat.zero_le _, hj⟩], hq⟩
  have hA3 : ∀ j, j < E → uK T j ≠ 8 → (s.2.2.2.2.1, s.2.2.2.2.2.1, s.2.2.2.2.2.2).2.2 j = Int32.ofNat (uM (uBk T 400 0 0).2.2.2 j) := fun j _ hj => (x8 j hj).trans (um_uM gM.2.1 j)
  have P0 : zQp [] [] (fun _ => ([] : List Int)) := by
    unfold zQp
    refine ⟨by simp, by simp, by simp, by simp, by simp, fun w z => ?_⟩
    have : (0 : Int) ≤ -1 := z
    omega
  have x4' : s.2.2.1 = zbo T 400 0 0 := x4
  have x5' : NL = zbn T 400 0 0 0 := x5
  obtain ⟨r1, r2, r3, r4, r5, r6, r7, r8, r9, r10, r11⟩ := H
  have H0 : zTe h m b T (s.2.2.2.2.1, s.2.2.2.2.2.1, s.2.2.2.2.2.2) NL.length s.2.2.1.length [] [] (fun _ => []) [] := by
    rw [x3] at r5
    exact ⟨r1, r5, r6, r7, r8, r9, ⟨_, l7, fun i hi => absurd hi (Nat.not_lt_zero _)⟩, ⟨_, l8, fun i hi => absurd hi (Nat.not_lt_zero _)⟩, ⟨_, l9, fun p hp => absurd hp (Nat.not_lt_zero _), fun i hi => absurd hi (Nat.not_lt_zero _)⟩, ⟨_, l10, fun p hp => absurd hp (Nat.not_lt_zero _)⟩⟩
  obtain ⟨L1, L2⟩ := z_tellB (d := d) hT Y hA3 400 0 0 aB0 h (Or.inr ⟨rfl, rfl⟩) (Nat.zero_le _) hU hE rfl P0 (Nat.zero_le _) hmk ⟨H0, r2, h29⟩
  rcases L1 with ⟨x, y1, y2⟩ | ⟨B', y1, h1, F1, H1, P1, g1⟩
  · exact Or.inl ⟨x, y1, y2⟩
  refine Or.inr ⟨B', y1, fun o => ?_⟩
  obtain ⟨o', g⟩ := g1 o
  have b16 := L2 B' y1
  have gE' := qBk_gE hT hNm 400 0 0 aB0 B' (Or.inr ⟨rfl, rfl⟩) (Nat.zero_le _) hU hmk y1 gE_0
  obtain ⟨z1, L, z2, z3, z4⟩ := zBN (M := uM (uBk T 400 0 0).2.2.2) hT 400 0 0 0 aB0 B' (Or.inr ⟨rfl, rfl⟩) (Nat.zero_le _) hU y1
  have z2' : B'.2.2.2 = L := z2
  rw [← x4'] at z1 z4
  rw [← x5'] at z3 z4
  rw [← z2'] at z3 z4
  have F1' : zS m (zTU b) zTG h h1 := F1
  have N1 : zNw h1 b T B'.2.1 NL 0 := by
    obtain ⟨NK, WH, TO, BG, EN, a1, a2, a3, a4, a5, a6⟩ := zRn_z hN F1' (fun c c1 c2 => ⟨by omega, by unfold zTU; omega⟩)
    refine ⟨NK, WH, TO, BG, EN, ⟨a1, a2, a3, a4, a5⟩, fun n hn => ?_⟩
    obtain ⟨p1, p2, p3, p4, p5⟩ := a6 (by omega) n hn
    rw [if_neg (Nat.not_lt_zero n), if_neg (Nat.not_lt_zero n)]
    exact ⟨p1, p2, p3, p4, p5⟩
  have O1 : zOw h1 b T B'.2.1 s.2.2.1 0 := by
    obtain ⟨o1, OR, WI, AS, o2, o3, o4, o5⟩ := r10
    refine ⟨OR, WI, AS, aC_z o2 F1' (by omega) (by unfold zTU; omega), aC_z o3 F1' (by omega) (by unfold zTU; omega), aC_z o4 F1' (by omega) (by unfold zTU; omega), fun j hj => ?_⟩
    obtain ⟨p1, p2, p3⟩ := o5 j hj
    rw [if_neg (Nat.not_lt_zero j)]
    exact ⟨p1, p3, p2⟩
  obtain ⟨v, h2, e2, rfl, F2, D2⟩ := z_settle (d := d + 3) hb hm P1 hq h35 gE' r10.1 z1 z3 z4 H1.1 N1 O1
  refine ⟨h2, g _ ?_, zS_2 F1' F2 (fun c z => by unfold zTU at z; unfold jn; omega) (fun c z => by unfold zSV at z; unfold jn; omega) (fun k z => by unfold zTG at z; unfold zRW; omega) (fun k z => z.elim), D2⟩
  apply gX13_read_50
  rw [H1.2.1, Option.bind_some, if_neg (by rw [jw_lt (by omega) (by omega)]; omega), jm_O_eq (zTe_ob H1.1), e2]
  rfl
end ZN
