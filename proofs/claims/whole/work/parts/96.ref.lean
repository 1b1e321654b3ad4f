/-! ===== LEVEL 3: the reference, notes' lines ===== -/
section ZL
variable {h h' h1 h2 : jm_H} {d D m b i q k n a : Nat} {T : List aK4} {mu al : Nat → Int32} {s s1 : zSt} {o : Option jm_R} {R : uR} {f : Nat → uR} {kk : jm_H → Option jm_R} {mk : Int} {NL : List zNl}
def zN5 (h : jm_H) (b : Nat) (NK WH TO BG EN : Nat → Int32) : Prop := aC h (b + 11) 0 16 NK ∧ aC h (b + 12) 0 16 WH ∧ aC h (b + 13) 0 16 TO ∧ aC h (b + 14) 0 16 BG ∧ aC h (b + 15) 0 16 EN
theorem zRd_y {U : Nat → Prop} (H : zRd h m b T i s) (A : zS m U (fun _ => False) h h') (hbm : b = m + 2 ∨ m + 36 ≤ b) (p : ∀ c, U c → b + 11 ≤ c ∧ c ≤ b + 15) : zRd h' m b T i s := by
  obtain ⟨a1, a2, a3, a4, a5, ⟨KD, FR, VL, k1, k2, k3, k4⟩, a7, a8, a9, ⟨o1, OR, WI, AS, o2, o3, o4, o5⟩, a10⟩ := H
  have np : ∀ j, j < 11 ∨ 16 ≤ j ∧ j ≤ 18 → ¬ U (b + j) := fun j hj z => by have := p _ z; omega
  exact ⟨zB_tr a1 A (fun k z => z.elim), (zS_I A id).trans a2, (zS_I A id).trans a3, (zS_I A id).trans a4, oC_z a5 A (by omega) (np 0 (by omega)), ⟨KD, FR, VL, aC_z k1 A (by omega) (np 1 (by omega)), aC_z k2 A (by omega) (np 2 (by omega)), lC_z k3 A (by omega) (np 4 (by omega)), k4⟩, aC_z a7 A (by omega) (np 3 (by omega)), aC_z a8 A (by omega) (np 5 (by omega)), aC_z a9 A (by omega) (np 6 (by omega)), ⟨o1, OR, WI, AS, aC_z o2 A (by omega) (np 16 (by omega)), aC_z o3 A (by omega) (np 17 (by omega)), aC_z o4 A (by omega) (np 18 (by omega)), o5⟩, a10⟩
theorem zN5_1 {NK WH TO BG EN : Nat → Int32} {idx : Nat} (x : Int32) (Y : zHy m b T) (H5 : zN5 h b NK WH TO BG EN) (hi : idx ≤ 15) (H : zRd h m b T i s) : ∃ h', jm_asi h (b + 11) 0 (Int32.ofNat idx) x = some h' ∧ zS m (zLU b) zRF h h' ∧ zN5 h' b (upd NK idx x) WH TO BG EN ∧ zRd h' m b T i s := by
  have hb := Y.2.1
  obtain ⟨a1, a2, a3, a4, a5⟩ := H5
  obtain ⟨h1, e1, F1, A1⟩ := z_asi (m := m) (x := x) a1 (by omega) (show idx < 16 by omega) (by omega)
  rw [nar0] at A1
  exact ⟨h1, e1, zS_mn F1 (fun c z => by unfold zLU; omega) (fun k z => z.elim), ⟨A1, aC_z a2 F1 (by omega) (by omega), aC_z a3 F1 (by omega) (by omega), aC_z a4 F1 (by omega) (by omega), aC_z a5 F1 (by omega) (by omega)⟩, zRd_y H F1 hb (fun c z => by omega)⟩
theorem zN5_2 {NK WH TO BG EN : Nat → Int32} {idx : Nat} (x : Int32) (Y : zHy m b T) (H5 : zN5 h b NK WH TO BG EN) (hi : idx ≤ 15) (H : zRd h m b T i s) : ∃ h', jm_asi h (b + 12) 0 (Int32.ofNat idx) x = some h' ∧ zS m (zLU b) zRF h h' ∧ zN5 h' b NK (upd WH idx x) TO BG EN ∧ zRd h' m b T i s := by
  have hb := Y.2.1
  obtain ⟨a1, a2, a3, a4, a5⟩ := H5
  obtain ⟨h1, e1, F1, A1⟩ := z_asi (m := m) (x := x) a2 (by omega) (show idx < 16 by omega) (by omega)
  rw [nar0] at A1
  exact ⟨h1, e1, zS_mn F1 (fun c z => by unfold zLU; omega) (fun k z => z.elim), ⟨aC_z a1 F1 (by omega) (by omega), A1, aC_z a3 F1 (by omega) (by omega), aC_z a4 F1 (by omega) (by omega), aC_z a5 F1 (by omega) (by omega)⟩, zRd_y H F1 hb (fun c z => by omega)⟩
theorem zN5_3 {NK WH TO BG EN : Nat → Int32} {idx : Nat} (x : Int32) (Y : zHy m b T) (H5 : zN5 h b NK WH TO BG EN) (hi : idx ≤ 15) (H : zRd h m b T i s) : ∃ h', jm_asi h (b + 13) 0 (Int32.ofNat idx) x = some h' ∧ zS m (zLU b) zRF h h' ∧ zN5 h' b NK WH (upd TO idx x) BG EN ∧ zRd h' m b T i s := by
  have hb := Y.2.1
  obtain ⟨a1, a2, a3, a4, a5⟩ := H5
  obtain ⟨h1, e1, F1, A1⟩ := z_asi (m := m) (x := x) a3 (by omega) (show idx < 16 by omega) (by omega)
  rw [nar0] at A1
  exact ⟨h1, e1, zS_mn F1 (fun c z => by unfold zLU; omega) (fun k z => z.elim), ⟨aC_z a1 F1 (by omega) (by omega), aC_z a2 F1 (by omega) (by omega), A1, aC_z a4 F1 (by omega) (by omega), aC_z a5 F1 (by omega) (by omega)⟩, zRd_y H F1 hb (fun c z => by omega)⟩
theorem zN5_4 {NK WH TO BG EN : Nat → Int32} {idx : Nat} (x : Int32) (Y : zHy m b T) (H5 : zN5 h b NK WH TO BG EN) (hi : idx ≤ 15) (H : zRd h m b T i s) : ∃ h', jm_asi h (b + 14) 0 (Int32.ofNat idx) x = some h' ∧ zS m (zLU b) zRF h h' ∧ zN5 h' b NK WH TO (upd BG idx x) EN ∧ zRd h' m b T i s := by
  have hb := Y.2.1
  obtain ⟨a1, a2, a3, a4, a5⟩ := H5
  obtain ⟨h1, e1, F1, A1⟩ := z_asi (m := m) (x := x) a4 (by omega) (show idx < 16 by omega) (by omega)
  rw [nar0] at A1
  exact ⟨h1, e1, zS_mn F1 (fun c z => by unfold zLU; omega) (fun k z => z.elim), ⟨aC_z a1 F1 (by omega) (by omega), aC_z a2 F1 (by omega) (by omega), aC_z a3 F1 (by omega) (by omega), A1, aC_z a5 F1 (by omega) (by omega)⟩, zRd_y H F1 hb (fun c z => by omega)⟩
theorem zN5_5 {NK WH TO BG EN : Nat → Int32} {idx : Nat} (x : Int32) (Y : zHy m b T) (H5 : zN5 h b NK WH TO BG EN) (hi : idx ≤ 15) (H : zRd h m b T i s) : ∃ h', jm_asi h (b + 15) 0 (Int32.ofNat idx) x = some h' ∧ zS m (zLU b) zRF h h' ∧ zN5 h' b NK WH TO BG (upd EN idx x) ∧ zRd h' m b T i s := by
  have hb := Y.2.1
  obtain ⟨a1, a2, a3, a4, a5⟩ := H5
  obtain ⟨h1, e1, F1, A1⟩ := z_asi (m := m) (x := x) a5 (by omega) (show idx < 16 by omega) (by omega)
  rw [nar0] at A1
  exact ⟨h1, e1, zS_mn F1 (fun c z => by unfold zLU; omega) (fun k z => z.elim), ⟨aC_z a1 F1 (by omega) (by omega), aC_z a2 F1 (by omega) (by omega), aC_z a3 F1 (by omega) (by omega), aC_z a4 F1 (by omega) (by omega), A1⟩, zRd_y H F1 hb (fun c z => by omega)⟩
theorem zN5_r {NK WH TO BG EN : Nat → Int32} (Y : zHy m b T) (H : zN5 h b NK WH TO BG EN) (A : zS m (zRU b) zRF h h') : zN5 h' b NK WH TO BG EN := by
  have hb := Y.2.1
  obtain ⟨a1, a2, a3, a4, a5⟩ := H
  exact ⟨aC_z a1 A (by omega) (by unfold zRU; omega), aC_z a2 A (by omega) (by unfold zRU; omega), aC_z a3 A (by omega) (by unfold zRU; omega), aC_z a4 A (by omega) (by unfold zRU; omega), aC_z a5 A (by omega) (by unfold zRU; omega)⟩
/-- a note more -/
theorem zRd_nn (j : Nat) (Y : zHy m b T) (H : zRd h m b T i s) : ∃ h', jm_pf h b 11 12 0 (.int (Int32.ofNat j)) = some h' ∧ zS m (zRU b) zRF h h' ∧ zRd h' m b T i (s.1, s.2.1, s.2.2.1, j, s.2.2.2.2) := by
  have hb := Y.2.1
  obtain ⟨a1, a2, a3, a4, a5, ⟨KD, FR, VL, k1, k2, k3, k4⟩, a7, a8, a9, ⟨o1, OR, WI, AS, o2, o3, o4, o5⟩, a10⟩ := H
  obtain ⟨h1, e1, F1, c1⟩ := z_bf (m := m) (k := 12) (t := 0) (v := .int (Int32.ofNat j)) a5 (by show 12 < 22; omega) rfl (by omega)
  exact ⟨h1, e1, zS_mn F1 (fun c z => by unfold zRU; omega) (fun k z => z.elim), zB_tr a1 F1 (fun k z => z.elim), (zS_I F1 id).trans a2, (zS_I F1 id).trans a3, (zS_I F1 id).trans a4, c1, ⟨KD, FR, VL, aC_z k1 F1 (by omega) (by omega), aC_z k2 F1 (by omega) (by omega), lC_z k3 F1 (by omega) (by omega), k4⟩, aC_z a7 F1 (by omega) (by omega), aC_z a8 F1 (by omega) (by omega), aC_z a9 F1 (by omega) (by omega), ⟨o1, OR, WI, AS, aC_z o2 F1 (by omega) (by omega), aC_z o3 F1 (by omega) (by omega), aC_z o4 F1 (by omega) (by omega), o5⟩, a10⟩
theorem zRd_I {k : Nat} {x : Int32} (H : zRd h m b T i s) (e : (zbF b 0 0 (Int32.ofNat s.2.2.2.1) (Int32.ofNat s.2.2.1.length))[k]? = some (.int x)) : jr_I h b 11 k 0 = some x := oC_I H.2.2.2.2.1 e
/-! when -/
theorem wh_n (c : uK T a ≠ 8) : (ub (uWh T n a) (ut T 24)).1 = false ∧ (ub (uWh T n a) (ut T 24)).2.1 = a := by
  have e : (uWh T n a).1 = false ∧ (uWh T n a).2.1 = a := by
    unfold uWh
    rw [ub_T rfl]
    have x : ut T 8 (true, a, ([] : List aI), [(a, n)]).2.1 = uf a := if_neg c
    rw [x, ub_F (fun z => by cases z)]
    exact ⟨rfl, rfl⟩
  rw [ub_F (by rw [e.1]; decide)]
  exact e
theorem wh_f (c : uK T a = 8) (c1 : ((uLev T 8).2.2.2 (a + 1)).1 = false) : (ub (uWh T n a) (ut T 24)).1 = false ∧ (ub (uWh T n a) (ut T 24)).2.1 = ((uLev T 8).2.2.2 (a + 1)).2.1 := by
  have e : (uWh T n a).1 = false ∧ (uWh T n a).2.1 = ((uLev T 8).2.2.2 (a + 1)).2.1 := by
    unfold uWh
    rw [ub_T rfl]
    have x : ut T 8 (true, a, ([] : List aI), [(a, n)]).2.1 = ug (a + 1) := if_pos c
    rw [x, ub_T rfl]
    show (ub ((uLev T 8).2.2.2 (a + 1)) (ue (37, 0, 0))).1 = false ∧ (ub ((uLev T 8).2.2.2 (a + 1)) (ue (37, 0, 0))).2.1 = _
    rw [ub_F (by rw [c1]; decide)]
    exact ⟨c1, rfl⟩
  rw [ub_F (by rw [e.1]; decide)]
  exact e
theorem wh_t (c : uK T a = 8) (c1 : ((uLev T 8).2.2.2 (a + 1)).1 = true) : ub (uWh T n a) (ut T 24) = ((ut T 24 ((uLev T 8).2.2.2 (a + 1)).2.1).1, (ut T 24 ((uLev T 8).2.2.2 (a + 1)).2.1).2.1, ((uLev T 8).2.2.2 (a + 1)).2.2.1 ++ [(37, 0, 0)], [(a, n)]) := by
  have e : uWh T n a = (true, ((uLev T 8).2.2.2 (a + 1)).2.1, ((uLev T 8).2.2.2 (a + 1)).2.2.1 ++ [(37, 0, 0)], [(a, n)]) := by
    unfold uWh
    rw [ub_T rfl]
    have x : ut T 8 (true, a, ([] : List aI), [(a, n)]).2.1 = ug (a + 1) := if_pos c
    rw [x, ub_T rfl, show (ug (a + 1)).2.1 = a + 1 from rfl, ub_T c1, (nm_lev 8).2.2.2 (a + 1)]
    rfl
  rw [e, ub_T rfl, ut_o, ut_n, List.append_nil, List.append_nil]
end ZL
