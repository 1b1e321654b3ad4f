/-! ===== LEVEL 3: the reference, telling: one token of a row ===== -/
section ZT
variable {h h' h1 h2 : jm_H} {d D m b i q k n a e p j E c29 : Nat} {T : List aK4} {A : zA3} {nt oc : Nat} {as ps : List Nat} {W : Nat → List Int} {r : List Int} {M : Nat → Nat} {s s' : aQ}
theorem z_playFor0 (H : zTe h m b T A nt oc as ps W r) (hp : p < 401) (hA : A.1 p ≠ 4) : jm_D (d + 2) mX13_playFor [.ref b, .int (Int32.ofNat p)] h = some (.inl (some (.int (-1))), h) := by
  apply gX13_playFor
  rw [zTe_R (k := 2) (x := b + 3) H rfl, Option.bind_some, zTe_me H hp, Option.bind_some, if_neg hA]
theorem z_playFor4 {l : List Nat} (H : zTe h m b T A nt oc as ps W r) (P : zQp as ps W) (hT : T.length ≤ 401) (hi : i < T.length) (hk : uK T i = 35) (hAr : ∀ j, uK T j = 35 → j < e → A.2.1 j = zar T j) (hq : ∀ j, uK T j = 35 → uW T j < q10) (hie : i < e) (hc : zch T l) (hl : ∀ t ∈ l, t < e) (hz : zar T i = Int32.ofInt (zhd l)) (hA : A.1 i = 4) : jm_D (d + 2) mX13_playFor [.ref b, .int (Int32.ofNat i)] h = some (.inl (some (.int (if uW T i ∈ l.map (uW T) then -1 else Int32.ofInt (fd ps (uW T i))))), h) := by
  apply gX13_playFor
  rw [zTe_R (k := 2) (x := b + 3) H rfl, Option.bind_some, zTe_me H (by omega), Option.bind_some, hA, if_pos rfl, z_isWorn (d := d) H hT hi hk hAr hq hie hc hl hz, jc_I_eq]
  by_cases c : uW T i ∈ l.map (uW T)
  · rw [if_pos c, if_neg (by decide), if_pos c]
  · rw [if_neg c, if_pos rfl, if_neg c]
    simp only [zTe_R (k := 9) (x := b + 8) H rfl, zTe_I (k := 8) H rfl, zTe_R (k := 3) (x := b + 4) H rfl, zTe_word H hi hk, Option.bind_some, zTe_fp (d := d) H P (hq i hk), jc_I_eq]
theorem z_size1 (H : zTe h m b T A nt oc as ps W r) (hp : jm_D (d + 2) mX13_playFor [.ref b, .int (Int32.ofNat p)] h = some (.inl (some (.int (-1))), h)) : jm_D (d + 3) mX13_sizeOfName [.ref b, .int (Int32.ofNat p)] h = some (.inl (some (.int 1)), h) := by
  apply gX13_sizeOfName
  rw [hp, jc_I_eq, if_pos rfl]
theorem ofNat_n1 {k : Nat} (hk : k < 2147483648) : ¬ Int32.ofNat k = -1 := fun z => by
  have hh : (Int32.ofNat k).toInt = (-1 : Int32).toInt := by rw [z]
  rw [jw_i hk] at hh
  rw [show (-1 : Int32).toInt = -1 from rfl] at hh
  omega
theorem z_sizeK (H : zTe h m b T A nt oc as ps W r) (P : zQp as ps W) (hk : k < ps.length) (hp : jm_D (d + 2) mX13_playFor [.ref b, .int (Int32.ofNat p)] h = some (.inl (some (.int (Int32.ofNat k))), h)) : jm_D (d + 3) mX13_sizeOfName [.ref b, .int (Int32.ofNat p)] h = some (.inl (some (.int (Int32.ofNat (W k).length))), h) := by
  have := P.2.1
  apply gX13_sizeOfName
  rw [hp, jc_I_eq, if_neg (ofNat_n1 (by omega))]
  have H' := H
  obtain ⟨-, -, -, -, -, -, -, -, -, ⟨SZ, s1, s2⟩⟩ := H'
  rw [zTe_R (k := 11) (x := b + 10) H rfl, Option.bind_some, aC_at s1 (by omega) (by omega), Option.bind_some, s2 k hk]
/-! what is laid out -/
theorem z_lay_0 {x : Int32} : jF (jm_D (d + 3) mX13_layOut [.ref b, .int (Int32.ofNat p), .int x, .int 0] h) (.inl none) fun h' => h' = h := by
  refine jE_of (fun r => gX13_layOut) ?_
  rw [if_pos rfl]
  exact jF_end rfl
theorem z_lay_1 {w : Nat} (hb : b = m + 2 ∨ m + 36 ≤ b) (P : zQp as ps W) (hps : ps.length < 12) (hr : r.length < 150) (H : zTe h m b T A nt oc as ps W r) (hpT : p < T.length) (hp4 : p < 401) (hk : uK T p = 35) (hp : jm_D (d + 2) mX13_playFor [.ref b, .int (Int32.ofNat p)] h = some (.inl (some (.int (-1))), h)) : jF (jm_D (d + 3) mX13_layOut [.ref b, .int (Int32.ofNat p), .int (Int32.ofNat (150 * ps.length + r.length)), .int 1] h) (.inl none) fun h' => zS m (fun c => c = b + 9) (fun _ => False) h h' ∧ zTe h' m b T A nt oc as ps W (r ++ [if A.1 p = 3 then -(uW T p : Int) else (uW T p : Int)]) := by
  refine jE_of (fun r => gX13_layOut) ?_
  have ek : jm_ali h (b + 1) 0 (Int32.ofNat p) = some 30 := by rw [zTe_kind H hpT, hk]; rfl
  rw [if_neg (by decide), zTe_R (k := 0) (x := b + 1) H rfl, Option.bind_some, ek, Option.bind_some, if_pos rfl, hp, jc_I_eq]
  refine jE_of (fun r => gX13_layOut_25) ?_
  rw [if_pos rfl, zTe_R (k := 0) (x := b + 1) H rfl, Option.bind_some, ek, Option.bind_some, if_pos rfl, zTe_R (k := 10) (x := b + 9) H rfl, Option.bind_some, zTe_R (k := 2) (x := b + 3) H rfl, Option.bind_some, zTe_me H hp4, Option.bind_some]
  simp only [zTe_R (k := 3) (x := b + 4) H rfl, zTe_word H hpT hk, Option.bind_some, ← ln_N]
  by_cases c : A.1 p = 3
  · obtain ⟨h1, e1, F1, H1⟩ := zTe_w (x := -(uW T p : Int)) hb P hps hr H
    rw [if_pos c, if_pos c, ln_ng, e1, Option.bind_some]
    exact jF_end ⟨F1, H1⟩
  · obtain ⟨h1, e1, F1, H1⟩ := zTe_w (x := (uW T p : Int)) hb P hps hr H
    rw [if_neg c, if_neg c, e1, Option.bind_some]
    exact jF_end ⟨F1, H1⟩
theorem z_lay_k (hb : b = m + 2 ∨ m + 36 ≤ b) (P : zQp as ps W) (hps : ps.length < 12) (hk1 : k < ps.length) (hr : r.length + (W k).length ≤ 150) (H : zTe h m b T A nt oc as ps W r) (hpT : p < T.length) (hk : uK T p = 35) (hp : jm_D (d + 2) mX13_playFor [.ref b, .int (Int32.ofNat p)] h = some (.inl (some (.int (Int32.ofNat k))), h)) : jF (jm_D (d + 3) mX13_layOut [.ref b, .int (Int32.ofNat p), .int (Int32.ofNat (150 * ps.length + r.length)), .int (Int32.ofNat (W k).length)] h) (.inl none) fun h' => zS m (fun c => c = b + 9) (fun _ => False) h h' ∧ zTe h' m b T A nt oc as ps W (r ++ W k) := by
  refine jE_of (fun r => gX13_layOut) ?_
  have ek : jm_ali h (b + 1) 0 (Int32.ofNat p) = some 30 := by rw [zTe_kind H hpT, hk]; rfl
  by_cases c0 : (W k).length = 0
  · rw [c0, if_pos (show Int32.ofNat 0 = 0 from rfl)]
    have e0 : W k = [] := List.length_eq_zero_iff.mp c0
    rw [e0, List.append_nil]
    exact jF_end ⟨zS_rf, H⟩
  rw [if_neg (show ¬ Int32.ofNat (W k).length = 0 from fun z => c0 ((jw_eq (by omega) (show 0 < 2147483648 by omega)).mp z)), zTe_R (k := 0) (x := b + 1) H rfl, Option.bind_some, ek, Option.bind_some, if_pos rfl, hp, jc_I_eq]
  refine jE_of (fun r => gX13_layOut_25) ?_
  obtain ⟨h1, e1, F1, H1⟩ := zTe_c hb P hps hk1 hr H
  rw [if_neg (ofNat_n1 (by omega)), zTe_R (k := 10) (x := b + 9) H rfl, Option.bind_some, Option.bind_some, jw_150m, e1, Option.bind_some]
  exact jF_end ⟨F1, H1⟩
theorem z_lay_z {z : Nat} (hb : b = m + 2 ∨ m + 36 ≤ b) (P : zQp as ps W) (hps : ps.length < 12) (hz : 0 < z) (hr : r.length + z ≤ 150) (H : zTe h m b T A nt oc as ps W r) (hpT : p < T.length) (hK : ∀ j, uK T j < 39) (hk : uK T p ≠ 35) : jF (jm_D (d + 3) mX13_layOut [.ref b, .int (Int32.ofNat p), .int (Int32.ofNat (150 * ps.length + r.length)), .int (Int32.ofNat z)] h) (.inl none) fun h' => zS m (fun c => c = b + 9) (fun _ => False) h h' ∧ zTe h' m b T A nt oc as ps W (r ++ List.replicate z 0) := by
  refine jE_of (fun r => gX13_layOut) ?_
  have nk : ¬ Int32.ofNat (zki (uK T p)) = 30 := fun y => hk ((zki_eq (hK p) (show 35 < 39 by omega)).mp y)
  rw [if_neg (show ¬ Int32.ofNat z = 0 from fun y => by have := (jw_eq (by omega) (show 0 < 2147483648 by omega)).mp y; omega), zTe_R (k := 0) (x := b + 1) H rfl, Option.bind_some, zTe_kind H hpT, Option.bind_some, if_neg nk]
  refine jE_of (fun r => gX13_layOut_25) ?_
  rw [if_pos rfl, zTe_R (k := 0) (x := b + 1) H rfl, Option.bind_some, zTe_kind H hpT, Option.bind_some, if_neg nk]
  exact z_lay0 hb P hps (z := z) (r0 := r) hr z 0 h _ (by omega) (by rw [List.replicate_zero, List.append_nil]; exact H)
end ZT
