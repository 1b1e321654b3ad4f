/-! ===== LEVEL 3: the reference, telling: a whole row ===== -/
def zmm (T : List aK4) (i : Nat) (R : uR) : Prop := ∀ j, i ≤ j → j < R.2.1 → uK T j = 22 → ∃ n, 2 ≤ n ∧ (j, n) ∈ R.2.2.2
theorem zmm_sc {T : List aK4} {own : Nat} {one : Nat → uR} (ho : ∀ i, (one i).1 = true → zmm T i (one i)) : ∀ f n i, 2 ≤ n + f → (uSc T own one f n i).1 = true → (∃ n', 2 ≤ n' ∧ (own, n') ∈ (uSc T own one f n i).2.2.2) ∧ zmm T i (uSc T own one f n i)
  | 0, n, i, hn, h => by
    unfold uSc at h ⊢
    obtain ⟨h1, h2, h3, h4, h5⟩ := ub_ok h
    obtain ⟨k1, k2⟩ := ut_s h2
    have k1' : uK T i = 23 := k1
    unfold zmm
    rw [h3, h5, k2]
    refine ⟨⟨n, hn, List.mem_append_left _ List.mem_cons_self⟩, fun j a1 a2 a3 => ?_⟩
    have a2 : j < i + 1 := a2
    rw [show j = i by omega] at a3
    omega
  | f + 1, n, i, hn, h => by
    unfold uSc at h ⊢
    by_cases c : n < 2 ∨ uK T i ≠ 23
    · rw [if_pos c] at h ⊢
      obtain ⟨h1, h2, h3, h4, h5⟩ := ub_ok h
      have a1 := ho i h1
      obtain ⟨⟨n', n1, n2⟩, a2⟩ := zmm_sc ho f (n + 1) _ (by omega) h2
      unfold zmm
      rw [h3, h5]
      refine ⟨⟨n', n1, List.mem_append_right _ n2⟩, fun j b1 b2 b3 => ?_⟩
      by_cases cj : j < (one i).2.1
      · obtain ⟨n'', x1, x2⟩ := a1 j b1 cj b3
        exact ⟨n'', x1, List.mem_append_left _ x2⟩
      · obtain ⟨n'', x1, x2⟩ := a2 j (by omega) b2 b3
        exact ⟨n'', x1, List.mem_append_right _ x2⟩
    · rw [if_neg c] at h ⊢
      obtain ⟨h1, h2, h3, h4, h5⟩ := ub_ok h
      obtain ⟨k1, k2⟩ := ut_s h2
      have k1' : uK T i = 23 := k1
      unfold zmm
      rw [h3, h5, k2]
      refine ⟨⟨n, by omega, List.mem_append_left _ List.mem_cons_self⟩, fun j a1 a2 a3 => ?_⟩
      have a2 : j < i + 1 := a2
      rw [show j = i by omega] at a3
      omega
theorem zmm_n {T : List aK4} {i : Nat} (h : (ut T 35 i).1 = true) : zmm T i (ut T 35 i) := by
  obtain ⟨h1, h2⟩ := ut_s h
  rw [h2]
  intro j a1 a2 a3
  have a2 : j < i + 1 := a2
  rw [show j = i by omega] at a3
  omega
theorem zmm_part {T : List aK4} : ∀ q i, (uPart T q i).1 = true → zmm T i (uPart T q i)
  | 0, i, h => by
    unfold uPart at h ⊢
    by_cases c : uK T i = 22
    · rw [if_pos c] at h
      cases h
    by_cases c3 : uK T i = 3
    · rw [if_neg c, if_pos c3] at h
      obtain ⟨h1, h2, h3⟩ := ub_s h
      cases h2
    rw [if_neg c, if_neg c3] at h ⊢
    exact zmm_n h
  | q + 1, i, h => by
    unfold uPart at h ⊢
    by_cases c : uK T i = 22
    · rw [if_pos c] at h ⊢
      obtain ⟨⟨n', n1, n2⟩, a⟩ := zmm_sc (zmm_part q) 400 0 (i + 1) (by omega) h
      intro j a1 a2 a3
      by_cases e : j = i
      · rw [e]
        exact ⟨n', n1, n2⟩
      · exact a j (by omega) a2 a3
    by_cases c3 : uK T i = 3
    · rw [if_neg c, if_pos c3] at h ⊢
      obtain ⟨h1, h2, h3, -, h5⟩ := ub_ok h
      obtain ⟨k1, e1⟩ := ut_s h1
      unfold zmm
      rw [h3, h5]
      rw [e1] at h2 ⊢
      obtain ⟨h4, h6, h7, -, h8⟩ := ub_ok h2
      obtain ⟨k2, e2⟩ := ut_s h4
      rw [h7, h8]
      rw [e2] at h6 ⊢
      obtain ⟨h9, h10, h11, -, h12⟩ := ub_ok h6
      rw [h11, h12]
      obtain ⟨k3, e3⟩ := ut_s h10
      rw [e3]
      have k1' : uK T (i + 1) = 35 := k1
      have k2' : uK T (i + 1 + 1) = 20 := k2
      have k3' : uK T (uPart T q (i + 1 + 1 + 1)).2.1 = 21 := k3
      have p := zmm_part q _ h9
      intro j a1 a2 a3
      have a2 : j < (uPart T q (i + 1 + 1 + 1)).2.1 + 1 := a2
      by_cases c4 : i + 1 + 1 + 1 ≤ j
      · by_cases c5 : j = (uPart T q (i + 1 + 1 + 1)).2.1
        · rw [c5] at a3; omega
        · obtain ⟨n', x1, x2⟩ := p j c4 (by show j < (uPart T q (i + 1 + 1 + 1)).2.1; omega) a3
          exact ⟨n', x1, List.mem_append_right _ (List.mem_append_right _ (List.mem_append_left _ x2))⟩
      · rcases (by omega : j = i ∨ j = i + 1 ∨ j = i + 1 + 1) with rfl | rfl | rfl <;> omega
    rw [if_neg c, if_neg c3] at h ⊢
    exact zmm_n h
theorem qOn_len {T : List aK4} {M : Nat → Nat} {as ps : List Nat} {W : Nat → List Int} {s s' : aQ} (h : qOn T M as ps W s = .inr s') : s.2.1.length ≤ s'.2.1.length := by
  unfold qOn at h
  split at h
  · split at h
    · cases h
    · cases h; simp
  split at h
  · cases h; exact Nat.le_refl _
  split at h
  · cases h; simp
  split at h
  · split at h
    · cases h; simp
    split at h
    · cases h; simp
    · cases h
  · cases h; exact Nat.le_refl _
theorem qGo_len {T : List aK4} {M : Nat → Nat} {as ps : List Nat} {W : Nat → List Int} : ∀ {f : Nat} {s s' : aQ}, qGo T M as ps W f s = .inr s' → s.2.1.length ≤ s'.2.1.length
  | 0, s, s', h => by cases h; exact Nat.le_refl _
  | f + 1, s, s', h => by
    unfold qGo at h
    split at h
    · cases h; exact Nat.le_refl _
    cases hq : qOn T M as ps W s with
    | inl x => rw [hq] at h; cases h
    | inr t =>
      rw [hq] at h
      exact Nat.le_trans (qOn_len hq) (qGo_len h)
section ZT
variable {h h' h1 h2 : jm_H} {d D m b i q k n a e p j E c29 : Nat} {T : List aK4} {A : zA3} {nt oc : Nat} {as ps : List Nat} {W : Nat → List Int} {r : List Int} {M : Nat → Nat} {s s' : aQ}
/-- one token: too much, or laid out -/
def zTok (h : jm_H) (d m b : Nat) (T : List aK4) (A : zA3) (nt oc : Nat) (as ps : List Nat) (W : Nat → List Int) (e p : Nat) (r r' : List Int) : Prop :=
  (150 < r'.length ∧ ∀ o, kX13_tell_16 d m b (Int32.ofNat e) (Int32.ofNat r.length) (Int32.ofNat ps.length) (Int32.ofNat p) o h = some (.inl (some (.int 0)), h)) ∨ (r'.length ≤ 150 ∧ ∃ h', zS m (fun c => c = b + 9) (fun _ => False) h h' ∧ zTe h' m b T A nt oc as ps W r' ∧ ∀ o, ∃ o', ∀ res, kX13_tell_16 d m b (Int32.ofNat e) (Int32.ofNat r'.length) (Int32.ofNat ps.length) (Int32.ofNat (p + 1)) o' h' = some res → kX13_tell_16 d m b (Int32.ofNat e) (Int32.ofNat r.length) (Int32.ofNat ps.length) (Int32.ofNat p) o h = some res)
theorem z_70 {k : Nat} {r' : List Int} (hr : r.length ≤ 150) (hk : k < 1000) (hl : r'.length = r.length + k) (hlay : r.length + k ≤ 150 → jF (jm_D (d + 3) mX13_layOut [.ref b, .int (Int32.ofNat p), .int (Int32.ofNat (150 * ps.length + r.length)), .int (Int32.ofNat k)] h) (.inl none) fun h' => zS m (fun c => c = b + 9) (fun _ => False) h h' ∧ zTe h' m b T A nt oc as ps W r')
    (g : ∀ o res, kX13_tell_70 (d + 3) m b (Int32.ofNat e) (Int32.ofNat (r.length + k)) (Int32.ofNat ps.length) (Int32.ofNat p) (Int32.ofNat r.length) h = some res → kX13_tell_16 (d + 3) m b (Int32.ofNat e) (Int32.ofNat r.length) (Int32.ofNat ps.length) (Int32.ofNat p) o h = some res) : zTok h (d + 3) m b T A nt oc as ps W e p r r' := by
  by_cases c : 150 < r.length + k
  · refine Or.inl ⟨by omega, fun o => g o _ ?_⟩
    apply gX13_tell_70
    rw [if_pos ((jw_150lt (by omega)).mpr c)]
  · obtain ⟨v, h1, e1, rfl, F1, H1⟩ := hlay (by omega)
    refine Or.inr ⟨by omega, h1, F1, H1, fun o => ⟨some (.int (Int32.ofNat r.length)), fun res hres => g o _ ?_⟩⟩
    apply gX13_tell_70
    rw [if_neg (fun z => c ((jw_150lt (by omega)).mp z)), jw_150m, jw_add, jw_sub (by omega), show r.length + k - r.length = k by omega, e1, jw_add1]
    rw [hl] at hres
    exact hres
end ZT
