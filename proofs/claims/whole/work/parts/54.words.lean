/-! ===== LEVEL 3: strings and names ===== -/
/-- the constants are there -/
def kO (h : jm_H) (sc : Nat × (Nat → Int32)) : Prop := ∀ a, a < 128 → h.2.2 a = jm_kon sc a
theorem kO_tr {h h' : jm_H} {sc : Nat × (Nat → Int32)} {S : Nat → Prop} (H : kO h sc) (F : jS S h h') (D : ∀ x, S x → 128 ≤ x) : kO h' sc := fun a ha => (F.2.2 a fun z => by have := D a z; omega).trans (H a ha)
/-- the bytes of a text -/
def kB (k : Nat) : List Int32 := jm_tbyt.getD k []
theorem kB_0 : kB 0 = [97, 99, 116, 111, 114, 32, 112, 108, 97, 121, 32, 105, 115, 32, 109, 97, 115, 107, 32, 115, 116, 101, 112, 32, 103, 105, 118, 101, 32, 116, 111, 32, 114, 101, 110, 101, 119, 32, 119, 104, 101, 110, 32, 101, 118, 101, 110, 105, 110, 103, 32, 115, 105, 122, 101, 32, 109, 97, 115, 107, 115, 32, 115, 116, 101, 112, 115, 32, 102, 105, 110, 105, 115, 104, 101, 100, 32, 115, 97, 109, 101, 32, 110, 111, 116, 32, 97, 110, 100, 32, 111, 114, 32, 109, 105, 110, 32, 109, 97, 120] := by decide +kernel
theorem kB_1 : kB 1 = [40, 41, 91, 93, 59, 44, 43, 45, 42, 47, 60, 62, 61] := by decide +kernel
theorem kB_3 : kB 3 = [109, 97, 115, 107, 32] := by decide +kernel
theorem kB_14 : kB 14 = [109, 97, 115, 107] := by decide +kernel
theorem kB_len : ∀ k, k < 34 → jm_tlen.getD k 0 = (kB k).length ∧ 0 < (kB k).length ∧ (kB k).length < 128 ∧ (kB k).all (fun x => decide (0 < x) && decide (x < 128)) = true := by decide +kernel
section ST
variable {h : jm_H} {sc : Nat × (Nat → Int32)} {k d : Nat}
theorem kO_s (H : kO h sc) (hk : k < 34) : h.2.2 k = some (.inr (90, [.ref (40 + k), .int 0])) := by
  rw [H k (by omega)]
  unfold jm_kon
  rw [if_pos hk]
theorem kO_b (H : kO h sc) (hk : k < 34) : h.2.2 (40 + k) = some (.inl (2, (kB k).length, .inl fun j => (kB k).getD j 0)) := by
  rw [H (40 + k) (by omega)]
  unfold jm_kon
  rw [if_neg (by omega), if_pos (by omega), Nat.add_sub_cancel_left, (kB_len k hk).1]
  rfl
theorem kO_ob (H : kO h sc) (hk : k < 34) : jm_ob h k 14 = true := by
  simp [jm_ob, kO_s H hk, jm_c2i]
theorem kO_I (H : kO h sc) (hk : k < 34) : jr_I h k 90 1 0 = some 0 := by
  simp [jr_I, jm_gf, kO_s H hk, jm_tk]
theorem kO_R (H : kO h sc) (hk : k < 34) : jr_R h k 90 0 2 = some (40 + k) := by
  simp [jr_R, jm_gf, kO_s H hk, jm_tk]
theorem kO_len (H : kO h sc) (hk : k < 34) : jm_len h (40 + k) = some (kB k).length := by
  simp [jm_len, kO_b H hk]
theorem kO_at {i : Nat} (H : kO h sc) (hk : k < 34) (hi : i < (kB k).length) : jm_ali h (40 + k) 2 (Int32.ofNat i) = some ((kB k).getD i 0) := by
  have := (kB_len k hk).2.2.1
  simp [jm_ali, kO_b H hk, jw_ix hi (by omega), jw_n (show i < 2147483648 by omega)]
theorem j_length (H : kO h sc) (hk : k < 34) : jm_D (d + 2) mJ0_length_8abf5 [.ref k] h = some (.inl (some (.int (Int32.ofNat (kB k).length))), h) := by
  apply gJ0_length_8abf5
  have e : jm_D (d + 1) mJ0_coder_7d493 [.ref k] h = some (.inl (some (.int 0)), h) := by
    apply gJ0_coder_7d493
    simp only [kO_I H hk, Option.bind_some]
    rfl
  simp only [kO_R H hk, kO_len H hk, Option.bind_some, jm_O_eq (kO_ob H hk), e, jc_I_eq]
  have := (kB_len k hk).2.2.1
  rw [show Int32.ofNat (kB k).length >>> ((0 : Int32) &&& 31) = Int32.ofNat (kB k).length from ?_]
  exact Int32.shiftRight_zero
theorem j_latin1 (H : kO h sc) (hk : k < 34) : jm_D (d + 1) mJ0_isLatin1_aae02 [.ref k] h = some (.inl (some (.int 1)), h) := by
  apply gJ0_isLatin1_aae02
  simp only [kO_I H hk, Option.bind_some, if_true]
theorem j_byte : ∀ b : Nat, b < 128 → UInt32.toInt32 (Int32.toUInt32 (Int32.ofNat b &&& 255) % 65536) = Int32.ofNat b := by decide +kernel
theorem j_byte2 : ∀ b : Nat, b < 128 → narrow .char (.int (Int32.ofNat b)) = .int (Int32.ofNat b) := by decide +kernel
theorem kB_at {i : Nat} (hk : k < 34) (hi : i < (kB k).length) : ∃ b : Nat, b < 128 ∧ 0 < b ∧ (kB k).getD i 0 = Int32.ofNat b := by
  have h1 := (kB_len k hk).2.2.2
  rw [List.all_eq_true] at h1
  have h2 := h1 ((kB k).getD i 0) (by rw [List.getD_eq_getElem?_getD, List.getElem?_eq_getElem hi]; exact List.getElem_mem hi)
  rw [Bool.and_eq_true] at h2
  obtain ⟨h3, h4⟩ := h2
  have h3 := of_decide_eq_true h3
  have h4 := of_decide_eq_true h4
  generalize (kB k).getD i 0 = x at *
  rw [Int32.lt_iff_toInt_lt] at h3 h4
  have e0 : (0 : Int32).toInt = 0 := rfl
  have e1 : (128 : Int32).toInt = 128 := rfl
  rw [e0] at h3
  rw [e1] at h4
  refine ⟨x.toInt.toNat, by omega, by omega, ?_⟩
  rw [← Int32.toInt_inj, jw_i (by omega)]
  omega
theorem j_charAt {i : Nat} (H : kO h sc) (hk : k < 34) (hi : i < (kB k).length) : jm_D (d + 4) mJ0_charAt_5068e [.ref k, .int (Int32.ofNat i)] h = some (.inl (some (.int ((kB k).getD i 0))), h) := by
  have hl := (kB_len k hk).2.2.1
  have e2 : jm_D (d + 2) mJ0_checkIndex_df160 [.int (Int32.ofNat i), .int (Int32.ofNat (kB k).length)] h = some (.inl none, h) := by
    apply gJ0_checkIndex_df160
    have : jm_D (d + 1) mJ3_checkIndex_8e157 [.int (Int32.ofNat i), .int (Int32.ofNat (kB k).length), .ref 81] h = some (.inl (some (.int (Int32.ofNat i))), h) := by
      apply gJ3_checkIndex_8e157
      rw [if_neg (by rw [jw_neg (by omega)]; exact id), if_pos (by rw [jw_lt (by omega) (by omega)]; exact hi)]
    rw [this]
    rfl
  obtain ⟨b, b1, -, b2⟩ := kB_at hk hi
  have e3 : jm_D (d + 3) mJ1_charAt_3b067 [.ref (40 + k), .int (Int32.ofNat i)] h = some (.inl (some (.int ((kB k).getD i 0))), h) := by
    apply gJ1_charAt_3b067
    simp only [kO_len H hk, Option.bind_some, e2, jc_V_eq, kO_at H hk hi]
    rw [b2, j_byte b b1]
    exact if_pos (j_byte2 b b1)
  apply gJ0_charAt_5068e
  simp only [jm_O_eq (kO_ob H hk), j_latin1 H hk, jc_I_eq, kO_R H hk, Option.bind_some, e3]
  rw [if_neg (by decide), b2]
  exact if_pos (j_byte2 b b1)
/-! names as numbers -/
theorem n6_div (k : Nat) : ∀ n : Nat, n6 n / 64 ^ k = n6 (n / 37 ^ k) := by
  induction k with
  | zero => intro n; simp
  | succ k ih =>
    intro n
    rw [Nat.pow_succ, Nat.mul_comm, ← Nat.div_div_eq_div_mul, Nat.pow_succ, Nat.mul_comm (37 ^ k), ← Nat.div_div_eq_div_mul, ← ih]
    congr 1
    rw [n6_eq n]
    omega
theorem n6_mod (k n : Nat) : n6 n / 64 ^ k % 64 = n / 37 ^ k % 37 := by
  rw [n6_div, n6_eq]
  omega
theorem nat_63 (x : Nat) : x &&& 63 = x % 64 := Nat.and_two_pow_sub_one_eq_mod x 6
theorem sg_bits {m s : Nat} (hm : m < 2 ^ 60) (hs : s < 64) : (Int64.toInt32 (UInt64.toInt64 (Int64.toUInt64 (Int64.ofNat m) >>> (Int64.toUInt64 (Int32.toInt64 (Int32.ofNat s)) &&& Int64.toUInt64 63)))) &&& 63 = Int32.ofNat (m / 2 ^ s % 64) := by
  have e1 : Int64.toUInt64 (Int64.ofNat m) = UInt64.ofNat m := rfl
  have e2 : Int64.toUInt64 (Int32.toInt64 (Int32.ofNat s)) = UInt64.ofNat s := by
    rw [Int32.toInt64_ofNat' (by show (s : Int) ≤ 2147483647; omega)]; rfl
  have e3 : Int64.toUInt64 63 = UInt64.ofNat 63 := rfl
  rw [e1, e2, e3]
  apply Int32.toBitVec_inj.mp
  apply BitVec.eq_of_toNat_eq
  simp
  rw [BitVec.signExtend_eq_setWidth_of_le _ (by omega)]
  simp [nat_63, Nat.shiftRight_eq_div_pow]
  rw [Nat.mod_eq_of_lt hs, Nat.mod_eq_of_lt (show m < 18446744073709551616 by omega)]
  omega
theorem lg_bits {m c : Nat} (hm : m < 2 ^ 54) (hc : c < 64) : (Int64.ofNat m <<< (Int32.toInt64 6 &&& 63)) ||| Int32.toInt64 (Int32.ofNat c) = Int64.ofNat (64 * m + c) := by
  rw [Int32.toInt64_ofNat' (by show (c : Int) ≤ 2147483647; omega)]
  apply Int64.toBitVec_inj.mp
  apply BitVec.eq_of_toNat_eq
  simp
  rw [Nat.mod_eq_of_lt (show m < 18446744073709551616 by omega), Nat.mod_eq_of_lt (show c < 18446744073709551616 by omega), Nat.mod_eq_of_lt (show 64 * m + c < 18446744073709551616 by omega), Nat.shiftLeft_eq, Nat.mod_eq_of_lt (by omega), Nat.mul_comm m]
  exact (Nat.two_pow_add_eq_or_of_lt (i := 6) hc m).symm
/-- a letter's code as its byte, and back -/
def lt (c : Nat) : Nat := if c < 27 then 96 + c else 21 + c
def cd (b : Nat) : Nat := if 97 ≤ b then b - 96 else b - 21
/-- a letter or a digit -/
def isLD (b : Nat) : Prop := (97 ≤ b ∧ b ≤ 122) ∨ (48 ≤ b ∧ b ≤ 57)
theorem cd_lt {b : Nat} (h : isLD b) : lt (cd b) = b ∧ 0 < cd b ∧ cd b < 37 := by
  unfold isLD at h
  unfold lt cd
  split <;> split <;> omega
theorem lt_cd {c : Nat} (h0 : 0 < c) (h : c < 37) : cd (lt c) = c ∧ isLD (lt c) := by
  unfold isLD cd lt
  split <;> split <;> omega
theorem nm_sz {n k : Nat} (h : n < 37 ^ k) : n6 n < 64 ^ k := n6_lt k n h
theorem w_signAt {n k : Nat} (hn : n < q10) (hk : k < 10) : jm_D (d + 1) mX10_signAt [.long (nm n), .int (Int32.ofNat (6 * k))] h = some (.inl (some (.int (Int32.ofNat (if n / 37 ^ k % 37 = 0 then 0 else lt (n / 37 ^ k % 37))))), h) := by
  have e0 : q10 = 37 ^ 10 := by decide
  have h1 : n6 n < 2 ^ 60 := by
    have := nm_sz (n := n) (k := 10) (by rw [← e0]; exact hn)
    have e2 : (64 : Nat) ^ 10 = 2 ^ 60 := by decide
    omega
  have e1 : nm (n : Int) = Int64.ofNat (n6 n) := by unfold nm; simp
  have e3 : n6 n / 2 ^ (6 * k) % 64 = n / 37 ^ k % 37 := by
    rw [Nat.pow_mul, ← n6_mod]
  apply gX10_signAt
  rw [e1, sg_bits h1 (by omega), e3]
  have hd : n / 37 ^ k % 37 < 37 := by omega
  generalize n / 37 ^ k % 37 = c at hd
  by_cases q : c = 0
  · subst q; rfl
  · rw [if_neg (by rw [show (0 : Int32) = Int32.ofNat 0 from rfl, jw_eq (by omega) (by omega)]; exact q), if_neg q]
    rw [show (27 : Int32) = Int32.ofNat 27 from rfl, show (97 : Int32) = Int32.ofNat 97 from rfl, show (48 : Int32) = Int32.ofNat 48 from rfl, show (1 : Int32) = Int32.ofNat 1 from rfl]
    unfold lt
    by_cases q2 : c < 27
    · rw [if_pos (by rw [jw_lt (by omega) (by omega)]; exact q2), if_pos q2, jw_add, jw_sub (by omega), show 97 + c - 1 = 96 + c by omega]
    · rw [if_neg (by rw [jw_lt (by omega) (by omega)]; exact q2), if_neg q2, jw_add, jw_sub (by omega), show 48 + c - 27 = 21 + c by omega]
theorem w_longer {n b : Nat} (hn : n < 37 ^ 9) (hb : isLD b) : jm_D (d + 1) mX10_longer [.long (nm n), .int (Int32.ofNat b)] h = some (.inl (some (.long (nm ((37 * n + cd b : Nat) : Int)))), h) := by
  have h1 : n6 n < 2 ^ 54 := by
    have := nm_sz (n := n) (k := 9) hn
    have e2 : (64 : Nat) ^ 9 = 2 ^ 54 := by decide
    omega
  have e1 : nm (n : Int) = Int64.ofNat (n6 n) := by unfold nm; simp
  have hc := cd_lt hb
  have e2 : nm ((37 * n + cd b : Nat) : Int) = Int64.ofNat (64 * n6 n + cd b) := by
    have e4 : (((37 * n + cd b : Nat) : Int)).natAbs = 37 * n + cd b := Int.natAbs_natCast _
    unfold nm
    rw [e4, n6_eq (37 * n + cd b)]
    have e5 : (37 * n + cd b) / 37 = n := by omega
    have e6 : (37 * n + cd b) % 37 = cd b := by omega
    rw [e5, e6]
  have hb2 := hb
  unfold isLD at hb2
  apply gX10_longer
  rw [e1, e2, show (97 : Int32) = Int32.ofNat 97 from rfl, show (48 : Int32) = Int32.ofNat 48 from rfl, show (27 : Int32) = Int32.ofNat 27 from rfl, show (1 : Int32) = Int32.ofNat 1 from rfl]
  unfold cd at hc ⊢
  by_cases q : 97 ≤ b
  · rw [if_neg (by rw [jw_lt (by omega) (by omega)]; omega), jw_sub q, jw_add, lg_bits h1 (by omega), if_pos q, show b - 97 + 1 = b - 96 by omega]
  · rw [if_pos (by rw [jw_lt (by omega) (by omega)]; omega), jw_sub (by omega), jw_add, lg_bits h1 (by omega), if_neg q, show b - 48 + 27 = b - 21 by omega]
/-- of any word something -/
theorem w_longerAny {j : Int64} {x : Int32} : ∃ j', jm_D (d + 1) mX10_longer [.long j, .int x] h = some (.inl (some (.long j')), h) := by
  by_cases q : x < 97
  · exact ⟨_, gX10_longer (by rw [if_pos q])⟩
  · exact ⟨_, gX10_longer (by rw [if_neg q])⟩
end ST
/-! ===== LEVEL 3: z and a number ===== -/
theorem jw_div {a b : Nat} (ha : a < 2147483648) (hb : b < 2147483648) : Int32.ofNat a / Int32.ofNat b = Int32.ofNat (a / b) := by
  rw [← Int32.toInt_inj, Int32.toInt_div, jw_i ha, jw_i hb]
  have h1 : a / b ≤ a := Nat.div_le_self a b
  rw [← Int.ofNat_tdiv]
  generalize a / b = q at h1
  rw [jw_i (by omega)]
  exact Int.bmod_eq_of_le (by omega) (by omega)
theorem jw_mul {a b : Nat} : Int32.ofNat a * Int32.ofNat b = Int32.ofNat (a * b) := (Int32.ofNat_mul a b).symm
section ST
variable {h : jm_H} {d : Nat}
theorem w_z25 {n w u : Nat} {r : jm_R} (hn : n < 1000) (hu : 0 < u) (hu2 : u ≤ 100) (hw : w < 37 ^ 9) (H : kX10_zName_10 (d + 1) (Int32.ofNat n) (nm ((37 * w + (27 + n / u % 10) : Nat) : Int)) (Int32.ofNat (u / 10)) h = some r) : kX10_zName_25 (d + 1) (Int32.ofNat n) (nm (w : Int)) (Int32.ofNat u) h = some r := by
  have h1 : n / u ≤ n := Nat.div_le_self n u
  apply gX10_zName_25
  rw [if_neg (by rw [show (0 : Int32) = Int32.ofNat 0 from rfl, jw_eq (by omega) (by omega)]; omega), jw_div (by omega) (by omega), show (10 : Int32) = Int32.ofNat 10 from rfl, jw_div (by omega) (by omega), jw_div (by omega) (by omega), jw_mul, jw_sub (by omega), show (48 : Int32) = Int32.ofNat 48 from rfl, jw_add]
  have e : n / u - n / u / 10 * 10 = n / u % 10 := by omega
  have hd : isLD (48 + n / u % 10) := Or.inr ⟨by omega, by omega⟩
  have e2 : cd (48 + n / u % 10) = 27 + n / u % 10 := by unfold cd; rw [if_neg (by omega)]; omega
  rw [e, w_longer hw hd, jc_L_eq, e2]
  exact H
theorem w_z10 {n u : Nat} {j : Int64} {r : jm_R} (hn : n < 1000) (hu : 1 < u) (hu2 : u ≤ 100) (hlt : n < u) (H : kX10_zName_10 d (Int32.ofNat n) j (Int32.ofNat (u / 10)) h = some r) : kX10_zName_10 d (Int32.ofNat n) j (Int32.ofNat u) h = some r := by
  apply gX10_zName_10
  rw [show (1 : Int32) = Int32.ofNat 1 from rfl, if_neg (by rw [jw_lt (by omega) (by omega)]; omega), if_pos (by rw [jw_lt (by omega) (by omega)]; omega), if_neg (by rw [jw_eq (by omega) (by omega)]; omega), show (10 : Int32) = Int32.ofNat 10 from rfl, jw_div (by omega) (by omega)]
  exact H
theorem w_z10' {n u : Nat} {j : Int64} {r : jm_R} (hn : n < 1000) (hu : 0 < u) (hu2 : u ≤ 100) (hlt : u ≤ n ∨ u = 1) (H : kX10_zName_25 d (Int32.ofNat n) j (Int32.ofNat u) h = some r) : kX10_zName_10 d (Int32.ofNat n) j (Int32.ofNat u) h = some r := by
  apply gX10_zName_10
  rw [show (1 : Int32) = Int32.ofNat 1 from rfl, if_neg (by rw [jw_lt (by omega) (by omega)]; omega)]
  by_cases q : n < u
  · rw [if_pos (by rw [jw_lt (by omega) (by omega)]; omega), if_pos (by rw [jw_eq (by omega) (by omega)]; omega)]
    exact H
  · rw [if_neg (by rw [jw_lt (by omega) (by omega)]; omega)]
    exact H
theorem w_zEnd {n : Nat} {j : Int64} : kX10_zName_10 d (Int32.ofNat n) j (Int32.ofNat 0) h = some (.inl (some (.long j)), h) := by
  apply gX10_zName_10
  rw [if_pos (by decide)]
theorem w_zName {n : Nat} (hn : n < 151) : jm_D (d + 2) mX10_zName [.int (Int32.ofNat n)] h = some (.inl (some (.long (nm (ry_z n : Int)))), h) := by
  have p9 : (37 : Nat) ^ 9 = 129961739795077 := by decide
  apply gX10_zName
  have hz : isLD 122 := Or.inl ⟨by omega, by omega⟩
  have e1 := w_longer (d := d) (h := h) (n := 0) (b := 122) (by omega) hz
  have e2 : cd 122 = 26 := rfl
  rw [e2] at e1
  have e3 : nm ((0 : Nat) : Int) = 0 := nm_00
  rw [e3] at e1
  rw [show (122 : Int32) = Int32.ofNat 122 from rfl, e1, jc_L_eq, show (100 : Int32) = Int32.ofNat 100 from rfl]
  by_cases c1 : n < 100
  · refine w_z10 (by omega) (by omega) (by omega) c1 ?_
    by_cases c2 : n < 10
    · refine w_z10 (by omega) (by omega) (by omega) c2 (w_z10' (by omega) (by omega) (by omega) (Or.inr rfl) (w_z25 (by omega) (by omega) (by omega) (by omega) ?_))
      have e : 37 * (37 * 0 + 26) + (27 + n / (100 / 10 / 10) % 10) = ry_z n := by unfold ry_z; rw [if_pos c2]; omega
      rw [e]
      exact w_zEnd
    · refine w_z10' (by omega) (by omega) (by omega) (Or.inl (by omega)) (w_z25 (by omega) (by omega) (by omega) (by omega) (w_z10' (by omega) (by omega) (by omega) (Or.inr rfl) (w_z25 (by omega) (by omega) (by omega) (by omega) ?_)))
      have e : 37 * (37 * (37 * 0 + 26) + (27 + n / (100 / 10) % 10)) + (27 + n / (100 / 10 / 10) % 10) = ry_z n := by unfold ry_z; rw [if_neg c2, if_pos c1]; omega
      rw [e]
      exact w_zEnd
  · refine w_z10' (by omega) (by omega) (by omega) (Or.inl (by omega)) (w_z25 (by omega) (by omega) (by omega) (by omega) (w_z10' (by omega) (by omega) (by omega) (Or.inl (by omega)) (w_z25 (by omega) (by omega) (by omega) (by omega) (w_z10' (by omega) (by omega) (by omega) (Or.inr rfl) (w_z25 (by omega) (by omega) (by omega) (by omega) ?_)))))
    have e : 37 * (37 * (37 * (37 * 0 + 26) + (27 + n / 100 % 10)) + (27 + n / (100 / 10) % 10)) + (27 + n / (100 / 10 / 10) % 10) = ry_z n := by unfold ry_z; rw [if_neg (by omega), if_neg c1]; omega
    rw [e]
    exact w_zEnd
end ST
