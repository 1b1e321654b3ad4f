/-! ===== LEVEL 3: Text ===== -/
/-- a Text with what has been written and what is to come (the top first) -/
def eC (h : jm_H) (x : Nat) (out st : List Nat) (BG : Nat → Int32) : Prop :=
  ∃ LT TC, oC h x 8 [.int (Int32.ofNat out.length), .ref (x + 1), .ref (x + 2), .ref (x + 3), .int (Int32.ofNat st.length)] ∧ aC h (x + 1) 2 2550 LT ∧ aC h (x + 2) 0 150 BG ∧ aC h (x + 3) 4 300 TC ∧ (∀ i, i < out.length → LT i = Int32.ofNat (out.getD i 0)) ∧ ∀ i, i < st.length → TC i = Int32.ofNat (st.getD (st.length - 1 - i) 0)
section EC
variable {h h' : jm_H} {x p d : Nat} {out st : List Nat} {BG : Nat → Int32} {S : Nat → Prop} {l : List Int} {sc : Nat × (Nat → Int32)}
theorem eC_tr (H : eC h x out st BG) (F : jS S h h') (D : ∀ y, S y → jn x 4 y → False) : eC h' x out st BG := by
  obtain ⟨LT, TC, a1, a2, a3, a4, a5, a6⟩ := H
  exact ⟨LT, TC, oC_tr a1 F fun z => D _ z (by unfold jn; omega), aC_tr a2 F fun z => D _ z (by unfold jn; omega), aC_tr a3 F fun z => D _ z (by unfold jn; omega), aC_tr a4 F fun z => D _ z (by unfold jn; omega), a5, a6⟩
theorem eC_ob (H : eC h x out st BG) : jm_ob h x 8 = true := by
  obtain ⟨LT, TC, a1, -⟩ := H
  exact oC_ob a1 rfl
theorem eC_n (H : eC h x out st BG) : jr_I h x 8 0 0 = some (Int32.ofNat out.length) := by
  obtain ⟨LT, TC, a1, -⟩ := H
  exact oC_I a1 rfl
theorem e_byte : ∀ b : Nat, b < 128 → vp_nar (jm_ty 2) (Int8.toInt32 (Int32.toInt8 (Int32.ofNat b))) = Int32.ofNat b := by decide +kernel
theorem e_char : ∀ b : Nat, b < 128 → vp_nar (jm_ty 4) (Int32.ofNat b) = Int32.ofNat b := by decide +kernel
theorem ls_at {l : List Nat} {b i : Nat} (hi : i < l.length) : (l ++ [b]).getD i 0 = l.getD i 0 := by
  simp [List.getElem?_append_left hi]
theorem ls_last {l : List Nat} {b : Nat} : (l ++ [b]).getD l.length 0 = b := by simp
theorem e_put {b : Nat} (hb : b < 128) (ho : out.length < 2550) (H : eC h x out st BG) : jF (jm_D (d + 1) mX8_put [.ref x, .int (Int32.ofNat b)] h) (.inl none) fun h' => jS (jn x 4) h h' ∧ eC h' x (out ++ [b]) st BG := by
  obtain ⟨LT, TC, a1, a2, a3, a4, a5, a6⟩ := H
  refine jE_of (fun r => gX8_put) ?_
  obtain ⟨h1, e1, F1, H1⟩ := aC_w (i := out.length) (x := Int8.toInt32 (Int32.toInt8 (Int32.ofNat b))) a2 ho (by omega)
  rw [e_byte b hb] at H1
  have b1 := oC_tr a1 F1 (by unfold jn; omega)
  obtain ⟨h2, e2, F2, H2⟩ := oC_w (k := 0) (t := 0) (v := .int (Int32.ofNat (out.length + 1))) b1 (by simp) rfl
  simp only [oC_I a1 (k := 0) rfl, oC_R a1 (k := 1) rfl, aC_len a2, Option.bind_some, e1, oC_I b1 (k := 0) rfl, jw_add1, e2]
  rw [if_neg (by rw [jw_neg (by omega)]; exact id), if_pos (by rw [jw_lt (by omega) (by omega)]; omega)]
  refine jF_end ⟨jS_tr (jS_1 F1 (by omega)) (jS_1 F2 (by omega)), upd LT out.length (Int32.ofNat b), TC, ?_, aC_tr H1 F2 (by unfold jn; omega), aC_tr (aC_tr a3 F1 (by unfold jn; omega)) F2 (by unfold jn; omega), aC_tr (aC_tr a4 F1 (by unfold jn; omega)) F2 (by unfold jn; omega), fun i hi => ?_, a6⟩
  · rw [List.length_append]
    exact H2
  · rw [List.length_append] at hi
    by_cases e : i = out.length
    · subst e
      rw [ls_last]
      exact if_pos rfl
    · have : i < out.length := by simp at hi; omega
      rw [ls_at this]
      exact (if_neg e).trans (a5 i this)
theorem e_later {b : Nat} (hb : b < 128) (ho : st.length < 300) (H : eC h x out st BG) : jF (jm_D (d + 1) mX8_putLater [.ref x, .int (Int32.ofNat b)] h) (.inl none) fun h' => jS (jn x 4) h h' ∧ eC h' x out (b :: st) BG := by
  obtain ⟨LT, TC, a1, a2, a3, a4, a5, a6⟩ := H
  refine jE_of (fun r => gX8_putLater) ?_
  obtain ⟨h1, e1, F1, H1⟩ := aC_w (i := st.length) (x := Int32.ofNat b) a4 ho (by omega)
  rw [e_char b hb] at H1
  have b1 := oC_tr a1 F1 (by unfold jn; omega)
  obtain ⟨h2, e2, F2, H2⟩ := oC_w (k := 4) (t := 0) (v := .int (Int32.ofNat (st.length + 1))) b1 (by simp) rfl
  simp only [oC_I a1 (k := 4) rfl, oC_R a1 (k := 3) rfl, aC_len a4, Option.bind_some, e1, oC_I b1 (k := 4) rfl, jw_add1, e2]
  rw [if_neg (by rw [jw_neg (by omega)]; exact id), if_pos (by rw [jw_lt (by omega) (by omega)]; omega)]
  refine jF_end ⟨jS_tr (jS_1 F1 (by omega)) (jS_1 F2 (by omega)), LT, upd TC st.length (Int32.ofNat b), H2, aC_tr (aC_tr a2 F1 (by unfold jn; omega)) F2 (by unfold jn; omega), aC_tr (aC_tr a3 F1 (by unfold jn; omega)) F2 (by unfold jn; omega), aC_tr H1 F2 (by unfold jn; omega), a5, fun i hi => ?_⟩
  rw [List.length_cons] at hi ⊢
  by_cases e : i = st.length
  · subst e
    rw [show st.length + 1 - 1 - st.length = 0 by omega]
    exact if_pos rfl
  · have h1 : i < st.length := by omega
    rw [show st.length + 1 - 1 - i = (st.length - 1 - i) + 1 by omega]
    exact (if_neg e).trans (a6 i h1)
theorem e_putAll_loop {k : Nat} (hk : k < 34) : ∀ (f i : Nat) (out : List Nat) (h : jm_H), i + f = (kB k).length → out.length + f < 2550 → kO h sc → 128 ≤ x → eC h x out st BG →
    jF (kX8_putAll_2 (d + 4) x k (Int32.ofNat i) h) (.inl none) fun h' => jS (jn x 4) h h' ∧ eC h' x (out ++ ((kB k).drop i).map fun b => b.toInt.toNat) st BG := by
  have hl := (kB_len k hk).2.2.1
  intro f
  induction f with
  | zero =>
    intro i out h hi ho hK hx H
    refine jE_of (fun r => gX8_putAll_2) ?_
    simp only [jm_O_eq (kO_ob hK hk), j_length hK hk, jc_I_eq]
    rw [if_neg (by rw [jw_lt (by omega) (by omega)]; omega)]
    refine jF_end ⟨jS_rf, ?_⟩
    rw [List.drop_eq_nil_of_le (by omega)]
    simpa using H
  | succ f ih =>
    intro i out h hi ho hK hx H
    have hil : i < (kB k).length := by omega
    obtain ⟨b, b1, b2, b3⟩ := kB_at hk hil
    refine jE_of (fun r => gX8_putAll_2) ?_
    simp only [jm_O_eq (kO_ob hK hk), j_length hK hk, jc_I_eq]
    rw [if_pos (by rw [jw_lt (by omega) (by omega)]; omega)]
    simp only [j_charAt hK hk hil, jc_I_eq, jm_O_eq (eC_ob H), b3, jw_add1]
    refine jE_V (e_put b1 (by omega) H) ?_
    rintro h1 ⟨F1, H1⟩
    refine jF_mono (ih (i + 1) _ h1 (by omega) (by simp; omega) (kO_tr hK F1 fun y z => by unfold jn at z; omega) hx H1) fun h2 ⟨F2, q⟩ => ⟨jS_tr F1 F2, ?_⟩
    have e : (kB k).drop i = (kB k).getD i 0 :: (kB k).drop (i + 1) := by
      rw [List.drop_eq_getElem_cons hil, List.getD_eq_getElem?_getD, List.getElem?_eq_getElem hil]
      rfl
    rw [e, List.map_cons, b3, jw_i (by omega)]
    simpa using q
theorem e_mask (hK : kO h sc) (ho : out.length + 5 < 2550) (hx : 128 ≤ x) (H : eC h x out st BG) : jF (jm_D (d + 5) mX8_putAll [.ref x, .ref 3] h) (.inl none) fun h' => jS (jn x 4) h h' ∧ eC h' x (out ++ [109, 97, 115, 107, 32]) st BG := by
  have := e_putAll_loop (d := d) (k := 3) (by omega) (kB 3).length 0 out h (by omega) (by rw [kB_3]; simp; omega) hK hx H
  rw [List.drop_zero, kB_3] at this
  exact jE_of (fun r => gX8_putAll) this
/-- the letters of a name, from a place on -/
def letk (n : Nat) : Nat → List Nat
  | 0 => []
  | k + 1 => (if n / 37 ^ k % 37 = 0 then [] else [lt (n / 37 ^ k % 37)]) ++ letk n k
theorem letk_z {n : Nat} : ∀ k, n < 37 ^ k → ∀ j, k ≤ j → letk n j = letk n k
  | k, h, 0, hj => by
    have : k = 0 := by omega
    subst this; rfl
  | k, h, j + 1, hj => by
    by_cases e : k = j + 1
    · rw [e]
    · have ih := letk_z k h j (by omega)
      have hp : 37 ^ k ≤ 37 ^ j := Nat.pow_le_pow_right (by omega) (by omega)
      show (if n / 37 ^ j % 37 = 0 then [] else [lt (n / 37 ^ j % 37)]) ++ letk n j = _
      rw [Nat.div_eq_of_lt (by omega), if_pos rfl, ih]
      rfl
theorem letk_s {n : Nat} (h0 : n % 37 ≠ 0) : ∀ k, letk n (k + 1) = letk (n / 37) k ++ [lt (n % 37)]
  | 0 => by
    show (if n / 37 ^ 0 % 37 = 0 then [] else [lt (n / 37 ^ 0 % 37)]) ++ [] = [] ++ [lt (n % 37)]
    rw [Nat.pow_zero, Nat.div_one, if_neg h0]
    rfl
  | k + 1 => by
    have ih := letk_s h0 k
    show (if n / 37 ^ (k + 1) % 37 = 0 then [] else [lt (n / 37 ^ (k + 1) % 37)]) ++ letk n (k + 1) = ((if n / 37 / 37 ^ k % 37 = 0 then [] else [lt (n / 37 / 37 ^ k % 37)]) ++ letk (n / 37) k) ++ [lt (n % 37)]
    rw [ih, Nat.div_div_eq_div_mul, Nat.mul_comm 37, ← Nat.pow_succ, List.append_assoc]
theorem vW_d {n : Nat} (h : vW n) : vW (n / 37) := by
  refine ⟨by have := h.1; omega, fun k hk => ?_⟩
  have := h.2 (k + 1) (by rw [Nat.pow_succ]; have := Nat.mul_le_of_le_div 37 (37 ^ k) n hk; omega)
  rw [Nat.pow_succ, Nat.mul_comm, ← Nat.div_div_eq_div_mul] at this
  exact this
theorem letk_lets (k : Nat) : ∀ n : Nat, vW n → n < 37 ^ k → letk n k = lets n := by
  induction k with
  | zero =>
    intro n hv hn
    have : n = 0 := by simpa using hn
    subst this
    rw [lets_0]
    rfl
  | succ k ih =>
    intro n hv hn
    by_cases q : n = 0
    · subst q
      rw [lets_0, letk_z 0 (by simp) (k + 1) (by omega)]
      rfl
    · have h0 := hv.2 0 (by simp; omega)
      rw [Nat.pow_zero, Nat.div_one] at h0
      rw [letk_s h0, lets_s q, ih (n / 37) (vW_d hv) (by rw [Nat.pow_succ] at hn; exact Nat.div_lt_of_lt_mul (by omega))]
      try rfl
theorem lt_128 {c : Nat} (h : c < 37) : lt c < 128 ∧ 0 < lt c := by unfold lt; split <;> omega
theorem e_putName_loop {n : Nat} (hn : n < q10) : ∀ (k : Nat) (o4 : Option Value) (out : List Nat) (h : jm_H), k ≤ 10 → out.length + k < 2550 → eC h x out st BG →
    jF (kX8_putName_3 (d + 1) x (nm n) (Int32.ofInt (6 * (k : Int) - 6)) o4 h) (.inl none) fun h' => jS (jn x 4) h h' ∧ eC h' x (out ++ letk n k) st BG := by
  intro k
  induction k with
  | zero =>
    intro o4 out h hk ho H
    refine jE_of (fun r => gX8_putName_3) ?_
    rw [if_pos (by rw [jw_zneg (by omega) (by omega)]; omega)]
    refine jF_end ⟨jS_rf, ?_⟩
    simpa [letk] using H
  | succ k ih =>
    intro o4 out h hk ho H
    refine jE_of (fun r => gX8_putName_3) ?_
    rw [show (6 * ((k + 1 : Nat) : Int) - 6) = ((6 * k : Nat) : Int) by omega, jw_in, if_neg (by rw [jw_neg (by omega)]; exact id), w_signAt hn (by omega), jc_I_eq]
    have e6 : Int32.ofNat (6 * k) + (-6) = Int32.ofInt (6 * (k : Int) - 6) := by
      rw [← jw_in, show (-6 : Int32) = Int32.ofInt (-6) from rfl, ← Int32.ofInt_add, show ((6 * k : Nat) : Int) + (-6) = 6 * (k : Int) - 6 by omega]
    rw [e6]
    have hd : n / 37 ^ k % 37 < 37 := by omega
    have el : letk n (k + 1) = (if n / 37 ^ k % 37 = 0 then [] else [lt (n / 37 ^ k % 37)]) ++ letk n k := rfl
    generalize n / 37 ^ k % 37 = c at hd el
    by_cases q : c = 0
    · rw [if_pos q] at el
      rw [if_pos q, if_pos (show Int32.ofNat 0 = 0 from rfl), el, List.nil_append]
      exact ih _ out h (by omega) (by omega) H
    · rw [if_neg q] at el
      have hc := lt_128 hd
      rw [if_neg q, if_neg (by rw [show (0 : Int32) = Int32.ofNat 0 from rfl, jw_eq (by omega) (by omega)]; omega), jm_O_eq (eC_ob H)]
      refine jE_V (e_put hc.1 (by omega) H) ?_
      rintro h1 ⟨F1, H1⟩
      refine jF_mono (ih _ _ h1 (by omega) (by simp; omega) H1) fun h2 ⟨F2, q⟩ => ⟨jS_tr F1 F2, ?_⟩
      rw [el]
      simpa using q
theorem e_putName {n : Nat} (hv : vW n) (ho : out.length + 10 < 2550) (H : eC h x out st BG) : jF (jm_D (d + 2) mX8_putName [.ref x, .long (nm n)] h) (.inl none) fun h' => jS (jn x 4) h h' ∧ eC h' x (out ++ lets n) st BG := by
  have := e_putName_loop (d := d) (n := n) hv.1 10 none out h (by omega) (by omega) H
  rw [letk_lets 10 n hv (by have e : 37 ^ 10 = q10 := by decide
                            rw [e]; exact hv.1)] at this
  exact jE_of (fun r => gX8_putName) this
theorem e_comes_loop : ∀ (st out : List Nat) (o1 : Option Value) (h : jm_H), st.length ≤ 300 → out.length + st.length < 2550 → (∀ c ∈ st, c < 128) → eC h x out st BG →
    jF (kX8_putWhatComes_0 (d + 1) x o1 h) (.inl none) fun h' => jS (jn x 4) h h' ∧ eC h' x (out ++ (tp st).1) (tp st).2 BG := by
  intro st
  induction st with
  | nil =>
    intro out o1 h hs ho hc H
    obtain ⟨LT, TC, a1, a2, a3, a4, a5, a6⟩ := id H
    refine jE_of (fun r => gX8_putWhatComes_0) ?_
    simp only [oC_I a1 (k := 4) rfl, Option.bind_some]
    rw [if_neg (by decide)]
    refine jF_end ⟨jS_rf, ?_⟩
    simpa [tp] using H
  | cons c st ih =>
    intro out o1 h hs ho hc H
    rw [List.length_cons] at hs ho
    obtain ⟨LT, TC, a1, a2, a3, a4, a5, a6⟩ := H
    refine jE_of (fun r => gX8_putWhatComes_0) ?_
    have e0 : jr_I h x 8 4 0 = some (Int32.ofNat (st.length + 1)) := oC_I a1 rfl
    simp only [e0, oC_R a1 (k := 3) rfl, aC_len a4, Option.bind_some, jw_sub1]
    obtain ⟨h1, e1, F1, H1⟩ := oC_w (k := 4) (t := 0) (v := .int (Int32.ofNat st.length)) a1 (by simp) rfl
    have b4 := aC_tr a4 F1 (by unfold jn; omega)
    have e4 : jr_I h1 x 8 4 0 = some (Int32.ofNat st.length) := oC_I H1 rfl
    have e3 : jr_R h1 x 8 3 2 = some (x + 3) := oC_R H1 rfl
    simp only [e1, Option.bind_some, e3, e4, aC_at b4 (show st.length < 300 by omega) (by omega)]
    rw [if_pos (by rw [jw_0lt (by omega)]; omega), if_neg (by rw [jw_lt (by omega) (by omega)]; omega)]
    have ec : TC st.length = Int32.ofNat c := by
      have := a6 st.length (by simp)
      simpa using this
    have Hn : eC h1 x out st BG := ⟨LT, TC, H1, aC_tr a2 F1 (by unfold jn; omega), aC_tr a3 F1 (by unfold jn; omega), b4, a5, fun i hi => by
      have := a6 i (by simp; omega)
      rw [this, List.length_cons, show st.length + 1 - 1 - i = (st.length - 1 - i) + 1 by omega]
      rfl⟩
    have hc1 := hc c List.mem_cons_self
    rw [ec]
    simp only [jm_O_eq (eC_ob Hn)]
    refine jE_V (e_put hc1 (by omega) Hn) ?_
    rintro h2 ⟨F2, H2⟩
    have e32 : (Int32.ofNat c = 32) ↔ c = 32 := by rw [show (32 : Int32) = Int32.ofNat 32 from rfl, jw_eq (by omega) (by omega)]
    unfold tp
    by_cases q : c = 32
    · rw [if_pos (e32.mpr q), if_pos q]
      subst q
      exact jF_end ⟨jS_tr (jS_1 F1 (by omega)) F2, H2⟩
    · rw [if_neg (mt e32.mp q), if_neg q]
      refine jF_mono (ih _ _ h2 (by omega) (by simp; omega) (fun b hb => hc b (List.mem_cons_of_mem _ hb)) H2) fun h3 ⟨F3, q⟩ => ⟨jS_tr (jS_1 F1 (by omega)) (jS_tr F2 F3), ?_⟩
      simpa using q
theorem e_comes (hs : st.length ≤ 300) (ho : out.length + st.length < 2550) (hc : ∀ c ∈ st, c < 128) (H : eC h x out st BG) : jF (jm_D (d + 2) mX8_putWhatComes [.ref x] h) (.inl none) fun h' => jS (jn x 4) h h' ∧ eC h' x (out ++ (tp st).1) (tp st).2 BG :=
  jE_of (fun r => gX8_putWhatComes) (e_comes_loop st out none h hs ho hc H)
end EC
/-! ===== LEVEL 3: Text, the whole of it ===== -/
section EC
variable {h h' : jm_H} {x p d : Nat} {out st : List Nat} {BG : Nat → Int32} {S : Nat → Prop} {l : List Int} {sc : Nat × (Nat → Int32)}
theorem ky_c0 : ky 0 = 2 := rfl
theorem e_write_loop (hP : ry_P l) (hg : gW l) (hx : 128 ≤ x) (hd : p + 5 ≤ x ∨ x + 4 ≤ p) : ∀ (f i : Nat) (o3 : Option Value) (BG : Nat → Int32) (h : jm_H), i + f = l.length → kO h sc → pU h p l → eC h x (tx l i).1 (tx l i).2 BG → (∀ j, j < i → BG j = Int32.ofNat (tx l j).1.length) →
    jF (kX8_write_12 (d + 5) x p (Int32.ofNat i) o3 h) (.inl none) fun h' => jS (jn x 4) h h' ∧ ∃ BG', eC h' x (tx l l.length).1 (tx l l.length).2 BG' ∧ ∀ j, j < l.length → BG' j = Int32.ofNat (tx l j).1.length := by
  have dis : ∀ y, jn x 4 y → jn p 5 y → False := fun y z1 z2 => by unfold jn at z1 z2; omega
  have k8 : ∀ y, jn x 4 y → 128 ≤ y := fun y z => by unfold jn at z; omega
  intro f
  induction f with
  | zero =>
    intro i o3 BG h hi hK Hp H hB
    have hn := pU_len Hp
    refine jE_of (fun r => gX8_write_12) ?_
    simp only [pU_n Hp, Option.bind_some]
    rw [if_neg (by rw [jw_lt (by omega) (by omega)]; omega)]
    have : i = l.length := by omega
    subst this
    exact jF_end ⟨jS_rf, BG, H, hB⟩
  | succ f ih =>
    intro i o3 BG h hi hK Hp H hB
    have hn := pU_len Hp
    have hil : i < l.length := by omega
    have hlen := tx_len (l := l) i
    have hle := txs_le hg i
    have hst := tx_st_le (l := l) i
    have hlt := (tx_lt (l := l) i).2
    have etx : tx l (i + 1) = tel (l.getD i 0) (tx l i) := rfl
    have hvi := hg i
    refine jE_of (fun r => gX8_write_12) ?_
    simp only [pU_n Hp, Option.bind_some]
    rw [if_pos (by rw [jw_lt (by omega) (by omega)]; omega)]
    obtain ⟨LT, TC, a1, a2, a3, a4, a5, a6⟩ := H
    obtain ⟨h1, e1, F1, H1⟩ := aC_w (i := i) (x := Int32.ofNat (tx l i).1.length) a3 (by omega) (by omega)
    rw [nar0] at H1
    simp only [oC_R a1 (k := 2) rfl, aC_len a3, Option.bind_some, oC_I a1 (k := 0) rfl, e1]
    rw [if_pos (by rw [jw_lt (by omega) (by omega)]; omega)]
    have Hn : eC h1 x (tx l i).1 (tx l i).2 (upd BG i (Int32.ofNat (tx l i).1.length)) := ⟨LT, TC, oC_tr a1 F1 (by unfold jn; omega), aC_tr a2 F1 (by unfold jn; omega), H1, aC_tr a4 F1 (by unfold jn; omega), a5, a6⟩
    have F1' : jS (jn x 4) h h1 := jS_1 F1 (by omega)
    have Hp1 := pU_tr Hp F1' dis
    have hK1 := kO_tr hK F1' k8
    have hB1 : ∀ j, j < i + 1 → (upd BG i (Int32.ofNat (tx l i).1.length)) j = Int32.ofNat (tx l j).1.length := fun j hj => by
      by_cases e : j = i
      · subst e; exact if_pos rfl
      · exact (if_neg e).trans (hB j (by omega))
    generalize upd BG i (Int32.ofNat (tx l i).1.length) = BG1 at Hn hB1
    have ih1 := fun o3 h' => ih (i + 1) o3 BG1 h'
    rw [etx] at ih1
    generalize tx l i = q at *
    obtain ⟨out, st⟩ := q
    simp only [] at *
    simp only [jm_O_eq (pU_ob Hp1), pU_kindAt Hp1 hil, jc_I_eq]
    rcases Int.lt_trichotomy (l.getD i 0) 0 with c | c | c
    · have hnx := ry_next hP hil (by omega)
      rw [if_neg (mt ky_2.mp (by omega)), if_pos (ky_1.mpr c), jm_O_eq (eC_ob Hn)]
      have et : tel (l.getD i 0) (out, st) = (out ++ [109, 97, 115, 107, 32] ++ lets (l.getD i 0).natAbs ++ [40], 41 :: st) := by unfold tel; rw [if_neg (by omega), if_pos c]
      rw [et] at ih1
      have hll := lets_len 10 (l.getD i 0).natAbs (by have e : 4808584372417849 = 37 ^ 10 := by decide
                                                      have := hvi.1; omega)
      refine jE_V (e_mask hK1 (by omega) hx Hn) ?_
      rintro h2 ⟨F2, H2⟩
      have Hp2 := pU_tr Hp1 F2 dis
      have en : nm (l.getD i 0) = nm ((l.getD i 0).natAbs : Int) := by unfold nm; simp
      simp only [jm_O_eq (pU_ob Hp2), pU_nameAt Hp2 hil, jc_L_eq, jm_O_eq (eC_ob H2), en]
      refine jE_V (e_putName (d := d + 3) hvi (by simp only [List.length_append, List.length_cons, List.length_nil]; omega) H2) ?_
      rintro h3 ⟨F3, H3⟩
      simp only [jm_O_eq (eC_ob H3), show (40 : Int32) = Int32.ofNat 40 from rfl, show (41 : Int32) = Int32.ofNat 41 from rfl]
      refine jE_V (e_put (d := d + 4) (by omega) (by simp only [List.length_append, List.length_cons, List.length_nil]; omega) H3) ?_
      rintro h4 ⟨F4, H4⟩
      simp only [jm_O_eq (eC_ob H4)]
      refine jE_V (e_later (d := d + 4) (by omega) (by omega) H4) ?_
      rintro h5 ⟨F5, H5⟩
      have F25 := jS_tr F2 (jS_tr F3 (jS_tr F4 F5))
      rw [jw_add1]
      exact jF_mono (ih1 _ h5 (by omega) (kO_tr hK1 F25 k8) (pU_tr Hp1 F25 dis) H5 hB1) fun h6 ⟨F6, q⟩ => ⟨jS_tr F1' (jS_tr F25 F6), q⟩
    · rw [if_pos (ky_2.mpr c), jm_O_eq (eC_ob Hn)]
      have et : tel (l.getD i 0) (out, st) = (out ++ [91], 32 :: 93 :: st) := by unfold tel; rw [if_pos c]
      rw [et] at ih1
      simp only [show (91 : Int32) = Int32.ofNat 91 from rfl, show (93 : Int32) = Int32.ofNat 93 from rfl, show (32 : Int32) = Int32.ofNat 32 from rfl]
      refine jE_V (e_put (d := d + 4) (by omega) (by omega) Hn) ?_
      rintro h2 ⟨F2, H2⟩
      simp only [jm_O_eq (eC_ob H2)]
      refine jE_V (e_later (d := d + 4) (by omega) (by omega) H2) ?_
      rintro h3 ⟨F3, H3⟩
      simp only [jm_O_eq (eC_ob H3)]
      refine jE_V (e_later (d := d + 4) (by omega) (by simp only [List.length_append, List.length_cons, List.length_nil]; omega) H3) ?_
      rintro h4 ⟨F4, H4⟩
      have F24 := jS_tr F2 (jS_tr F3 F4)
      rw [jw_add1]
      exact jF_mono (ih1 _ h4 (by omega) (kO_tr hK1 F24 k8) (pU_tr Hp1 F24 dis) H4 hB1) fun h6 ⟨F6, q⟩ => ⟨jS_tr F1' (jS_tr F24 F6), q⟩
    · rw [if_neg (mt ky_2.mp (by omega)), if_neg (mt ky_1.mp (by omega))]
      have et : tel (l.getD i 0) (out, st) = (out ++ lets (l.getD i 0).natAbs ++ (tp st).1, (tp st).2) := by unfold tel; rw [if_neg (by omega), if_neg (by omega)]
      rw [et] at ih1
      have hll := lets_len 10 (l.getD i 0).natAbs (by have e : 4808584372417849 = 37 ^ 10 := by decide
                                                      have := hvi.1; omega)
      have en : nm (l.getD i 0) = nm ((l.getD i 0).natAbs : Int) := by unfold nm; simp
      simp only [pU_nameAt Hp1 hil, jc_L_eq, jm_O_eq (eC_ob Hn), en]
      refine jE_V (e_putName (d := d + 3) hvi (by omega) Hn) ?_
      rintro h2 ⟨F2, H2⟩
      simp only [jm_O_eq (eC_ob H2)]
      refine jE_V (e_comes (d := d + 3) (by omega) (by simp only [List.length_append, List.length_cons, List.length_nil]; omega) (fun c hc => by have := hlt c hc; omega) H2) ?_
      rintro h3 ⟨F3, H3⟩
      have F23 := jS_tr F2 F3
      rw [jw_add1]
      exact jF_mono (ih1 _ h3 (by omega) (kO_tr hK1 F23 k8) (pU_tr Hp1 F23 dis) H3 hB1) fun h6 ⟨F6, q⟩ => ⟨jS_tr F1' (jS_tr F23 F6), q⟩
/-- a Text, whatever it holds -/
def eI (h : jm_H) (x : Nat) : Prop := ∃ out st BG, eC h x out st BG
theorem eI_tr (H : eI h x) (F : jS S h h') (D : ∀ y, S y → jn x 4 y → False) : eI h' x := by
  obtain ⟨out, st, BG, H⟩ := H
  exact ⟨out, st, BG, eC_tr H F D⟩
theorem eI_ob (H : eI h x) : jm_ob h x 8 = true := by
  obtain ⟨out, st, BG, H⟩ := H
  exact eC_ob H
/-- a Text in which a row is written -/
def eW (h : jm_H) (x : Nat) (l : List Int) : Prop := ∃ BG, eC h x (tx l l.length).1 (tx l l.length).2 BG ∧ ∀ j, j < l.length → BG j = Int32.ofNat (tx l j).1.length
theorem eW_I (H : eW h x l) : eI h x := by
  obtain ⟨BG, H, -⟩ := H
  exact ⟨_, _, BG, H⟩
theorem eW_tr (H : eW h x l) (F : jS S h h') (D : ∀ y, S y → jn x 4 y → False) : eW h' x l := by
  obtain ⟨BG, H, hB⟩ := H
  exact ⟨BG, eC_tr H F D, hB⟩
theorem e_write (hR : gR l) (hx : 128 ≤ x) (hd : p + 5 ≤ x ∨ x + 4 ≤ p) (hK : kO h sc) (Hp : pU h p l) (H : eI h x) : jF (jm_D (d + 6) mX8_write [.ref x, .ref p] h) (.inl none) fun h' => jS (jn x 4) h h' ∧ eW h' x l := by
  obtain ⟨out, st, BG, LT, TC, a1, a2, a3, a4, a5, a6⟩ := H
  have dis : ∀ y, jn x 4 y → jn p 5 y → False := fun y z1 z2 => by unfold jn at z1 z2; omega
  have k8 : ∀ y, jn x 4 y → 128 ≤ y := fun y z => by unfold jn at z; omega
  refine jE_of (fun r => gX8_write) ?_
  obtain ⟨h1, e1, F1, H1⟩ := oC_w (k := 0) (t := 0) (v := .int (Int32.ofNat 0)) a1 (by simp) rfl
  obtain ⟨h2, e2, F2, H2⟩ := oC_w (k := 4) (t := 0) (v := .int (Int32.ofNat 0)) H1 (by simp) rfl
  rw [show (0 : Int32) = Int32.ofNat 0 from rfl]
  simp only [e1, e2, Option.bind_some]
  have F12 : jS (jn x 4) h h2 := jS_tr (jS_1 F1 (by omega)) (jS_1 F2 (by omega))
  refine jF_mono (e_write_loop hR.1 hR.2.1 hx hd l.length 0 none BG h2 (by omega) (kO_tr hK F12 k8) (pU_tr Hp F12 dis) ?_ fun j hj => by omega) fun h3 ⟨F3, BG', q⟩ => ⟨jS_tr F12 F3, BG', q⟩
  exact ⟨LT, TC, H2, aC_tr (aC_tr a2 F1 (by unfold jn; omega)) F2 (by unfold jn; omega), aC_tr (aC_tr a3 F1 (by unfold jn; omega)) F2 (by unfold jn; omega), aC_tr (aC_tr a4 F1 (by unfold jn; omega)) F2 (by unfold jn; omega), fun i hi => absurd hi (Nat.not_lt_zero _), fun i hi => absurd hi (Nat.not_lt_zero _)⟩
theorem eW_n (H : eW h x l) (hR : gR l) : jr_I h x 8 0 0 = some (Int32.ofNat (txs l l.length)) := by
  obtain ⟨BG, H, -⟩ := H
  rw [eC_n H, tx_all hR.1]
theorem e_letter {i : Nat} (H : eW h x l) (hR : gR l) (hi : i < txs l l.length) : jm_D (d + 1) mX8_letter [.ref x, .int (Int32.ofNat i)] h = some (.inl (some (.int (Int32.ofNat ((tx l l.length).1.getD i 0)))), h) := by
  have e := tx_all hR.1
  have hle := txs_le hR.2.1 l.length
  have hl := hR.2.2
  have hn := eW_n H hR
  obtain ⟨BG, ⟨LT, TC, a1, a2, a3, a4, a5, a6⟩, -⟩ := H
  apply gX8_letter
  simp only [hn, oC_R a1 (k := 1) rfl, aC_len a2, Option.bind_some, aC_at a2 (show i < 2550 by omega) (by omega), a5 i (by omega)]
  rw [if_neg (by rw [jw_neg (by omega)]; exact id), if_pos (by rw [jw_lt (by omega) (by omega)]; omega), if_pos (by rw [jw_lt (by omega) (by omega)]; omega)]
theorem e_begin {i : Nat} (H : eW h x l) (hl : l.length ≤ 150) (hi : i < l.length) : jm_D (d + 1) mX8_beginningOf [.ref x, .int (Int32.ofNat i)] h = some (.inl (some (.int (Int32.ofNat (tx l i).1.length))), h) := by
  obtain ⟨BG, ⟨LT, TC, a1, a2, a3, a4, a5, a6⟩, hB⟩ := H
  apply gX8_beginningOf
  simp only [oC_R a1 (k := 2) rfl, aC_len a3, Option.bind_some, aC_at a3 (show i < 150 by omega) (by omega), hB i hi]
  rw [if_neg (by rw [jw_neg (by omega)]; exact id), if_pos (by rw [jw_lt (by omega) (by omega)]; omega)]
end EC
