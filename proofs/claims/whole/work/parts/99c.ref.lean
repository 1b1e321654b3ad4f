/-! ===== LEVEL 3: the reference, telling: names ===== -/
abbrev zA3 : Type := (Nat → Int32) × (Nat → Int32) × (Nat → Int32)
/-- the book while it is told; r: the row of the play that is being told -/
def zTe (h : jm_H) (m b : Nat) (T : List aK4) (A : zA3) (nt oc : Nat) (as ps : List Nat) (W : Nat → List Int) (r : List Int) : Prop :=
  zB h m ∧ oC h b 11 (zbF b (Int32.ofNat as.length) (Int32.ofNat ps.length) (Int32.ofNat nt) (Int32.ofNat oc)) ∧ (∃ KD FR VL, zTK h b T KD FR VL) ∧ aC h (b + 3) 0 401 A.1 ∧ aC h (b + 5) 0 401 A.2.1 ∧ aC h (b + 6) 0 401 A.2.2 ∧ (∃ AN, lC h (b + 7) 8 AN ∧ ∀ i, i < as.length → AN i = Int64.ofNat (as.getD i 0)) ∧ (∃ PN, lC h (b + 8) 12 PN ∧ ∀ i, i < ps.length → PN i = Int64.ofNat (ps.getD i 0)) ∧ (∃ TD, lC h (b + 9) 1800 TD ∧ (∀ p, p < ps.length → ∀ i, i < (W p).length → TD (150 * p + i) = Int64.ofInt ((W p).getD i 0)) ∧ ∀ i, i < r.length → TD (150 * ps.length + i) = Int64.ofInt (r.getD i 0)) ∧ (∃ SZ, aC h (b + 10) 0 12 SZ ∧ ∀ p, p < ps.length → SZ p = Int32.ofNat (W p).length)
/-- what goes with it -/
def zQp (as ps : List Nat) (W : Nat → List Int) : Prop := as.length ≤ 8 ∧ ps.length ≤ 12 ∧ (∀ x ∈ as, x < q10) ∧ (∀ x ∈ ps, x < q10) ∧ (∀ p, p < ps.length → (W p).length ≤ 150) ∧ ∀ w, 0 ≤ fd as w → fd ps w < 0
section ZT
variable {h h' h1 h2 : jm_H} {d D m b i q k n a e p : Nat} {T : List aK4} {A : zA3} {nt oc : Nat} {as ps : List Nat} {W : Nat → List Int} {r : List Int}
theorem fd_neg {l : List Nat} {w : Nat} (hl : l.length < 2147483648) : (Int32.ofInt (fd l w) = -1) ↔ fd l w < 0 := by
  have hb := fd_b (l := l) (x := w)
  constructor
  · intro z
    have : (Int32.ofInt (fd l w)).toInt = (-1 : Int32).toInt := by rw [z]
    rw [jw_z (by omega) (by omega)] at this
    rw [this]
    decide
  · intro z
    rw [show fd l w = -1 by omega]
    rfl
theorem mem_getD {l : List Nat} {P : Nat → Prop} (hl : ∀ x ∈ l, P x) {i : Nat} (hi : i < l.length) : P (l.getD i 0) := by
  rw [List.getD_eq_getElem?_getD, List.getElem?_eq_getElem hi]
  exact hl _ (List.getElem_mem hi)
theorem z_find_l {l : List Nat} {w n : Nat} {F : Nat → Int64} (H : lC h a n F) (hF : ∀ i, i < l.length → F i = Int64.ofNat (l.getD i 0)) (hl : l.length ≤ n) (hn : n < 2147483648) (hq : ∀ x ∈ l, x < q10) (hw : w < q10) : ∀ f i, i + f = l.length → kX13_find_3 d a (Int32.ofNat l.length) (Int64.ofNat w) (Int32.ofNat i) h = some (.inl (some (.int (Int32.ofInt (fdx l w f i)))), h) := by
  intro f
  induction f with
  | zero =>
    intro i hi
    apply gX13_find_3
    rw [if_neg (by rw [jw_lt (by omega) (by omega)]; omega)]
    rfl
  | succ f ih =>
    intro i hi
    apply gX13_find_3
    rw [if_pos (by rw [jw_lt (by omega) (by omega)]; omega), lC_at H (by omega) hn, Option.bind_some, hF i (by omega)]
    unfold fdx
    by_cases c : l.getD i 0 = w
    · rw [if_pos ((ln_eqN (mem_getD hq (by omega)) hw).mpr c), if_pos c, jw_in]
    · rw [if_neg (fun z => c ((ln_eqN (mem_getD hq (by omega)) hw).mp z)), if_neg c, jw_add1]
      exact ih (i + 1) (by omega)
theorem z_find {l : List Nat} {w n : Nat} {F : Nat → Int64} (H : lC h a n F) (hF : ∀ i, i < l.length → F i = Int64.ofNat (l.getD i 0)) (hl : l.length ≤ n) (hn : n < 2147483648) (hq : ∀ x ∈ l, x < q10) (hw : w < q10) : jm_D (d + 1) mX13_find [.ref a, .int (Int32.ofNat l.length), .long (Int64.ofNat w)] h = some (.inl (some (.int (Int32.ofInt (fd l w)))), h) := by
  apply gX13_find
  exact z_find_l H hF hl hn hq hw l.length 0 (by omega)
/-! looks -/
theorem zTe_bR (H : zTe h m b T A nt oc as ps W r) : zbR h b := ⟨_, _, _, _, H.2.1⟩
theorem zTe_R {k x : Nat} (H : zTe h m b T A nt oc as ps W r) (e : (zbF b (Int32.ofNat as.length) (Int32.ofNat ps.length) (Int32.ofNat nt) (Int32.ofNat oc))[k]? = some (.ref x)) : jr_R h b 11 k 2 = some x := oC_R H.2.1 e
theorem zTe_I {k : Nat} {x : Int32} (H : zTe h m b T A nt oc as ps W r) (e : (zbF b (Int32.ofNat as.length) (Int32.ofNat ps.length) (Int32.ofNat nt) (Int32.ofNat oc))[k]? = some (.int x)) : jr_I h b 11 k 0 = some x := oC_I H.2.1 e
theorem zTe_kind {j : Nat} (H : zTe h m b T A nt oc as ps W r) (hj : j < T.length) : jm_ali h (b + 1) 0 (Int32.ofNat j) = some (Int32.ofNat (zki (uK T j))) := by
  obtain ⟨-, -, ⟨KD, FR, VL, a1, a2, a3, a4, a5⟩, -⟩ := H
  rw [aC_at a1 (by omega) (by omega), (a5 j hj).1]
  unfold uK
  rw [gD hj (0, 0, 0, 0) (37, 0, 0, 0)]
theorem zTe_word {j : Nat} (H : zTe h m b T A nt oc as ps W r) (hj : j < T.length) (hk : uK T j = 35) : jm_all h (b + 4) (Int32.ofNat j) = some (Int64.ofNat (uW T j)) := by
  obtain ⟨-, -, ⟨KD, FR, VL, a1, a2, a3, a4, a5⟩, -⟩ := H
  unfold uK at hk
  rw [← gD hj (0, 0, 0, 0) (37, 0, 0, 0)] at hk
  rw [lC_at a3 (by omega) (by omega), (a5 j hj).2.2.2 (Or.inr hk)]
  unfold uW
  rw [gD hj (0, 0, 0, 0) (37, 0, 0, 0)]
theorem zTe_any {j : Nat} (H : zTe h m b T A nt oc as ps W r) (hj : j < 401) : ∃ y, jm_all h (b + 4) (Int32.ofNat j) = some y := by
  obtain ⟨-, -, ⟨KD, FR, VL, a1, a2, a3, a4, a5⟩, -⟩ := H
  exact ⟨_, lC_at a3 hj (by omega)⟩
theorem zTe_me {j : Nat} (H : zTe h m b T A nt oc as ps W r) (hj : j < 401) : jm_ali h (b + 3) 0 (Int32.ofNat j) = some (A.1 j) := aC_at H.2.2.2.1 hj (by omega)
theorem zTe_ar {j : Nat} (H : zTe h m b T A nt oc as ps W r) (hj : j < 401) : jm_ali h (b + 5) 0 (Int32.ofNat j) = some (A.2.1 j) := aC_at H.2.2.2.2.1 hj (by omega)
theorem zTe_pa {j : Nat} (H : zTe h m b T A nt oc as ps W r) (hj : j < 401) : jm_ali h (b + 6) 0 (Int32.ofNat j) = some (A.2.2 j) := aC_at H.2.2.2.2.2.1 hj (by omega)
theorem zTe_fa {w : Nat} (H : zTe h m b T A nt oc as ps W r) (P : zQp as ps W) (hw : w < q10) : jm_D (d + 1) mX13_find [.ref (b + 7), .int (Int32.ofNat as.length), .long (Int64.ofNat w)] h = some (.inl (some (.int (Int32.ofInt (fd as w)))), h) := by
  obtain ⟨-, -, -, -, -, -, ⟨AN, a1, a2⟩, -⟩ := H
  exact z_find a1 a2 P.1 (by omega) P.2.2.1 hw
theorem zTe_fp {w : Nat} (H : zTe h m b T A nt oc as ps W r) (P : zQp as ps W) (hw : w < q10) : jm_D (d + 1) mX13_find [.ref (b + 8), .int (Int32.ofNat ps.length), .long (Int64.ofNat w)] h = some (.inl (some (.int (Int32.ofInt (fd ps w)))), h) := by
  obtain ⟨-, -, -, -, -, -, -, ⟨PN, a1, a2⟩, -⟩ := H
  exact z_find a1 a2 P.2.1 (by omega) P.2.2.2.1 hw
theorem z_isTold {w : Nat} (H : zTe h m b T A nt oc as ps W r) (P : zQp as ps W) (hw : w < q10) : jm_D (d + 2) mX13_isTold [.ref b, .long (Int64.ofNat w)] h = some (.inl (some (.int (if qkn as ps w then 1 else 0))), h) := by
  have := P.1
  have := P.2.1
  apply gX13_isTold
  simp only [zTe_R (k := 7) (x := b + 7) H rfl, zTe_I (k := 6) H rfl, Option.bind_some, zTe_fa (d := d) H P hw, jc_I_eq, fd_neg (l := as) (w := w) (by omega), zTe_R (k := 9) (x := b + 8) H rfl, zTe_I (k := 8) H rfl, zTe_fp (d := d) H P hw, fd_neg (l := ps) (w := w) (by omega)]
  by_cases c1 : fd as w < 0
  · rw [if_pos c1]
    by_cases c2 : fd ps w < 0
    · rw [if_pos c2, if_neg (by omega)]
    · rw [if_neg c2, if_pos (by omega)]
  · rw [if_neg c1, if_pos (by omega)]
/-- masks around that hang together -/
def zch (T : List aK4) : List Nat → Prop
  | [] => True
  | t :: l => uK T t = 35 ∧ t < T.length ∧ zmk T t = l ∧ uK T (zls T t) = 1 ∧ zch T l
theorem z_worn_l {w : Nat} (H : zTe h m b T A nt oc as ps W r) (hT : T.length ≤ 401) (hi : i < T.length) (hk : uK T i = 35) (hA : ∀ j, uK T j = 35 → j < e → A.2.1 j = zar T j) (hq : ∀ j, uK T j = 35 → uW T j < q10) : ∀ l, (∀ t ∈ l, t < e) → zch T l → kX13_isWorn_7 d b (Int32.ofNat i) (Int32.ofInt (zhd l)) h = some (.inl (some (.int (if uW T i ∈ l.map (uW T) then 1 else 0))), h) := by
  intro l
  induction l with
  | nil =>
    intro _ _
    apply gX13_isWorn_7
    rw [if_pos (show Int32.ofInt (zhd []) = -1 from rfl), if_neg (by simp)]
  | cons t l ih =>
    intro he hc
    obtain ⟨c1, c2, c3, c4, c5⟩ := hc
    apply gX13_isWorn_7
    have et : Int32.ofInt (zhd (t :: l)) = Int32.ofNat t := jw_in
    rw [et, if_neg (fun z => by
      have hh : (Int32.ofNat t).toInt = (-1 : Int32).toInt := by rw [z]
      rw [jw_i (by omega)] at hh
      rw [show (-1 : Int32).toInt = -1 from rfl] at hh
      omega)]
    have hte := he t List.mem_cons_self
    simp only [zTe_R (k := 3) (x := b + 4) H rfl, Option.bind_some, zTe_word H c2 c1, zTe_word H hi hk, ln_eqN (hq t c1) (hq i hk)]
    by_cases c : uW T t = uW T i
    · rw [if_pos c, if_pos (by rw [List.map_cons, c]; exact List.mem_cons_self)]
    · rw [if_neg c, zTe_R (k := 4) (x := b + 5) H rfl, Option.bind_some, zTe_ar H (by omega), Option.bind_some, hA t c1 hte]
      have ez : zar T t = Int32.ofInt (zhd l) := by
        unfold zar
        rw [if_pos c4]
        unfold al4
        rw [c3]
      rw [ez, ih (fun t ht => he t (List.mem_cons_of_mem _ ht)) c5]
      have : (uW T i ∈ (t :: l).map (uW T)) ↔ uW T i ∈ l.map (uW T) := by
        rw [List.map_cons, List.mem_cons]
        exact ⟨fun z => z.resolve_left (fun y => c y.symm), Or.inr⟩
      simp only [this]
end ZT
