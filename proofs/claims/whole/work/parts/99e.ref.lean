/-! ===== LEVEL 3: the reference, telling: errors ===== -/
/-- what telling writes -/
def zTU (b c : Nat) : Prop := c = b ∨ c = b + 7 ∨ c = b + 8 ∨ c = b + 9 ∨ c = b + 10
def zTF (k : Nat) : Prop := k = 3 ∨ k = 28 ∨ k = 29 ∨ k = 30
section ZT
variable {h h' h1 h2 : jm_H} {d D m b i q k n a e p j E c29 : Nat} {T : List aK4} {A : zA3} {nt oc : Nat} {as ps : List Nat} {W : Nat → List Int} {r : List Int}
def zTf (h : jm_H) (m b : Nat) (T : List aK4) (A : zA3) (nt oc : Nat) (as ps : List Nat) (W : Nat → List Int) (r : List Int) (E c29 : Nat) : Prop := zTe h m b T A nt oc as ps W r ∧ jr_I h m 12 5 0 = some (Int32.ofNat E) ∧ jr_I h m 12 29 0 = some (Int32.ofNat c29)
/-- an error, and its place -/
def zErr (h : jm_H) (m b : Nat) (T : List aK4) (x : Nat × Nat) (o : Option jm_R) : Prop := ∃ h', o = some (.inl (some (.int (Int32.ofNat x.1))), h') ∧ zS m (zTU b) zTF h h' ∧ jr_I h' m 12 3 0 = some (Int32.ofNat (T.getD x.2 (0, 0, 0, 0)).2.1) ∧ x.2 < T.length ∧ 0 < x.1 ∧ x.1 < 6
theorem zTe_ob (H : zTe h m b T A nt oc as ps W r) : jm_ob h m 13 = true := zB_ob H.1
theorem z_e0 (H : zTe h m b T A nt oc as ps W r) (hj : j < 401) (hA : A.1 j = 0) : jm_D (d + 1) mX13_errorOf [.ref m, .ref b, .int (Int32.ofNat j)] h = some (.inl (some (.int 0)), h) := by
  obtain ⟨y, ey⟩ := zTe_any H hj
  apply gX13_errorOf
  rw [zTe_R (k := 3) (x := b + 4) H rfl, Option.bind_some, ey, Option.bind_some, zTe_R (k := 2) (x := b + 3) H rfl, Option.bind_some, zTe_me H hj, Option.bind_some, hA]
  rw [if_neg (by decide), if_neg (by decide), if_neg (by decide), if_neg (by decide), if_neg (by decide), if_neg (by decide), if_neg (by decide)]
theorem z_e3 (H : zTe h m b T A nt oc as ps W r) (P : zQp as ps W) (hj : j < T.length) (hj4 : j < 401) (hk : uK T j = 35) (hw : uW T j < q10) (hA : A.1 j = 3) : jm_D (d + 3) mX13_errorOf [.ref m, .ref b, .int (Int32.ofNat j)] h = some (.inl (some (.int (Int32.ofNat (if qkn as ps (uW T j) then 2 else 0)))), h) := by
  apply gX13_errorOf
  rw [zTe_R (k := 3) (x := b + 4) H rfl, Option.bind_some, zTe_word H hj hk, Option.bind_some, zTe_R (k := 2) (x := b + 3) H rfl, Option.bind_some, zTe_me H hj4, Option.bind_some, hA]
  rw [if_neg (by decide), if_neg (by decide), if_pos rfl, z_isTold H P hw, jc_I_eq]
  by_cases c : qkn as ps (uW T j)
  · rw [if_pos c, if_neg (by decide), if_pos c]
    rfl
  · rw [if_neg c, if_pos rfl, if_neg c]
    rfl
theorem z_isWorn {l : List Nat} (H : zTe h m b T A nt oc as ps W r) (hT : T.length ≤ 401) (hi : i < T.length) (hk : uK T i = 35) (hA : ∀ j, uK T j = 35 → j < e → A.2.1 j = zar T j) (hq : ∀ j, uK T j = 35 → uW T j < q10) (hie : i < e) (hc : zch T l) (hl : ∀ t ∈ l, t < e) (hz : zar T i = Int32.ofInt (zhd l)) : jm_D (d + 1) mX13_isWorn [.ref b, .int (Int32.ofNat i)] h = some (.inl (some (.int (if uW T i ∈ l.map (uW T) then 1 else 0))), h) := by
  apply gX13_isWorn
  rw [zTe_R (k := 4) (x := b + 5) H rfl, Option.bind_some, zTe_ar H (by omega), Option.bind_some, hA i hk hie, hz]
  exact z_worn_l (w := 0) H hT hi hk hA hq l hl hc
theorem z_e4 {l : List Nat} (H : zTe h m b T A nt oc as ps W r) (P : zQp as ps W) (hT : T.length ≤ 401) (hi : i < T.length) (hk : uK T i = 35) (hAr : ∀ j, uK T j = 35 → j < e → A.2.1 j = zar T j) (hq : ∀ j, uK T j = 35 → uW T j < q10) (hie : i < e) (hc : zch T l) (hl : ∀ t ∈ l, t < e) (hz : zar T i = Int32.ofInt (zhd l)) (hA : A.1 i = 4) : jm_D (d + 3) mX13_errorOf [.ref m, .ref b, .int (Int32.ofNat i)] h = some (.inl (some (.int (Int32.ofNat (if uW T i ∈ l.map (uW T) ∨ qkn as ps (uW T i) then 0 else 3)))), h) := by
  apply gX13_errorOf
  rw [zTe_R (k := 3) (x := b + 4) H rfl, Option.bind_some, zTe_word H hi hk, Option.bind_some, zTe_R (k := 2) (x := b + 3) H rfl, Option.bind_some, zTe_me H (by omega), Option.bind_some, hA]
  rw [if_neg (by decide), if_neg (by decide), if_neg (by decide), if_pos rfl, z_isWorn (d := d + 1) H hT hi hk hAr hq hie hc hl hz, jc_I_eq]
  by_cases c : uW T i ∈ l.map (uW T)
  · rw [if_pos c, if_neg (by decide), if_pos (Or.inl c)]
    rfl
  · rw [if_neg c, if_pos rfl, z_isTold H P (hq i hk), jc_I_eq]
    by_cases c2 : qkn as ps (uW T i)
    · rw [if_pos c2, if_neg (by decide), if_pos (Or.inr c2)]
      rfl
    · rw [if_neg c2, if_pos rfl, if_neg (fun z => z.elim c c2)]
      rfl
theorem z_e5 (H : zTe h m b T A nt oc as ps W r) (P : zQp as ps W) (hj : j < T.length) (hj4 : j < 401) (hk : uK T j = 35) (hw : uW T j < q10) (hA : A.1 j = 5) : jm_D (d + 3) mX13_errorOf [.ref m, .ref b, .int (Int32.ofNat j)] h = some (.inl (some (.int (Int32.ofNat (if fd ps (uW T j) < 0 then 3 else 0)))), h) := by
  have := P.2.1
  apply gX13_errorOf
  rw [zTe_R (k := 3) (x := b + 4) H rfl, Option.bind_some, zTe_word H hj hk, Option.bind_some, zTe_R (k := 2) (x := b + 3) H rfl, Option.bind_some, zTe_me H hj4, Option.bind_some, hA]
  rw [if_neg (by decide), if_neg (by decide), if_neg (by decide), if_neg (by decide), if_pos rfl]
  simp only [zTe_R (k := 9) (x := b + 8) H rfl, zTe_I (k := 8) H rfl, Option.bind_some, zTe_fp (d := d + 1) H P hw, jc_I_eq, fd_neg (l := ps) (w := uW T j) (by omega)]
  by_cases c : fd ps (uW T j) < 0
  · rw [if_pos c, if_pos c]
    rfl
  · rw [if_neg c, if_neg c]
    rfl
/-- on to the next token -/
theorem z_go {o : Option Value} (hm : jm_ob h m 13 = true) (he : jr_I h m 12 5 0 = some (Int32.ofNat E)) (hE : E < 401) (hp : p < E) (H : jm_D d mX13_errorOf [.ref m, .ref b, .int (Int32.ofNat p)] h = some (.inl (some (.int 0)), h1)) : ∀ r, kX13_read_50 d m b (Int32.ofNat (p + 1)) (some (.int 0)) h1 = some r → kX13_read_50 d m b (Int32.ofNat p) o h = some r := by
  intro r hr
  apply gX13_read_50
  rw [he, Option.bind_some, if_pos (by rw [jw_lt (by omega) (by omega)]; exact hp), jm_O_eq hm, H, jc_I_eq, if_pos rfl, jw_add1]
  exact hr
/-- an error ends it -/
theorem z_stop {o : Option Value} {c : Nat} (hm : jm_ob h m 13 = true) (he : jr_I h m 12 5 0 = some (Int32.ofNat E)) (hE : E < 401) (hp : p < E) (hc : 0 < c ∧ c < 6) (H : jm_D d mX13_errorOf [.ref m, .ref b, .int (Int32.ofNat p)] h = some (.inl (some (.int (Int32.ofNat c))), h1)) (F : zS m (zTU b) zTF h h1) (H1 : zTe h1 m b T A nt oc as ps W r) (hpT : p < T.length) : zErr h m b T (c, p) (kX13_read_50 d m b (Int32.ofNat p) o h) := by
  obtain ⟨h2, e2, F2, q2⟩ := z_pfI (k := 3) (Int32.ofNat (T.getD p (0, 0, 0, 0)).2.1) H1.1 (by omega)
  refine ⟨h2, ?_, zS_tr F (zS_mn F2 (fun c z => z.elim) (fun k z => Or.inl z)), q2, hpT, hc⟩
  apply gX13_read_50
  have ek : jm_ali h1 (b + 2) 0 (Int32.ofNat p) = some (Int32.ofNat (T.getD p (0, 0, 0, 0)).2.1) := by
    obtain ⟨-, -, ⟨KD, FR, VL, a1, a2, a3, a4, a5⟩, -⟩ := H1
    rw [aC_at a2 (by omega) (by omega), (a5 p hpT).2.1]
  rw [he, Option.bind_some, if_pos (by rw [jw_lt (by omega) (by omega)]; exact hp), jm_O_eq hm, H, jc_I_eq, if_neg (fun z => by have := (jw_eq (show c < 2147483648 by omega) (show 0 < 2147483648 by omega)).mp z; omega), zTe_R (k := 1) (x := b + 2) H1 rfl, Option.bind_some, ek, Option.bind_some, e2, Option.bind_some]
end ZT
