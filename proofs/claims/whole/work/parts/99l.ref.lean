/-! ===== LEVEL 3: the reference, telling: the other errors ===== -/
section ZT
variable {h h' h1 h2 : jm_H} {d D m b i q k n a e p j E c29 : Nat} {T : List aK4} {A : zA3} {nt oc : Nat} {as ps : List Nat} {W : Nat → List Int} {r : List Int} {M : Nat → Nat} {s s' : aQ}
theorem z_e1 (H : zTe h m b T A nt oc as ps W r) (P : zQp as ps W) (hb : b = m + 2 ∨ m + 36 ≤ b) (hj : j < T.length) (hj4 : j < 401) (hk : uK T j = 35) (hw : uW T j < q10) (hA : A.1 j = 1) :
    (qkn as ps (uW T j) → jm_D (d + 3) mX13_errorOf [.ref m, .ref b, .int (Int32.ofNat j)] h = some (.inl (some (.int (Int32.ofNat 2))), h)) ∧ (¬ qkn as ps (uW T j) → 8 ≤ as.length → jm_D (d + 3) mX13_errorOf [.ref m, .ref b, .int (Int32.ofNat j)] h = some (.inl (some (.int (Int32.ofNat 4))), h)) ∧ (¬ qkn as ps (uW T j) → as.length < 8 → ∃ h', jm_D (d + 3) mX13_errorOf [.ref m, .ref b, .int (Int32.ofNat j)] h = some (.inl (some (.int 0)), h') ∧ zS m (zTU b) (fun _ => False) h h' ∧ zTe h' m b T A nt oc (as ++ [uW T j]) ps W r) := by
  have pa := P.1
  refine ⟨fun c => ?_, fun c c8 => ?_, fun c c8 => ?_⟩
  · apply gX13_errorOf
    rw [zTe_R (k := 3) (x := b + 4) H rfl, Option.bind_some, zTe_word H hj hk, Option.bind_some, zTe_R (k := 2) (x := b + 3) H rfl, Option.bind_some, zTe_me H hj4, Option.bind_some, hA]
    rw [if_pos rfl, z_isTold H P hw, jc_I_eq, if_pos c, if_neg (by decide)]
    rfl
  · apply gX13_errorOf
    rw [zTe_R (k := 3) (x := b + 4) H rfl, Option.bind_some, zTe_word H hj hk, Option.bind_some, zTe_R (k := 2) (x := b + 3) H rfl, Option.bind_some, zTe_me H hj4, Option.bind_some, hA]
    rw [if_pos rfl, z_isTold H P hw, jc_I_eq, if_neg c, if_pos rfl, zTe_I (k := 6) H rfl, Option.bind_some, show as.length = 8 by omega]
    rfl
  · obtain ⟨h1, h2, e1, e2, e3, -, F, H2⟩ := zTe_a (w := uW T j) hb c8 H
    refine ⟨h2, ?_, F, H2⟩
    apply gX13_errorOf
    rw [zTe_R (k := 3) (x := b + 4) H rfl, Option.bind_some, zTe_word H hj hk, Option.bind_some, zTe_R (k := 2) (x := b + 3) H rfl, Option.bind_some, zTe_me H hj4, Option.bind_some, hA]
    rw [if_pos rfl, z_isTold H P hw, jc_I_eq, if_neg c, if_pos rfl, zTe_I (k := 6) H rfl, Option.bind_some, if_neg (show ¬ Int32.ofNat as.length = 8 from fun z => by have := (jw_eq (by omega) (show 8 < 2147483648 by omega)).mp z; omega), zTe_R (k := 7) (x := b + 7) H rfl, Option.bind_some, Option.bind_some, e1, Option.bind_some, e2, Option.bind_some, jw_add1, e3, Option.bind_some]
theorem z_e2 (H : zTe h m b T A nt oc as ps W r) (P : zQp as ps W) (hb : b = m + 2 ∨ m + 36 ≤ b) (hj : j < T.length) (hj4 : j < 401) (hk : uK T j = 35) (hw : uW T j < q10) (hA : A.1 j = 2) :
    (qkn as ps (uW T j) → jm_D (d + 3) mX13_errorOf [.ref m, .ref b, .int (Int32.ofNat j)] h = some (.inl (some (.int (Int32.ofNat 2))), h)) ∧ (¬ qkn as ps (uW T j) → 12 ≤ ps.length → jm_D (d + 3) mX13_errorOf [.ref m, .ref b, .int (Int32.ofNat j)] h = some (.inl (some (.int (Int32.ofNat 4))), h)) ∧ (¬ qkn as ps (uW T j) → ps.length < 12 → ∃ h', jm_D (d + 3) mX13_errorOf [.ref m, .ref b, .int (Int32.ofNat j)] h = some (.inl (some (.int 0)), h') ∧ zS m (fun _ => False) (fun k => k = 28 ∨ k = 30) h h' ∧ zTe h' m b T A nt oc as ps W r ∧ jr_L h' m 12 30 1 = some (Int64.ofNat (uW T j)) ∧ jr_I h' m 12 28 0 = some (Int32.ofNat j)) := by
  have pb := P.2.1
  refine ⟨fun c => ?_, fun c c8 => ?_, fun c c8 => ?_⟩
  · apply gX13_errorOf
    rw [zTe_R (k := 3) (x := b + 4) H rfl, Option.bind_some, zTe_word H hj hk, Option.bind_some, zTe_R (k := 2) (x := b + 3) H rfl, Option.bind_some, zTe_me H hj4, Option.bind_some, hA]
    rw [if_neg (by decide), if_pos rfl, z_isTold H P hw, jc_I_eq, if_pos c, if_neg (by decide)]
    rfl
  · apply gX13_errorOf
    rw [zTe_R (k := 3) (x := b + 4) H rfl, Option.bind_some, zTe_word H hj hk, Option.bind_some, zTe_R (k := 2) (x := b + 3) H rfl, Option.bind_some, zTe_me H hj4, Option.bind_some, hA]
    rw [if_neg (by decide), if_pos rfl, z_isTold H P hw, jc_I_eq, if_neg c, if_pos rfl, zTe_I (k := 8) H rfl, Option.bind_some, show ps.length = 12 by omega]
    rfl
  · obtain ⟨h1, e1, F1, q1⟩ := z_pfL (k := 30) (Int64.ofNat (uW T j)) H.1 (by omega)
    have H1 := zTe_f H hb F1 (fun k z => by rw [z]; rfl)
    obtain ⟨h2, e2, F2, q2⟩ := z_pfI (k := 28) (Int32.ofNat j) H1.1 (by omega)
    have H2 := zTe_f H1 hb F2 (fun k z => by rw [z]; rfl)
    refine ⟨h2, ?_, zS_2 F1 F2 (fun c z => z) (fun c z => z) (fun k z => Or.inr z) (fun k z => Or.inl z), H2, (zS_L F2 (by omega)).trans q1, q2⟩
    apply gX13_errorOf
    rw [zTe_R (k := 3) (x := b + 4) H rfl, Option.bind_some, zTe_word H hj hk, Option.bind_some, zTe_R (k := 2) (x := b + 3) H rfl, Option.bind_some, zTe_me H hj4, Option.bind_some, hA]
    rw [if_neg (by decide), if_pos rfl, z_isTold H P hw, jc_I_eq, if_neg c, if_pos rfl, zTe_I (k := 8) H rfl, Option.bind_some, if_neg (show ¬ Int32.ofNat ps.length = 12 from fun z => by have := (jw_eq (by omega) (show 12 < 2147483648 by omega)).mp z; omega), e1, Option.bind_some, e2, Option.bind_some]
theorem z_e6 (H : zTe h m b T A nt oc as ps W r) (hb : b = m + 2 ∨ m + 36 ≤ b) (hj4 : j < 401) (hA : A.1 j = 6) (hc : jr_I h m 12 29 0 = some (Int32.ofNat c29)) (hc2 : c29 ≤ 16) : ∃ h', jm_D (d + 3) mX13_errorOf [.ref m, .ref b, .int (Int32.ofNat j)] h = some (.inl (some (.int (Int32.ofNat (if 16 ≤ c29 then 4 else 0)))), h') ∧ zS m (fun _ => False) (fun k => k = 29) h h' ∧ zTe h' m b T A nt oc as ps W r ∧ jr_I h' m 12 29 0 = some (Int32.ofNat (c29 + 1)) := by
  obtain ⟨y, ey⟩ := zTe_any H hj4
  obtain ⟨h1, e1, F1, q1⟩ := z_pfI (k := 29) (Int32.ofNat (c29 + 1)) H.1 (by omega)
  have H1 := zTe_f H hb F1 (fun k z => by rw [z]; rfl)
  refine ⟨h1, ?_, F1, H1, q1⟩
  apply gX13_errorOf
  rw [zTe_R (k := 3) (x := b + 4) H rfl, Option.bind_some, ey, Option.bind_some, zTe_R (k := 2) (x := b + 3) H rfl, Option.bind_some, zTe_me H hj4, Option.bind_some, hA]
  rw [if_neg (by decide), if_neg (by decide), if_neg (by decide), if_neg (by decide), if_neg (by decide), if_pos rfl, hc, Option.bind_some, jw_add1, e1, Option.bind_some, q1, Option.bind_some]
  by_cases c : 16 ≤ c29
  · rw [if_pos (show (16 : Int32) < Int32.ofNat (c29 + 1) by rw [show (16 : Int32) = Int32.ofNat 16 from rfl, jw_lt (by omega) (by omega)]; omega), if_pos c]
    rfl
  · rw [if_neg (show ¬ (16 : Int32) < Int32.ofNat (c29 + 1) by rw [show (16 : Int32) = Int32.ofNat 16 from rfl, jw_lt (by omega) (by omega)]; omega), if_neg c]
    rfl
/-- a play's row is told, or too long -/
theorem z_e7 {w : Nat} {sf : aQ} (hK : ∀ j, uK T j < 39) (hb : b = m + 2 ∨ m + 36 ≤ b) (hps : ps.length < 12) (hp : zps T (i + 3) e) (h3e : i + 3 ≤ e) (he : uK T e = 24) (hk : uK T i = 1) (hk2 : uK T (i + 2) = 2) (hls : ∀ j, i ≤ j → j ≤ e → zls T j = i) (h0 : zmk T (i + 3) = []) (h20 : uK T (i + 3) ≠ 20) (heE : e < E) (hE : E < 401) (hTl : T.length = E + 1) (hA1 : ∀ j, j < E → A.1 j = zme T j) (hA2 : ∀ j, uK T j = 35 → j < E → A.2.1 j = zar T j) (hq : ∀ j, uK T j = 35 → uW T j < q10) (P : zQp as ps W) (hM : ∀ j, i + 3 ≤ j → j < e → uK T j = 22 → A.2.2 j = Int32.ofNat (M j) ∧ 2 ≤ M j ∧ M j ≤ 400) (hgo : qGo T M as ps W 400 ([], [], i + 3) = .inr sf) (H : zTe h m b T A nt oc as ps W []) (hw : jr_L h m 12 30 1 = some (Int64.ofNat w)) (h28 : jr_I h m 12 28 0 = some (Int32.ofNat (i + 1))) :
    (150 < sf.2.1.length → ∃ h' r', jm_D (d + 5) mX13_errorOf [.ref m, .ref b, .int (Int32.ofNat e)] h = some (.inl (some (.int (Int32.ofNat 5))), h') ∧ zS m (zTU b) (fun _ => False) h h' ∧ zTe h' m b T A nt oc as ps W r') ∧ (sf.2.1.length ≤ 150 → ∃ h', jm_D (d + 5) mX13_errorOf [.ref m, .ref b, .int (Int32.ofNat e)] h = some (.inl (some (.int 0)), h') ∧ zS m (zTU b) (fun _ => False) h h' ∧ zTe h' m b T A nt oc as (ps ++ [w]) (aup W ps.length sf.2.1) []) := by
  obtain ⟨y, ey⟩ := zTe_any H (show e < 401 by omega)
  have hA : A.1 e = 7 := by
    rw [hA1 e heE]
    unfold zme
    rw [hls e (by omega) (Nat.le_refl _), if_neg (by omega), if_pos hk, if_neg (by omega), if_pos he]
  have head : ∀ x h1, jm_D (d + 4) mX13_tell [.ref m, .ref b, .int (Int32.ofNat e)] h = some (.inl (some (.int x)), h1) → jm_D (d + 5) mX13_errorOf [.ref m, .ref b, .int (Int32.ofNat e)] h = if x = 0 then some (.inl (some (.int 5)), h1) else some (.inl (some (.int 0)), h1) := fun x h1 z => by
    have : ∃ r, (if x = 0 then some (.inl (some (.int 5)), h1) else some (.inl (some (.int 0)), h1) : Option jm_R) = some r := by
      split
      · exact ⟨_, rfl⟩
      · exact ⟨_, rfl⟩
    obtain ⟨r, er⟩ := this
    rw [er]
    apply gX13_errorOf
    rw [zTe_R (k := 3) (x := b + 4) H rfl, Option.bind_some, ey, Option.bind_some, zTe_R (k := 2) (x := b + 3) H rfl, Option.bind_some, zTe_me H (by omega), Option.bind_some, hA]
    rw [if_neg (by decide), if_neg (by decide), if_neg (by decide), if_neg (by decide), if_neg (by decide), if_neg (by decide), if_pos rfl, jm_O_eq (zTe_ob H), z, jc_I_eq]
    exact er
  have tl : ∀ r, kX13_tell_16 (d + 3) m b (Int32.ofNat e) (Int32.ofNat 0) (Int32.ofNat ps.length) (Int32.ofNat (i + 3)) none h = some r → jm_D (d + 4) mX13_tell [.ref m, .ref b, .int (Int32.ofNat e)] h = some r := fun r hr => by
    apply gX13_tell
    rw [zTe_I (k := 8) H rfl, Option.bind_some, h28, Option.bind_some, show Int32.ofNat (i + 1) + 2 = Int32.ofNat (i + 3) from jw_add (a := i + 1) (b := 2)]
    exact hr
  have J : zJ T (i + 3) e ([], [], i + 3) := by
    refine ⟨Nat.le_refl _, h3e, ?_, ?_⟩
    · show [] = (zsq T (i + 3)).map (uW T)
      unfold zsq
      rw [if_neg h20, h0]
      rfl
    · show uK T (i + 3 - 1) ≠ 3
      rw [show i + 3 - 1 = i + 2 by omega]
      omega
  have Wk := z_tellW (d := d) hK hb hps hp he hk hls h0 heE hE hTl hA1 hA2 hq P hM 400 ([], [], i + 3) h sf (by show e < i + 3 + 400; omega) J hgo (Nat.zero_le _) H
  refine ⟨fun c => ?_, fun c => ?_⟩
  · rcases Wk with ⟨-, g⟩ | ⟨x, -⟩
    · obtain ⟨h', r', g1, g2, g3⟩ := g none
      have := head 0 h' (tl _ g1)
      rw [if_pos rfl] at this
      exact ⟨h', r', this, zS_mn g2 (fun c z => by unfold zTU; omega) (fun k z => z), g3⟩
    · omega
  · rcases Wk with ⟨x, -⟩ | ⟨-, h', g1, g2, g3⟩
    · omega
    · obtain ⟨o', g⟩ := g3 none
      obtain ⟨h1, h2, h3, e1, ⟨v1, v2, v3, v4, v5⟩, e2, e3, e4, e5, e6, F, H3⟩ := zTe_p hb hps ((zS_L g1 id).trans hw) g2
      have e16 : kX13_tell_16 (d + 3) m b (Int32.ofNat e) (Int32.ofNat sf.2.1.length) (Int32.ofNat ps.length) (Int32.ofNat e) o' h' = some (.inl (some (.int 1)), h3) := by
        apply gX13_tell_16
        rw [if_neg (by rw [jw_lt (by omega) (by omega)]; omega), zTe_R (k := 11) (x := b + 10) g2 rfl, Option.bind_some, e1, Option.bind_some, e2, Option.bind_some, e3, Option.bind_some, e4, Option.bind_some, e5, Option.bind_some, jw_add1, e6, Option.bind_some]
      have := head 1 h3 (tl _ (g _ e16))
      rw [if_neg (by decide)] at this
      exact ⟨h3, this, zS_tr (zS_mn g1 (fun c z => by unfold zTU; omega) (fun k z => z)) F, H3⟩
end ZT
