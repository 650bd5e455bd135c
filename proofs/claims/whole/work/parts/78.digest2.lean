/-! ===== PURE: digest, the rest ===== -/
theorem dgLaw {β : qB} {σc σm : qM} (h : RD β σc σm) {k : Nat} (hk : k < 8) (acc : Int64) : SimD β (fX4_digestOfLaw σc acc (nI k)) (fX5_tellsLaw σm acc (nI k)) := by
  unfold fX4_digestOfLaw fX5_tellsLaw
  refine sd_bind (freeX h hk) (fun r1 c1 m1 h1 => ?_)
  unfold fX4_digestOfLaw_14 fX5_tellsLaw_14
  refine sd_bind (sidesX (j := 0) h1 hk (by decide)) (fun r2 c2 m2 h2 => ?_)
  unfold fX4_digestOfLaw_30 fX5_tellsLaw_30
  refine sd_bind (sidesX (j := 1) h2 hk (by decide)) (fun r3 c3 m3 h3 => ?_)
  unfold fX4_digestOfLaw_46 fX5_tellsLaw_46
  refine sd_bind (sinksX (t := 1) (x := 5) (j := 0) h3 (by decide) hk (by decide) (by decide)) (fun r4 c4 m4 h4 => ?_)
  unfold fX4_digestOfLaw_63 fX5_tellsLaw_63
  refine sd_bind (sinksX (t := 1) (x := 5) (j := 1) h4 (by decide) hk (by decide) (by decide)) (fun r5 c5 m5 h5 => ?_)
  unfold fX4_digestOfLaw_80 fX5_tellsLaw_80
  refine sd_bind (morningsX (N := 20) h5 hk (by decide) (by decide) 7) (fun r6 c6 m6 h6 => ?_)
  exact ⟨_, _, _, rfl, rfl, h6⟩
theorem dgStrike {β : qB} {σc σm : qM} (h : RD β σc σm) {t : Nat} (ht : t < 4) (acc : Int64) : SimD β (fX4_digestOfTurns_86 σc (nI t) acc) (fX5_tellsTurns_91 σm (nI t) acc) := by
  have hV := vw_ok h.1
  unfold fX4_digestOfTurns_86 fX5_tellsTurns_91
  obtain ⟨⟨r1, c1⟩, e1, v1, f1, u1⟩ := strikeX (g := 3) (j := 0) h ht (by decide) (by decide)
  obtain ⟨⟨r2, m1⟩, e2, v2, f2⟩ := strikeOf_ok (g := 3) h.ms ht (by decide)
  dsimp only at v1 f1 u1 v2 f2
  subst v1
  subst v2
  have h1 : RD β c1 m1 := h.mo f1 u1 f2
  have ho : ∀ w, skV (vw β) t 3 = some w → w < 4096 := fun w hw => skV_lt hV hw
  rw [bnd_s (show fX4_strike σc (nI t) 3 0 = _ from e1), bnd_s (show fX5_strikeOf σm (nI t) 3 = _ from e2)]
  dsimp only
  rw [bnd_s (show fX5_tells m1 (fbI (skV (vw β) t 3)) 0 = _ from tells_ok m1 (j := 0) (by decide) ho)]
  dsimp only
  unfold fX4_digestOfTurns_103 fX5_tellsTurns_115
  obtain ⟨⟨r3, c2⟩, e3, v3, f3, u3⟩ := strikeX (g := 3) (j := 1) h1 ht (by decide) (by decide)
  dsimp only at v3 f3 u3
  subst v3
  have h2 : RD β c2 m1 := h1.mo f3 u3 (frP.rf _ _)
  rw [bnd_s (show fX4_strike c1 (nI t) 3 1 = _ from e3), bnd_s (show fX5_tells m1 (fbI (skV (vw β) t 3)) 1 = _ from tells_ok m1 (j := 1) (by decide) ho)]
  dsimp only
  unfold fX4_digestOfTurns_120 fX5_tellsTurns_131
  refine sd_bind (placeX (k := 0) h2 ht (by decide)) (fun r4 c4 m4 h4 => ?_)
  exact ⟨_, _, _, rfl, rfl, h4⟩
theorem dgStrain {β : qB} {σc σm : qM} (h : RD β σc σm) {t : Nat} (ht : t < 4) (acc : Int64) : SimD β (fX4_digestOfTurns_50 σc (nI t) acc) (fX5_tellsTurns_50 σm (nI t) acc) := by
  have hV := vw_ok h.1
  unfold fX4_digestOfTurns_50 fX5_tellsTurns_50
  obtain ⟨⟨r1, c1⟩, e1, v1, f1, u1⟩ := strainX (a := 1) (b := 2) (j := 0) h ht (by decide) (by decide) (by decide) (by decide)
  obtain ⟨⟨r2, m1⟩, e2, v2, f2⟩ := strainOf_ok (a := 1) (b := 2) h.ms ht (by decide) (by decide)
  dsimp only at v1 f1 u1 v2 f2
  subst v1
  subst v2
  have h1 : RD β c1 m1 := h.mo f1 u1 f2
  have ho : ∀ w, stV (vw β) t 1 2 = some w → w < 4096 := fun w hw => stV_lt hV hw
  rw [bnd_s (show fX4_strain σc (nI t) 1 2 0 = _ from e1), bnd_s (show fX5_strainOf σm (nI t) 1 2 = _ from e2)]
  dsimp only
  rw [bnd_s (show fX5_tells m1 (fbI (stV (vw β) t 1 2)) 0 = _ from tells_ok m1 (j := 0) (by decide) ho)]
  dsimp only
  unfold fX4_digestOfTurns_68 fX5_tellsTurns_75
  obtain ⟨⟨r3, c2⟩, e3, v3, f3, u3⟩ := strainX (a := 1) (b := 2) (j := 1) h1 ht (by decide) (by decide) (by decide) (by decide)
  dsimp only at v3 f3 u3
  subst v3
  have h2 : RD β c2 m1 := h1.mo f3 u3 (frP.rf _ _)
  rw [bnd_s (show fX4_strain c1 (nI t) 1 2 1 = _ from e3), bnd_s (show fX5_tells m1 (fbI (stV (vw β) t 1 2)) 1 = _ from tells_ok m1 (j := 1) (by decide) ho)]
  dsimp only
  exact dgStrike h2 ht _
theorem dgTurns {β : qB} {t : Nat} (ht : t < 4) : ∀ d i n1 n2 acc σc σm, d = 3 - i → i ≤ 3 → d < n1 → d < n2 → RD β σc σm → SimD β (qlp (fun _ _ _ _ => none) bX4_digestOfTurns_6 n1 σc (nI t) acc (nI i)) (qlp (fun _ _ _ _ => none) bX5_tellsTurns_6 n2 σm (nI t) acc (nI i)) := by
  intro d
  induction d with
  | zero =>
    intro i n1 n2 acc σc σm hd hi h1 h2 h
    obtain ⟨m1, rfl⟩ : ∃ m, n1 = m + 1 := ⟨n1 - 1, by omega⟩
    obtain ⟨m2, rfl⟩ : ∃ m, n2 = m + 1 := ⟨n2 - 1, by omega⟩
    have : i = 3 := by omega
    subst this
    rw [qlp_succ, qlp_succ]
    unfold bX4_digestOfTurns_6 bX5_tellsTurns_6
    rw [if_pos (show (3 : Int32) ≤ nI 3 by decide), if_pos (show (3 : Int32) ≤ nI 3 by decide)]
    exact sd_bind (clashX h ht) (fun r c m hR => dgStrain hR ht _)
  | succ d ih =>
    intro i n1 n2 acc σc σm hd hi h1 h2 h
    obtain ⟨m1, rfl⟩ : ∃ m, n1 = m + 1 := ⟨n1 - 1, by omega⟩
    obtain ⟨m2, rfl⟩ : ∃ m, n2 = m + 1 := ⟨n2 - 1, by omega⟩
    rw [qlp_succ, qlp_succ]
    have hk := ih (i + 1) m1 m2
    generalize qlp (fun _ _ _ _ => none) bX4_digestOfTurns_6 m1 = k1 at hk ⊢
    generalize qlp (fun _ _ _ _ => none) bX5_tellsTurns_6 m2 = k2 at hk ⊢
    unfold bX4_digestOfTurns_6 bX5_tellsTurns_6 fX4_digestOfTurns_29 fX5_tellsTurns_29
    rw [if_neg (show ¬ (3 : Int32) ≤ nI i from nI_ge (b := 3) (by omega) (by decide)), if_neg (show ¬ (3 : Int32) ≤ nI i from nI_ge (b := 3) (by omega) (by decide))]
    refine sd_bind (readingX h ht (show i < 3 by omega)) (fun r c m hR => ?_)
    dsimp only
    rw [nI_1]
    exact hk _ _ _ (by omega) (by omega) (by omega) (by omega) hR
theorem dgFits {β : qB} : ∀ d i n1 n2 acc σc σm, d = 3 - i → i ≤ 3 → d < n1 → d < n2 → RD β σc σm → SimD β (qlp (fun _ _ _ => none) bX4_digest_119 n1 σc acc (nI i)) (qlp (fun _ _ _ => none) bX5_digest_237 n2 σm acc (nI i)) := by
  intro d
  induction d with
  | zero =>
    intro i n1 n2 acc σc σm hd hi h1 h2 h
    obtain ⟨m1, rfl⟩ : ∃ m, n1 = m + 1 := ⟨n1 - 1, by omega⟩
    obtain ⟨m2, rfl⟩ : ∃ m, n2 = m + 1 := ⟨n2 - 1, by omega⟩
    have : i = 3 := by omega
    subst this
    rw [qlp_succ, qlp_succ]
    unfold bX4_digest_119 bX5_digest_237
    rw [if_pos (show (3 : Int32) ≤ nI 3 by decide), if_pos (show (3 : Int32) ≤ nI 3 by decide)]
    exact ⟨_, _, _, rfl, rfl, h⟩
  | succ d ih =>
    intro i n1 n2 acc σc σm hd hi h1 h2 h
    obtain ⟨m1, rfl⟩ : ∃ m, n1 = m + 1 := ⟨n1 - 1, by omega⟩
    obtain ⟨m2, rfl⟩ : ∃ m, n2 = m + 1 := ⟨n2 - 1, by omega⟩
    rw [qlp_succ, qlp_succ]
    have hk := ih (i + 1) m1 m2
    generalize qlp (fun _ _ _ => none) bX4_digest_119 m1 = k1 at hk ⊢
    generalize qlp (fun _ _ _ => none) bX5_digest_237 m2 = k2 at hk ⊢
    unfold bX4_digest_119 bX5_digest_237 fX4_digest_137 fX5_digest_255
    rw [if_neg (show ¬ (3 : Int32) ≤ nI i from nI_ge (b := 3) (by omega) (by decide)), if_neg (show ¬ (3 : Int32) ≤ nI i from nI_ge (b := 3) (by omega) (by decide))]
    refine sd_bind (fitsX h (show i < 3 by omega)) (fun r c m hR => ?_)
    dsimp only
    rw [nI_1]
    exact hk _ _ _ (by omega) (by omega) (by omega) (by omega) hR
theorem dgLaws {β : qB} : ∀ d i n1 n2 acc σc σm, d = 8 - i → i ≤ 8 → d < n1 → d < n2 → RD β σc σm → SimD β (qlp (fun _ _ _ => none) bX4_digest_59 n1 σc acc (nI i)) (qlp (fun _ _ _ => none) bX5_digest_179 n2 σm acc (nI i)) := by
  intro d
  induction d with
  | zero =>
    intro i n1 n2 acc σc σm hd hi h1 h2 h
    obtain ⟨m1, rfl⟩ : ∃ m, n1 = m + 1 := ⟨n1 - 1, by omega⟩
    obtain ⟨m2, rfl⟩ : ∃ m, n2 = m + 1 := ⟨n2 - 1, by omega⟩
    have : i = 8 := by omega
    subst this
    rw [qlp_succ, qlp_succ]
    unfold bX4_digest_59 bX5_digest_179
    rw [if_pos (show (8 : Int32) ≤ nI 8 by decide), if_pos (show (8 : Int32) ≤ nI 8 by decide)]
    refine sd_bind (brokenX (j := 0) (y := fX5_brokenNow σm) h (by decide) rfl) (fun r1 c1 m1 hR1 => ?_)
    unfold fX4_digest_91 fX5_digest_210
    refine sd_bind (brokenX (j := 1) (y := fX5_firstBroken m1) hR1 (by decide) rfl) (fun r2 c2 m2 hR2 => ?_)
    unfold fX4_digest_104 fX5_digest_222
    refine sd_bind (pourX (m := 5) hR2 (by decide)) (fun r3 c3 m3 hR3 => ?_)
    unfold fX4_digest_117 fX5_digest_235
    exact dgFits 3 0 qFU qFU _ _ _ rfl (by omega) (by rw [qFU_eq]; omega) (by rw [qFU_eq]; omega) hR3
  | succ d ih =>
    intro i n1 n2 acc σc σm hd hi h1 h2 h
    obtain ⟨m1, rfl⟩ : ∃ m, n1 = m + 1 := ⟨n1 - 1, by omega⟩
    obtain ⟨m2, rfl⟩ : ∃ m, n2 = m + 1 := ⟨n2 - 1, by omega⟩
    rw [qlp_succ, qlp_succ]
    have hk := ih (i + 1) m1 m2
    generalize qlp (fun _ _ _ => none) bX4_digest_59 m1 = k1 at hk ⊢
    generalize qlp (fun _ _ _ => none) bX5_digest_179 m2 = k2 at hk ⊢
    unfold bX4_digest_59 bX5_digest_179
    rw [if_neg (show ¬ (8 : Int32) ≤ nI i from nI_ge (b := 8) (by omega) (by decide)), if_neg (show ¬ (8 : Int32) ≤ nI i from nI_ge (b := 8) (by omega) (by decide))]
    refine sd_bind (dgLaw h (show i < 8 by omega) acc) (fun r c m hR => ?_)
    dsimp only
    rw [nI_1]
    exact hk _ _ _ (by omega) (by omega) (by omega) (by omega) hR
theorem dgAll {β : qB} : ∀ d i n1 n2 acc σc σm, d = 4 - i → i ≤ 4 → d < n1 → d < n2 → RD β σc σm → SimD β (qlp (fun _ _ _ => none) bX4_digest_39 n1 σc acc (nI i)) (qlp (fun _ _ _ => none) bX5_digest_159 n2 σm acc (nI i)) := by
  intro d
  induction d with
  | zero =>
    intro i n1 n2 acc σc σm hd hi h1 h2 h
    obtain ⟨m1, rfl⟩ : ∃ m, n1 = m + 1 := ⟨n1 - 1, by omega⟩
    obtain ⟨m2, rfl⟩ : ∃ m, n2 = m + 1 := ⟨n2 - 1, by omega⟩
    have : i = 4 := by omega
    subst this
    rw [qlp_succ, qlp_succ]
    unfold bX4_digest_39 bX5_digest_159
    rw [if_pos (show (4 : Int32) ≤ nI 4 by decide), if_pos (show (4 : Int32) ≤ nI 4 by decide)]
    exact dgLaws 8 0 qFU qFU _ _ _ rfl (by omega) (by rw [qFU_eq]; omega) (by rw [qFU_eq]; omega) h
  | succ d ih =>
    intro i n1 n2 acc σc σm hd hi h1 h2 h
    obtain ⟨m1, rfl⟩ : ∃ m, n1 = m + 1 := ⟨n1 - 1, by omega⟩
    obtain ⟨m2, rfl⟩ : ∃ m, n2 = m + 1 := ⟨n2 - 1, by omega⟩
    rw [qlp_succ, qlp_succ]
    have hk := ih (i + 1) m1 m2
    generalize qlp (fun _ _ _ => none) bX4_digest_39 m1 = k1 at hk ⊢
    generalize qlp (fun _ _ _ => none) bX5_digest_159 m2 = k2 at hk ⊢
    unfold bX4_digest_39 bX5_digest_159
    rw [if_neg (show ¬ (4 : Int32) ≤ nI i from nI_ge (b := 4) (by omega) (by decide)), if_neg (show ¬ (4 : Int32) ≤ nI i from nI_ge (b := 4) (by omega) (by decide))]
    have ht : SimD β (fX4_digestOfTurns σc acc (nI i)) (fX5_tellsTurns σm acc (nI i)) := dgTurns (show i < 4 by omega) 3 0 qFU qFU acc σc σm rfl (by omega) (by rw [qFU_eq]; omega) (by rw [qFU_eq]; omega) h
    refine sd_bind ht (fun r c m hR => ?_)
    dsimp only
    rw [nI_1]
    exact hk _ _ _ (by omega) (by omega) (by omega) (by omega) hR
theorem dgTexts {β : qB} {σc σm : qM} (h : RD β σc σm) (acc : Int64) : SimD β ((fX4_digestOfTexts σc acc).bind fun q2 => fX4_digest_39 q2.2 q2.1 0) ((fX5_readsText σm 0).bind fun q2 => fX5_digest_44 q2.2 ((31 : Int64) * acc + q2.1.toInt64)) := by
  unfold fX4_digestOfTexts
  obtain ⟨r1, c1, m1, e1, e2, h1⟩ := faultD0 h
  rw [bnd_s e1, bnd_s e2]
  dsimp only
  unfold fX4_digestOfTexts_13 fX5_digest_44
  obtain ⟨r2, c2, m2, e3, e4, h2⟩ := faultD1 h1
  rw [bnd_s e3, bnd_s e4]
  dsimp only
  unfold fX4_digestOfTexts_26 fX5_digest_57
  have hV := vw_ok h.1
  have hn := hV.1
  rw [show fX4_digestOfTexts_29 c2 ((31 : Int64) * ((31 : Int64) * acc + r1.toInt64) + r2.toInt64) 0 = _ from dgC29 h2.1 h2.2.1 qFU 0 _ (Nat.zero_le _) (by rw [qFU_eq]; omega), show fX5_digest_59 m2 ((31 : Int64) * ((31 : Int64) * acc + r1.toInt64) + r2.toInt64) 0 = _ from dgM59 h2.2.2.2.2.2.2.1 hV qFU 0 _ (Nat.zero_le _) (by rw [qFU_eq]; omega), bnd_s rfl]
  exact dgAll 4 0 qFU qFU _ _ _ rfl (by omega) (by rw [qFU_eq]; omega) (by rw [qFU_eq]; omega) h2
theorem dgCount : ∀ d i n1 n2 acc σc σm, d = 8 - i → i ≤ 8 → d < n1 → d < n2 → RR σc σm → (i = 8 → ∃ β, RD β σc σm) → Sim (qlp (fun _ _ _ => none) bX4_digest_6 n1 σc acc (nI i)) (qlp (fun _ _ _ => none) bX5_digest_6 n2 σm acc (nI i)) := by
  intro d
  induction d with
  | zero =>
    intro i n1 n2 acc σc σm hd hi h1 h2 h hb
    obtain ⟨m1, rfl⟩ : ∃ m, n1 = m + 1 := ⟨n1 - 1, by omega⟩
    obtain ⟨m2, rfl⟩ : ∃ m, n2 = m + 1 := ⟨n2 - 1, by omega⟩
    have : i = 8 := by omega
    subst this
    obtain ⟨β, hR⟩ := hb rfl
    rw [qlp_succ, qlp_succ]
    unfold bX4_digest_6 bX5_digest_6
    rw [if_pos (show (7 : Int32) < nI 8 by decide), if_pos (show (8 : Int32) ≤ nI 8 by decide)]
    exact (dgTexts hR acc).s
  | succ d ih =>
    intro i n1 n2 acc σc σm hd hi h1 h2 h hb
    obtain ⟨m1, rfl⟩ : ∃ m, n1 = m + 1 := ⟨n1 - 1, by omega⟩
    obtain ⟨m2, rfl⟩ : ∃ m, n2 = m + 1 := ⟨n2 - 1, by omega⟩
    rw [qlp_succ, qlp_succ]
    have hk := ih (i + 1) m1 m2
    generalize qlp (fun _ _ _ => none) bX4_digest_6 m1 = k1 at hk ⊢
    generalize qlp (fun _ _ _ => none) bX5_digest_6 m2 = k2 at hk ⊢
    unfold bX4_digest_6 bX5_digest_6 fX4_digest_25 fX5_digest_25
    rw [if_neg (show ¬ (7 : Int32) < nI i from nI_nlt (a := 7) (by omega) (by decide)), if_neg (show ¬ (8 : Int32) ≤ nI i from nI_ge (b := 8) (by omega) (by decide))]
    obtain ⟨β, r, c, m, e1, e2, hR⟩ := countE h (nI i)
    rw [bnd_s e1, bnd_s e2]
    dsimp only
    rw [nI_1]
    exact hk _ _ _ (by omega) (by omega) (by omega) (by omega) hR.rr (fun _ => ⟨β, hR⟩)
theorem sim_digest {σc σm : qM} (h : RR σc σm) : Sim (fX4_digest σc) (fX5_digest σm) := dgCount 8 0 qFU qFU 17 σc σm rfl (by omega) (by rw [qFU_eq]; omega) (by rw [qFU_eq]; omega) h (fun e => by omega)
