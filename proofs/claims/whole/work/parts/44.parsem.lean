/-! ===== PURE: the reference's reading of texts ===== -/
theorem within_ok (σ : qM) (b a z : Int32) : fX5_within σ b a z = some (wit a z b, σ) := by
  unfold fX5_within wit
  rw [in_gen]
  simp only [fa_wide_le, Option.bind_some]
  by_cases h : a ≤ b ∧ b ≤ z
  · rw [if_pos h, if_pos h, if_neg (by decide)]
  · rw [if_neg h, if_neg h, if_pos rfl]
theorem shapeOf_ok (σ : qM) (b : Int32) : fX5_shapeOf σ b = some (shp b, σ) := by
  unfold fX5_shapeOf shp
  repeat' split
  all_goals rfl
theorem lieOf_ok (σ : qM) (b : Int32) : fX5_lieOf σ b = some (lie b, σ) := by
  unfold fX5_lieOf lie
  repeat' split
  all_goals rfl
theorem tells0_ok (σ : qM) (b : Int32) {k : Nat} (hk : k < 3) : fX5_tellsOf σ 0 (nI k) b = some (tell 0 k b, σ) := by
  unfold fX5_tellsOf tell
  rw [within_ok, within_ok, within_ok, shapeOf_ok, if_pos rfl, if_pos rfl]
  rcases (show k = 0 ∨ k = 1 ∨ k = 2 by omega) with rfl | rfl | rfl <;> rfl
theorem tells1_ok (σ : qM) (b : Int32) {k : Nat} (hk : k < 5) : fX5_tellsOf σ 1 (nI k) b = some (tell 1 k b, σ) := by
  unfold fX5_tellsOf fX5_tellsOf_72 tell
  rw [within_ok, within_ok, within_ok, shapeOf_ok, lieOf_ok, if_neg (show ¬ (1 : Int32) = 0 by decide), if_neg (show ¬ (1 : Nat) = 0 by decide)]
  rcases (show k = 0 ∨ k = 1 ∨ k = 2 ∨ k = 3 ∨ k = 4 by omega) with rfl | rfl | rfl | rfl | rfl
  · rfl
  · rfl
  · rfl
  · show (if b = 43 then _ else _) = some ((if b = 43 then _ else _), σ)
    by_cases h : b = 43
    · rw [if_pos h, if_pos h]
    · rw [if_neg h, if_neg h]
      by_cases h2 : b = 45
      · rw [if_pos h2, if_pos h2]
      · rw [if_neg h2, if_neg h2]
  · rfl
/-- what reading text 0 leaves as it was -/
def frT0 (σ σ' : qM) : Prop := (∀ a, ¬ a = 0 → ¬ a = 7 → σ' a = σ a) ∧ (∀ k, ¬ k = 7 → ¬ k = 8 → σ' 0 k = σ 0 k)
theorem frT0.rf (σ : qM) : frT0 σ σ := ⟨fun _ _ _ => rfl, fun _ _ _ => rfl⟩
theorem frT0.tr {σ σ' σ'' : qM} (h : frT0 σ σ') (g : frT0 σ' σ'') : frT0 σ σ'' := ⟨fun a h1 h2 => by rw [g.1 a h1 h2, h.1 a h1 h2], fun k h1 h2 => by rw [g.2 k h1 h2, h.2 k h1 h2]⟩
/-- one thing of text 0 -/
theorem thing0 (σ0 : qM) (B : Nat → Int32) (bn : Nat → Nat) (L l : Nat) (hL : L ≤ 47) (hB : ∀ i, i < L → B i = nI (bn i) ∧ bn i < 256) (h6 : σ0 6 0 = nI L) (hb : ∀ i, i < L → σ0 5 (0 + i) = B i) (h7 : σ0 0 7 = nI (l * 4)) (hc : σ0 0 8 = nI l) (hl : l * 4 ≤ L) :
    qok (fX5_readsThing σ0 0) (fun q => ∃ k, k ≤ 3 ∧ frT0 σ0 q.2 ∧ q.2 0 7 = nI (l * 4 + k) ∧ l * 4 + k ≤ L ∧ (∀ j, j < k → ¬ tval 0 B (l * 4 + j) = -1) ∧ (∀ j, j < k → q.2 7 (l * 3 + j) = tval 0 B (l * 4 + j)) ∧ (∀ p, p < l * 3 → q.2 7 p = σ0 7 p) ∧
      ((q.1 = 0 ∧ k < 3 ∧ q.2 0 8 = nI l ∧ (l * 4 + k = L ∨ (l * 4 + k < L ∧ tval 0 B (l * 4 + k) = -1))) ∨ (q.1 = 1 ∧ k = 3 ∧ q.2 0 8 = nI (l + 1)))) := by
  unfold fX5_readsThing fX5_readsThing_9 fX5_readsThing_37 fX5_readsThing_39
  refine qok_t rfl (qok_t rfl (qok_f (by rw [hc]; exact fun q => absurd ((nI_eq (a := l) (b := 12) (by omega) (by decide)).mp q) (by omega)) ?_))
  refine qok_lp4 (fun m σ x1 x2 x3 => ∃ k, m = 3 - k ∧ k ≤ 3 ∧ x1 = 0 ∧ x2 = 3 ∧ x3 = nI k ∧ frT0 σ0 σ ∧ σ 0 7 = nI (l * 4 + k) ∧ l * 4 + k ≤ L ∧ (∀ j, j < k → ¬ tval 0 B (l * 4 + j) = -1) ∧ (∀ j, j < k → σ 7 (l * 3 + j) = tval 0 B (l * 4 + j)) ∧ (∀ p, p < l * 3 → σ 7 p = σ0 7 p) ∧ σ 0 8 = nI l) ?_ qFU 3 σ0 0 3 0 (by rw [qFU_eq]; omega) ⟨0, rfl, by omega, rfl, rfl, rfl, frT0.rf σ0, h7, hl, fun j h => by omega, fun j h => by omega, fun p _ => rfl, hc⟩
  rintro m kk ih σ x1 x2 x3 ⟨k, hm, hk, rfl, rfl, rfl, hF, e7, hkL, hg, hp, ho, ec⟩
  have e6 : σ 6 0 = nI L := by rw [hF.1 6 (by decide) (by decide), h6]
  unfold bX5_readsThing_39
  by_cases hkw : k = 3
  · subst hkw
    refine qok_t (show (3 : Int32) ≤ nI 3 by decide) ?_
    refine qok_t rfl ?_
    unfold fX5_readsThing_157 fX5_readsThing_161
    refine qok_some ⟨3, by omega, ⟨fun a ha ha2 => ?_, fun q h1 h2 => ?_⟩, ?_, hkL, hg, fun j hj => ?_, fun p hpp => ?_, Or.inr ⟨rfl, rfl, ?_⟩⟩
    · dsimp only
      rw [qup_ne _ _ _ ha, qup_ne _ _ _ ha, hF.1 a ha ha2]
    · dsimp only
      rw [qup_eq, upd_at]
      by_cases e : q = 10
      · subst e
        rw [if_pos rfl, qup_eq, upd_at, if_neg (by decide), Int32.add_zero, hF.2 10 (by decide) (by decide)]
      · rw [if_neg e, qup_eq, upd_at, if_neg h2, hF.2 q h1 h2]
    · dsimp only
      rw [qup_eq, upd_at, if_neg (by decide), qup_eq, upd_at, if_neg (by decide), e7]
    · dsimp only
      rw [qup_ne _ _ _ (by decide), qup_ne _ _ _ (by decide)]; exact hp j hj
    · dsimp only
      rw [qup_ne _ _ _ (by decide), qup_ne _ _ _ (by decide)]; exact ho p hpp
    · dsimp only
      rw [qup_eq, upd_at, if_neg (by decide), qup_eq, upd_at, if_pos rfl, ec]; exact nI_1 l
  · have hk2 : k < 3 := by omega
    refine qok_f (show ¬ (3 : Int32) ≤ nI k from nI_ge (a := k) (b := 3) hk2 (by decide)) ?_
    refine qok_t (show qin (0 : Int32) 2 by decide) ?_
    rw [show (0 : Int32).toNatClampNeg = 0 from rfl, e6, e7]
    -- a byte that tells nothing
    have bad : (l * 4 + k = L ∨ (l * 4 + k < L ∧ tval 0 B (l * 4 + k) = -1)) → qok (fX5_readsThing_80 kk σ 0 3 (nI k) (-1)) (fun q => ∃ k, k ≤ 3 ∧ frT0 σ0 q.2 ∧ q.2 0 7 = nI (l * 4 + k) ∧ l * 4 + k ≤ L ∧ (∀ j, j < k → ¬ tval 0 B (l * 4 + j) = -1) ∧ (∀ j, j < k → q.2 7 (l * 3 + j) = tval 0 B (l * 4 + j)) ∧ (∀ p, p < l * 3 → q.2 7 p = σ0 7 p) ∧
      ((q.1 = 0 ∧ k < 3 ∧ q.2 0 8 = nI l ∧ (l * 4 + k = L ∨ (l * 4 + k < L ∧ tval 0 B (l * 4 + k) = -1))) ∨ (q.1 = 1 ∧ k = 3 ∧ q.2 0 8 = nI (l + 1)))) := by
      intro hq
      unfold fX5_readsThing_80
      exact qok_t rfl (qok_some ⟨k, hk, hF, e7, hkL, hg, hp, ho, Or.inl ⟨rfl, hk2, ec, hq⟩⟩)
    by_cases hend : l * 4 + k = L
    · exact qok_t (nI_le (by omega) (by omega)) (bad (Or.inl hend))
    · have hlt : l * 4 + k < L := by omega
      refine qok_f (nI_ge hlt (by omega)) ?_
      have ix : (60 : Int32) * 0 + nI (l * 4 + k) = nI (0 + (l * 4 + k)) := by
        rw [show (60 : Int32) * 0 = nI 0 from by decide, nI_add]
      rw [ix]
      refine qok_t (qin_of (by omega) (by decide)) ?_
      rw [nI_clamp (by omega), hF.1 5 (by decide) (by decide), hb _ hlt]
      refine qok_eq (tells0_ok σ _ hk2) ?_
      obtain ⟨b1, b2⟩ := hB _ hlt
      have ht : tell 0 k (B (l * 4 + k)) = tval 0 B (l * 4 + k) := by
        unfold tval
        rw [show (l * 4 + k) % (twd 0 + 1) = k by show (l * 4 + k) % 4 = k; omega, if_neg (show ¬ k = twd 0 from by show ¬ k = 3; omega)]
      rw [ht]
      by_cases hbad : tval 0 B (l * 4 + k) = -1
      · rw [hbad]; exact bad (Or.inr ⟨hlt, hbad⟩)
      · show qok (fX5_readsThing_80 kk σ 0 3 (nI k) (tval 0 B (l * 4 + k))) _
        unfold fX5_readsThing_80 fX5_readsThing_127
        refine qok_f hbad ?_
        refine qok_t rfl ?_
        have iy : (3 : Int32) * σ 0 8 + nI k = nI (l * 3 + k) := by
          rw [ec, show (3 : Int32) = nI 3 from rfl, pk_mul, nI_add, Nat.mul_comm]
        rw [iy]
        refine qok_t (qin_of (by omega) (by decide)) ?_
        rw [nI_clamp (by omega)]
        refine ih (3 - (k + 1)) _ _ _ _ (by omega) ⟨k + 1, rfl, by omega, rfl, rfl, nI_1 k, ?_, ?_, by omega, ?_, ?_, ?_, ?_⟩
        · refine ⟨fun a ha ha2 => ?_, fun q h1 h2 => ?_⟩
          · rw [qup_ne _ _ _ ha, qup_ne _ _ _ ha2, hF.1 a ha ha2]
          · rw [qup_eq, upd_at, if_neg h1, qup_ne _ _ _ (by decide), hF.2 q h1 h2]
        · rw [qup_eq, upd_at, if_pos rfl, qup_ne _ _ _ (by decide), e7]
          exact nI_1 _
        · intro j hj
          rcases Nat.lt_or_ge j k with q | q
          · exact hg j q
          · rw [show j = k by omega]; exact hbad
        · intro j hj
          rw [qup_ne _ _ _ (by decide), qup_eq, upd_at]
          by_cases e : j = k
          · subst e; rw [if_pos rfl]
          · rw [if_neg (by omega)]; exact hp j (by omega)
        · intro p hpp
          rw [qup_ne _ _ _ (by decide), qup_eq, upd_at, if_neg (by omega)]
          exact ho p hpp
        · rw [qup_eq, upd_at, if_neg (by decide), qup_ne _ _ _ (by decide), ec]
/-- emptying text 0 -/
theorem empty0 (σ : qM) : qok (fX5_empty σ 0) (fun σ' => (∀ a, ¬ a = 0 → σ' a = σ a) ∧ (∀ k, ¬ k = 8 → σ' 0 k = σ 0 k) ∧ σ' 0 8 = 0) := by
  unfold fX5_empty fX5_empty_13 fX5_empty_30
  refine qok_t rfl (qok_f (by decide) (qok_some ⟨fun a ha => ?_, fun k hk => ?_, ?_⟩))
  · rw [qup_ne _ _ _ ha, qup_ne _ _ _ ha]
  · rw [qup_eq, upd_at]
    by_cases e : k = 10
    · subst e; rw [if_pos rfl, qup_eq, upd_at, if_neg (by decide)]
    · rw [if_neg e, qup_eq, upd_at, if_neg hk]
  · rw [qup_eq, upd_at, if_neg (by decide), qup_eq, upd_at, if_pos rfl]
/-- the reference's reading of text 0 -/
theorem text0 (σ0 : qM) (B : Nat → Int32) (bn : Nat → Nat) (L : Nat) (hL : L ≤ 47) (hB : ∀ i, i < L → B i = nI (bn i) ∧ bn i < 256) (h6 : σ0 6 0 = nI L) (hb : ∀ i, i < L → σ0 5 (0 + i) = B i) :
    qok (fX5_readsText σ0 0) (fun q => q.1 = pF 0 B L ∧ frT0 σ0 q.2 ∧ q.2 0 8 = nI (pN 0 B L) ∧ (pF 0 B L = -1 → ∀ l j, l < pN 0 B L → j < 3 → q.2 7 (l * 3 + j) = tell 0 j (B (l * 4 + j)))) := by
  unfold fX5_readsText fX5_readsText_5 fX5_readsText_24
  refine qok_bind (qok_mono (empty0 (qup σ0 0 7 0)) ?_)
  rintro σ1 ⟨f1, f2, f3⟩
  have F1 : frT0 σ0 σ1 := ⟨fun a ha _ => by rw [f1 a ha, qup_ne _ _ _ ha], fun k h1 h2 => by rw [f2 k h2, qup_eq, upd_at, if_neg h1]⟩
  have g7 : σ1 0 7 = 0 := by rw [f2 7 (by decide), qup_eq, upd_at, if_pos rfl]
  have g6 : σ1 6 0 = nI L := by rw [F1.1 6 (by decide) (by decide), h6]
  refine qok_t (show qin (0 : Int32) 2 by decide) ?_
  rw [show (0 : Int32).toNatClampNeg = 0 from rfl, g6]
  unfold fX5_readsText_25
  by_cases hz : L = 0
  · subst hz
    refine qok_t (by decide) ?_
    refine qok_lp3 (fun m σ x1 x2 => σ = σ1 ∧ x1 = 0 ∧ x2 = 0) ?_ qFU 0 σ1 0 0 (by rw [qFU_eq]; omega) ⟨rfl, rfl, rfl⟩
    rintro m k ih σ x1 x2 ⟨rfl, rfl, rfl⟩
    unfold bX5_readsText_25
    refine qok_t rfl (qok_some ?_)
    have hF : pF 0 B 0 = -1 := by rw [pF_good (fun j h => by omega), if_pos (Or.inr rfl)]
    exact ⟨hF.symm, F1, by dsimp only; rw [f3, pN_0]; rfl, fun _ l j hl => by rw [pN_0] at hl; omega⟩
  · refine qok_f (by rw [show (0 : Int32) = nI 0 from rfl]; exact nI_ge (by omega) (by omega)) ?_
    -- the loop: x2 = 1 with l things read, or x2 = 0 at the end
    refine qok_lp3 (fun m σ x1 x2 => x1 = 0 ∧ frT0 σ0 σ ∧ ((x2 = 1 ∧ ∃ l, m = L + 1 - l ∧ l * 4 ≤ L ∧ σ 0 7 = nI (l * 4) ∧ σ 0 8 = nI l ∧ (∀ j, j < l * 4 → ¬ tval 0 B j = -1) ∧ (∀ i j, i < l → j < 3 → σ 7 (i * 3 + j) = tell 0 j (B (i * 4 + j)))) ∨ (x2 = 0 ∧ ∃ l, 0 < l ∧ l * 4 = L + 1 ∧ σ 0 8 = nI l ∧ (∀ j, j < L → ¬ tval 0 B j = -1) ∧ (∀ i j, i < l → j < 3 → σ 7 (i * 3 + j) = tell 0 j (B (i * 4 + j)))))) ?_ qFU (L + 1) σ1 0 1 (by rw [qFU_eq]; omega) ⟨rfl, F1, Or.inl ⟨rfl, 0, rfl, by omega, by rw [g7]; rfl, by rw [f3]; rfl, fun j h => by omega, fun i j h => by omega⟩⟩
    rintro m k ih σ x1 x2 ⟨rfl, hF, ⟨rfl, l, hm, hl, e7, ec, hg, hp⟩ | ⟨rfl, l, hl0, hl, ec, hg, hp⟩⟩
    · have e6 : σ 6 0 = nI L := by rw [hF.1 6 (by decide) (by decide), h6]
      have eb : ∀ i, i < L → σ 5 (0 + i) = B i := fun i hi => by rw [hF.1 5 (by decide) (by decide), hb i hi]
      unfold bX5_readsText_25
      refine qok_f (by decide) (qok_bind (qok_mono (thing0 σ B bn L l hL hB e6 eb e7 ec hl) ?_))
      rintro ⟨r, σ2⟩ ⟨kk, hkk, hF2, q7, hkL, hg2, hp2, ho2, hend⟩
      simp only at hF2 q7 hp2 ho2 hend ⊢
      have hF3 := hF.tr hF2
      have hgk : ∀ j, j < l * 4 + kk → ¬ tval 0 B j = -1 := fun j hj => by
        rcases Nat.lt_or_ge j (l * 4) with q | q
        · exact hg j q
        · rw [show j = l * 4 + (j - l * 4) by omega]; exact hg2 _ (by omega)
      -- a fault at at
      have fault : ∀ x3 : Int32, pF 0 B L = nI (l * 4 + kk) → qok (fX5_readsText_85 σ2 0) (fun q => q.1 = pF 0 B L ∧ frT0 σ0 q.2 ∧ q.2 0 8 = nI (pN 0 B L) ∧ (pF 0 B L = -1 → ∀ l j, l < pN 0 B L → j < 3 → q.2 7 (l * 3 + j) = tell 0 j (B (l * 4 + j)))) := by
        intro _ hq
        have hne : ¬ pF 0 B L = -1 := by rw [hq]; exact nI_m1 (by omega)
        unfold fX5_readsText_85
        refine qok_bind (qok_mono (empty0 σ2) ?_)
        rintro σ3 ⟨u1, u2, u3⟩
        refine qok_some ⟨?_, hF3.tr ⟨fun a ha _ => u1 a ha, fun q _ h2 => u2 q h2⟩, ?_, fun q => absurd q hne⟩
        · dsimp only
          rw [u2 7 (by decide), q7, hq]
        · dsimp only
          rw [u3, pN_bad hne]; rfl
      rcases hend with ⟨rfl, hkw, qc, hend⟩ | ⟨rfl, rfl, qc⟩
      · refine qok_t rfl ?_
        unfold fX5_readsText_56 fX5_readsText_57
        refine qok_t rfl (fault 0 ?_)
        rcases hend with hend | ⟨h1, h2⟩
        · rw [pF_good (fun j hj => hgk j (by omega)), if_neg (by show ¬ (L % 4 = 3 ∨ L = 0); omega), hend]
        · exact pF_bad h1 h2 hgk
      · refine qok_f (by decide) (qok_t (show qin (0 : Int32) 2 by decide) ?_)
        rw [show (0 : Int32).toNatClampNeg = 0 from rfl, hF2.1 6 (by decide) (by decide), e6, q7]
        have hparts : ∀ i j, i < l + 1 → j < 3 → σ2 7 (i * 3 + j) = tell 0 j (B (i * 4 + j)) := by
          intro i j hi hj
          by_cases e : i = l
          · subst e
            rw [hp2 j hj]
            unfold tval
            rw [show (i * 4 + j) % (twd 0 + 1) = j by show (i * 4 + j) % 4 = j; omega, if_neg (show ¬ j = twd 0 from by show ¬ j = 3; omega)]
          · rw [ho2 _ (by omega)]
            exact hp i j (by omega) hj
        by_cases hend : l * 4 + 3 = L
        · refine qok_t (nI_le (by omega) (by omega)) ?_
          unfold fX5_readsText_56 fX5_readsText_57 fX5_readsText_95 fX5_readsText_109
          refine qok_f (by decide) (qok_t rfl (qok_t rfl ?_))
          refine ih 0 _ _ _ (by omega) ⟨rfl, hF3.tr ⟨fun a ha _ => qup_ne _ _ _ ha, fun q h1 h2 => by rw [qup_eq, upd_at, if_neg h1]⟩, Or.inr ⟨rfl, l + 1, by omega, by omega, ?_, fun j hj => hgk j (by omega), ?_⟩⟩
          · rw [qup_eq, upd_at, if_neg (by decide), qc]
          · intro i j hi hj
            rw [qup_ne _ _ _ (by decide)]
            exact hparts i j hi hj
        · have hlt : l * 4 + 3 < L := by omega
          refine qok_f (nI_ge hlt (by omega)) ?_
          unfold fX5_readsText_57
          have ix : (60 : Int32) * 0 + σ2 0 7 = nI (0 + (l * 4 + 3)) := by
            rw [q7, show (60 : Int32) * 0 = nI 0 from by decide, nI_add]
          refine qok_f (by decide) (qok_f (by decide) ?_)
          rw [ix]
          refine qok_t (qin_of (by omega) (by decide)) ?_
          rw [nI_clamp (by omega), hF3.1 5 (by decide) (by decide), hb _ hlt]
          have htv : tval 0 B (l * 4 + 3) = if B (l * 4 + 3) = 59 then 0 else -1 := by
            unfold tval
            rw [if_pos (by show (l * 4 + 3) % 4 = 3; omega)]
          by_cases hsep : B (l * 4 + 3) = 59
          · rw [if_pos hsep] at htv
            refine qok_t hsep ?_
            unfold fX5_readsText_95 fX5_readsText_109
            refine qok_f (by decide) ?_
            refine ih (L + 1 - (l + 1)) _ _ _ (by omega) ⟨rfl, hF3.tr ⟨fun a ha _ => qup_ne _ _ _ ha, fun q h1 h2 => by rw [qup_eq, upd_at, if_neg h1]⟩, Or.inl ⟨rfl, l + 1, rfl, by omega, ?_, ?_, ?_, ?_⟩⟩
            · rw [qup_eq, upd_at, if_pos rfl, q7, show (l + 1) * 4 = l * 4 + 3 + 1 by omega]; exact nI_1 _
            · rw [qup_eq, upd_at, if_neg (by decide), qc]
            · intro j hj
              rcases Nat.lt_or_ge j (l * 4 + 3) with q | q
              · exact hgk j q
              · rw [show j = l * 4 + 3 by omega, htv]; decide
            · intro i j hi hj
              rw [qup_ne _ _ _ (by decide)]
              exact hparts i j hi hj
          · rw [if_neg hsep] at htv
            refine qok_f hsep (fault 1 ?_)
            exact pF_bad hlt htv hgk
    · unfold bX5_readsText_25
      refine qok_t rfl (qok_some ?_)
      have hF1 : pF 0 B L = -1 := by rw [pF_good hg, if_pos (Or.inl (by show L % 4 = 3; omega))]
      have hN : pN 0 B L = l := by rw [pN_ok hF1 (by omega)]; show L / 4 + 1 = l; omega
      exact ⟨hF1.symm, hF, by rw [hN]; exact ec, fun _ i j hi hj => hp i j (by rw [hN] at hi; exact hi) hj⟩
/-- what reading text 1 leaves as it was -/
def frT1 (σ σ' : qM) : Prop := (∀ a, ¬ a = 0 → ¬ a = 8 → σ' a = σ a) ∧ (∀ k, ¬ k = 7 → ¬ k = 10 → σ' 0 k = σ 0 k)
theorem frT1.rf (σ : qM) : frT1 σ σ := ⟨fun _ _ _ => rfl, fun _ _ _ => rfl⟩
theorem frT1.tr {σ σ' σ'' : qM} (h : frT1 σ σ') (g : frT1 σ' σ'') : frT1 σ σ'' := ⟨fun a h1 h2 => by rw [g.1 a h1 h2, h.1 a h1 h2], fun k h1 h2 => by rw [g.2 k h1 h2, h.2 k h1 h2]⟩
/-- one thing of text 1 -/
theorem thing1 (σ0 : qM) (B : Nat → Int32) (bn : Nat → Nat) (L l : Nat) (hL : L ≤ 59) (hB : ∀ i, i < L → B i = nI (bn i) ∧ bn i < 256) (h6 : σ0 6 1 = nI L) (hb : ∀ i, i < L → σ0 5 (60 + i) = B i) (h7 : σ0 0 7 = nI (l * 6)) (hc : σ0 0 10 = nI l) (hl : l * 6 ≤ L) :
    qok (fX5_readsThing σ0 1) (fun q => ∃ k, k ≤ 5 ∧ frT1 σ0 q.2 ∧ q.2 0 7 = nI (l * 6 + k) ∧ l * 6 + k ≤ L ∧ (∀ j, j < k → ¬ tval 1 B (l * 6 + j) = -1) ∧ (∀ j, j < k → q.2 8 (l * 5 + j) = tval 1 B (l * 6 + j)) ∧ (∀ p, p < l * 5 → q.2 8 p = σ0 8 p) ∧
      ((q.1 = 0 ∧ k < 5 ∧ q.2 0 10 = nI l ∧ (l * 6 + k = L ∨ (l * 6 + k < L ∧ tval 1 B (l * 6 + k) = -1))) ∨ (q.1 = 1 ∧ k = 5 ∧ q.2 0 10 = nI (l + 1)))) := by
  unfold fX5_readsThing fX5_readsThing_9 fX5_readsThing_37 fX5_readsThing_39
  refine qok_f (by decide) (qok_f (by decide) (qok_f (by rw [hc]; exact fun q => absurd ((nI_eq (a := l) (b := 10) (by omega) (by decide)).mp q) (by omega)) ?_))
  refine qok_lp4 (fun m σ x1 x2 x3 => ∃ k, m = 5 - k ∧ k ≤ 5 ∧ x1 = 1 ∧ x2 = 5 ∧ x3 = nI k ∧ frT1 σ0 σ ∧ σ 0 7 = nI (l * 6 + k) ∧ l * 6 + k ≤ L ∧ (∀ j, j < k → ¬ tval 1 B (l * 6 + j) = -1) ∧ (∀ j, j < k → σ 8 (l * 5 + j) = tval 1 B (l * 6 + j)) ∧ (∀ p, p < l * 5 → σ 8 p = σ0 8 p) ∧ σ 0 10 = nI l) ?_ qFU 5 σ0 1 5 0 (by rw [qFU_eq]; omega) ⟨0, rfl, by omega, rfl, rfl, rfl, frT1.rf σ0, h7, hl, fun j h => by omega, fun j h => by omega, fun p _ => rfl, hc⟩
  rintro m kk ih σ x1 x2 x3 ⟨k, hm, hk, rfl, rfl, rfl, hF, e7, hkL, hg, hp, ho, ec⟩
  have e6 : σ 6 1 = nI L := by rw [hF.1 6 (by decide) (by decide), h6]
  unfold bX5_readsThing_39
  by_cases hkw : k = 5
  · subst hkw
    refine qok_t (show (5 : Int32) ≤ nI 5 by decide) ?_
    refine qok_f (by decide) ?_
    unfold fX5_readsThing_157 fX5_readsThing_161
    refine qok_some ⟨5, by omega, ⟨fun a ha ha2 => ?_, fun q h1 h2 => ?_⟩, ?_, hkL, hg, fun j hj => ?_, fun p hpp => ?_, Or.inr ⟨rfl, rfl, ?_⟩⟩
    · dsimp only
      rw [qup_ne _ _ _ ha, qup_ne _ _ _ ha, hF.1 a ha ha2]
    · dsimp only
      rw [qup_eq, upd_at, if_neg h2, qup_eq, upd_at]
      by_cases e : q = 8
      · subst e
        rw [if_pos rfl, Int32.add_zero, hF.2 8 (by decide) (by decide)]
      · rw [if_neg e, hF.2 q h1 h2]
    · dsimp only
      rw [qup_eq, upd_at, if_neg (by decide), qup_eq, upd_at, if_neg (by decide), e7]
    · dsimp only
      rw [qup_ne _ _ _ (by decide), qup_ne _ _ _ (by decide)]; exact hp j hj
    · dsimp only
      rw [qup_ne _ _ _ (by decide), qup_ne _ _ _ (by decide)]; exact ho p hpp
    · dsimp only
      rw [qup_eq, upd_at, if_pos rfl, qup_eq, upd_at, if_neg (by decide), ec]; exact nI_1 l
  · have hk2 : k < 5 := by omega
    refine qok_f (show ¬ (5 : Int32) ≤ nI k from nI_ge (a := k) (b := 5) hk2 (by decide)) ?_
    refine qok_t (show qin (1 : Int32) 2 by decide) ?_
    rw [show (1 : Int32).toNatClampNeg = 1 from rfl, e6, e7]
    -- a byte that tells nothing
    have bad : (l * 6 + k = L ∨ (l * 6 + k < L ∧ tval 1 B (l * 6 + k) = -1)) → qok (fX5_readsThing_80 kk σ 1 5 (nI k) (-1)) (fun q => ∃ k, k ≤ 5 ∧ frT1 σ0 q.2 ∧ q.2 0 7 = nI (l * 6 + k) ∧ l * 6 + k ≤ L ∧ (∀ j, j < k → ¬ tval 1 B (l * 6 + j) = -1) ∧ (∀ j, j < k → q.2 8 (l * 5 + j) = tval 1 B (l * 6 + j)) ∧ (∀ p, p < l * 5 → q.2 8 p = σ0 8 p) ∧
      ((q.1 = 0 ∧ k < 5 ∧ q.2 0 10 = nI l ∧ (l * 6 + k = L ∨ (l * 6 + k < L ∧ tval 1 B (l * 6 + k) = -1))) ∨ (q.1 = 1 ∧ k = 5 ∧ q.2 0 10 = nI (l + 1)))) := by
      intro hq
      unfold fX5_readsThing_80
      exact qok_t rfl (qok_some ⟨k, hk, hF, e7, hkL, hg, hp, ho, Or.inl ⟨rfl, hk2, ec, hq⟩⟩)
    by_cases hend : l * 6 + k = L
    · exact qok_t (nI_le (by omega) (by omega)) (bad (Or.inl hend))
    · have hlt : l * 6 + k < L := by omega
      refine qok_f (nI_ge hlt (by omega)) ?_
      have ix : (60 : Int32) * 1 + nI (l * 6 + k) = nI (60 + (l * 6 + k)) := by
        rw [show (60 : Int32) * 1 = nI 60 from by decide, nI_add]
      rw [ix]
      refine qok_t (qin_of (by omega) (by decide)) ?_
      rw [nI_clamp (by omega), hF.1 5 (by decide) (by decide), hb _ hlt]
      refine qok_eq (tells1_ok σ _ hk2) ?_
      obtain ⟨b1, b2⟩ := hB _ hlt
      have ht : tell 1 k (B (l * 6 + k)) = tval 1 B (l * 6 + k) := by
        unfold tval
        rw [show (l * 6 + k) % (twd 1 + 1) = k by show (l * 6 + k) % 6 = k; omega, if_neg (show ¬ k = twd 1 from by show ¬ k = 5; omega)]
      rw [ht]
      by_cases hbad : tval 1 B (l * 6 + k) = -1
      · rw [hbad]; exact bad (Or.inr ⟨hlt, hbad⟩)
      · show qok (fX5_readsThing_80 kk σ 1 5 (nI k) (tval 1 B (l * 6 + k))) _
        unfold fX5_readsThing_80 fX5_readsThing_127
        refine qok_f hbad ?_
        refine qok_f (by decide) ?_
        have iy : (5 : Int32) * σ 0 10 + nI k = nI (l * 5 + k) := by
          rw [ec, show (5 : Int32) = nI 5 from rfl, pk_mul, nI_add, Nat.mul_comm]
        rw [iy]
        refine qok_t (qin_of (by omega) (by decide)) ?_
        rw [nI_clamp (by omega)]
        refine ih (5 - (k + 1)) _ _ _ _ (by omega) ⟨k + 1, rfl, by omega, rfl, rfl, nI_1 k, ?_, ?_, by omega, ?_, ?_, ?_, ?_⟩
        · refine ⟨fun a ha ha2 => ?_, fun q h1 h2 => ?_⟩
          · rw [qup_ne _ _ _ ha, qup_ne _ _ _ ha2, hF.1 a ha ha2]
          · rw [qup_eq, upd_at, if_neg h1, qup_ne _ _ _ (by decide), hF.2 q h1 h2]
        · rw [qup_eq, upd_at, if_pos rfl, qup_ne _ _ _ (by decide), e7]
          exact nI_1 _
        · intro j hj
          rcases Nat.lt_or_ge j k with q | q
          · exact hg j q
          · rw [show j = k by omega]; exact hbad
        · intro j hj
          rw [qup_ne _ _ _ (by decide), qup_eq, upd_at]
          by_cases e : j = k
          · subst e; rw [if_pos rfl]
          · rw [if_neg (by omega)]; exact hp j (by omega)
        · intro p hpp
          rw [qup_ne _ _ _ (by decide), qup_eq, upd_at, if_neg (by omega)]
          exact ho p hpp
        · rw [qup_eq, upd_at, if_neg (by decide), qup_ne _ _ _ (by decide), ec]
/-- emptying text 1 -/
theorem empty1 (σ : qM) : qok (fX5_empty σ 1) (fun σ' => (∀ a, ¬ a = 0 → σ' a = σ a) ∧ (∀ k, ¬ k = 10 → σ' 0 k = σ 0 k) ∧ σ' 0 10 = 0) := by
  unfold fX5_empty fX5_empty_13 fX5_empty_30
  refine qok_f (by decide) (qok_t rfl (qok_some ⟨fun a ha => ?_, fun k hk => ?_, ?_⟩))
  · rw [qup_ne _ _ _ ha, qup_ne _ _ _ ha]
  · rw [qup_eq, upd_at, if_neg hk, qup_eq, upd_at]
    by_cases e : k = 8
    · subst e; rw [if_pos rfl]
    · rw [if_neg e]
  · rw [qup_eq, upd_at, if_pos rfl]
/-- the reference's reading of text 1 -/
theorem text1 (σ0 : qM) (B : Nat → Int32) (bn : Nat → Nat) (L : Nat) (hL : L ≤ 59) (hB : ∀ i, i < L → B i = nI (bn i) ∧ bn i < 256) (h6 : σ0 6 1 = nI L) (hb : ∀ i, i < L → σ0 5 (60 + i) = B i) :
    qok (fX5_readsText σ0 1) (fun q => q.1 = pF 1 B L ∧ frT1 σ0 q.2 ∧ q.2 0 10 = nI (pN 1 B L) ∧ (pF 1 B L = -1 → ∀ l j, l < pN 1 B L → j < 5 → q.2 8 (l * 5 + j) = tell 1 j (B (l * 6 + j)))) := by
  unfold fX5_readsText fX5_readsText_5 fX5_readsText_24
  refine qok_bind (qok_mono (empty1 (qup σ0 0 7 0)) ?_)
  rintro σ1 ⟨f1, f2, f3⟩
  have F1 : frT1 σ0 σ1 := ⟨fun a ha _ => by rw [f1 a ha, qup_ne _ _ _ ha], fun k h1 h2 => by rw [f2 k h2, qup_eq, upd_at, if_neg h1]⟩
  have g7 : σ1 0 7 = 0 := by rw [f2 7 (by decide), qup_eq, upd_at, if_pos rfl]
  have g6 : σ1 6 1 = nI L := by rw [F1.1 6 (by decide) (by decide), h6]
  refine qok_t (show qin (1 : Int32) 2 by decide) ?_
  rw [show (1 : Int32).toNatClampNeg = 1 from rfl, g6]
  unfold fX5_readsText_25
  by_cases hz : L = 0
  · subst hz
    refine qok_t (by decide) ?_
    refine qok_lp3 (fun m σ x1 x2 => σ = σ1 ∧ x1 = 1 ∧ x2 = 0) ?_ qFU 0 σ1 1 0 (by rw [qFU_eq]; omega) ⟨rfl, rfl, rfl⟩
    rintro m k ih σ x1 x2 ⟨rfl, rfl, rfl⟩
    unfold bX5_readsText_25
    refine qok_t rfl (qok_some ?_)
    have hF : pF 1 B 0 = -1 := by rw [pF_good (fun j h => by omega), if_pos (Or.inr rfl)]
    exact ⟨hF.symm, F1, by dsimp only; rw [f3, pN_0]; rfl, fun _ l j hl => by rw [pN_0] at hl; omega⟩
  · refine qok_f (by rw [show (0 : Int32) = nI 0 from rfl]; exact nI_ge (by omega) (by omega)) ?_
    -- the loop: x2 = 1 with l things read, or x2 = 0 at the end
    refine qok_lp3 (fun m σ x1 x2 => x1 = 1 ∧ frT1 σ0 σ ∧ ((x2 = 1 ∧ ∃ l, m = L + 1 - l ∧ l * 6 ≤ L ∧ σ 0 7 = nI (l * 6) ∧ σ 0 10 = nI l ∧ (∀ j, j < l * 6 → ¬ tval 1 B j = -1) ∧ (∀ i j, i < l → j < 5 → σ 8 (i * 5 + j) = tell 1 j (B (i * 6 + j)))) ∨ (x2 = 0 ∧ ∃ l, 0 < l ∧ l * 6 = L + 1 ∧ σ 0 10 = nI l ∧ (∀ j, j < L → ¬ tval 1 B j = -1) ∧ (∀ i j, i < l → j < 5 → σ 8 (i * 5 + j) = tell 1 j (B (i * 6 + j)))))) ?_ qFU (L + 1) σ1 1 1 (by rw [qFU_eq]; omega) ⟨rfl, F1, Or.inl ⟨rfl, 0, rfl, by omega, by rw [g7]; rfl, by rw [f3]; rfl, fun j h => by omega, fun i j h => by omega⟩⟩
    rintro m k ih σ x1 x2 ⟨rfl, hF, ⟨rfl, l, hm, hl, e7, ec, hg, hp⟩ | ⟨rfl, l, hl0, hl, ec, hg, hp⟩⟩
    · have e6 : σ 6 1 = nI L := by rw [hF.1 6 (by decide) (by decide), h6]
      have eb : ∀ i, i < L → σ 5 (60 + i) = B i := fun i hi => by rw [hF.1 5 (by decide) (by decide), hb i hi]
      unfold bX5_readsText_25
      refine qok_f (by decide) (qok_bind (qok_mono (thing1 σ B bn L l hL hB e6 eb e7 ec hl) ?_))
      rintro ⟨r, σ2⟩ ⟨kk, hkk, hF2, q7, hkL, hg2, hp2, ho2, hend⟩
      simp only at hF2 q7 hp2 ho2 hend ⊢
      have hF3 := hF.tr hF2
      have hgk : ∀ j, j < l * 6 + kk → ¬ tval 1 B j = -1 := fun j hj => by
        rcases Nat.lt_or_ge j (l * 6) with q | q
        · exact hg j q
        · rw [show j = l * 6 + (j - l * 6) by omega]; exact hg2 _ (by omega)
      -- a fault at at
      have fault : ∀ x3 : Int32, pF 1 B L = nI (l * 6 + kk) → qok (fX5_readsText_85 σ2 1) (fun q => q.1 = pF 1 B L ∧ frT1 σ0 q.2 ∧ q.2 0 10 = nI (pN 1 B L) ∧ (pF 1 B L = -1 → ∀ l j, l < pN 1 B L → j < 5 → q.2 8 (l * 5 + j) = tell 1 j (B (l * 6 + j)))) := by
        intro _ hq
        have hne : ¬ pF 1 B L = -1 := by rw [hq]; exact nI_m1 (by omega)
        unfold fX5_readsText_85
        refine qok_bind (qok_mono (empty1 σ2) ?_)
        rintro σ3 ⟨u1, u2, u3⟩
        refine qok_some ⟨?_, hF3.tr ⟨fun a ha _ => u1 a ha, fun q _ h2 => u2 q h2⟩, ?_, fun q => absurd q hne⟩
        · dsimp only
          rw [u2 7 (by decide), q7, hq]
        · dsimp only
          rw [u3, pN_bad hne]; rfl
      rcases hend with ⟨rfl, hkw, qc, hend⟩ | ⟨rfl, rfl, qc⟩
      · refine qok_t rfl ?_
        unfold fX5_readsText_56 fX5_readsText_57
        refine qok_t rfl (fault 0 ?_)
        rcases hend with hend | ⟨h1, h2⟩
        · rw [pF_good (fun j hj => hgk j (by omega)), if_neg (by show ¬ (L % 6 = 5 ∨ L = 0); omega), hend]
        · exact pF_bad h1 h2 hgk
      · refine qok_f (by decide) (qok_t (show qin (1 : Int32) 2 by decide) ?_)
        rw [show (1 : Int32).toNatClampNeg = 1 from rfl, hF2.1 6 (by decide) (by decide), e6, q7]
        have hparts : ∀ i j, i < l + 1 → j < 5 → σ2 8 (i * 5 + j) = tell 1 j (B (i * 6 + j)) := by
          intro i j hi hj
          by_cases e : i = l
          · subst e
            rw [hp2 j hj]
            unfold tval
            rw [show (i * 6 + j) % (twd 1 + 1) = j by show (i * 6 + j) % 6 = j; omega, if_neg (show ¬ j = twd 1 from by show ¬ j = 5; omega)]
          · rw [ho2 _ (by omega)]
            exact hp i j (by omega) hj
        by_cases hend : l * 6 + 5 = L
        · refine qok_t (nI_le (by omega) (by omega)) ?_
          unfold fX5_readsText_56 fX5_readsText_57 fX5_readsText_95 fX5_readsText_109
          refine qok_f (by decide) (qok_t rfl (qok_t rfl ?_))
          refine ih 0 _ _ _ (by omega) ⟨rfl, hF3.tr ⟨fun a ha _ => qup_ne _ _ _ ha, fun q h1 h2 => by rw [qup_eq, upd_at, if_neg h1]⟩, Or.inr ⟨rfl, l + 1, by omega, by omega, ?_, fun j hj => hgk j (by omega), ?_⟩⟩
          · rw [qup_eq, upd_at, if_neg (by decide), qc]
          · intro i j hi hj
            rw [qup_ne _ _ _ (by decide)]
            exact hparts i j hi hj
        · have hlt : l * 6 + 5 < L := by omega
          refine qok_f (nI_ge hlt (by omega)) ?_
          unfold fX5_readsText_57
          have ix : (60 : Int32) * 1 + σ2 0 7 = nI (60 + (l * 6 + 5)) := by
            rw [q7, show (60 : Int32) * 1 = nI 60 from by decide, nI_add]
          refine qok_f (by decide) (qok_f (by decide) ?_)
          rw [ix]
          refine qok_t (qin_of (by omega) (by decide)) ?_
          rw [nI_clamp (by omega), hF3.1 5 (by decide) (by decide), hb _ hlt]
          have htv : tval 1 B (l * 6 + 5) = if B (l * 6 + 5) = 59 then 0 else -1 := by
            unfold tval
            rw [if_pos (by show (l * 6 + 5) % 6 = 5; omega)]
          by_cases hsep : B (l * 6 + 5) = 59
          · rw [if_pos hsep] at htv
            refine qok_t hsep ?_
            unfold fX5_readsText_95 fX5_readsText_109
            refine qok_f (by decide) ?_
            refine ih (L + 1 - (l + 1)) _ _ _ (by omega) ⟨rfl, hF3.tr ⟨fun a ha _ => qup_ne _ _ _ ha, fun q h1 h2 => by rw [qup_eq, upd_at, if_neg h1]⟩, Or.inl ⟨rfl, l + 1, rfl, by omega, ?_, ?_, ?_, ?_⟩⟩
            · rw [qup_eq, upd_at, if_pos rfl, q7, show (l + 1) * 6 = l * 6 + 5 + 1 by omega]; exact nI_1 _
            · rw [qup_eq, upd_at, if_neg (by decide), qc]
            · intro j hj
              rcases Nat.lt_or_ge j (l * 6 + 5) with q | q
              · exact hgk j q
              · rw [show j = l * 6 + 5 by omega, htv]; decide
            · intro i j hi hj
              rw [qup_ne _ _ _ (by decide)]
              exact hparts i j hi hj
          · rw [if_neg hsep] at htv
            refine qok_f hsep (fault 1 ?_)
            exact pF_bad hlt htv hgk
    · unfold bX5_readsText_25
      refine qok_t rfl (qok_some ?_)
      have hF1 : pF 1 B L = -1 := by rw [pF_good hg, if_pos (Or.inl (by show L % 6 = 5; omega))]
      have hN : pN 1 B L = l := by rw [pN_ok hF1 (by omega)]; show L / 6 + 1 = l; omega
      exact ⟨hF1.symm, hF, by rw [hN]; exact ec, fun _ i j hi hj => hp i j (by rw [hN] at hi; exact hi) hj⟩
