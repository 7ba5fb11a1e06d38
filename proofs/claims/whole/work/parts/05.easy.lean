theorem cs_m2 (s : Nat) : nI s * 2 = nI (2 * s) := by rw [Nat.mul_comm]; exact pk_mul s 2
theorem cs_2m (s : Nat) : 2 * nI s = nI (2 * s) := pk_mul 2 s
theorem cs_m4 (s : Nat) : nI s * 4 = nI (4 * s) := by rw [Nat.mul_comm]; exact pk_mul s 4
theorem cs_4m (s : Nat) : 4 * nI s = nI (4 * s) := pk_mul 4 s
theorem cs_m6 (s : Nat) : nI s * 6 = nI (6 * s) := by rw [Nat.mul_comm]; exact pk_mul s 6
theorem cs_6m (s : Nat) : 6 * nI s = nI (6 * s) := pk_mul 6 s
theorem cs_m27 (s : Nat) : nI s * 27 = nI (27 * s) := by rw [Nat.mul_comm]; exact pk_mul s 27
theorem cs_27m (s : Nat) : 27 * nI s = nI (27 * s) := pk_mul 27 s
theorem cs_m32 (s : Nat) : nI s * 32 = nI (32 * s) := by rw [Nat.mul_comm]; exact pk_mul s 32
theorem cs_32m (s : Nat) : 32 * nI s = nI (32 * s) := pk_mul 32 s
theorem cs_m108 (s : Nat) : nI s * 108 = nI (108 * s) := by rw [Nat.mul_comm]; exact pk_mul s 108
theorem cs_108m (s : Nat) : 108 * nI s = nI (108 * s) := pk_mul 108 s
theorem cs_z2 : ¬ (2 : Int32) = 0 := by decide
theorem cs_z4 : ¬ (4 : Int32) = 0 := by decide
theorem cs_z6 : ¬ (6 : Int32) = 0 := by decide
theorem cs_z8 : ¬ (8 : Int32) = 0 := by decide
theorem cs_z256 : ¬ (256 : Int32) = 0 := by decide
theorem cs_z32 : ¬ (32 : Int32) = 0 := by decide
theorem cs_ge {p : Int32} {a b : Nat} (h : nI b ≤ p) (hab : a < b) (hb : b < 2 ^ 31) : ¬ p ≤ nI a := Int32.not_le.mpr (Int32.lt_of_lt_of_le (nI_lt hab hb) h)
theorem cs_ge0 {p : Int32} {b : Nat} (h : nI b ≤ p) (hb : b < 2 ^ 31) : ¬ p < 0 := Int32.not_lt.mpr (Int32.le_trans (nI_pos' hb) h)
theorem cs_stat (p0 : Int32) : ((∀ post : Int32 → Prop, post 0 → wpX_isStation post p0) ∧ (∀ (post : Int32 → Prop) (v : SY), post 1 → wpY_badStation post v p0)) ∨
    ∃ s, s < 4 ∧ p0 = nI s ∧ (∀ post : Int32 → Prop, post 1 → wpX_isStation post p0) ∧ (∀ (post : Int32 → Prop) (v : SY), post 0 → wpY_badStation post v p0) := by
  rcases pk_ix p0 (n := 4) (by decide) with h | h | ⟨s, hs, rfl⟩
  · exact Or.inl ⟨fun post q => br_t h q, fun post ⟨y1, y2, y3, y4, y5, y6, y7, y8, y9, y10, y11, y12, y13, y14, y15, y16, y17, y18, y19, y20, y21, y22, y23, y24, y25, y26, y27, y28, y29, y30, y31, y32, y33, y34⟩ q => br_t h q⟩
  · have h0 := cs_ge0 h (by decide)
    exact Or.inl ⟨fun post q => br_f h0 (br_t h q), fun post ⟨y1, y2, y3, y4, y5, y6, y7, y8, y9, y10, y11, y12, y13, y14, y15, y16, y17, y18, y19, y20, y21, y22, y23, y24, y25, y26, y27, y28, y29, y30, y31, y32, y33, y34⟩ q => br_f h0 (br_f (cs_ge (a := 3) h (by decide) (by decide)) q)⟩
  · have h0 : ¬ nI s < 0 := nI_pos (by omega)
    exact Or.inr ⟨s, hs, rfl, fun post q => br_f h0 (br_f (nI_ge (b := 4) hs (by decide)) q), fun post ⟨y1, y2, y3, y4, y5, y6, y7, y8, y9, y10, y11, y12, y13, y14, y15, y16, y17, y18, y19, y20, y21, y22, y23, y24, y25, y26, y27, y28, y29, y30, y31, y32, y33, y34⟩ q => br_f h0 (br_t (nI_le (b := 3) (by omega) (by decide)) q)⟩
theorem cs_circ (p0 : Int32) : ((∀ post : Int32 → Prop, post 0 → wpX_isCircuit post p0) ∧ (∀ (post : Int32 → Prop) (v : SY), post 1 → wpY_badCircuit post v p0)) ∨
    ∃ s, s < 8 ∧ p0 = nI s ∧ (∀ post : Int32 → Prop, post 1 → wpX_isCircuit post p0) ∧ (∀ (post : Int32 → Prop) (v : SY), post 0 → wpY_badCircuit post v p0) := by
  rcases pk_ix p0 (n := 8) (by decide) with h | h | ⟨s, hs, rfl⟩
  · exact Or.inl ⟨fun post q => br_t h q, fun post ⟨y1, y2, y3, y4, y5, y6, y7, y8, y9, y10, y11, y12, y13, y14, y15, y16, y17, y18, y19, y20, y21, y22, y23, y24, y25, y26, y27, y28, y29, y30, y31, y32, y33, y34⟩ q => br_t h q⟩
  · have h0 := cs_ge0 h (by decide)
    exact Or.inl ⟨fun post q => br_f h0 (br_t h q), fun post ⟨y1, y2, y3, y4, y5, y6, y7, y8, y9, y10, y11, y12, y13, y14, y15, y16, y17, y18, y19, y20, y21, y22, y23, y24, y25, y26, y27, y28, y29, y30, y31, y32, y33, y34⟩ q => br_f h0 (br_f (cs_ge (a := 7) h (by decide) (by decide)) q)⟩
  · have h0 : ¬ nI s < 0 := nI_pos (by omega)
    exact Or.inr ⟨s, hs, rfl, fun post q => br_f h0 (br_f (nI_ge (b := 8) hs (by decide)) q), fun post ⟨y1, y2, y3, y4, y5, y6, y7, y8, y9, y10, y11, y12, y13, y14, y15, y16, y17, y18, y19, y20, y21, y22, y23, y24, y25, y26, y27, y28, y29, y30, y31, y32, y33, y34⟩ q => br_f h0 (br_t (nI_le (b := 7) (by omega) (by decide)) q)⟩
theorem i_vc_time {k : Nat} {u : SX} {v : SY} (I : i_Rel k u v) (hk : k + 5 ≤ 2560) : wpX_time (fun r => wpY_time (fun r' => r' = r ∧ i_Rel (k + 5) u v) v) u := by
  have I' := i_up I
  obtain ⟨now, bf, bs, CN, FB, FZ, FC, op, FR, TO, GA, TL, DU, W, WF, NX, HD, KX, KF, KS, LA, TA, WA, QC, QX, BX, IF, BU, WT, NY, KY, KO, KM, KT, NU, CI, LE, SP, BY, HA, CA, QF, QL, QT, BH, BB, rfl, rfl, h1, h2, h3, h4, h5, h6, h7, h8, h9, h10, h11⟩ := I
  exact ⟨rfl, I'⟩
theorem i_vc_queued {k : Nat} {u : SX} {v : SY} (I : i_Rel k u v) (hk : k + 5 ≤ 2560) (v1 : Int32) : wpX_queued (fun r => wpY_queued (fun r' => r' = r ∧ i_Rel (k + 5) u v) v v1) u v1 := by
  have I' := i_up I
  obtain ⟨now, bf, bs, CN, FB, FZ, FC, op, FR, TO, GA, TL, DU, W, WF, NX, HD, KX, KF, KS, LA, TA, WA, QC, QX, BX, IF, BU, WT, NY, KY, KO, KM, KT, NU, CI, LE, SP, BY, HA, CA, QF, QL, QT, BH, BB, rfl, rfl, h1, h2, h3, h4, h5, h6, h7, h8, h9, h10, h11⟩ := I
  unfold wpX_queued wpY_queued
  rcases cs_stat v1 with ⟨hX, hY⟩ | ⟨s, hs, rfl, hX, hY⟩
  · exact hX _ (br_t rfl (hY _ _ (br_f cs_10 ⟨rfl, I'⟩)))
  · exact hX _ (br_f cs_10 ⟨vp_in_nI hs (by decide), hY _ _ (br_t rfl ⟨vp_in_nI hs (by decide), rfl, I'⟩)⟩)
theorem i_vc_inbox {k : Nat} {u : SX} {v : SY} (I : i_Rel k u v) (hk : k + 5 ≤ 2560) (v1 : Int32) : wpX_inbox (fun r => wpY_inbox (fun r' => r' = r ∧ i_Rel (k + 5) u v) v v1) u v1 := by
  have I' := i_up I
  obtain ⟨now, bf, bs, CN, FB, FZ, FC, op, FR, TO, GA, TL, DU, W, WF, NX, HD, KX, KF, KS, LA, TA, WA, QC, QX, BX, IF, BU, WT, NY, KY, KO, KM, KT, NU, CI, LE, SP, BY, HA, CA, QF, QL, QT, BH, BB, rfl, rfl, h1, h2, h3, h4, h5, h6, h7, h8, h9, h10, h11⟩ := I
  unfold wpX_inbox wpY_inbox
  rcases cs_stat v1 with ⟨hX, hY⟩ | ⟨s, hs, rfl, hX, hY⟩
  · exact hX _ (br_t rfl (hY _ _ (br_f cs_10 ⟨rfl, I'⟩)))
  · exact hX _ (br_f cs_10 ⟨vp_in_nI hs (by decide), hY _ _ (br_t rfl ⟨vp_in_nI hs (by decide), rfl, I'⟩)⟩)
theorem i_vc_counted {k : Nat} {u : SX} {v : SY} (I : i_Rel k u v) (hk : k + 5 ≤ 2560) (v1 : Int32) : wpX_counted (fun r => wpY_counted (fun r' => r' = r ∧ i_Rel (k + 5) u v) v v1) u v1 := by
  have I' := i_up I
  obtain ⟨now, bf, bs, CN, FB, FZ, FC, op, FR, TO, GA, TL, DU, W, WF, NX, HD, KX, KF, KS, LA, TA, WA, QC, QX, BX, IF, BU, WT, NY, KY, KO, KM, KT, NU, CI, LE, SP, BY, HA, CA, QF, QL, QT, BH, BB, rfl, rfl, h1, h2, h3, h4, h5, h6, h7, h8, h9, h10, h11⟩ := I
  unfold wpX_counted wpY_counted
  rcases pk_ix v1 (n := 7) (by decide) with h | h | ⟨s, hs, rfl⟩
  · exact br_t h (br_t h ⟨rfl, I'⟩)
  · have h0 := cs_ge0 h (by decide)
    exact br_f h0 (br_f (Int32.not_lt.mpr h) (br_f h0 (br_f (cs_ge (a := 6) h (by decide) (by decide)) ⟨rfl, I'⟩)))
  · have h0 : ¬ nI s < 0 := nI_pos (by omega)
    have hi : vp_in (nI s) 7 := vp_in_nI hs (by decide)
    exact br_f h0 (br_t (nI_lt (b := 7) hs (by decide)) ⟨hi, br_f h0 (br_t (nI_le (b := 6) (by omega) (by decide)) ⟨hi, rfl, I'⟩)⟩)
theorem i_vc_wary {k : Nat} {u : SX} {v : SY} (I : i_Rel k u v) (hk : k + 5 ≤ 2560) (v1 : Int32) : wpX_wary (fun r => wpY_wary (fun r' => r' = r ∧ i_Rel (k + 5) u v) v v1) u v1 := by
  have I' := i_up I
  obtain ⟨now, bf, bs, CN, FB, FZ, FC, op, FR, TO, GA, TL, DU, W, WF, NX, HD, KX, KF, KS, LA, TA, WA, QC, QX, BX, IF, BU, WT, NY, KY, KO, KM, KT, NU, CI, LE, SP, BY, HA, CA, QF, QL, QT, BH, BB, rfl, rfl, h1, h2, h3, h4, h5, h6, h7, h8, h9, h10, h11⟩ := I
  unfold wpX_wary wpY_wary
  rcases cs_stat v1 with ⟨hX, hY⟩ | ⟨s, hs, rfl, hX, hY⟩
  · exact hX _ (br_t rfl (hY _ _ (br_f cs_10 ⟨rfl, I'⟩)))
  · have hi : vp_in (nI s) 4 := vp_in_nI hs (by decide)
    by_cases q : WA (nI s).toNatClampNeg = 0
    · exact hX _ (br_f cs_10 ⟨hi, br_t q (hY _ _ (br_t rfl ⟨hi, br_t q ⟨rfl, I'⟩⟩))⟩)
    · exact hX _ (br_f cs_10 ⟨hi, br_f q (hY _ _ (br_t rfl ⟨hi, br_f q ⟨rfl, I'⟩⟩))⟩)
theorem i_vc_waiting {k : Nat} {u : SX} {v : SY} (I : i_Rel k u v) (hk : k + 5 ≤ 2560) (v1 : Int32) : wpX_waiting (fun r => wpY_waiting (fun r' => r' = r ∧ i_Rel (k + 5) u v) v v1) u v1 := by
  have I' := i_up I
  obtain ⟨now, bf, bs, CN, FB, FZ, FC, op, FR, TO, GA, TL, DU, W, WF, NX, HD, KX, KF, KS, LA, TA, WA, QC, QX, BX, IF, BU, WT, NY, KY, KO, KM, KT, NU, CI, LE, SP, BY, HA, CA, QF, QL, QT, BH, BB, rfl, rfl, h1, h2, h3, h4, h5, h6, h7, h8, h9, h10, h11⟩ := I
  unfold wpX_waiting wpY_waiting
  rcases cs_circ v1 with ⟨hX, hY⟩ | ⟨s, hs, rfl, hX, hY⟩
  · exact hX _ (br_t rfl (hY _ _ (br_f cs_10 ⟨rfl, I'⟩)))
  · have hi : vp_in (nI s) 8 := vp_in_nI hs (by decide)
    by_cases q : op (nI s).toNatClampNeg = 0
    · exact hX _ (br_f cs_10 ⟨hi, br_t q (hY _ _ (br_t rfl ⟨hi, br_t q ⟨rfl, I'⟩⟩))⟩)
    · exact hX _ (br_f cs_10 ⟨hi, br_f q ⟨hi, hY _ _ (br_t rfl ⟨hi, br_f q ⟨hi, rfl, I'⟩⟩)⟩⟩)
theorem cs_desc {now : Int32} {bf bs : Nat} {CN FB FZ FC op FR TO GA TL DU W WF NX HD KX KF KS LA TA WA QC QX BX IF BU WT NY KY KO KM KT NU CI LE SP BY HA CA QF QL QT BH BB : Nat → Int32} {s : Nat} (hs : s < 4) (hb : bf ≤ 255) (h8 : cs_I bf FC FZ FB BX IF BH BB) :
    (BX s = 0 ∧ ∀ post : Int32 → Prop, post (-2) → wpX_describeFirst post (now, (nI bf), (nI bs), CN, FB, FZ, FC, op, FR, TO, GA, TL, DU, W, WF, NX, HD, KX, KF, KS, LA, TA, WA, QC, QX, BX, IF) (nI s)) ∨
    (∃ n c z, n < 4 ∧ BX s = nI (n + 1) ∧ c < 8 ∧ 1 ≤ z ∧ z ≤ 27 ∧ BH (4 * s) = nI (32 * c + z) ∧ ∀ post : Int32 → Prop, post (nI (32 * c + z)) → wpX_describeFirst post (now, (nI bf), (nI bs), CN, FB, FZ, FC, op, FR, TO, GA, TL, DU, W, WF, NX, HD, KX, KF, KS, LA, TA, WA, QC, QX, BX, IF) (nI s)) := by
  obtain ⟨n, hn, e, g⟩ := h8 s hs
  have hi : vp_in (nI s) 4 := vp_in_nI hs (by decide)
  have ec : (nI s).toNatClampNeg = s := nI_clamp (by omega)
  rcases n with _ | n
  · refine Or.inl ⟨e, fun post q => ?_⟩
    unfold wpX_describeFirst
    exact ⟨hi, br_t (by rw [ec]; exact e) q⟩
  · obtain ⟨f, c, z, d1, d2, d3, d4, d5, d6, d7, d8, d9⟩ := g 0 (by omega)
    refine Or.inr ⟨n, c, z, by omega, e, d3, d4, d5, d8, fun post q => ?_⟩
    unfold wpX_describeFirst
    have hf : vp_in (nI f) 256 := vp_in_nI (by omega) (by decide)
    refine ⟨hi, br_f (by rw [ec, e]; exact nI_ne0 (by omega) (by omega)) ?_⟩
    rw [cs_m4, nI_clamp (show 4 * s < 2 ^ 31 by omega)]
    refine ⟨vp_in_nI (by omega) (by decide), nm_r d1 ⟨hf, hf, ?_⟩⟩
    rw [nI_clamp (show f < 2 ^ 31 by omega), d6, d7, cs_32m, nI_add]
    exact q
theorem i_vc_first {k : Nat} {u : SX} {v : SY} (I : i_Rel k u v) (hk : k + 5 ≤ 2560) (v1 : Int32) : wpX_first (fun r => wpY_first (fun r' => r' = r ∧ i_Rel (k + 5) u v) v v1) u v1 := by
  have I' := i_up I
  obtain ⟨now, bf, bs, CN, FB, FZ, FC, op, FR, TO, GA, TL, DU, W, WF, NX, HD, KX, KF, KS, LA, TA, WA, QC, QX, BX, IF, BU, WT, NY, KY, KO, KM, KT, NU, CI, LE, SP, BY, HA, CA, QF, QL, QT, BH, BB, rfl, rfl, h1, h2, h3, h4, h5, h6, h7, h8, h9, h10, h11⟩ := I
  unfold wpX_first wpY_first
  rcases cs_stat v1 with ⟨hX, hY⟩ | ⟨s, hs, rfl, hX, hY⟩
  · exact hX _ (br_t rfl (hY _ _ (br_f cs_10 ⟨rfl, I'⟩)))
  · have hi : vp_in (nI s) 4 := vp_in_nI hs (by decide)
    have ec : (nI s).toNatClampNeg = s := nI_clamp (by omega)
    refine hX _ (br_f cs_10 ?_)
    rcases @cs_desc now bf bs CN FB FZ FC op FR TO GA TL DU W WF NX HD KX KF KS LA TA WA QC QX BX IF BU WT NY KY KO KM KT NU CI LE SP BY HA CA QF QL QT BH BB s hs h1 h8 with ⟨e, hd⟩ | ⟨n, c, z, hn, e, hc, hz1, hz, eb, hd⟩
    · exact hd _ (hY _ _ (br_t rfl ⟨hi, br_t (by rw [ec]; exact e) ⟨rfl, I'⟩⟩))
    · refine hd _ (hY _ _ (br_t rfl ⟨hi, br_f (by rw [ec, e]; exact nI_ne0 (by omega) (by omega)) ?_⟩))
      rw [cs_4m, nI_clamp (show 4 * s < 2 ^ 31 by omega)]
      exact ⟨vp_in_nI (by omega) (by decide), eb, I'⟩
theorem i_vc_byteOf {k : Nat} {u : SX} {v : SY} (I : i_Rel k u v) (hk : k + 5 ≤ 2560) (v1 : Int32) (v2 : Int32) : wpX_byteOf (fun r => wpY_byteOf (fun r' => r' = r ∧ i_Rel (k + 5) u v) v v1 v2) u v1 v2 := by
  have I' := i_up I
  obtain ⟨now, bf, bs, CN, FB, FZ, FC, op, FR, TO, GA, TL, DU, W, WF, NX, HD, KX, KF, KS, LA, TA, WA, QC, QX, BX, IF, BU, WT, NY, KY, KO, KM, KT, NU, CI, LE, SP, BY, HA, CA, QF, QL, QT, BH, BB, rfl, rfl, h1, h2, h3, h4, h5, h6, h7, h8, h9, h10, h11⟩ := I
  unfold wpX_byteOf wpY_byteOf
  rcases cs_stat v1 with ⟨hX, hY⟩ | ⟨s, hs, rfl, hX, hY⟩
  · exact hX _ (br_t rfl (hY _ _ (br_f cs_10 ⟨rfl, I'⟩)))
  · have hi : vp_in (nI s) 4 := vp_in_nI hs (by decide)
    have ec : (nI s).toNatClampNeg = s := nI_clamp (by omega)
    obtain ⟨n, hn, e, g⟩ := h8 s hs
    refine hX _ (br_f cs_10 ⟨hi, ?_⟩)
    rcases n with _ | n
    · have e0 : BX (nI s).toNatClampNeg = 0 := by rw [ec]; exact e
      exact br_t e0 (hY _ _ (br_t rfl ⟨hi, br_t e0 ⟨rfl, I'⟩⟩))
    · have e0 : ¬ BX (nI s).toNatClampNeg = 0 := by rw [ec, e]; exact nI_ne0 (by omega) (by omega)
      obtain ⟨f, c, z, d1, d2, d3, d4, d5, d6, d7, d8, d9⟩ := g 0 (by omega)
      have hf : vp_in (nI f) 256 := vp_in_nI (by omega) (by decide)
      have ef : (nI f).toNatClampNeg = f := nI_clamp (by omega)
      have i4 : vp_in (nI (4 * s)) 16 := vp_in_nI (by omega) (by decide)
      have e4 : (nI (4 * s)).toNatClampNeg = 4 * s := nI_clamp (by omega)
      have er : nI (32 * c + z) - nI (32 * c + z) / 32 * 32 = nI z := by
        have := pk_rem (a := 32 * c + z) (d := 32) (by omega) (by decide) (by decide)
        rw [show (32 * c + z) % 32 = z by omega] at this
        exact this
      refine br_f e0 ?_
      rw [cs_m4, e4, cs_4m, e4]
      refine ⟨i4, nm_r d1 ?_⟩
      by_cases q : v2 < 0
      · exact br_t q (hY _ _ (br_t rfl ⟨hi, br_f e0 (br_t q ⟨rfl, I'⟩)⟩))
      · obtain ⟨i, hi2, rfl⟩ := nI_of q
        refine br_f q ⟨hf, ?_⟩
        rw [ef, d7]
        by_cases qz : i < z
        · have ez : nI i < nI z := nI_lt qz (by omega)
          refine br_t ez ?_
          rw [cs_m27, nI_add, nI_clamp (show 27 * f + i < 2 ^ 31 by omega)]
          refine ⟨vp_in_nI (by omega) (by decide), hY _ _ (br_t rfl ⟨hi, br_f e0 (br_f q ⟨i4, cs_z32, ?_⟩)⟩)⟩
          rw [show BH (4 * s) = nI (32 * c + z) from d8, er, cs_108m, nI_add, nI_clamp (show 108 * s + i < 2 ^ 31 by omega)]
          refine br_t ez ⟨vp_in_nI (by omega) (by decide), ?_, I'⟩
          rw [← d9 i qz]
          exact congrArg BB (by omega)
        · have ez : ¬ nI i < nI z := nI_nlt (by omega) hi2
          refine br_f ez (hY _ _ (br_t rfl ⟨hi, br_f e0 (br_f q ⟨i4, cs_z32, ?_⟩)⟩))
          rw [show BH (4 * s) = nI (32 * c + z) from d8, er]
          exact br_f ez ⟨rfl, I'⟩
theorem i_vc_turn {k : Nat} {u : SX} {v : SY} (I : i_Rel k u v) (hk : k + 5 ≤ 2560) (v1 : Int32) (v2 : Int32) (v3 : Int32) : wpX_turn (fun r u' => wpY_turn (fun r' v' => r' = r ∧ i_Rel (k + 5) u' v') v v1 v2 v3) u v1 v2 v3 := by
  have I' := i_up I
  obtain ⟨now, bf, bs, CN, FB, FZ, FC, op, FR, TO, GA, TL, DU, W, WF, NX, HD, KX, KF, KS, LA, TA, WA, QC, QX, BX, IF, BU, WT, NY, KY, KO, KM, KT, NU, CI, LE, SP, BY, HA, CA, QF, QL, QT, BH, BB, rfl, rfl, h1, h2, h3, h4, h5, h6, h7, h8, h9, h10, h11⟩ := I
  unfold wpX_turn wpY_turn
  rcases cs_stat v1 with ⟨hX, hY⟩ | ⟨s, hs, rfl, hX, hY⟩
  · exact hX _ (br_t rfl (hY _ _ (br_f cs_10 ⟨rfl, I'⟩)))
  · have hi : vp_in (nI s) 4 := vp_in_nI hs (by decide)
    refine hX _ (br_f cs_10 ?_)
    by_cases q : v2 < 0
    · exact br_t q (hY _ _ (br_t rfl (br_t q ⟨rfl, I'⟩)))
    · by_cases q3 : v2 ≤ 3
      · obtain ⟨t, ht, rfl⟩ := nI_of2 (n := 3) (by decide) q q3
        refine br_f q (br_t q3 ⟨hi, nm_e (hY _ _ (br_t rfl (br_f q (br_t q3 ?_))))⟩)
        have h3' := cs_N_up h3 (show k ≤ k + 5 by omega)
        by_cases e3 : t = 3
        · subst e3
          refine br_t rfl ⟨hi, nm_e (br_t rfl ⟨hi, nm_e ⟨rfl, ?_⟩⟩)⟩
          rw [cs_b1, nI_clamp (show s < 2 ^ 31 by omega)]
          exact cs_mk h1 h2 h3' h4 h5 h6 h7 h8 (cs_T_0 h9 ht rfl rfl rfl) h10 h11
        · have e3' : ¬ nI t = 3 := fun z => e3 (cs_nI_inj (b := 3) (by omega) (by decide) z)
          refine br_f e3' ⟨hi, nm_e (br_f e3' ⟨hi, nm_e ⟨rfl, ?_⟩⟩)⟩
          rw [cs_b0, nI_clamp (show s < 2 ^ 31 by omega)]
          exact cs_mk h1 h2 h3' h4 h5 h6 h7 h8 (cs_T_0 h9 ht rfl (by rw [if_neg e3]) (by rw [if_neg e3]; rfl)) h10 h11
      · exact br_f q (br_f q3 (hY _ _ (br_t rfl (br_f q (br_f q3 ⟨rfl, I'⟩)))))
