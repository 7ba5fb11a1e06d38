theorem i_vc_open {k : Nat} {u : SX} {v : SY} (I : i_Rel k u v) (hk : k + 5 ≤ 2560) (v1 : Int32) (v2 : Int32) (v3 : Int32) (v4 : Int32) : wpX_open (fun r u' => wpY_open (fun r' v' => r' = r ∧ i_Rel (k + 5) u' v') v v1 v2 v3 v4) u v1 v2 v3 v4 := by
  have I' := i_up I
  obtain ⟨now, bf, bs, CN, FB, FZ, FC, op, FR, TO, GA, TL, DU, W, WF, NX, HD, KX, KF, KS, LA, TA, WA, QC, QX, BX, IF, BU, WT, NY, KY, KO, KM, KT, NU, CI, LE, SP, BY, HA, CA, QF, QL, QT, BH, BB, rfl, rfl, h1, h2, h3, h4, h5, h6, h7, h8, h9, h10, h11⟩ := I
  unfold wpX_open wpY_open
  dsimp only
  rcases cs_circ v1 with ⟨hX, hY⟩ | ⟨s, hs, rfl, hX, hY⟩
  · exact hX _ (br_t rfl (hY _ _ (br_f cs_10 ⟨rfl, I'⟩)))
  have hi : vp_in (nI s) 8 := vp_in_nI hs (by decide)
  have ec : (nI s).toNatClampNeg = s := nI_clamp (by omega)
  refine hX _ (br_f cs_10 ?_)
  by_cases q1 : v2 < 0
  · exact br_t q1 (hY _ _ (br_t rfl (br_t q1 ⟨rfl, I'⟩)))
  refine br_f q1 ?_
  by_cases q2 : v2 ≤ 15
  · have q2' : ¬ 15 < v2 := Int32.not_lt.mpr q2
    refine br_t q2 ?_
    by_cases q3 : v3 < 1
    · exact br_t q3 (hY _ _ (br_t rfl (br_f q1 (br_f q2' (br_t q3 ⟨rfl, I'⟩)))))
    refine br_f q3 ?_
    by_cases q4 : 8 < v3
    · exact br_t q4 (hY _ _ (br_t rfl (br_f q1 (br_f q2' (br_f q3 (br_t q4 ⟨rfl, I'⟩))))))
    refine br_f q4 ?_
    by_cases q5 : v4 < 0
    · exact br_t q5 (hY _ _ (br_t rfl (br_f q1 (br_f q2' (br_f q3 (br_f q4 (br_t q5 ⟨rfl, I'⟩)))))))
    refine br_f q5 ?_
    by_cases q6 : v4 ≤ 40
    · refine br_t q6 ⟨hi, ?_⟩
      by_cases qo : op (nI s).toNatClampNeg = 0
      · have qo' : op s = 0 := by rw [ec] at qo; exact qo
        refine br_t qo ⟨hi, nm_e ⟨cs_z4, hi, nm_e ⟨cs_z4, hi, nm_e ⟨hi, nm_e ⟨hi, nm_e ⟨hi, nm_e ?_⟩⟩⟩⟩⟩⟩
        refine hY _ _ (br_t rfl (br_f q1 (br_f q2' (br_f q3 (br_f q4 (br_f q5 (br_t q6 ⟨hi, br_t qo ?_⟩)))))))
        refine ⟨hi, nm_e ⟨cs_z4, hi, nm_e ⟨cs_z4, hi, nm_e ⟨hi, nm_e ⟨hi, nm_e ⟨hi, nm_e ⟨hi, nm_e ⟨hi, nm_e ?_⟩⟩⟩⟩⟩⟩⟩⟩
        unfold wpY_forget
        dsimp only
        refine ⟨hi, nm_e ⟨hi, nm_e ⟨hi, nm_e ⟨rfl, ?_⟩⟩⟩⟩
        obtain ⟨e, he, rfl⟩ := nI_of2 (n := 15) (by decide) q1 q2
        obtain ⟨g5, gW⟩ := cs_W_begin h5 qo' hs
        rw [cs_b1, cs_b0, ec, cs_id W s 0 gW]
        exact cs_mk h1 h2 (cs_N_begin h3) h4 g5 (cs_K_begin h6 qo' hs) (cs_Q_begin h7 qo') h8 h9 h10
          (cs_L_u h11 (Nat.mod_lt e (by decide)) (pk_rem (a := e) (d := 4) (by omega) (by decide) (by decide)))
      · exact br_f qo (hY _ _ (br_t rfl (br_f q1 (br_f q2' (br_f q3 (br_f q4 (br_f q5 (br_t q6 ⟨hi, br_f qo ⟨rfl, I'⟩⟩))))))))
    · exact br_f q6 (hY _ _ (br_t rfl (br_f q1 (br_f q2' (br_f q3 (br_f q4 (br_f q5 (br_f q6 ⟨rfl, I'⟩))))))))
  · have q2' : 15 < v2 := Int32.not_le.mp q2
    exact br_f q2 (hY _ _ (br_t rfl (br_f q1 (br_t q2' ⟨rfl, I'⟩))))
theorem cs_refill {now : Int32} {bf bs : Nat} {CN FB FZ FC op FR TO GA TL DU W WF NX HD KX KF KS LA TA WA QC QX BX IF BU WT NY KY KO KM KT NU CI LE SP BY HA CA QF QL QT BH BB : Nat → Int32} {k bs' : Nat} {FB' BU' : Nat → Int32} (h1 : bf ≤ 255) (h3 : cs_N k bf bs op)
    (h5 : cs_W (cs_FP bf FC FZ FB NU CI LE BY) op W WF WT HD SP NX NY) (h6 : cs_K op KX KY KF KO KS KM KT) (h7 : cs_Q (cs_FP bf FC FZ FB NU CI LE BY) op TO QC QX QF QL QT)
    (h8 : cs_I bf FC FZ FB BX IF BH BB) (h9 : cs_T TA HA CA) (h10 : cs_L 4 LA 8) (h11 : cs_L 8 TO 4)
    (hB : ∀ j, j < 27 * bf → FB' j = FB j) (h2' : bs' ≤ 27) (h4' : ∀ i, i < bs' → BU' i = FB' (27 * bf + i)) :
    i_Rel (k + 5) (now, (nI bf), nI bs', CN, FB', FZ, FC, op, FR, TO, GA, TL, DU, W, WF, NX, HD, KX, KF, KS, LA, TA, WA, QC, QX, BX, IF) (now, nI bs', (nI bf), CN, BU', op, FR, TO, GA, TL, DU, W, WT, NY, KY, KO, KM, KT, NU, CI, LE, SP, BY, LA, HA, CA, WA, QC, QF, QL, QT, BX, BH, BB) :=
  cs_mk h1 h2' (cs_N_fill h3) h4' (cs_W_mono h5 (cs_FP_fb hB)) h6 (cs_Q_mono h7 (cs_FP_fb hB)) (cs_I_fb h8 (Nat.le_refl _) (fun _ _ => rfl) (fun _ _ => rfl) hB) h9 h10 h11
theorem i_vc_fill {k : Nat} {u : SX} {v : SY} (I : i_Rel k u v) (hk : k + 5 ≤ 2560) (v1 : Int32) : wpX_fill (fun r u' => wpY_fill (fun r' v' => r' = r ∧ i_Rel (k + 5) u' v') v v1) u v1 := by
  have I' := i_up I
  obtain ⟨now, bf, bs, CN, FB, FZ, FC, op, FR, TO, GA, TL, DU, W, WF, NX, HD, KX, KF, KS, LA, TA, WA, QC, QX, BX, IF, BU, WT, NY, KY, KO, KM, KT, NU, CI, LE, SP, BY, HA, CA, QF, QL, QT, BH, BB, rfl, rfl, h1, h2, h3, h4, h5, h6, h7, h8, h9, h10, h11⟩ := I
  unfold wpX_fill wpY_fill
  dsimp only
  by_cases q1 : v1 < 0
  · exact br_t q1 (br_t q1 ⟨rfl, I'⟩)
  refine br_f q1 ?_
  by_cases q2 : v1 ≤ 255
  · refine br_t q2 ?_
    by_cases q3 : bs = 27
    · subst q3
      exact br_t rfl (br_f q1 (br_t q2 (br_t rfl ⟨rfl, I'⟩)))
    · have q3' : ¬ nI bs = 27 := fun z => q3 (cs_nI_inj (b := 27) (by omega) (by decide) z)
      refine br_f q3' ?_
      unfold wpX_append
      dsimp only
      rw [cs_m27, nI_add, nI_1, nI_clamp (show 27 * bf + bs < 2 ^ 31 by omega), nI_clamp (show bs < 2 ^ 31 by omega)]
      refine ⟨vp_in_nI (by omega) (by decide), nm_e (nm_e (br_f q1 (br_t q2 (br_f q3' ⟨vp_in_nI (by omega) (by decide), nm_e (nm_e ⟨rfl, ?_⟩)⟩))))⟩
      refine @cs_refill now bf bs CN FB FZ FC op FR TO GA TL DU W WF NX HD KX KF KS LA TA WA QC QX BX IF BU WT NY KY KO KM KT NU CI LE SP BY HA CA QF QL QT BH BB k _ _ _ h1 h3 h5 h6 h7 h8 h9 h10 h11 (fun j hj => pk_un (by omega)) (by omega) (fun i hi => ?_)
      by_cases e : i = bs
      · rw [cs_us e, cs_us (by omega)]
      · rw [pk_un e, pk_un (by omega)]
        exact h4 i (by omega)
  · exact br_f q2 (br_f q1 (br_f q2 ⟨rfl, I'⟩))
theorem cs_Xrun {now : Int32} {bf bs : Nat} {CN FB FZ FC op FR TO GA TL DU W WF NX HD KX KF KS LA TA WA QC QX BX IF : Nat → Int32} {m : Nat} {v1 v2 : Int32} (h1 : bf ≤ 255) (hm : bs + m ≤ 27) : ∀ d i, i + d = m → ∀ post : Int32 → SX → Prop,
    post (nI (bs + m)) (now, (nI bf), nI (bs + m), CN, cs_cp FB (27 * bf + bs) (fun i => (v1 + (v2 * nI i)) &&& 255) m, FZ, FC, op, FR, TO, GA, TL, DU, W, WF, NX, HD, KX, KF, KS, LA, TA, WA, QC, QX, BX, IF) →
    wX_run_23 post v1 v2 (nI m) (d + 1) (nI i) now (nI bf) (nI (bs + i)) CN (cs_cp FB (27 * bf + bs) (fun i => (v1 + (v2 * nI i)) &&& 255) i) FZ FC op FR TO GA TL DU W WF NX HD KX KF KS LA TA WA QC QX BX IF := by
  intro d
  induction d with
  | zero =>
    intro i hi post hp
    have e : i = m := by omega
    subst e
    exact br_t (Int32.le_refl _) hp
  | succ d ih =>
    intro i hi post hp
    refine br_f (nI_ge (by omega) (by omega)) ?_
    unfold wpX_append
    dsimp only
    have e1 : nI bf * 27 + nI (bs + i) = nI (27 * bf + bs + i) := by rw [cs_m27, nI_add, Nat.add_assoc]
    rw [e1, nI_clamp (show 27 * bf + bs + i < 2 ^ 31 by omega)]
    exact ⟨vp_in_nI (by omega) (by decide), nm_r (cs_cp_s FB (27 * bf + bs) (fun i => (v1 + (v2 * nI i)) &&& 255) i) (nm_r (nI_1 (bs + i)) (nm_r (nI_1 i) (ih (i + 1) (by omega) post hp)))⟩
theorem cs_Yrun {now : Int32} {bf bs : Nat} {CN BU op FR TO GA TL DU W WT NY KY KO KM KT NU CI LE SP BY LA HA CA WA QC QF QL QT BX BH BB : Nat → Int32} {m : Nat} {v1 v2 : Int32} (hm : bs + m ≤ 27) : ∀ d i, i + d = m → ∀ post : Int32 → SY → Prop,
    post (nI (bs + m)) (now, nI (bs + m), (nI bf), CN, cs_cp BU bs (fun i => (v1 + (v2 * nI i)) &&& 255) m, op, FR, TO, GA, TL, DU, W, WT, NY, KY, KO, KM, KT, NU, CI, LE, SP, BY, LA, HA, CA, WA, QC, QF, QL, QT, BX, BH, BB) →
    wY_run_23 post v1 v2 (nI m) now (nI bs) (nI bf) (d + 1) (nI i) CN (cs_cp BU bs (fun i => (v1 + (v2 * nI i)) &&& 255) i) op FR TO GA TL DU W WT NY KY KO KM KT NU CI LE SP BY LA HA CA WA QC QF QL QT BX BH BB := by
  intro d
  induction d with
  | zero =>
    intro i hi post hp
    have e : i = m := by omega
    subst e
    exact br_t (Int32.le_refl _) (nm_r (nI_add bs i) hp)
  | succ d ih =>
    intro i hi post hp
    refine br_f (nI_ge (by omega) (by omega)) ?_
    rw [nI_add, nI_clamp (show bs + i < 2 ^ 31 by omega)]
    exact ⟨vp_in_nI (by omega) (by decide), nm_r (cs_cp_s BU bs (fun i => (v1 + (v2 * nI i)) &&& 255) i) (nm_r (nI_1 i) (ih (i + 1) (by omega) post hp))⟩
theorem cs_Xrun0 {now : Int32} {bf bs : Nat} {CN FB FZ FC op FR TO GA TL DU W WF NX HD KX KF KS LA TA WA QC QX BX IF : Nat → Int32} {m : Nat} {v1 v2 : Int32} (h1 : bf ≤ 255) (hm : bs + m ≤ 27) (post : Int32 → SX → Prop)
    (hp : post (nI (bs + m)) (now, (nI bf), nI (bs + m), CN, cs_cp FB (27 * bf + bs) (fun i => (v1 + (v2 * nI i)) &&& 255) m, FZ, FC, op, FR, TO, GA, TL, DU, W, WF, NX, HD, KX, KF, KS, LA, TA, WA, QC, QX, BX, IF)) : wX_run_23 post v1 v2 (nI m) (m + 1) 0 now (nI bf) (nI bs) CN FB FZ FC op FR TO GA TL DU W WF NX HD KX KF KS LA TA WA QC QX BX IF := by
  have h := @cs_Xrun now bf bs CN FB FZ FC op FR TO GA TL DU W WF NX HD KX KF KS LA TA WA QC QX BX IF m v1 v2 h1 hm m 0 (by omega) post hp
  rw [cs_cp_0] at h
  exact h
theorem cs_Yrun0 {now : Int32} {bf bs : Nat} {CN BU op FR TO GA TL DU W WT NY KY KO KM KT NU CI LE SP BY LA HA CA WA QC QF QL QT BX BH BB : Nat → Int32} {m : Nat} {v1 v2 : Int32} (hm : bs + m ≤ 27) (post : Int32 → SY → Prop)
    (hp : post (nI (bs + m)) (now, nI (bs + m), (nI bf), CN, cs_cp BU bs (fun i => (v1 + (v2 * nI i)) &&& 255) m, op, FR, TO, GA, TL, DU, W, WT, NY, KY, KO, KM, KT, NU, CI, LE, SP, BY, LA, HA, CA, WA, QC, QF, QL, QT, BX, BH, BB)) : wY_run_23 post v1 v2 (nI m) now (nI bs) (nI bf) (m + 1) 0 CN BU op FR TO GA TL DU W WT NY KY KO KM KT NU CI LE SP BY LA HA CA WA QC QF QL QT BX BH BB := by
  have h := @cs_Yrun now bf bs CN BU op FR TO GA TL DU W WT NY KY KO KM KT NU CI LE SP BY LA HA CA WA QC QF QL QT BX BH BB m v1 v2 hm m 0 (by omega) post hp
  rw [cs_cp_0] at h
  exact h
theorem i_vc_run {k : Nat} {u : SX} {v : SY} (I : i_Rel k u v) (hk : k + 5 ≤ 2560) (v1 : Int32) (v2 : Int32) (v3 : Int32) : wpX_run (fun r u' => wpY_run (fun r' v' => r' = r ∧ i_Rel (k + 5) u' v') v v1 v2 v3) u v1 v2 v3 := by
  have I' := i_up I
  obtain ⟨now, bf, bs, CN, FB, FZ, FC, op, FR, TO, GA, TL, DU, W, WF, NX, HD, KX, KF, KS, LA, TA, WA, QC, QX, BX, IF, BU, WT, NY, KY, KO, KM, KT, NU, CI, LE, SP, BY, HA, CA, QF, QL, QT, BH, BB, rfl, rfl, h1, h2, h3, h4, h5, h6, h7, h8, h9, h10, h11⟩ := I
  unfold wpX_run wpY_run
  dsimp only
  by_cases q1 : 0 ≤ v3
  · obtain ⟨m, hm, rfl⟩ := nI_of (Int32.not_lt.mpr q1)
    have e27 : 27 - nI bs = nI (27 - bs) := pk_sub (a := 27) h2
    rw [e27]
    refine br_t q1 ?_
    by_cases q2 : m ≤ 27 - bs
    · have q2' : nI m ≤ nI (27 - bs) := nI_le q2 (by omega)
      refine br_t q2' ⟨m + 1, cs_Xrun0 h1 (show bs + m ≤ 27 by omega) _ (br_t q1 (br_t q2' ⟨m + 1, cs_Yrun0 (show bs + m ≤ 27 by omega) _ ⟨rfl, ?_⟩⟩))⟩
      refine @cs_refill now bf bs CN FB FZ FC op FR TO GA TL DU W WF NX HD KX KF KS LA TA WA QC QX BX IF BU WT NY KY KO KM KT NU CI LE SP BY HA CA QF QL QT BH BB k _ _ _ h1 h3 h5 h6 h7 h8 h9 h10 h11 (fun j hj => cs_cp_out (by omega)) (by omega) (fun i hi => ?_)
      by_cases e : i < bs
      · rw [cs_cp_out (Or.inl e), cs_cp_out (by omega)]
        exact h4 i e
      · obtain ⟨q, rfl⟩ : ∃ q, i = bs + q := ⟨i - bs, by omega⟩
        rw [cs_cp_in (by omega), ← Nat.add_assoc, cs_cp_in (by omega)]
    · have q2' : ¬ nI m ≤ nI (27 - bs) := nI_ge (by omega) hm
      exact br_f q2' (br_t q1 (br_f q2' ⟨rfl, I'⟩))
  · exact br_f q1 (br_f q1 ⟨rfl, I'⟩)
