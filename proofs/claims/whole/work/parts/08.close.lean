theorem cs_and2 : ∀ f, f < 256 → ∀ l, l < 2 → ∀ t, t < 2 → nI (4 * f + 2 * l + t) &&& 2 = nI (2 * l) := by decide +kernel
theorem cs_and1 : ∀ f, f < 256 → ∀ l, l < 2 → ∀ t, t < 2 → nI (4 * f + 2 * l + t) &&& 1 = nI t := by decide +kernel
theorem cs_shl : ∀ f, f < 256 → nI f <<< ((2 : Int32) &&& 31) = nI (4 * f) := by decide +kernel
theorem cs_shr {f l t : Nat} (hf : f < 256) (hl : l ≤ 1) (ht : t ≤ 1) : nI (4 * f + 2 * l + t) >>> ((2 : Int32) &&& 31) = nI f := by
  rw [pk_shrN (by omega) _ 2 (by decide)]
  exact congrArg nI (by omega)
theorem cs_ne2 {n : Nat} (h : n < 2 ^ 31) : ¬ nI n = -2 := fun z => nI_pos h (by rw [z]; decide)
theorem cs_Xbusy {now : Int32} {bf bs : Nat} {CN FB FZ FC op FR TO GA TL DU W WF NX HD KX KF KS LA TA WA QC QX BX IF BU WT NY KY KO KM KT NU CI LE SP BY HA CA QF QL QT BH BB : Nat → Int32} {c to n : Nat} (h1 : bf ≤ 255) (hto : to < 4) (hn : n ≤ 6) (en : QC to = nI n) (hs : ∀ i, i < n → cs_Qs (cs_FP bf FC FZ FB NU CI LE BY) op TO QX QF QL QT to (6 * to + i)) :
    ∀ d i, i + d = n → ∃ r : Nat, ((r = 1 ∧ ∃ j, j < n ∧ CI (QF (6 * to + j)).toNatClampNeg = nI c) ∨ (r = 0 ∧ ∀ j, i ≤ j → j < n → CI (QF (6 * to + j)).toNatClampNeg ≠ nI c)) ∧
    ∀ post : Int32 → Prop, post (nI r) → wX_hasCellInQueue_9 post (nI c) (nI to) now (nI bf) (nI bs) CN FB FZ FC op FR TO GA TL DU W WF NX HD KX KF KS LA TA WA QC QX BX IF (d + 1) (nI i) := by
  have it : vp_in (nI to) 4 := vp_in_nI hto (by decide)
  have et : (nI to).toNatClampNeg = to := nI_clamp (by omega)
  intro d
  induction d with
  | zero =>
    intro i hi
    have e : i = n := by omega
    subst e
    refine ⟨0, Or.inr ⟨rfl, fun j h1 h2 => absurd h2 (by omega)⟩, fun post hp => ⟨it, ?_⟩⟩
    rw [et, en]
    exact br_t (Int32.le_refl _) hp
  | succ d ih =>
    intro i hi
    obtain ⟨r, hr, hW⟩ := ih (i + 1) (by omega)
    obtain ⟨f, p, c', z, l, t, a1, a2, a3, a4, a5, a6, a7, a8, a9⟩ := hs i (by omega)
    obtain ⟨b1, b2, b3, b4, b5, b6, b7, b8, b9⟩ := a7
    have ep : (QF (6 * to + i)).toNatClampNeg = p := by rw [a2, nI_clamp (by omega)]
    have e6 : nI to * 6 + nI i = nI (6 * to + i) := by rw [cs_m6, nI_add]
    have hlt : ¬ nI n ≤ nI i := nI_ge (by omega) (by omega)
    have i6 : vp_in (nI (6 * to + i)) 24 := vp_in_nI (by omega) (by decide)
    have e6c : (nI (6 * to + i)).toNatClampNeg = 6 * to + i := nI_clamp (by omega)
    have hf : vp_in (nI f) 256 := vp_in_nI (by omega) (by decide)
    have efc : FC (nI f).toNatClampNeg = nI c' := by rw [nI_clamp (by omega)]; exact b7
    by_cases u : c' = c
    · subst u
      refine ⟨1, Or.inl ⟨rfl, i, by omega, by rw [ep]; exact b8⟩, fun post hp => ⟨it, ?_⟩⟩
      rw [et, en, e6, e6c, a1, cs_shr (by omega) a5 a6]
      exact br_f hlt ⟨i6, nm_e ⟨hf, br_t efc hp⟩⟩
    · have hne : ¬ nI c' = nI c ∨ 2 ^ 31 ≤ c := by
        by_cases hc : c < 2 ^ 31
        · exact Or.inl fun z => u (cs_nI_inj (by omega) hc z)
        · exact Or.inr (by omega)
      by_cases hc : nI c' = nI c
      · refine ⟨1, Or.inl ⟨rfl, i, by omega, by rw [ep, b8]; exact hc⟩, fun post hp => ⟨it, ?_⟩⟩
        rw [et, en, e6, e6c, a1, cs_shr (by omega) a5 a6]
        exact br_f hlt ⟨i6, nm_e ⟨hf, br_t (efc.trans hc) hp⟩⟩
      · refine ⟨r, ?_, fun post hp => ⟨it, ?_⟩⟩
        · rcases hr with a | ⟨a, b⟩
          · exact Or.inl a
          · refine Or.inr ⟨a, fun j hj hj2 => ?_⟩
            by_cases e : j = i
            · rw [e, ep, b8]; exact hc
            · exact b j (by omega) hj2
        · rw [et, en, e6, e6c, a1, cs_shr (by omega) a5 a6]
          exact br_f hlt ⟨i6, nm_e ⟨hf, br_f (by rw [efc]; exact hc) (nm_r (nI_1 i) (hW post hp))⟩⟩
def cs_Hk (QC QF CI : Nat → Int32) (c k : Nat) : Prop := ∃ n, n ≤ 6 ∧ QC (k / 6) = nI n ∧ k % 6 < n ∧ CI (QF k).toNatClampNeg = nI c
theorem cs_Yclose {now : Int32} {bf bs : Nat} {CN FB FZ FC op FR TO GA TL DU W WF NX HD KX KF KS LA TA WA QC QX BX IF BU WT NY KY KO KM KT NU CI LE SP BY HA CA QF QL QT BH BB : Nat → Int32} {c : Nat} (hc : c < 8) (h7 : cs_Q (cs_FP bf FC FZ FB NU CI LE BY) op TO QC QX QF QL QT) : ∀ d j, j + d = 24 →
    ((∃ k, j ≤ k ∧ k < 24 ∧ cs_Hk QC QF CI c k) → ∀ post : Int32 → SY → Prop, post (-4) (now, (nI bs), (nI bf), CN, BU, op, FR, TO, GA, TL, DU, W, WT, NY, KY, KO, KM, KT, NU, CI, LE, SP, BY, LA, HA, CA, WA, QC, QF, QL, QT, BX, BH, BB) → wY_close_24 post (nI c) now (nI bs) (nI bf) CN BU op FR TO GA TL DU W WT NY KY KO KM KT NU CI LE SP BY LA HA CA WA QC QF QL QT BX BH BB (d + 1) (nI j)) ∧
    ((∀ k, j ≤ k → k < 24 → ¬ cs_Hk QC QF CI c k) → ∀ post : Int32 → SY → Prop, post (W c) (now, (nI bs), (nI bf), CN, BU, upd op c 0, FR, TO, GA, TL, DU, upd W c 0, WT, NY, KY, KO, KM, KT, NU, CI, LE, SP, BY, LA, HA, CA, WA, QC, QF, QL, QT, BX, BH, BB) → wY_close_24 post (nI c) now (nI bs) (nI bf) CN BU op FR TO GA TL DU W WT NY KY KO KM KT NU CI LE SP BY LA HA CA WA QC QF QL QT BX BH BB (d + 1) (nI j)) := by
  have ic : vp_in (nI c) 8 := vp_in_nI hc (by decide)
  have ec : (nI c).toNatClampNeg = c := nI_clamp (by omega)
  intro d
  induction d with
  | zero =>
    intro j hj
    have e : j = 24 := by omega
    subst e
    refine ⟨fun ⟨k, h1, h2, _⟩ => absurd h1 (by omega), fun _ post hp => br_t (Int32.le_refl _) ?_⟩
    rw [ec, cs_b0]
    exact ⟨ic, nm_e ⟨ic, nm_e ⟨ic, nm_e hp⟩⟩⟩
  | succ d ih =>
    intro j hj
    obtain ⟨ih1, ih2⟩ := ih (j + 1) (by omega)
    have h24 : ¬ (24 : Int32) ≤ nI j := nI_ge (b := 24) (by omega) (by decide)
    obtain ⟨n, hn, en, hs⟩ := h7 (j / 6) (by omega)
    have e6 : nI j / 6 = nI (j / 6) := pk_div (d := 6) (by omega) (by decide) (by decide)
    have r6 : nI j - nI j / 6 * 6 = nI (j % 6) := pk_rem (d := 6) (by omega) (by decide) (by decide)
    have c6 : (nI (j / 6)).toNatClampNeg = j / 6 := nI_clamp (by omega)
    have cj : (nI j).toNatClampNeg = j := nI_clamp (by omega)
    have i6 : vp_in (nI (j / 6)) 4 := vp_in_nI (by omega) (by decide)
    have ij : vp_in (nI j) 24 := vp_in_nI (by omega) (by decide)
    have hp64 : j % 6 < n → vp_in (QF j) 64 := by
      intro hl
      obtain ⟨f, p, c', z, l, t, a1, a2, a3, a4, a5, a6, a7, a8, a9⟩ := hs (j % 6) hl
      rw [show 6 * (j / 6) + j % 6 = j by omega] at a2
      rw [a2]
      exact vp_in_nI a7.1 (by decide)
    have step : ∀ post : Int32 → SY → Prop, ¬ cs_Hk QC QF CI c j → wY_close_24 post (nI c) now (nI bs) (nI bf) CN BU op FR TO GA TL DU W WT NY KY KO KM KT NU CI LE SP BY LA HA CA WA QC QF QL QT BX BH BB (d + 1) (nI (j + 1)) → wY_close_24 post (nI c) now (nI bs) (nI bf) CN BU op FR TO GA TL DU W WT NY KY KO KM KT NU CI LE SP BY LA HA CA WA QC QF QL QT BX BH BB (d + 1 + 1) (nI j) := by
      intro post u hW
      refine br_f h24 ⟨cs_z6, cs_z6, ?_⟩
      rw [r6, e6, c6, en, cj]
      by_cases hl : n ≤ j % 6
      · exact ⟨i6, br_t (nI_le hl (by omega)) (nm_r (nI_1 j) hW)⟩
      · have hne : ¬ CI (QF j).toNatClampNeg = nI c := fun z => u ⟨n, hn, en, by omega, z⟩
        exact ⟨i6, br_f (nI_ge (by omega) (by omega)) ⟨ij, hp64 (by omega), br_f hne (nm_r (nI_1 j) hW)⟩⟩
    refine ⟨fun ⟨k, g1, g2, g3⟩ post hp => ?_, fun hno post hp => step post (hno j (by omega) (by omega)) (ih2 (fun k h1 h2 => hno k (by omega) h2) post hp)⟩
    by_cases u : cs_Hk QC QF CI c j
    · obtain ⟨n', hn', en', hl, ee⟩ := u
      have enn : n' = n := cs_nI_inj (by omega) (by omega) (en'.symm.trans en)
      subst enn
      refine br_f h24 ⟨cs_z6, cs_z6, ?_⟩
      rw [r6, e6, c6, en, cj]
      exact ⟨i6, br_f (nI_ge (by omega) (by omega)) ⟨ij, hp64 hl, br_t ee hp⟩⟩
    · refine step post u (ih1 ⟨k, ?_, g2, g3⟩ post hp)
      by_cases e : k = j
      · rw [e] at g3
        exact absurd g3 u
      · omega
theorem i_vc_close {k : Nat} {u : SX} {v : SY} (I : i_Rel k u v) (hk : k + 5 ≤ 2560) (v1 : Int32) : wpX_close (fun r u' => wpY_close (fun r' v' => r' = r ∧ i_Rel (k + 5) u' v') v v1) u v1 := by
  have I' := i_up I
  obtain ⟨now, bf, bs, CN, FB, FZ, FC, op, FR, TO, GA, TL, DU, W, WF, NX, HD, KX, KF, KS, LA, TA, WA, QC, QX, BX, IF, BU, WT, NY, KY, KO, KM, KT, NU, CI, LE, SP, BY, HA, CA, QF, QL, QT, BH, BB, rfl, rfl, h1, h2, h3, h4, h5, h6, h7, h8, h9, h10, h11⟩ := I
  unfold wpX_close wpY_close
  dsimp only
  rcases cs_circ v1 with ⟨hX, hY⟩ | ⟨c, hc, rfl, hX, hY⟩
  · exact hX _ (br_t rfl (hY _ _ (br_f cs_10 ⟨rfl, I'⟩)))
  have hi : vp_in (nI c) 8 := vp_in_nI hc (by decide)
  have ec : (nI c).toNatClampNeg = c := nI_clamp (by omega)
  rw [ec]
  refine hX _ (br_f cs_10 ⟨hi, ?_⟩)
  by_cases qo : op c = 0
  · exact br_t qo (hY _ _ (br_t rfl ⟨hi, br_t qo ⟨rfl, I'⟩⟩))
  refine br_f qo ?_
  obtain ⟨to, hto, eto⟩ := h11 c hc
  obtain ⟨n, hn, en, hs⟩ := h7 to hto
  obtain ⟨r, hr, hB⟩ := @cs_Xbusy now bf bs CN FB FZ FC op FR TO GA TL DU W WF NX HD KX KF KS LA TA WA QC QX BX IF BU WT NY KY KO KM KT NU CI LE SP BY HA CA QF QL QT BH BB c to n h1 hto hn en hs n 0 (by omega)
  have hb : ∀ post : Int32 → Prop, post (nI r) → wpX_hasCellInQueue post (now, (nI bf), (nI bs), CN, FB, FZ, FC, op, FR, TO, GA, TL, DU, W, WF, NX, HD, KX, KF, KS, LA, TA, WA, QC, QX, BX, IF) (nI c) := by
    intro post hp
    unfold wpX_hasCellInQueue
    dsimp only
    rw [ec]
    exact ⟨hi, nm_r eto ⟨n + 1, hB post hp⟩⟩
  obtain ⟨hC1, hC2⟩ := @cs_Yclose now bf bs CN FB FZ FC op FR TO GA TL DU W WF NX HD KX KF KS LA TA WA QC QX BX IF BU WT NY KY KO KM KT NU CI LE SP BY HA CA QF QL QT BH BB c hc h7 24 0 (by omega)
  refine hb _ ?_
  rcases hr with ⟨er, j, hj, ej⟩ | ⟨er, hno⟩
  · subst er
    refine br_f cs_10 (hY _ _ (br_t rfl ⟨hi, br_f qo ⟨25, hC1 ⟨6 * to + j, by omega, by omega, n, hn, ?_, by omega, ej⟩ _ ⟨rfl, I'⟩⟩⟩))
    rw [show (6 * to + j) / 6 = to by omega]
    exact en
  · subst er
    refine br_t rfl ⟨hi, nm_e ⟨hi, nm_e ⟨hi, nm_e ?_⟩⟩⟩
    unfold wpX_startNextFrame
    dsimp only
    rw [ec]
    refine ⟨hi, nm_e ⟨hi, nm_e ?_⟩⟩
    unfold wpX_keepNothing
    dsimp only
    rw [ec]
    refine ⟨hi, nm_e ⟨hi, nm_e ?_⟩⟩
    refine hY _ _ (br_t rfl ⟨hi, br_f qo ⟨25, hC2 (fun q _ hq ⟨n', hn', en', hl, ee⟩ => ?_) _ ⟨rfl, ?_⟩⟩⟩)
    · obtain ⟨n2, hn2, en2, hs2⟩ := h7 (q / 6) (by omega)
      have e2 : n' = n2 := cs_nI_inj (by omega) (by omega) (en'.symm.trans en2)
      subst e2
      obtain ⟨f, p, c', z, l, t, a1, a2, a3, a4, a5, a6, a7, a8, a9⟩ := hs2 (q % 6) hl
      rw [show 6 * (q / 6) + q % 6 = q by omega] at a2
      obtain ⟨b1, b2, b3, b4, b5, b6, b7, b8, b9⟩ := a7
      have ee' := ee
      rw [a2, nI_clamp (by omega), b8] at ee'
      have ecc : c' = c := cs_nI_inj (by omega) (by omega) ee'
      rw [ecc, eto] at a9
      have eq6 : to = q / 6 := cs_nI_inj (by omega) (by omega) a9
      have enn : n = n' := cs_nI_inj (by omega) (by omega) (en.symm.trans (by rw [eq6]; exact en'))
      refine hno (q % 6) (by omega) (by omega) ?_
      rw [show 6 * to + q % 6 = q by omega]
      exact ee
    · rw [cs_b0]
      refine cs_mk h1 h2 (cs_N_up (cs_N_end h3) (by omega)) h4 (cs_W_end h5) (cs_K_end h6) (cs_Q_end h7 eto hto ?_) h8 h9 h10 h11
      intro n' hn' en' i hi'
      have enn : n = n' := cs_nI_inj (by omega) (by omega) (en.symm.trans en')
      exact hno i (by omega) (by omega)
theorem cs_mu_IF {now : Int32} {bf bs : Nat} {CN FB FZ FC op FR TO GA TL DU W WF NX HD KX KF KS LA TA WA QC QX BX IF : Nat → Int32} {a m : Nat} (h : a + m + 1 ≤ 16) : ∀ d i, i + d = m → ∀ post : SX → Prop,
    post (now, (nI bf), (nI bs), CN, FB, FZ, FC, op, FR, TO, GA, TL, DU, W, WF, NX, HD, KX, KF, KS, LA, TA, WA, QC, QX, BX, cs_mv IF 1 a m) → wX_moveUp__inboxFrame_2 post (nI a) (nI m) now (nI bf) (nI bs) (d + 1) (nI i) CN FB FZ FC op FR TO GA TL DU W WF NX HD KX KF KS LA TA WA QC QX BX (cs_mv IF 1 a i) := by
  intro d
  induction d with
  | zero =>
    intro i hi post hp
    have e : i = m := by omega
    subst e
    exact br_t (Int32.le_refl _) hp
  | succ d ih =>
    intro i hi post hp
    refine br_f (nI_ge (by omega) (by omega)) ?_
    rw [nI_add, nI_1 (a + i), nI_clamp (show a + i < 2 ^ 31 by omega), nI_clamp (show a + i + 1 < 2 ^ 31 by omega), cs_mv_out (show a + i + 1 < a ∨ a + i ≤ a + i + 1 by omega)]
    exact ⟨vp_in_nI (by omega) (by decide), vp_in_nI (by omega) (by decide), nm_r (cs_mv_s IF 1 a i) (nm_r (nI_1 i) (ih (i + 1) (by omega) post hp))⟩
theorem cs_mu0_IF {now : Int32} {bf bs : Nat} {CN FB FZ FC op FR TO GA TL DU W WF NX HD KX KF KS LA TA WA QC QX BX IF : Nat → Int32} {a m : Nat} (h : a + m + 1 ≤ 16) {post : SX → Prop} (hp : post (now, (nI bf), (nI bs), CN, FB, FZ, FC, op, FR, TO, GA, TL, DU, W, WF, NX, HD, KX, KF, KS, LA, TA, WA, QC, QX, BX, cs_mv IF 1 a m)) : wpX_moveUp__inboxFrame post (now, (nI bf), (nI bs), CN, FB, FZ, FC, op, FR, TO, GA, TL, DU, W, WF, NX, HD, KX, KF, KS, LA, TA, WA, QC, QX, BX, IF) (nI a) (nI m) := by
  have h := @cs_mu_IF now bf bs CN FB FZ FC op FR TO GA TL DU W WF NX HD KX KF KS LA TA WA QC QX BX IF a m h m 0 (by omega) post hp
  rw [cs_mv_0] at h
  exact ⟨m + 1, h⟩
theorem cs_mu_WF {now : Int32} {bf bs : Nat} {CN FB FZ FC op FR TO GA TL DU W WF NX HD KX KF KS LA TA WA QC QX BX IF : Nat → Int32} {a m : Nat} (h : a + m + 1 ≤ 16) : ∀ d i, i + d = m → ∀ post : SX → Prop,
    post (now, (nI bf), (nI bs), CN, FB, FZ, FC, op, FR, TO, GA, TL, DU, W, cs_mv WF 1 a m, NX, HD, KX, KF, KS, LA, TA, WA, QC, QX, BX, IF) → wX_moveUp__waitFrame_2 post (nI a) (nI m) now (nI bf) (nI bs) (d + 1) (nI i) CN FB FZ FC op FR TO GA TL DU W (cs_mv WF 1 a i) NX HD KX KF KS LA TA WA QC QX BX IF := by
  intro d
  induction d with
  | zero =>
    intro i hi post hp
    have e : i = m := by omega
    subst e
    exact br_t (Int32.le_refl _) hp
  | succ d ih =>
    intro i hi post hp
    refine br_f (nI_ge (by omega) (by omega)) ?_
    rw [nI_add, nI_1 (a + i), nI_clamp (show a + i < 2 ^ 31 by omega), nI_clamp (show a + i + 1 < 2 ^ 31 by omega), cs_mv_out (show a + i + 1 < a ∨ a + i ≤ a + i + 1 by omega)]
    exact ⟨vp_in_nI (by omega) (by decide), vp_in_nI (by omega) (by decide), nm_r (cs_mv_s WF 1 a i) (nm_r (nI_1 i) (ih (i + 1) (by omega) post hp))⟩
theorem cs_mu0_WF {now : Int32} {bf bs : Nat} {CN FB FZ FC op FR TO GA TL DU W WF NX HD KX KF KS LA TA WA QC QX BX IF : Nat → Int32} {a m : Nat} (h : a + m + 1 ≤ 16) {post : SX → Prop} (hp : post (now, (nI bf), (nI bs), CN, FB, FZ, FC, op, FR, TO, GA, TL, DU, W, cs_mv WF 1 a m, NX, HD, KX, KF, KS, LA, TA, WA, QC, QX, BX, IF)) : wpX_moveUp__waitFrame post (now, (nI bf), (nI bs), CN, FB, FZ, FC, op, FR, TO, GA, TL, DU, W, WF, NX, HD, KX, KF, KS, LA, TA, WA, QC, QX, BX, IF) (nI a) (nI m) := by
  have h := @cs_mu_WF now bf bs CN FB FZ FC op FR TO GA TL DU W WF NX HD KX KF KS LA TA WA QC QX BX IF a m h m 0 (by omega) post hp
  rw [cs_mv_0] at h
  exact ⟨m + 1, h⟩
theorem cs_mu_QX {now : Int32} {bf bs : Nat} {CN FB FZ FC op FR TO GA TL DU W WF NX HD KX KF KS LA TA WA QC QX BX IF : Nat → Int32} {a m : Nat} (h : a + m + 1 ≤ 24) : ∀ d i, i + d = m → ∀ post : SX → Prop,
    post (now, (nI bf), (nI bs), CN, FB, FZ, FC, op, FR, TO, GA, TL, DU, W, WF, NX, HD, KX, KF, KS, LA, TA, WA, QC, cs_mv QX 1 a m, BX, IF) → wX_moveUp__queueCell_2 post (nI a) (nI m) now (nI bf) (nI bs) (d + 1) (nI i) CN FB FZ FC op FR TO GA TL DU W WF NX HD KX KF KS LA TA WA QC (cs_mv QX 1 a i) BX IF := by
  intro d
  induction d with
  | zero =>
    intro i hi post hp
    have e : i = m := by omega
    subst e
    exact br_t (Int32.le_refl _) hp
  | succ d ih =>
    intro i hi post hp
    refine br_f (nI_ge (by omega) (by omega)) ?_
    rw [nI_add, nI_1 (a + i), nI_clamp (show a + i < 2 ^ 31 by omega), nI_clamp (show a + i + 1 < 2 ^ 31 by omega), cs_mv_out (show a + i + 1 < a ∨ a + i ≤ a + i + 1 by omega)]
    exact ⟨vp_in_nI (by omega) (by decide), vp_in_nI (by omega) (by decide), nm_r (cs_mv_s QX 1 a i) (nm_r (nI_1 i) (ih (i + 1) (by omega) post hp))⟩
theorem cs_mu0_QX {now : Int32} {bf bs : Nat} {CN FB FZ FC op FR TO GA TL DU W WF NX HD KX KF KS LA TA WA QC QX BX IF : Nat → Int32} {a m : Nat} (h : a + m + 1 ≤ 24) {post : SX → Prop} (hp : post (now, (nI bf), (nI bs), CN, FB, FZ, FC, op, FR, TO, GA, TL, DU, W, WF, NX, HD, KX, KF, KS, LA, TA, WA, QC, cs_mv QX 1 a m, BX, IF)) : wpX_moveUp__queueCell post (now, (nI bf), (nI bs), CN, FB, FZ, FC, op, FR, TO, GA, TL, DU, W, WF, NX, HD, KX, KF, KS, LA, TA, WA, QC, QX, BX, IF) (nI a) (nI m) := by
  have h := @cs_mu_QX now bf bs CN FB FZ FC op FR TO GA TL DU W WF NX HD KX KF KS LA TA WA QC QX BX IF a m h m 0 (by omega) post hp
  rw [cs_mv_0] at h
  exact ⟨m + 1, h⟩
theorem cs_Ytk2 {now : Int32} {bf bs : Nat} {CN BU op FR TO GA TL DU W WT NY KY KO KM KT NU CI LE SP BY LA HA CA WA QC QF QL QT BX BH BB : Nat → Int32} {s y n : Nat} {x2 : Int32} (hs : s < 4) (hy : y < 3) : ∀ d i, i + d = 27 → ∀ (post : Int32 → SY → Prop) (J : Int32 → (Nat → Int32) → (Nat → Int32) → (Nat → Int32) → (Nat → Int32) → (Nat → Int32) → (Nat → Int32) → (Nat → Int32) → (Nat → Int32) → (Nat → Int32) → (Nat → Int32) → (Nat → Int32) → (Nat → Int32) → (Nat → Int32) → (Nat → Int32) → (Nat → Int32) → (Nat → Int32) → (Nat → Int32) → (Nat → Int32) → (Nat → Int32) → (Nat → Int32) → (Nat → Int32) → (Nat → Int32) → (Nat → Int32) → (Nat → Int32) → (Nat → Int32) → (Nat → Int32) → (Nat → Int32) → (Nat → Int32) → (Nat → Int32) → (Nat → Int32) → (Nat → Int32) → Prop),
    J (nI (4 * s + y + 1)) CN BU op FR TO GA TL DU W WT NY KY KO KM KT NU CI LE SP BY LA HA CA WA QC QF QL QT BX BH (cs_mv BB 27 (108 * s) (27 * y + 27)) →
    wY_take_76 post J (nI s) x2 (nI (4 * s + y)) now (nI bs) (nI bf) (d + 1) (nI i) CN BU op FR TO GA TL DU W WT NY KY KO KM KT NU CI LE SP BY LA HA CA WA QC QF QL QT BX BH (cs_mv BB 27 (108 * s) (27 * y + i)) := by
  intro d
  induction d with
  | zero =>
    intro i hi post J hp
    have e : i = 27 := by omega
    subst e
    exact br_t (Int32.le_refl _) (nm_r (nI_1 _) hp)
  | succ d ih =>
    intro i hi post J hp
    refine br_f (nI_ge (b := 27) (by omega) (by decide)) ?_
    have e1 : 27 * nI (4 * s + y) + nI i = nI (108 * s + (27 * y + i)) := by rw [cs_27m, nI_add]; exact congrArg nI (by omega)
    have e2 : 27 * nI (4 * s + y) + 27 + nI i = nI (108 * s + (27 * y + i) + 27) := by
      have e3 : 27 * nI (4 * s + y) + 27 = nI (27 * (4 * s + y) + 27) := by rw [cs_27m]; exact nI_add _ 27
      rw [e3, nI_add]
      exact congrArg nI (by omega)
    rw [e1, e2, nI_clamp (show 108 * s + (27 * y + i) < 2 ^ 31 by omega), nI_clamp (show 108 * s + (27 * y + i) + 27 < 2 ^ 31 by omega),
      cs_mv_out (show 108 * s + (27 * y + i) + 27 < 108 * s ∨ 108 * s + (27 * y + i) ≤ 108 * s + (27 * y + i) + 27 by omega)]
    exact ⟨vp_in_nI (by omega) (by decide), vp_in_nI (by omega) (by decide), nm_r (cs_mv_s BB 27 (108 * s) (27 * y + i)) (nm_r (nI_1 i) (ih (i + 1) (by omega) post J hp))⟩
theorem cs_Ytk1 {now : Int32} {bf bs : Nat} {CN BU op FR TO GA TL DU W WT NY KY KO KM KT NU CI LE SP BY LA HA CA WA QC QF QL QT BX BH BB : Nat → Int32} {s n : Nat} {x2 : Int32} (hs : s < 4) (hn : n < 4) (en : BX s = nI n) : ∀ d y, y + d = n → ∀ post : Int32 → SY → Prop,
    post x2 (now, (nI bs), (nI bf), CN, BU, op, FR, TO, GA, TL, DU, W, WT, NY, KY, KO, KM, KT, NU, CI, LE, SP, BY, LA, HA, CA, WA, QC, QF, QL, QT, BX, cs_mv BH 1 (4 * s) n, cs_mv BB 27 (108 * s) (27 * n)) →
    wY_take_45 post (nI s) x2 now (nI bs) (nI bf) (d + 1) (nI (4 * s + y)) CN BU op FR TO GA TL DU W WT NY KY KO KM KT NU CI LE SP BY LA HA CA WA QC QF QL QT BX (cs_mv BH 1 (4 * s) y) (cs_mv BB 27 (108 * s) (27 * y)) := by
  have is4 : vp_in (nI s) 4 := vp_in_nI hs (by decide)
  have es : (nI s).toNatClampNeg = s := nI_clamp (by omega)
  intro d
  induction d with
  | zero =>
    intro y hy post hp
    have e : y = n := by omega
    subst e
    refine ⟨is4, ?_⟩
    rw [es, en, cs_4m, nI_add]
    exact br_t (Int32.le_refl _) hp
  | succ d ih =>
    intro y hy post hp
    refine ⟨is4, ?_⟩
    rw [es, en, cs_4m, nI_add, nI_1 (4 * s + y), nI_clamp (show 4 * s + y < 2 ^ 31 by omega), nI_clamp (show 4 * s + y + 1 < 2 ^ 31 by omega), cs_mv_out (show 4 * s + y + 1 < 4 * s ∨ 4 * s + y ≤ 4 * s + y + 1 by omega)]
    refine br_f (nI_ge (by omega) (by omega)) ⟨vp_in_nI (by omega) (by decide), vp_in_nI (by omega) (by decide), nm_r (cs_mv_s BH 1 (4 * s) y) ⟨28, ?_⟩⟩
    exact @cs_Ytk2 now bf bs CN BU op FR TO GA TL DU W WT NY KY KO KM KT NU CI LE SP BY LA HA CA WA QC QF QL QT BX (cs_mv BH 1 (4 * s) (y + 1)) BB s y n x2 hs (by omega) 27 0 (by omega) post _ (ih (y + 1) (by omega) post hp)
theorem i_vc_take {k : Nat} {u : SX} {v : SY} (I : i_Rel k u v) (hk : k + 5 ≤ 2560) (v1 : Int32) : wpX_take (fun r u' => wpY_take (fun r' v' => r' = r ∧ i_Rel (k + 5) u' v') v v1) u v1 := by
  have I' := i_up I
  obtain ⟨now, bf, bs, CN, FB, FZ, FC, op, FR, TO, GA, TL, DU, W, WF, NX, HD, KX, KF, KS, LA, TA, WA, QC, QX, BX, IF, BU, WT, NY, KY, KO, KM, KT, NU, CI, LE, SP, BY, HA, CA, QF, QL, QT, BH, BB, rfl, rfl, h1, h2, h3, h4, h5, h6, h7, h8, h9, h10, h11⟩ := I
  unfold wpX_take wpY_take
  dsimp only
  rcases cs_stat v1 with ⟨hX, hY⟩ | ⟨s, hs, rfl, hX, hY⟩
  · exact hX _ (br_t rfl (hY _ _ (br_f cs_10 ⟨rfl, I'⟩)))
  have hi : vp_in (nI s) 4 := vp_in_nI hs (by decide)
  have ec : (nI s).toNatClampNeg = s := nI_clamp (by omega)
  rw [ec]
  refine hX _ (br_f cs_10 ?_)
  rcases @cs_desc now bf bs CN FB FZ FC op FR TO GA TL DU W WF NX HD KX KF KS LA TA WA QC QX BX IF BU WT NY KY KO KM KT NU CI LE SP BY HA CA QF QL QT BH BB s hs h1 h8 with ⟨e, hd⟩ | ⟨n, c, z, hn, e, hc, hz1, hz, eb, hd⟩
  · exact hd _ (br_t rfl (hY _ _ (br_t rfl ⟨hi, br_t e ⟨rfl, I'⟩⟩)))
  · have e0 : ¬ BX s = 0 := by rw [e]; exact nI_ne0 (by omega) (by omega)
    have em : BX s - 1 = nI n := by rw [e]; exact nI_pred n
    refine hd _ (br_f (cs_ne2 (by omega)) ?_)
    rw [em, cs_m4, cs_4m, nI_clamp (show 4 * s < 2 ^ 31 by omega)]
    refine ⟨hi, hi, nm_e ⟨hi, ?_⟩⟩
    rw [pk_us]
    refine cs_mu0_IF (by omega) ?_
    refine hY _ _ (br_t rfl ⟨hi, br_f e0 ⟨vp_in_nI (by omega) (by decide), nm_r eb ⟨hi, hi, nm_e (nm_e ⟨n + 1, ?_⟩)⟩⟩⟩)
    have hT := @cs_Ytk1 now bf bs CN BU op FR TO GA TL DU W WT NY KY KO KM KT NU CI LE SP BY LA HA CA WA QC QF QL QT (upd BX s (nI n)) BH BB s n (nI (32 * c + z)) hs (by omega) pk_us n 0 (by omega)
    rw [cs_mv_0, cs_mv_0] at hT
    refine hT _ ⟨rfl, ?_⟩
    exact cs_mk h1 h2 (cs_N_up h3 (by omega)) h4 h5 h6 h7 (cs_I_out h8 hs hn e) h9 h10 h11
