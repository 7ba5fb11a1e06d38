theorem cs_cell {f : Nat} (hf : f < 256) (a b : Nat) : (nI f <<< ((2 : Int32) &&& 31) + nI a) + nI b = nI (4 * f + a + b) := by
  rw [cs_shl f hf, nI_add, nI_add]
theorem cs_Xs1 {now : Int32} {bf bs : Nat} {CN FB FZ FC op FR TO GA TL DU W WF NX HD KX KF KS LA TA WA QC QX BX IF : Nat → Int32} {s c t f z m l : Nat} (hs : s < 4) (hc : c < 8) (hf : f < 256) (hz : z ≤ 27) (et : TA s = nI t) (ef : WF (2 * c) = nI f) (ez : FZ f = nI z) (em : NX c = nI m) (hm : m < 4)
    (hl : (l = 0 ∧ m + 1 < (z + 12) / 8) ∨ (l = 1 ∧ (z + 12) / 8 ≤ m + 1)) (hN : ∀ post : Int32 → Prop, post (nI c) → wpX_nextSender post (now, (nI bf), (nI bs), CN, FB, FZ, FC, op, FR, TO, GA, TL, DU, W, WF, NX, HD, KX, KF, KS, LA, TA, WA, QC, QX, BX, IF) (nI s)) {post : SX → Prop}
    (hp : wX_sendFrom_74 post (nI s) (nI c) (nI t) (nI f) (nI l) now (nI bf) (nI bs) CN FB FZ FC op FR TO GA TL DU W WF (upd NX c (nI (m + 1))) HD KX KF KS (upd LA s (nI c)) (upd TA s 0) WA QC QX BX IF) : wpX_sendFrom post (now, (nI bf), (nI bs), CN, FB, FZ, FC, op, FR, TO, GA, TL, DU, W, WF, NX, HD, KX, KF, KS, LA, TA, WA, QC, QX, BX, IF) (nI s) := by
  have is4 : vp_in (nI s) 4 := vp_in_nI hs (by decide)
  have es : (nI s).toNatClampNeg = s := nI_clamp (by omega)
  have ic : vp_in (nI c) 8 := vp_in_nI hc (by decide)
  have ec : (nI c).toNatClampNeg = c := nI_clamp (by omega)
  unfold wpX_sendFrom
  refine hN _ (br_f (cs_ne2 (by omega)) ?_)
  rw [es, ec, cs_m2, nI_clamp (show 2 * c < 2 ^ 31 by omega), em, nI_1 m]
  refine ⟨is4, nm_e ⟨is4, nm_r et ⟨is4, nm_e ⟨vp_in_nI (by omega) (by decide), nm_r ef ⟨ic, ic, nm_e ⟨ic, ?_⟩⟩⟩⟩⟩⟩
  refine cs_Xcells hf hz ez ?_
  rw [pk_us]
  rcases hl with ⟨rfl, hl⟩ | ⟨rfl, hl⟩
  · exact br_t (nI_lt hl (by omega)) hp
  · exact br_f (nI_nlt hl (by omega)) hp
theorem cs_Xs2l {now : Int32} {bf bs : Nat} {CN FB FZ FC op FR TO GA TL DU W WF NX HD KX KF KS LA TA WA QC QX BX IF : Nat → Int32} {WA' : Nat → Int32} {s c t f l : Nat} (hf : f < 256) (hl : l ≤ 1) (ht : t ≤ 3) (hL : ∀ post : Int32 → SX → Prop, post 0 (now, (nI bf), (nI bs), CN, FB, FZ, FC, op, FR, TO, GA, TL, DU, W, WF, NX, HD, KX, KF, KS, LA, TA, WA', QC, QX, BX, IF) → wpX_crossesLine post (now, (nI bf), (nI bs), CN, FB, FZ, FC, op, FR, TO, GA, TL, DU, W, WF, NX, HD, KX, KF, KS, LA, TA, WA, QC, QX, BX, IF) (nI s) (nI t)) {post : SX → Prop}
    (hp : wX_sendFrom_133 post (nI c) (nI l) now (nI bf) (nI bs) (upd CN 3 (CN 3 + 1)) FB FZ FC op FR TO GA TL DU W WF NX HD KX KF KS LA TA WA' QC QX BX IF) : wX_sendFrom_74 post (nI s) (nI c) (nI t) (nI f) (nI l) now (nI bf) (nI bs) CN FB FZ FC op FR TO GA TL DU W WF NX HD KX KF KS LA TA WA QC QX BX IF := by
  have h101 : ∀ z0 z1 : Int32, wX_sendFrom_101 post (nI s) (nI c) (nI t) (nI l) z0 z1 now (nI bf) (nI bs) CN FB FZ FC op FR TO GA TL DU W WF NX HD KX KF KS LA TA WA QC QX BX IF := by
    intro z0 z1
    unfold wX_sendFrom_101
    exact nm_e (hL _ (br_t rfl (nm_e hp)))
  unfold wX_sendFrom_74 wX_sendFrom_90
  exact br_c (fun _ => br_c (fun _ => h101 _ _) (fun _ => h101 _ _)) (fun _ => br_c (fun _ => h101 _ _) (fun _ => h101 _ _))
theorem cs_Xs2p {now : Int32} {bf bs : Nat} {CN FB FZ FC op FR TO GA TL DU W WF NX HD KX KF KS LA TA WA QC QX BX IF : Nat → Int32} {WA' CN' DU' HD' QC' QX' : Nat → Int32} {s c t f l : Nat} (hf : f < 256) (hl : l ≤ 1) (ht : t ≤ 3) (hL : ∀ post : Int32 → SX → Prop, post 1 (now, (nI bf), (nI bs), CN, FB, FZ, FC, op, FR, TO, GA, TL, DU, W, WF, NX, HD, KX, KF, KS, LA, TA, WA', QC, QX, BX, IF) → wpX_crossesLine post (now, (nI bf), (nI bs), CN, FB, FZ, FC, op, FR, TO, GA, TL, DU, W, WF, NX, HD, KX, KF, KS, LA, TA, WA, QC, QX, BX, IF) (nI s) (nI t))
    (hE : ∀ post : SX → Prop, post (now, (nI bf), (nI bs), CN', FB, FZ, FC, op, FR, TO, GA, TL, DU', W, WF, NX, HD', KX, KF, KS, LA, TA, WA', QC', QX', BX, IF) → wpX_enterSwitch post (now, (nI bf), (nI bs), CN, FB, FZ, FC, op, FR, TO, GA, TL, DU, W, WF, NX, HD, KX, KF, KS, LA, TA, WA', QC, QX, BX, IF) (nI c) (nI (4 * f + 2 * l + (if t = 3 then 1 else 0)))) {post : SX → Prop}
    (hp : wX_sendFrom_133 post (nI c) (nI l) now (nI bf) (nI bs) CN' FB FZ FC op FR TO GA TL DU' W WF NX HD' KX KF KS LA TA WA' QC' QX' BX IF) : wX_sendFrom_74 post (nI s) (nI c) (nI t) (nI f) (nI l) now (nI bf) (nI bs) CN FB FZ FC op FR TO GA TL DU W WF NX HD KX KF KS LA TA WA QC QX BX IF := by
  have h101 : ∀ a b : Nat, a + b = 2 * l + (if t = 3 then 1 else 0) → wX_sendFrom_101 post (nI s) (nI c) (nI t) (nI l) (nI b) (nI f <<< ((2 : Int32) &&& 31) + nI a) now (nI bf) (nI bs) CN FB FZ FC op FR TO GA TL DU W WF NX HD KX KF KS LA TA WA QC QX BX IF := by
    intro a b hab
    unfold wX_sendFrom_101
    refine nm_r (cs_cell hf a b) (hL _ (br_f cs_10 ?_))
    rw [show 4 * f + a + b = 4 * f + 2 * l + (if t = 3 then 1 else 0) by omega]
    exact hE _ hp
  unfold wX_sendFrom_74 wX_sendFrom_90
  rcases (show l = 0 ∨ l = 1 by omega) with e | e
  · subst e
    refine br_t rfl ?_
    by_cases e3 : t = 3
    · subst e3
      exact br_t rfl (h101 0 1 rfl)
    · exact br_f (fun z => e3 (cs_nI_inj (b := 3) (by omega) (by decide) z)) (h101 0 0 (by rw [if_neg e3]))
  · subst e
    refine br_f cs_10 ?_
    by_cases e3 : t = 3
    · subst e3
      exact br_t rfl (h101 2 1 rfl)
    · exact br_f (fun z => e3 (cs_nI_inj (b := 3) (by omega) (by decide) z)) (h101 2 0 (by rw [if_neg e3]))
theorem cs_X133a {now : Int32} {bf bs : Nat} {CN FB FZ FC op FR TO GA TL DU W WF NX HD KX KF KS LA TA WA QC QX BX IF : Nat → Int32} {c : Nat} {post : SX → Prop} (hp : post (now, (nI bf), (nI bs), CN, FB, FZ, FC, op, FR, TO, GA, TL, DU, W, WF, NX, HD, KX, KF, KS, LA, TA, WA, QC, QX, BX, IF)) : wX_sendFrom_133 post (nI c) (nI 0) now (nI bf) (nI bs) CN FB FZ FC op FR TO GA TL DU W WF NX HD KX KF KS LA TA WA QC QX BX IF := br_t rfl hp
theorem cs_X133b {now : Int32} {bf bs : Nat} {CN FB FZ FC op FR TO GA TL DU W WF NX HD KX KF KS LA TA WA QC QX BX IF : Nat → Int32} {c w : Nat} (hc : c < 8) (hw : w < 2) (eW : W c = nI (w + 1)) {post : SX → Prop} (hp : post (now, (nI bf), (nI bs), CN, FB, FZ, FC, op, FR, TO, GA, TL, DU, upd W c (nI w), cs_mv WF 1 (2 * c) w, upd NX c 0, upd HD c 0, KX, KF, KS, LA, TA, WA, QC, QX, BX, IF)) : wX_sendFrom_133 post (nI c) (nI 1) now (nI bf) (nI bs) CN FB FZ FC op FR TO GA TL DU W WF NX HD KX KF KS LA TA WA QC QX BX IF := by
  have ic : vp_in (nI c) 8 := vp_in_nI hc (by decide)
  have ec : (nI c).toNatClampNeg = c := nI_clamp (by omega)
  have em : W c - 1 = nI w := by rw [eW]; exact nI_pred w
  unfold wX_sendFrom_133
  rw [ec, em, cs_m2]
  refine br_f cs_10 ⟨ic, ic, nm_e ⟨ic, ?_⟩⟩
  rw [pk_us]
  refine cs_mu0_WF (by omega) ?_
  unfold wpX_startNextFrame
  dsimp only
  rw [ec, cs_b0]
  exact ⟨ic, nm_e ⟨ic, nm_e hp⟩⟩
theorem cs_Ys1 {now : Int32} {bf bs : Nat} {CN BU op FR TO GA TL DU W WT NY KY KO KM KT NU CI LE SP BY LA HA CA WA QC QF QL QT BX BH BB : Nat → Int32} {s c p z m l : Nat} (hs : s < 4) (hc : c < 8) (hp64 : p < 64) (hz : z ≤ 27) (ep : WT (2 * c) = nI p) (ez : LE p = nI z) (em : NY c = nI m) (hm : m < (z + 12) / 8)
    (hl : (l = 0 ∧ m + 1 < (z + 12) / 8) ∨ (l = 1 ∧ (z + 12) / 8 ≤ m + 1)) (hN : ∀ post : Int32 → Prop, post (nI c) → wpY_nextCircuit post (now, (nI bs), (nI bf), CN, BU, op, FR, TO, GA, TL, DU, W, WT, NY, KY, KO, KM, KT, NU, CI, LE, SP, BY, LA, HA, CA, WA, QC, QF, QL, QT, BX, BH, BB) (nI s)) {post : SY → Prop}
    (hp : wY_sendFrom_56 post (nI s) (nI c) (nI p) (nI l) now (nI bs) (nI bf) CN BU op FR TO GA TL DU W WT (upd NY c (nI (m + 1))) KY KO KM KT NU CI LE SP BY (upd LA s (nI c)) HA CA WA QC QF QL QT BX BH BB) : wpY_sendFrom post (now, (nI bs), (nI bf), CN, BU, op, FR, TO, GA, TL, DU, W, WT, NY, KY, KO, KM, KT, NU, CI, LE, SP, BY, LA, HA, CA, WA, QC, QF, QL, QT, BX, BH, BB) (nI s) := by
  have is4 : vp_in (nI s) 4 := vp_in_nI hs (by decide)
  have es : (nI s).toNatClampNeg = s := nI_clamp (by omega)
  have ic : vp_in (nI c) 8 := vp_in_nI hc (by decide)
  have ec : (nI c).toNatClampNeg = c := nI_clamp (by omega)
  unfold wpY_sendFrom
  refine hN _ (br_t (nI_pos' (by omega)) ?_)
  rw [es, ec, cs_2m, nI_clamp (show 2 * c < 2 ^ 31 by omega), em, nI_1 m]
  refine ⟨is4, nm_e ⟨vp_in_nI (by omega) (by decide), nm_r ep ⟨ic, ic, nm_e ⟨ic, ?_⟩⟩⟩⟩
  refine cs_Ycells hp64 hz ez ?_
  rw [pk_us]
  rcases hl with ⟨rfl, hl⟩ | ⟨rfl, hl⟩
  · exact br_f (fun q => absurd (cs_nI_inj (by omega) (by omega) q) (by omega)) hp
  · exact br_t (congrArg nI (by omega)) hp
theorem cs_Y56a {now : Int32} {bf bs : Nat} {CN BU op FR TO GA TL DU W WT NY KY KO KM KT NU CI LE SP BY LA HA CA WA QC QF QL QT BX BH BB : Nat → Int32} {s c p : Nat} {x5 x6 : Int32} (hs : s < 4) (e5 : HA s = x5) (e6 : CA s = x6) {post : SY → Prop}
    (hp : wY_sendFrom_128 post (nI s) (nI c) (nI p) (nI 0) x5 x6 now (nI bs) (nI bf) CN BU op FR TO GA TL DU W WT NY KY KO KM KT NU CI LE SP BY LA (upd HA s 0) (upd CA s 0) WA QC QF QL QT BX BH BB) : wY_sendFrom_56 post (nI s) (nI c) (nI p) (nI 0) now (nI bs) (nI bf) CN BU op FR TO GA TL DU W WT NY KY KO KM KT NU CI LE SP BY LA HA CA WA QC QF QL QT BX BH BB := by
  have is4 : vp_in (nI s) 4 := vp_in_nI hs (by decide)
  have es : (nI s).toNatClampNeg = s := nI_clamp (by omega)
  unfold wY_sendFrom_56
  rw [es, cs_b0]
  exact ⟨is4, nm_r e5 ⟨is4, nm_r e6 ⟨is4, nm_e ⟨is4, nm_e (br_t rfl hp)⟩⟩⟩⟩
theorem cs_Y56b {now : Int32} {bf bs : Nat} {CN BU op FR TO GA TL DU W WT NY KY KO KM KT NU CI LE SP BY LA HA CA WA QC QF QL QT BX BH BB : Nat → Int32} {s c p w : Nat} {x5 x6 : Int32} (hs : s < 4) (hc : c < 8) (eW : W c = nI (w + 1)) (e5 : HA s = x5) (e6 : CA s = x6) {post : SY → Prop}
    (hp : wY_sendFrom_128 post (nI s) (nI c) (nI p) (nI 1) x5 x6 now (nI bs) (nI bf) CN BU op FR TO GA TL DU (upd W c (nI w)) (upd WT (2 * c) (WT (2 * c + 1))) (upd NY c 0) KY KO KM KT NU CI LE SP BY LA (upd HA s 0) (upd CA s 0) WA QC QF QL QT BX BH BB) : wY_sendFrom_56 post (nI s) (nI c) (nI p) (nI 1) now (nI bs) (nI bf) CN BU op FR TO GA TL DU W WT NY KY KO KM KT NU CI LE SP BY LA HA CA WA QC QF QL QT BX BH BB := by
  have is4 : vp_in (nI s) 4 := vp_in_nI hs (by decide)
  have es : (nI s).toNatClampNeg = s := nI_clamp (by omega)
  have ic : vp_in (nI c) 8 := vp_in_nI hc (by decide)
  have ec : (nI c).toNatClampNeg = c := nI_clamp (by omega)
  have em : W c - 1 = nI w := by rw [eW]; exact nI_pred w
  unfold wY_sendFrom_56
  rw [es, ec, em, cs_b0, cs_2m, nI_1 (2 * c), nI_clamp (show 2 * c < 2 ^ 31 by omega), nI_clamp (show 2 * c + 1 < 2 ^ 31 by omega)]
  refine ⟨is4, nm_r e5 ⟨is4, nm_r e6 ⟨is4, nm_e ⟨is4, nm_e (br_f cs_10 ?_)⟩⟩⟩⟩
  exact ⟨vp_in_nI (by omega) (by decide), vp_in_nI (by omega) (by decide), nm_e ⟨ic, ic, nm_e ⟨ic, nm_e hp⟩⟩⟩
theorem cs_Y128l {now : Int32} {bf bs : Nat} {CN BU op FR TO GA TL DU W WT NY KY KO KM KT NU CI LE SP BY LA HA CA WA QC QF QL QT BX BH BB : Nat → Int32} {WA' : Nat → Int32} {s : Nat} {x2 x3 x4 x5 x6 : Int32} (hL : ∀ post : Int32 → SY → Prop, post 1 (now, (nI bs), (nI bf), CN, BU, op, FR, TO, GA, TL, DU, W, WT, NY, KY, KO, KM, KT, NU, CI, LE, SP, BY, LA, HA, CA, WA', QC, QF, QL, QT, BX, BH, BB) → wpY_isLost post (now, (nI bs), (nI bf), CN, BU, op, FR, TO, GA, TL, DU, W, WT, NY, KY, KO, KM, KT, NU, CI, LE, SP, BY, LA, HA, CA, WA, QC, QF, QL, QT, BX, BH, BB) (nI s) x5) {post : SY → Prop}
    (hp : post (now, (nI bs), (nI bf), upd CN 3 (CN 3 + 1), BU, op, FR, TO, GA, TL, DU, W, WT, NY, KY, KO, KM, KT, NU, CI, LE, SP, BY, LA, HA, CA, WA', QC, QF, QL, QT, BX, BH, BB)) : wY_sendFrom_128 post (nI s) x2 x3 x4 x5 x6 now (nI bs) (nI bf) CN BU op FR TO GA TL DU W WT NY KY KO KM KT NU CI LE SP BY LA HA CA WA QC QF QL QT BX BH BB := by
  unfold wY_sendFrom_128
  exact hL _ (br_f cs_10 (nm_e hp))
theorem cs_Y128p {now : Int32} {bf bs : Nat} {CN BU op FR TO GA TL DU W WT NY KY KO KM KT NU CI LE SP BY LA HA CA WA QC QF QL QT BX BH BB : Nat → Int32} {WA' CN' DU' SP' QC' QF' QL' QT' : Nat → Int32} {s : Nat} {x2 x3 x4 x5 x6 : Int32} (hL : ∀ post : Int32 → SY → Prop, post 0 (now, (nI bs), (nI bf), CN, BU, op, FR, TO, GA, TL, DU, W, WT, NY, KY, KO, KM, KT, NU, CI, LE, SP, BY, LA, HA, CA, WA', QC, QF, QL, QT, BX, BH, BB) → wpY_isLost post (now, (nI bs), (nI bf), CN, BU, op, FR, TO, GA, TL, DU, W, WT, NY, KY, KO, KM, KT, NU, CI, LE, SP, BY, LA, HA, CA, WA, QC, QF, QL, QT, BX, BH, BB) (nI s) x5)
    (hE : ∀ post : SY → Prop, post (now, (nI bs), (nI bf), CN', BU, op, FR, TO, GA, TL, DU', W, WT, NY, KY, KO, KM, KT, NU, CI, LE, SP', BY, LA, HA, CA, WA', QC', QF', QL', QT', BX, BH, BB) → wpY_comeToSwitch post (now, (nI bs), (nI bf), CN, BU, op, FR, TO, GA, TL, DU, W, WT, NY, KY, KO, KM, KT, NU, CI, LE, SP, BY, LA, HA, CA, WA', QC, QF, QL, QT, BX, BH, BB) x2 x3 x4 x6) {post : SY → Prop}
    (hp : post (now, (nI bs), (nI bf), CN', BU, op, FR, TO, GA, TL, DU', W, WT, NY, KY, KO, KM, KT, NU, CI, LE, SP', BY, LA, HA, CA, WA', QC', QF', QL', QT', BX, BH, BB)) : wY_sendFrom_128 post (nI s) x2 x3 x4 x5 x6 now (nI bs) (nI bf) CN BU op FR TO GA TL DU W WT NY KY KO KM KT NU CI LE SP BY LA HA CA WA QC QF QL QT BX BH BB := by
  unfold wY_sendFrom_128
  exact hL _ (br_t rfl (hE _ hp))
theorem cs_sendFrom {k s : Nat} {u : SX} {v : SY} (I : i_Rel k u v) (hs : s < 4) : ∃ u' v', i_Rel k u' v' ∧ (∀ post : SX → Prop, post u' → wpX_sendFrom post u (nI s)) ∧ (∀ post : SY → Prop, post v' → wpY_sendFrom post v (nI s)) := by
  obtain ⟨now, bf, bs, CN, FB, FZ, FC, op, FR, TO, GA, TL, DU, W, WF, NX, HD, KX, KF, KS, LA, TA, WA, QC, QX, BX, IF, BU, WT, NY, KY, KO, KM, KT, NU, CI, LE, SP, BY, HA, CA, QF, QL, QT, BH, BB, rfl, rfl, h1, h2, h3, h4, h5, h6, h7, h8, h9, h10, h11⟩ := I
  rcases @cs_next0 now bf bs CN FB FZ FC op FR TO GA TL DU W WF NX HD KX KF KS LA TA WA QC QX BX IF BU WT NY KY KO KM KT NU CI LE SP BY HA CA QF QL QT BH BB s hs h5 h10 with ⟨c, hc, hW0, hNX, hNY⟩ | ⟨hNX, hNY⟩
  rotate_left
  · refine ⟨(now, (nI bf), (nI bs), CN, FB, FZ, FC, op, FR, TO, GA, TL, DU, W, WF, NX, HD, KX, KF, KS, LA, TA, WA, QC, QX, BX, IF), (now, (nI bs), (nI bf), CN, BU, op, FR, TO, GA, TL, DU, W, WT, NY, KY, KO, KM, KT, NU, CI, LE, SP, BY, LA, HA, CA, WA, QC, QF, QL, QT, BX, BH, BB), cs_mk h1 h2 h3 h4 h5 h6 h7 h8 h9 h10 h11, fun post hp => ?_, fun post hp => ?_⟩
    · unfold wpX_sendFrom
      exact hNX _ (br_t rfl hp)
    · unfold wpY_sendFrom
      exact hNY _ (br_f (by decide) hp)
  obtain ⟨ho, w, f, p, z, m, hw, eW, hW1, hW2⟩ := cs_W_get h5 hc hW0
  have hW1' := hW1
  obtain ⟨b1, b2, b3, b4, b5, b6, b7⟩ := hW1'
  have b3' := b3
  obtain ⟨f1, f2, f3, f4, f5, f6, f7, f8, f9, f10, f11⟩ := b3'
  obtain ⟨t, ht, et, eh, ect⟩ := h9 s hs
  have h10' : cs_L 4 (upd LA s (nI c)) 8 := cs_L_u h10 hc rfl
  have h9' : cs_T (upd TA s 0) (upd HA s 0) (upd CA s 0) := cs_T_0 h9 (t := 0) (by omega) rfl rfl rfl
  by_cases hlast : m + 1 < (z + 12) / 8
  · have hl : ((0 : Nat) = 0 ∧ m + 1 < (z + 12) / 8) ∨ ((0 : Nat) = 1 ∧ (z + 12) / 8 ≤ m + 1) := Or.inl ⟨rfl, hlast⟩
    obtain ⟨wv, ⟨lX, lY⟩ | ⟨lX, lY⟩⟩ := @cs_line now bf bs CN FB FZ FC op FR TO GA TL DU W WF (upd NX c (nI (m + 1))) HD KX KF KS (upd LA s (nI c)) (upd TA s 0) WA QC QX BX IF BU WT (upd NY c (nI (m + 1))) KY KO KM KT NU CI LE SP BY (upd HA s 0) (upd CA s 0) QF QL QT BH BB W s t hs ht
    · refine ⟨(now, (nI bf), (nI bs), upd CN 3 (CN 3 + 1), FB, FZ, FC, op, FR, TO, GA, TL, DU, W, WF, upd NX c (nI (m + 1)), HD, KX, KF, KS, upd LA s (nI c), upd TA s 0, upd WA s wv, QC, QX, BX, IF), (now, (nI bs), (nI bf), upd CN 3 (CN 3 + 1), BU, op, FR, TO, GA, TL, DU, W, WT, upd NY c (nI (m + 1)), KY, KO, KM, KT, NU, CI, LE, SP, BY, upd LA s (nI c), upd HA s 0, upd CA s 0, upd WA s wv, QC, QF, QL, QT, BX, BH, BB), cs_mk h1 h2 h3 h4 (cs_send1 (by omega) h5 hc ho hw eW hW1 hW2 (Or.inl ⟨rfl, rfl⟩) hlast) h6 h7 h8 h9' h10' h11, fun post hp => ?_, fun post hp => ?_⟩
      · exact cs_Xs1 hs hc (by omega) f5 et b1 f9 b4 (by omega) hl hNX (cs_Xs2l (by omega) (by omega) ht lX (cs_X133a hp))
      · exact cs_Ys1 hs hc f1 f5 b2 f10 b5 b6 hl hNY (cs_Y56a hs eh ect (cs_Y128l lY hp))
    · obtain ⟨CN', DU', HD', SP', QC', QX', QF', QL', QT', k1, k2, k3, k4⟩ := @cs_enter now bf bs CN FB FZ FC op FR TO GA TL DU W WF (upd NX c (nI (m + 1))) HD KX KF KS (upd LA s (nI c)) (upd TA s 0) (upd WA s wv) QC QX BX IF BU WT (upd NY c (nI (m + 1))) KY KO KM KT NU CI LE SP BY (upd HA s 0) (upd CA s 0) QF QL QT BH BB W c f p z 0 (if t = 3 then 1 else 0) h1 hc (by omega) (by split <;> omega) b3 ho b7 h7 h11
      refine ⟨(now, (nI bf), (nI bs), CN', FB, FZ, FC, op, FR, TO, GA, TL, DU', W, WF, upd NX c (nI (m + 1)), HD', KX, KF, KS, upd LA s (nI c), upd TA s 0, upd WA s wv, QC', QX', BX, IF), (now, (nI bs), (nI bf), CN', BU, op, FR, TO, GA, TL, DU', W, WT, upd NY c (nI (m + 1)), KY, KO, KM, KT, NU, CI, LE, SP', BY, upd LA s (nI c), upd HA s 0, upd CA s 0, upd WA s wv, QC', QF', QL', QT', BX, BH, BB), cs_mk h1 h2 h3 h4 (cs_send1 (by omega) h5 hc ho hw eW hW1 hW2 k1 hlast) h6 k2 h8 h9' h10' h11, fun post hp => ?_, fun post hp => ?_⟩
      · exact cs_Xs1 hs hc (by omega) f5 et b1 f9 b4 (by omega) hl hNX (cs_Xs2p (by omega) (by omega) ht lX k3 (cs_X133a hp))
      · exact cs_Ys1 hs hc f1 f5 b2 f10 b5 b6 hl hNY (cs_Y56a hs eh ect (cs_Y128p lY k4 hp))
  · have hl : ((1 : Nat) = 0 ∧ m + 1 < (z + 12) / 8) ∨ ((1 : Nat) = 1 ∧ (z + 12) / 8 ≤ m + 1) := Or.inr ⟨rfl, by omega⟩
    obtain ⟨wv, ⟨lX, lY⟩ | ⟨lX, lY⟩⟩ := @cs_line now bf bs CN FB FZ FC op FR TO GA TL DU W WF (upd NX c (nI (m + 1))) HD KX KF KS (upd LA s (nI c)) (upd TA s 0) WA QC QX BX IF BU (upd WT (2 * c) (WT (2 * c + 1))) (upd (upd NY c (nI (m + 1))) c 0) KY KO KM KT NU CI LE SP BY (upd HA s 0) (upd CA s 0) QF QL QT BH BB (upd W c (nI w)) s t hs ht
    · refine ⟨(now, (nI bf), (nI bs), upd CN 3 (CN 3 + 1), FB, FZ, FC, op, FR, TO, GA, TL, DU, upd W c (nI w), cs_mv WF 1 (2 * c) w, upd (upd NX c (nI (m + 1))) c 0, upd HD c 0, KX, KF, KS, upd LA s (nI c), upd TA s 0, upd WA s wv, QC, QX, BX, IF), (now, (nI bs), (nI bf), upd CN 3 (CN 3 + 1), BU, op, FR, TO, GA, TL, DU, upd W c (nI w), upd WT (2 * c) (WT (2 * c + 1)), upd (upd NY c (nI (m + 1))) c 0, KY, KO, KM, KT, NU, CI, LE, SP, BY, upd LA s (nI c), upd HA s 0, upd CA s 0, upd WA s wv, QC, QF, QL, QT, BX, BH, BB), cs_mk h1 h2 h3 h4 (cs_send2 (x := nI (m + 1)) (y := nI (m + 1)) (by omega) h5 hc ho hw hW1 hW2 (Or.inl ⟨rfl, rfl⟩)) h6 h7 h8 h9' h10' h11, fun post hp => ?_, fun post hp => ?_⟩
      · exact cs_Xs1 hs hc (by omega) f5 et b1 f9 b4 (by omega) hl hNX (cs_Xs2l (by omega) (by omega) ht lX (cs_X133b hc hw eW hp))
      · exact cs_Ys1 hs hc f1 f5 b2 f10 b5 b6 hl hNY (cs_Y56b hs hc eW eh ect (cs_Y128l lY hp))
    · obtain ⟨CN', DU', HD', SP', QC', QX', QF', QL', QT', k1, k2, k3, k4⟩ := @cs_enter now bf bs CN FB FZ FC op FR TO GA TL DU W WF (upd NX c (nI (m + 1))) HD KX KF KS (upd LA s (nI c)) (upd TA s 0) (upd WA s wv) QC QX BX IF BU (upd WT (2 * c) (WT (2 * c + 1))) (upd (upd NY c (nI (m + 1))) c 0) KY KO KM KT NU CI LE SP BY (upd HA s 0) (upd CA s 0) QF QL QT BH BB (upd W c (nI w)) c f p z 1 (if t = 3 then 1 else 0) h1 hc (by omega) (by split <;> omega) b3 ho b7 h7 h11
      refine ⟨(now, (nI bf), (nI bs), CN', FB, FZ, FC, op, FR, TO, GA, TL, DU', upd W c (nI w), cs_mv WF 1 (2 * c) w, upd (upd NX c (nI (m + 1))) c 0, upd HD' c 0, KX, KF, KS, upd LA s (nI c), upd TA s 0, upd WA s wv, QC', QX', BX, IF), (now, (nI bs), (nI bf), CN', BU, op, FR, TO, GA, TL, DU', upd W c (nI w), upd WT (2 * c) (WT (2 * c + 1)), upd (upd NY c (nI (m + 1))) c 0, KY, KO, KM, KT, NU, CI, LE, SP', BY, upd LA s (nI c), upd HA s 0, upd CA s 0, upd WA s wv, QC', QF', QL', QT', BX, BH, BB), cs_mk h1 h2 h3 h4 (cs_send2 (x := nI (m + 1)) (y := nI (m + 1)) (by omega) h5 hc ho hw hW1 hW2 k1) h6 k2 h8 h9' h10' h11, fun post hp => ?_, fun post hp => ?_⟩
      · exact cs_Xs1 hs hc (by omega) f5 et b1 f9 b4 (by omega) hl hNX (cs_Xs2p (by omega) (by omega) ht lX k3 (cs_X133b hc hw eW hp))
      · exact cs_Ys1 hs hc f1 f5 b2 f10 b5 b6 hl hNY (cs_Y56b hs hc eW eh ect (cs_Y128p lY k4 hp))
