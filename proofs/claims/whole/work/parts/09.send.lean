/-! which circuit sends -/
theorem cs_next {now : Int32} {bf bs : Nat} {CN FB FZ FC op FR TO GA TL DU W WF NX HD KX KF KS LA TA WA QC QX BX IF BU WT NY KY KO KM KT NU CI LE SP BY HA CA QF QL QT BH BB : Nat → Int32} {s : Nat} (hs : s < 4) (h5 : cs_W (cs_FP bf FC FZ FB NU CI LE BY) op W WF WT HD SP NX NY) (h10 : cs_L 4 LA 8) : ∀ d i, i + d = 9 →
    (∃ c, c < 8 ∧ W c ≠ 0 ∧ (∀ post : Int32 → Prop, post (nI c) → wX_nextSender_2 post (nI s) now (nI bf) (nI bs) CN FB FZ FC op FR TO GA TL DU W WF NX HD KX KF KS LA TA WA QC QX BX IF (d + 1) (nI i)) ∧ (∀ post : Int32 → Prop, post (nI c) → wY_nextCircuit_2 post (nI s) now (nI bs) (nI bf) CN BU op FR TO GA TL DU W WT NY KY KO KM KT NU CI LE SP BY LA HA CA WA QC QF QL QT BX BH BB (d + 1) (nI i))) ∨
    ((∀ post : Int32 → Prop, post (-2) → wX_nextSender_2 post (nI s) now (nI bf) (nI bs) CN FB FZ FC op FR TO GA TL DU W WF NX HD KX KF KS LA TA WA QC QX BX IF (d + 1) (nI i)) ∧ (∀ post : Int32 → Prop, post (-1) → wY_nextCircuit_2 post (nI s) now (nI bs) (nI bf) CN BU op FR TO GA TL DU W WT NY KY KO KM KT NU CI LE SP BY LA HA CA WA QC QF QL QT BX BH BB (d + 1) (nI i))) := by
  have is4 : vp_in (nI s) 4 := vp_in_nI hs (by decide)
  have es : (nI s).toNatClampNeg = s := nI_clamp (by omega)
  obtain ⟨l, hl, el⟩ := h10 s hs
  intro d
  induction d with
  | zero =>
    intro i hi
    have e : i = 9 := by omega
    subst e
    exact Or.inr ⟨fun post hp => br_t (nI_lt (a := 8) (b := 9) (by decide) (by decide)) hp, fun post hp => br_t (Int32.le_refl _) hp⟩
  | succ d ih =>
    intro i hi
    have hx : ¬ (8 : Int32) < nI i := nI_nlt (a := 8) (by omega) (by decide)
    have hy : ¬ (9 : Int32) ≤ nI i := nI_ge (b := 9) (by omega) (by decide)
    have r8 : nI (l + i) - nI (l + i) / 8 * 8 = nI ((l + i) % 8) := pk_rem (d := 8) (by omega) (by decide) (by decide)
    generalize hcd : (l + i) % 8 = c at r8
    have hc : c < 8 := by omega
    have ic : vp_in (nI c) 8 := vp_in_nI hc (by decide)
    have ec : (nI c).toNatClampNeg = c := nI_clamp (by omega)
    obtain ⟨w, hw, eW⟩ := cs_W_val h5 hc
    by_cases g : w ≠ 0 ∧ FR c = nI s
    · have hw0 : W c ≠ 0 := by rw [eW]; exact nI_ne0 (by omega) (by omega)
      have ho := (cs_W_get h5 hc hw0).1
      have hwl : ¬ W c ≤ 0 := by rw [eW]; exact nI_nle (by omega) (by omega)
      refine Or.inl ⟨c, hc, hw0, fun post hp => br_f hx ⟨is4, cs_z8, ?_⟩, fun post hp => br_f hy ⟨is4, cs_z8, ?_⟩⟩
      · rw [es, el, nI_add]
        refine nm_r r8 ⟨ic, ?_⟩
        rw [ec]
        exact br_f hwl ⟨ic, br_t g.2 hp⟩
      · rw [es, el, nI_add]
        refine nm_r r8 ⟨ic, ?_⟩
        rw [ec]
        exact br_f ho ⟨ic, br_t g.2 ⟨ic, br_f hwl hp⟩⟩
    · have stepX : ∀ post : Int32 → Prop, wX_nextSender_2 post (nI s) now (nI bf) (nI bs) CN FB FZ FC op FR TO GA TL DU W WF NX HD KX KF KS LA TA WA QC QX BX IF (d + 1) (nI (i + 1)) → wX_nextSender_2 post (nI s) now (nI bf) (nI bs) CN FB FZ FC op FR TO GA TL DU W WF NX HD KX KF KS LA TA WA QC QX BX IF (d + 1 + 1) (nI i) := by
        intro post hW
        refine br_f hx ⟨is4, cs_z8, ?_⟩
        rw [es, el, nI_add]
        refine nm_r r8 ⟨ic, ?_⟩
        rw [ec, eW]
        by_cases hw0 : w = 0
        · subst hw0
          exact br_t (Int32.le_refl _) (nm_r (nI_1 i) hW)
        · exact br_f (nI_nle (by omega) (by omega)) ⟨ic, br_f (fun z => g ⟨hw0, z⟩) (nm_r (nI_1 i) hW)⟩
      have stepY : ∀ post : Int32 → Prop, wY_nextCircuit_2 post (nI s) now (nI bs) (nI bf) CN BU op FR TO GA TL DU W WT NY KY KO KM KT NU CI LE SP BY LA HA CA WA QC QF QL QT BX BH BB (d + 1) (nI (i + 1)) → wY_nextCircuit_2 post (nI s) now (nI bs) (nI bf) CN BU op FR TO GA TL DU W WT NY KY KO KM KT NU CI LE SP BY LA HA CA WA QC QF QL QT BX BH BB (d + 1 + 1) (nI i) := by
        intro post hW
        refine br_f hy ⟨is4, cs_z8, ?_⟩
        rw [es, el, nI_add]
        refine nm_r r8 ⟨ic, ?_⟩
        rw [ec, eW]
        by_cases ho : op c = 0
        · exact br_t ho (nm_r (nI_1 i) hW)
        refine br_f ho ⟨ic, ?_⟩
        by_cases hf : FR c = nI s
        · have hw0 : w = 0 := Classical.byContradiction fun z => g ⟨z, hf⟩
          subst hw0
          exact br_t hf ⟨ic, br_t (Int32.le_refl _) (nm_r (nI_1 i) hW)⟩
        · exact br_f hf (nm_r (nI_1 i) hW)
      rcases ih (i + 1) (by omega) with ⟨c', g1, g2, g3, g4⟩ | ⟨g3, g4⟩
      · exact Or.inl ⟨c', g1, g2, fun post hp => stepX post (g3 post hp), fun post hp => stepY post (g4 post hp)⟩
      · exact Or.inr ⟨fun post hp => stepX post (g3 post hp), fun post hp => stepY post (g4 post hp)⟩
theorem cs_next0 {now : Int32} {bf bs : Nat} {CN FB FZ FC op FR TO GA TL DU W WF NX HD KX KF KS LA TA WA QC QX BX IF BU WT NY KY KO KM KT NU CI LE SP BY HA CA QF QL QT BH BB : Nat → Int32} {s : Nat} (hs : s < 4) (h5 : cs_W (cs_FP bf FC FZ FB NU CI LE BY) op W WF WT HD SP NX NY) (h10 : cs_L 4 LA 8) :
    (∃ c, c < 8 ∧ W c ≠ 0 ∧ (∀ post : Int32 → Prop, post (nI c) → wpX_nextSender post (now, (nI bf), (nI bs), CN, FB, FZ, FC, op, FR, TO, GA, TL, DU, W, WF, NX, HD, KX, KF, KS, LA, TA, WA, QC, QX, BX, IF) (nI s)) ∧ (∀ post : Int32 → Prop, post (nI c) → wpY_nextCircuit post (now, (nI bs), (nI bf), CN, BU, op, FR, TO, GA, TL, DU, W, WT, NY, KY, KO, KM, KT, NU, CI, LE, SP, BY, LA, HA, CA, WA, QC, QF, QL, QT, BX, BH, BB) (nI s))) ∨
    ((∀ post : Int32 → Prop, post (-2) → wpX_nextSender post (now, (nI bf), (nI bs), CN, FB, FZ, FC, op, FR, TO, GA, TL, DU, W, WF, NX, HD, KX, KF, KS, LA, TA, WA, QC, QX, BX, IF) (nI s)) ∧ (∀ post : Int32 → Prop, post (-1) → wpY_nextCircuit post (now, (nI bs), (nI bf), CN, BU, op, FR, TO, GA, TL, DU, W, WT, NY, KY, KO, KM, KT, NU, CI, LE, SP, BY, LA, HA, CA, WA, QC, QF, QL, QT, BX, BH, BB) (nI s))) := by
  rcases @cs_next now bf bs CN FB FZ FC op FR TO GA TL DU W WF NX HD KX KF KS LA TA WA QC QX BX IF BU WT NY KY KO KM KT NU CI LE SP BY HA CA QF QL QT BH BB s hs h5 h10 8 1 (by omega) with ⟨c, g1, g2, g3, g4⟩ | ⟨g3, g4⟩
  · exact Or.inl ⟨c, g1, g2, fun post hp => ⟨9, g3 post hp⟩, fun post hp => ⟨9, g4 post hp⟩⟩
  · exact Or.inr ⟨fun post hp => ⟨9, g3 post hp⟩, fun post hp => ⟨9, g4 post hp⟩⟩
/-! the line -/
theorem cs_line {now : Int32} {bf bs : Nat} {CN FB FZ FC op FR TO GA TL DU W WF NX HD KX KF KS LA TA WA QC QX BX IF BU WT NY KY KO KM KT NU CI LE SP BY HA CA QF QL QT BH BB : Nat → Int32} {W2 : Nat → Int32} {s t : Nat} (hs : s < 4) (ht : t ≤ 3) : ∃ wv : Int32,
    ((∀ post : Int32 → SX → Prop, post 0 (now, (nI bf), (nI bs), CN, FB, FZ, FC, op, FR, TO, GA, TL, DU, W, WF, NX, HD, KX, KF, KS, LA, TA, upd WA s wv, QC, QX, BX, IF) → wpX_crossesLine post (now, (nI bf), (nI bs), CN, FB, FZ, FC, op, FR, TO, GA, TL, DU, W, WF, NX, HD, KX, KF, KS, LA, TA, WA, QC, QX, BX, IF) (nI s) (nI t)) ∧ (∀ post : Int32 → SY → Prop, post 1 (now, (nI bs), (nI bf), CN, BU, op, FR, TO, GA, TL, DU, W2, WT, NY, KY, KO, KM, KT, NU, CI, LE, SP, BY, LA, HA, CA, upd WA s wv, QC, QF, QL, QT, BX, BH, BB) → wpY_isLost post (now, (nI bs), (nI bf), CN, BU, op, FR, TO, GA, TL, DU, W2, WT, NY, KY, KO, KM, KT, NU, CI, LE, SP, BY, LA, HA, CA, WA, QC, QF, QL, QT, BX, BH, BB) (nI s) (nI (if t = 3 then 0 else t)))) ∨
    ((∀ post : Int32 → SX → Prop, post 1 (now, (nI bf), (nI bs), CN, FB, FZ, FC, op, FR, TO, GA, TL, DU, W, WF, NX, HD, KX, KF, KS, LA, TA, upd WA s wv, QC, QX, BX, IF) → wpX_crossesLine post (now, (nI bf), (nI bs), CN, FB, FZ, FC, op, FR, TO, GA, TL, DU, W, WF, NX, HD, KX, KF, KS, LA, TA, WA, QC, QX, BX, IF) (nI s) (nI t)) ∧ (∀ post : Int32 → SY → Prop, post 0 (now, (nI bs), (nI bf), CN, BU, op, FR, TO, GA, TL, DU, W2, WT, NY, KY, KO, KM, KT, NU, CI, LE, SP, BY, LA, HA, CA, upd WA s wv, QC, QF, QL, QT, BX, BH, BB) → wpY_isLost post (now, (nI bs), (nI bf), CN, BU, op, FR, TO, GA, TL, DU, W2, WT, NY, KY, KO, KM, KT, NU, CI, LE, SP, BY, LA, HA, CA, WA, QC, QF, QL, QT, BX, BH, BB) (nI s) (nI (if t = 3 then 0 else t)))) := by
  have is4 : vp_in (nI s) 4 := vp_in_nI hs (by decide)
  have es : (nI s).toNatClampNeg = s := nI_clamp (by omega)
  have n01 : ¬ nI 0 = 1 := by decide
  have n02 : ¬ nI 0 = 2 := by decide
  have n12 : ¬ nI 1 = 2 := by decide
  have n21 : ¬ nI 2 = 1 := by decide
  have n31 : ¬ nI 3 = 1 := by decide
  have n32 : ¬ nI 3 = 2 := by decide
  have p0 : nI 0 ≤ 0 := by decide
  have p1 : ¬ nI 1 ≤ 0 := by decide
  have p2 : ¬ nI 2 ≤ 0 := by decide
  unfold wpX_crossesLine wpY_isLost wX_crossesLine_22 wX_crossesLine_27 wY_isLost_21
  dsimp only
  rw [es, cs_b0, cs_b1]
  rcases (show t = 0 ∨ t = 1 ∨ t = 2 ∨ t = 3 by omega) with e | e | e | e
  · subst e
    exact ⟨0, Or.inr ⟨fun post hp => ⟨is4, nm_e (br_f n01 (br_f n02 ⟨is4, nm_e (br_f n02 (br_f n01 hp))⟩))⟩, fun post hp => ⟨is4, nm_e (br_t p0 ⟨is4, nm_e (br_f n02 (br_f n01 hp))⟩)⟩⟩⟩
  · subst e
    by_cases hw : WA s = 0
    · exact ⟨1, Or.inr ⟨fun post hp => ⟨is4, nm_e (br_t rfl ⟨is4, nm_e (br_f n12 (br_t rfl (br_t hw hp)))⟩)⟩, fun post hp => ⟨is4, nm_e (br_f p1 ⟨is4, nm_e (br_f n12 (br_t rfl (br_t hw hp)))⟩)⟩⟩⟩
    · exact ⟨1, Or.inl ⟨fun post hp => ⟨is4, nm_e (br_t rfl ⟨is4, nm_e (br_f n12 (br_t rfl (br_f hw hp)))⟩)⟩, fun post hp => ⟨is4, nm_e (br_f p1 ⟨is4, nm_e (br_f n12 (br_t rfl (br_f hw hp)))⟩)⟩⟩⟩
  · subst e
    exact ⟨1, Or.inl ⟨fun post hp => ⟨is4, nm_e (br_f n21 (br_t rfl ⟨is4, nm_e (br_t rfl hp)⟩))⟩, fun post hp => ⟨is4, nm_e (br_f p2 ⟨is4, nm_e (br_t rfl hp)⟩)⟩⟩⟩
  · subst e
    exact ⟨0, Or.inr ⟨fun post hp => ⟨is4, nm_e (br_f n31 (br_f n32 ⟨is4, nm_e (br_f n32 (br_f n31 hp))⟩))⟩, fun post hp => ⟨is4, nm_e (br_t p0 ⟨is4, nm_e (br_f n02 (br_f n01 hp))⟩)⟩⟩⟩
/-! a cell at the switch -/
theorem cs_enter97 {now : Int32} {bf bs : Nat} {CN FB FZ FC op FR TO GA TL DU W WF NX HD KX KF KS LA TA WA QC QX BX IF BU WT NY KY KO KM KT NU CI LE SP BY HA CA QF QL QT BH BB : Nat → Int32} {W2 : Nat → Int32} {c f p z l t to : Nat} (h1 : bf ≤ 255) (hc : c < 8) (hl : l ≤ 1) (ht : t ≤ 1) (hf : cs_FP bf FC FZ FB NU CI LE BY f p c z) (ho : op c ≠ 0)
    (h7 : cs_Q (cs_FP bf FC FZ FB NU CI LE BY) op TO QC QX QF QL QT) (hto : to < 4) (eto : TO c = nI to) :
    ∃ CN' HD' SP' QC' QX' QF' QL' QT' : Nat → Int32, cs_D HD HD' SP SP' c p ∧ cs_Q (cs_FP bf FC FZ FB NU CI LE BY) op TO QC' QX' QF' QL' QT' ∧
    (∀ post : SX → Prop, post (now, (nI bf), (nI bs), CN', FB, FZ, FC, op, FR, TO, GA, TL, DU, W, WF, NX, HD', KX, KF, KS, LA, TA, WA, QC', QX', BX, IF) → wX_enterSwitch_97 post (nI c) (nI (4 * f + 2 * l + t)) (nI to) now (nI bf) (nI bs) CN FB FZ FC op FR TO GA TL DU W WF NX HD KX KF KS LA TA WA QC QX BX IF) ∧
    (∀ post : SY → Prop, post (now, (nI bs), (nI bf), CN', BU, op, FR, TO, GA, TL, DU, W2, WT, NY, KY, KO, KM, KT, NU, CI, LE, SP', BY, LA, HA, CA, WA, QC', QF', QL', QT', BX, BH, BB) → wY_comeToSwitch_96 post (nI p) (nI l) (nI t) (nI to) now (nI bs) (nI bf) CN BU op FR TO GA TL DU W2 WT NY KY KO KM KT NU CI LE SP BY LA HA CA WA QC QF QL QT BX BH BB) := by
  have ic : vp_in (nI c) 8 := vp_in_nI hc (by decide)
  have ec : (nI c).toNatClampNeg = c := nI_clamp (by omega)
  have it : vp_in (nI to) 4 := vp_in_nI hto (by decide)
  have et : (nI to).toNatClampNeg = to := nI_clamp (by omega)
  have hp64 := hf.1
  have ip : vp_in (nI p) 64 := vp_in_nI hp64 (by decide)
  have ep : (nI p).toNatClampNeg = p := nI_clamp (by omega)
  have i7 : vp_in (2 : Int32) 7 := vp_in_nI (n := 2) (by decide) (by decide)
  obtain ⟨n, hn, en, hs⟩ := h7 to hto
  by_cases h6 : n = 6
  · subst h6
    refine ⟨upd CN 2 (CN 2 + 1), upd HD c 1, upd SP p 1, QC, QX, QF, QL, QT, Or.inr ⟨rfl, rfl⟩, h7, fun post hp => ?_, fun post hp => ?_⟩
    · unfold wX_enterSwitch_97 wpX_drop
      dsimp only
      rw [et, en, ec, cs_b1]
      exact ⟨it, br_t rfl ⟨ic, nm_e ⟨i7, i7, nm_e hp⟩⟩⟩
    · unfold wY_comeToSwitch_96 wpY_dropCell
      dsimp only
      rw [et, en, ep, cs_b1]
      exact ⟨it, br_t rfl ⟨ip, nm_e ⟨i7, i7, nm_e hp⟩⟩⟩
  · have h6' : ¬ nI n = 6 := fun z => h6 (cs_nI_inj (b := 6) (by omega) (by decide) z)
    have i24 : vp_in (nI (6 * to + n)) 24 := vp_in_nI (by omega) (by decide)
    refine ⟨CN, HD, SP, upd QC to (nI (n + 1)), upd QX (6 * to + n) (nI (4 * f + 2 * l + t)), upd QF (6 * to + n) (nI p), upd QL (6 * to + n) (nI l), upd QT (6 * to + n) (nI t), Or.inl ⟨rfl, rfl⟩, cs_Q_in h7 hto (by omega) en hl ht hf ho eto, fun post hp => ?_, fun post hp => ?_⟩
    · unfold wX_enterSwitch_97
      rw [et, en, cs_m6, nI_add, nI_clamp (show 6 * to + n < 2 ^ 31 by omega), nI_1 n]
      exact ⟨it, br_f h6' ⟨it, i24, nm_e ⟨it, it, nm_e hp⟩⟩⟩
    · unfold wY_comeToSwitch_96
      rw [et, en, cs_6m, nI_add, nI_1 n, cs_bn hl, cs_bn ht]
      refine ⟨it, br_f h6' ⟨it, nm_e ⟨i24, ?_⟩⟩⟩
      rw [nI_clamp (show 6 * to + n < 2 ^ 31 by omega)]
      exact nm_e ⟨i24, nm_e ⟨i24, nm_e ⟨it, it, nm_e hp⟩⟩⟩
theorem cs_enter58 {now : Int32} {bf bs : Nat} {CN FB FZ FC op FR TO GA TL DU W WF NX HD KX KF KS LA TA WA QC QX BX IF BU WT NY KY KO KM KT NU CI LE SP BY HA CA QF QL QT BH BB : Nat → Int32} {W2 : Nat → Int32} {z0 : Int32} {c f p z l t : Nat} (h1 : bf ≤ 255) (hc : c < 8) (hl : l ≤ 1) (ht : t ≤ 1) (hf : cs_FP bf FC FZ FB NU CI LE BY f p c z) (ho : op c ≠ 0)
    (hD : HD c = 0 ↔ SP p = 0) (h7 : cs_Q (cs_FP bf FC FZ FB NU CI LE BY) op TO QC QX QF QL QT) (h11 : cs_L 8 TO 4) :
    ∃ CN' DU' HD' SP' QC' QX' QF' QL' QT' : Nat → Int32, cs_D HD HD' SP SP' c p ∧ cs_Q (cs_FP bf FC FZ FB NU CI LE BY) op TO QC' QX' QF' QL' QT' ∧
    (∀ post : SX → Prop, post (now, (nI bf), (nI bs), CN', FB, FZ, FC, op, FR, TO, GA, TL, DU', W, WF, NX, HD', KX, KF, KS, LA, TA, WA, QC', QX', BX, IF) → wX_enterSwitch_58 post (nI c) (nI (4 * f + 2 * l + t)) z0 (nI c) now (nI bf) (nI bs) CN FB FZ FC op FR TO GA TL DU W WF NX HD KX KF KS LA TA WA QC QX BX IF) ∧
    (∀ post : SY → Prop, post (now, (nI bs), (nI bf), CN', BU, op, FR, TO, GA, TL, DU', W2, WT, NY, KY, KO, KM, KT, NU, CI, LE, SP', BY, LA, HA, CA, WA, QC', QF', QL', QT', BX, BH, BB) → wY_comeToSwitch_58 post (nI c) (nI p) (nI l) (nI t) z0 (nI c) now (nI bs) (nI bf) CN BU op FR TO GA TL DU W2 WT NY KY KO KM KT NU CI LE SP BY LA HA CA WA QC QF QL QT BX BH BB) := by
  obtain ⟨to, hto, eto⟩ := h11 c hc
  have ic : vp_in (nI c) 8 := vp_in_nI hc (by decide)
  have ec : (nI c).toNatClampNeg = c := nI_clamp (by omega)
  have hp64 := hf.1
  have hf256 := hf.2.1
  have ip : vp_in (nI p) 64 := vp_in_nI hp64 (by decide)
  have ep : (nI p).toNatClampNeg = p := nI_clamp (by omega)
  have i7 : vp_in (1 : Int32) 7 := vp_in_nI (n := 1) (by decide) (by decide)
  have e2 := cs_and2 f (by omega) l (by omega) t (by omega)
  by_cases g : ¬ HD c = 0 ∧ l = 0
  · obtain ⟨g1, g2⟩ := g
    have g1' : ¬ SP p = 0 := fun z => g1 (hD.mpr z)
    subst g2
    refine ⟨upd CN 1 (CN 1 + 1), upd DU c (z0 + GA c), upd HD c 1, upd SP p 1, QC, QX, QF, QL, QT, Or.inr ⟨rfl, rfl⟩, h7, fun post hp => ?_, fun post hp => ?_⟩
    · unfold wX_enterSwitch_58 wpX_drop
      dsimp only
      rw [ec, e2, cs_b1]
      exact ⟨ic, ic, nm_e ⟨ic, nm_e ⟨ic, br_f g1 (br_t rfl ⟨ic, nm_e ⟨i7, i7, nm_e hp⟩⟩)⟩⟩⟩
    · unfold wY_comeToSwitch_58 wpY_dropCell
      dsimp only
      rw [ec, ep, cs_b1]
      exact ⟨ic, ic, nm_e ⟨ic, nm_e ⟨ip, br_f g1' (br_t rfl ⟨ip, nm_e ⟨i7, i7, nm_e hp⟩⟩)⟩⟩⟩
  · obtain ⟨CN', HD', SP', QC', QX', QF', QL', QT', k1, k2, k3, k4⟩ := @cs_enter97 now bf bs CN FB FZ FC op FR TO GA TL (upd DU c (z0 + GA c)) W WF NX HD KX KF KS LA TA WA QC QX BX IF BU WT NY KY KO KM KT NU CI LE SP BY HA CA QF QL QT BH BB W2 c f p z l t to h1 hc hl ht hf ho h7 hto eto
    refine ⟨CN', upd DU c (z0 + GA c), HD', SP', QC', QX', QF', QL', QT', k1, k2, fun post hp => ?_, fun post hp => ?_⟩
    · unfold wX_enterSwitch_58
      rw [ec, e2]
      refine ⟨ic, ic, nm_e ⟨ic, nm_r eto ⟨ic, ?_⟩⟩⟩
      by_cases q : HD c = 0
      · exact br_t q (k3 post hp)
      · have l1 : l = 1 := by
          have : ¬ l = 0 := fun z => g ⟨q, z⟩
          omega
        subst l1
        exact br_f q (br_f (by decide) (k3 post hp))
    · unfold wY_comeToSwitch_58
      rw [ec, ep]
      refine ⟨ic, ic, nm_e ⟨ic, nm_r eto ⟨ip, ?_⟩⟩⟩
      by_cases q : SP p = 0
      · exact br_t q (k4 post hp)
      · have l1 : l = 1 := by
          have : ¬ l = 0 := fun z => g ⟨fun y => q (hD.mp y), z⟩
          omega
        subst l1
        exact br_f q (br_f (by decide) (k4 post hp))
theorem cs_enter {now : Int32} {bf bs : Nat} {CN FB FZ FC op FR TO GA TL DU W WF NX HD KX KF KS LA TA WA QC QX BX IF BU WT NY KY KO KM KT NU CI LE SP BY HA CA QF QL QT BH BB : Nat → Int32} {W2 : Nat → Int32} {c f p z l t : Nat} (h1 : bf ≤ 255) (hc : c < 8) (hl : l ≤ 1) (ht : t ≤ 1) (hf : cs_FP bf FC FZ FB NU CI LE BY f p c z) (ho : op c ≠ 0)
    (hD : HD c = 0 ↔ SP p = 0) (h7 : cs_Q (cs_FP bf FC FZ FB NU CI LE BY) op TO QC QX QF QL QT) (h11 : cs_L 8 TO 4) :
    ∃ CN' DU' HD' SP' QC' QX' QF' QL' QT' : Nat → Int32, cs_D HD HD' SP SP' c p ∧ cs_Q (cs_FP bf FC FZ FB NU CI LE BY) op TO QC' QX' QF' QL' QT' ∧
    (∀ post : SX → Prop, post (now, (nI bf), (nI bs), CN', FB, FZ, FC, op, FR, TO, GA, TL, DU', W, WF, NX, HD', KX, KF, KS, LA, TA, WA, QC', QX', BX, IF) → wpX_enterSwitch post (now, (nI bf), (nI bs), CN, FB, FZ, FC, op, FR, TO, GA, TL, DU, W, WF, NX, HD, KX, KF, KS, LA, TA, WA, QC, QX, BX, IF) (nI c) (nI (4 * f + 2 * l + t))) ∧
    (∀ post : SY → Prop, post (now, (nI bs), (nI bf), CN', BU, op, FR, TO, GA, TL, DU', W2, WT, NY, KY, KO, KM, KT, NU, CI, LE, SP', BY, LA, HA, CA, WA, QC', QF', QL', QT', BX, BH, BB) → wpY_comeToSwitch post (now, (nI bs), (nI bf), CN, BU, op, FR, TO, GA, TL, DU, W2, WT, NY, KY, KO, KM, KT, NU, CI, LE, SP, BY, LA, HA, CA, WA, QC, QF, QL, QT, BX, BH, BB) (nI c) (nI p) (nI l) (nI t)) := by
  have ic : vp_in (nI c) 8 := vp_in_nI hc (by decide)
  have ec : (nI c).toNatClampNeg = c := nI_clamp (by omega)
  have hp64 := hf.1
  have ip : vp_in (nI p) 64 := vp_in_nI hp64 (by decide)
  have ep : (nI p).toNatClampNeg = p := nI_clamp (by omega)
  have i7 : vp_in (0 : Int32) 7 := vp_in_nI (n := 0) (by decide) (by decide)
  by_cases g : DU c - TL c ≤ now
  · by_cases q : now ≤ DU c
    · obtain ⟨CN', DU', HD', SP', QC', QX', QF', QL', QT', k1, k2, k3, k4⟩ := @cs_enter58 now bf bs CN FB FZ FC op FR TO GA TL DU W WF NX HD KX KF KS LA TA WA QC QX BX IF BU WT NY KY KO KM KT NU CI LE SP BY HA CA QF QL QT BH BB W2 (DU c) c f p z l t h1 hc hl ht hf ho hD h7 h11
      refine ⟨CN', DU', HD', SP', QC', QX', QF', QL', QT', k1, k2, fun post hp => ?_, fun post hp => ?_⟩
      · unfold wpX_enterSwitch
        dsimp only
        rw [ec]
        exact ⟨ic, ic, br_t g ⟨ic, br_t q ⟨ic, k3 post hp⟩⟩⟩
      · unfold wpY_comeToSwitch
        dsimp only
        rw [ec]
        exact ⟨ic, ic, br_t g ⟨ic, br_t q ⟨ic, k4 post hp⟩⟩⟩
    · obtain ⟨CN', DU', HD', SP', QC', QX', QF', QL', QT', k1, k2, k3, k4⟩ := @cs_enter58 now bf bs CN FB FZ FC op FR TO GA TL DU W WF NX HD KX KF KS LA TA WA QC QX BX IF BU WT NY KY KO KM KT NU CI LE SP BY HA CA QF QL QT BH BB W2 now c f p z l t h1 hc hl ht hf ho hD h7 h11
      refine ⟨CN', DU', HD', SP', QC', QX', QF', QL', QT', k1, k2, fun post hp => ?_, fun post hp => ?_⟩
      · unfold wpX_enterSwitch
        dsimp only
        rw [ec]
        exact ⟨ic, ic, br_t g ⟨ic, br_f q (k3 post hp)⟩⟩
      · unfold wpY_comeToSwitch
        dsimp only
        rw [ec]
        exact ⟨ic, ic, br_t g ⟨ic, br_f q (k4 post hp)⟩⟩
  · refine ⟨upd CN 0 (CN 0 + 1), DU, upd HD c 1, upd SP p 1, QC, QX, QF, QL, QT, Or.inr ⟨rfl, rfl⟩, h7, fun post hp => ?_, fun post hp => ?_⟩
    · unfold wpX_enterSwitch wpX_drop
      dsimp only
      rw [ec, cs_b1]
      exact ⟨ic, ic, br_f g ⟨ic, nm_e ⟨i7, i7, nm_e hp⟩⟩⟩
    · unfold wpY_comeToSwitch wpY_dropCell
      dsimp only
      rw [ec, ep, cs_b1]
      exact ⟨ic, ic, br_f g ⟨ip, nm_e ⟨i7, i7, nm_e hp⟩⟩⟩
