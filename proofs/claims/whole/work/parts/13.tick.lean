/-! ticks -/
def cs_XT12 (post : SX → Prop) (n : Nat) (x : Int32) (u : SX) : Prop := match u with
  | (now, bf, bs, CN, FB, FZ, FC, op, FR, TO, GA, TL, DU, W, WF, NX, HD, KX, KF, KS, LA, TA, WA, QC, QX, BX, IF) => wX_tick_12 post n x now bf bs CN FB FZ FC op FR TO GA TL DU W WF NX HD KX KF KS LA TA WA QC QX BX IF
def cs_XT30 (post : SX → Prop) (n : Nat) (x : Int32) (u : SX) : Prop := match u with
  | (now, bf, bs, CN, FB, FZ, FC, op, FR, TO, GA, TL, DU, W, WF, NX, HD, KX, KF, KS, LA, TA, WA, QC, QX, BX, IF) => wX_tick_30 post n x now bf bs CN FB FZ FC op FR TO GA TL DU W WF NX HD KX KF KS LA TA WA QC QX BX IF
def cs_XP22 (post : Int32 → SX → Prop) (x1 x2 : Int32) (n : Nat) (x : Int32) (u : SX) : Prop := match u with
  | (now, bf, bs, CN, FB, FZ, FC, op, FR, TO, GA, TL, DU, W, WF, NX, HD, KX, KF, KS, LA, TA, WA, QC, QX, BX, IF) => wX_pass_22 post x1 x2 n x now bf bs CN FB FZ FC op FR TO GA TL DU W WF NX HD KX KF KS LA TA WA QC QX BX IF
def cs_YP40 (post : Int32 → SY → Prop) (J : Int32 → Int32 → Int32 → Int32 → (Nat → Int32) → (Nat → Int32) → (Nat → Int32) → (Nat → Int32) → (Nat → Int32) → (Nat → Int32) → (Nat → Int32) → (Nat → Int32) → (Nat → Int32) → (Nat → Int32) → (Nat → Int32) → (Nat → Int32) → (Nat → Int32) → (Nat → Int32) → (Nat → Int32) → (Nat → Int32) → (Nat → Int32) → (Nat → Int32) → (Nat → Int32) → (Nat → Int32) → (Nat → Int32) → (Nat → Int32) → (Nat → Int32) → (Nat → Int32) → (Nat → Int32) → (Nat → Int32) → (Nat → Int32) → (Nat → Int32) → (Nat → Int32) → (Nat → Int32) → (Nat → Int32) → Prop) (x1 x2 x3 : Int32) (n : Nat) (x : Int32) (v : SY) : Prop := match v with
  | (now, bs, bf, CN, BU, op, FR, TO, GA, TL, DU, W, WT, NY, KY, KO, KM, KT, NU, CI, LE, SP, BY, LA, HA, CA, WA, QC, QF, QL, QT, BX, BH, BB) => wY_pass_40 post J x1 x2 x3 n x now bs bf CN BU op FR TO GA TL DU W WT NY KY KO KM KT NU CI LE SP BY LA HA CA WA QC QF QL QT BX BH BB
def cs_YP61 (post : Int32 → SY → Prop) (J : Int32 → Int32 → Int32 → Int32 → (Nat → Int32) → (Nat → Int32) → (Nat → Int32) → (Nat → Int32) → (Nat → Int32) → (Nat → Int32) → (Nat → Int32) → (Nat → Int32) → (Nat → Int32) → (Nat → Int32) → (Nat → Int32) → (Nat → Int32) → (Nat → Int32) → (Nat → Int32) → (Nat → Int32) → (Nat → Int32) → (Nat → Int32) → (Nat → Int32) → (Nat → Int32) → (Nat → Int32) → (Nat → Int32) → (Nat → Int32) → (Nat → Int32) → (Nat → Int32) → (Nat → Int32) → (Nat → Int32) → (Nat → Int32) → (Nat → Int32) → (Nat → Int32) → (Nat → Int32) → (Nat → Int32) → Prop) (x1 x2 x3 : Int32) (n : Nat) (x : Int32) (v : SY) : Prop := match v with
  | (now, bs, bf, CN, BU, op, FR, TO, GA, TL, DU, W, WT, NY, KY, KO, KM, KT, NU, CI, LE, SP, BY, LA, HA, CA, WA, QC, QF, QL, QT, BX, BH, BB) => wY_pass_61 post J x1 x2 x3 n x now bs bf CN BU op FR TO GA TL DU W WT NY KY KO KM KT NU CI LE SP BY LA HA CA WA QC QF QL QT BX BH BB
def cs_YJ (J : Int32 → Int32 → Int32 → Int32 → (Nat → Int32) → (Nat → Int32) → (Nat → Int32) → (Nat → Int32) → (Nat → Int32) → (Nat → Int32) → (Nat → Int32) → (Nat → Int32) → (Nat → Int32) → (Nat → Int32) → (Nat → Int32) → (Nat → Int32) → (Nat → Int32) → (Nat → Int32) → (Nat → Int32) → (Nat → Int32) → (Nat → Int32) → (Nat → Int32) → (Nat → Int32) → (Nat → Int32) → (Nat → Int32) → (Nat → Int32) → (Nat → Int32) → (Nat → Int32) → (Nat → Int32) → (Nat → Int32) → (Nat → Int32) → (Nat → Int32) → (Nat → Int32) → (Nat → Int32) → (Nat → Int32) → Prop) (x : Int32) (v : SY) : Prop := match v with
  | (now, bs, bf, CN, BU, op, FR, TO, GA, TL, DU, W, WT, NY, KY, KO, KM, KT, NU, CI, LE, SP, BY, LA, HA, CA, WA, QC, QF, QL, QT, BX, BH, BB) => J x now bs bf CN BU op FR TO GA TL DU W WT NY KY KO KM KT NU CI LE SP BY LA HA CA WA QC QF QL QT BX BH BB
def cs_YP22 (post : Int32 → SY → Prop) (x1 x2 : Int32) (n : Nat) (x : Int32) (v : SY) : Prop := match v with
  | (now, bs, bf, CN, BU, op, FR, TO, GA, TL, DU, W, WT, NY, KY, KO, KM, KT, NU, CI, LE, SP, BY, LA, HA, CA, WA, QC, QF, QL, QT, BX, BH, BB) => wY_pass_22 post x1 x2 n x now bs bf CN BU op FR TO GA TL DU W WT NY KY KO KM KT NU CI LE SP BY LA HA CA WA QC QF QL QT BX BH BB
theorem cs_T12 {k : Nat} : ∀ d s, s + d = 4 → ∀ (u : SX) (v : SY), i_Rel k u v → ∃ u' v', i_Rel k u' v' ∧ (∀ post : SX → Prop, (∃ n, cs_XT30 post n 0 u') → cs_XT12 post (d + 1) (nI s) u) ∧
    (∀ (post : Int32 → SY → Prop) (J : Int32 → Int32 → Int32 → Int32 → (Nat → Int32) → (Nat → Int32) → (Nat → Int32) → (Nat → Int32) → (Nat → Int32) → (Nat → Int32) → (Nat → Int32) → (Nat → Int32) → (Nat → Int32) → (Nat → Int32) → (Nat → Int32) → (Nat → Int32) → (Nat → Int32) → (Nat → Int32) → (Nat → Int32) → (Nat → Int32) → (Nat → Int32) → (Nat → Int32) → (Nat → Int32) → (Nat → Int32) → (Nat → Int32) → (Nat → Int32) → (Nat → Int32) → (Nat → Int32) → (Nat → Int32) → (Nat → Int32) → (Nat → Int32) → (Nat → Int32) → (Nat → Int32) → (Nat → Int32) → (Nat → Int32) → Prop) (x1 x2 x3 : Int32), (∃ n, cs_YP61 post J x1 x2 x3 n 0 v') → cs_YP40 post J x1 x2 x3 (d + 1) (nI s) v) := by
  intro d
  induction d with
  | zero =>
    intro s hs u v I
    have e : s = 4 := by omega
    subst e
    refine ⟨u, v, I, fun post h => ?_, fun post J x1 x2 x3 h => ?_⟩
    · obtain ⟨_, _, _, _, _, _, _, _, _, _, _, _, _, _, _, _, _, _, _, _, _, _, _, _, _, _, _, _, _, _, _, _, _, _, _, _, _, _, _, _, _, _, _, _, _, _, rfl, rfl, _⟩ := I
      exact br_t (Int32.le_refl _) h
    · obtain ⟨_, _, _, _, _, _, _, _, _, _, _, _, _, _, _, _, _, _, _, _, _, _, _, _, _, _, _, _, _, _, _, _, _, _, _, _, _, _, _, _, _, _, _, _, _, _, rfl, rfl, _⟩ := I
      exact br_t (Int32.le_refl _) h
  | succ d ih =>
    intro s hs u v I
    obtain ⟨u1, v1, R1, sX, sY⟩ := cs_sendFrom I (show s < 4 by omega)
    obtain ⟨u', v', R', tX, tY⟩ := ih (s + 1) (by omega) u1 v1 R1
    have h4 : ¬ (4 : Int32) ≤ nI s := nI_ge (b := 4) (by omega) (by decide)
    refine ⟨u', v', R', fun post h => ?_, fun post J x1 x2 x3 h => ?_⟩
    · have t := tX post h
      obtain ⟨_, _, _, _, _, _, _, _, _, _, _, _, _, _, _, _, _, _, _, _, _, _, _, _, _, _, _, _, _, _, _, _, _, _, _, _, _, _, _, _, _, _, _, _, _, _, rfl, rfl, _⟩ := I
      obtain ⟨_, _, _, _, _, _, _, _, _, _, _, _, _, _, _, _, _, _, _, _, _, _, _, _, _, _, _, _, _, _, _, _, _, _, _, _, _, _, _, _, _, _, _, _, _, _, rfl, rfl, _⟩ := R1
      exact br_f h4 (sX _ (nm_r (nI_1 s) t))
    · have t := tY post J x1 x2 x3 h
      obtain ⟨_, _, _, _, _, _, _, _, _, _, _, _, _, _, _, _, _, _, _, _, _, _, _, _, _, _, _, _, _, _, _, _, _, _, _, _, _, _, _, _, _, _, _, _, _, _, rfl, rfl, _⟩ := I
      obtain ⟨_, _, _, _, _, _, _, _, _, _, _, _, _, _, _, _, _, _, _, _, _, _, _, _, _, _, _, _, _, _, _, _, _, _, _, _, _, _, _, _, _, _, _, _, _, _, rfl, rfl, _⟩ := R1
      exact br_f h4 (sY _ (nm_r (nI_1 s) t))
theorem cs_T30 {k : Nat} : ∀ d s, s + d = 4 → ∀ (u : SX) (v : SY), i_Rel k u v → ∃ u' v', i_Rel k u' v' ∧ (∀ post : SX → Prop, post u' → cs_XT30 post (d + 1) (nI s) u) ∧
    (∀ (post : Int32 → SY → Prop) (J : Int32 → Int32 → Int32 → Int32 → (Nat → Int32) → (Nat → Int32) → (Nat → Int32) → (Nat → Int32) → (Nat → Int32) → (Nat → Int32) → (Nat → Int32) → (Nat → Int32) → (Nat → Int32) → (Nat → Int32) → (Nat → Int32) → (Nat → Int32) → (Nat → Int32) → (Nat → Int32) → (Nat → Int32) → (Nat → Int32) → (Nat → Int32) → (Nat → Int32) → (Nat → Int32) → (Nat → Int32) → (Nat → Int32) → (Nat → Int32) → (Nat → Int32) → (Nat → Int32) → (Nat → Int32) → (Nat → Int32) → (Nat → Int32) → (Nat → Int32) → (Nat → Int32) → (Nat → Int32) → (Nat → Int32) → Prop) (x1 x2 x3 : Int32), cs_YJ J (x3 + 1) v' → cs_YP61 post J x1 x2 x3 (d + 1) (nI s) v) := by
  intro d
  induction d with
  | zero =>
    intro s hs u v I
    have e : s = 4 := by omega
    subst e
    refine ⟨u, v, I, fun post h => ?_, fun post J x1 x2 x3 h => ?_⟩
    · obtain ⟨_, _, _, _, _, _, _, _, _, _, _, _, _, _, _, _, _, _, _, _, _, _, _, _, _, _, _, _, _, _, _, _, _, _, _, _, _, _, _, _, _, _, _, _, _, _, rfl, rfl, _⟩ := I
      exact br_t (Int32.le_refl _) h
    · obtain ⟨_, _, _, _, _, _, _, _, _, _, _, _, _, _, _, _, _, _, _, _, _, _, _, _, _, _, _, _, _, _, _, _, _, _, _, _, _, _, _, _, _, _, _, _, _, _, rfl, rfl, _⟩ := I
      exact br_t (Int32.le_refl _) (nm_e h)
  | succ d ih =>
    intro s hs u v I
    have I0 := I
    obtain ⟨now, bf, bs, CN, FB, FZ, FC, op, FR, TO, GA, TL, DU, W, WF, NX, HD, KX, KF, KS, LA, TA, WA, QC, QX, BX, IF, BU, WT, NY, KY, KO, KM, KT, NU, CI, LE, SP, BY, HA, CA, QF, QL, QT, BH, BB, rfl, rfl, h1, h2, h3, h4, h5, h6, h7, h8, h9, h10, h11⟩ := I
    have hs4 : s < 4 := by omega
    have is4 : vp_in (nI s) 4 := vp_in_nI hs4 (by decide)
    have es : (nI s).toNatClampNeg = s := nI_clamp (by omega)
    have hlt : ¬ (4 : Int32) ≤ nI s := nI_ge (b := 4) (by omega) (by decide)
    rcases @cs_deliver now bf bs CN FB FZ FC op FR TO GA TL DU W WF NX HD KX KF KS LA TA WA QC QX BX IF BU WT NY KY KO KM KT NU CI LE SP BY HA CA QF QL QT BH BB k s h1 h2 h3 h4 h5 h6 h7 h8 h9 h10 h11 hs4 with ⟨en, sX⟩ | ⟨en, u1, v1, R1, sX, sY⟩
    · obtain ⟨u', v', R', tX, tY⟩ := ih (s + 1) (by omega) _ _ I0
      refine ⟨u', v', R', fun post h => ?_, fun post J x1 x2 x3 h => ?_⟩
      · have t := tX post h
        exact br_f hlt (sX _ (nm_r (nI_1 s) t))
      · have t := tY post J x1 x2 x3 h
        have e0 : QC (nI s).toNatClampNeg ≤ 0 := by
          rw [es, en]
          exact Int32.le_refl _
        exact br_f hlt ⟨is4, br_t e0 (nm_r (nI_1 s) t)⟩
    · obtain ⟨u', v', R', tX, tY⟩ := ih (s + 1) (by omega) u1 v1 R1
      refine ⟨u', v', R', fun post h => ?_, fun post J x1 x2 x3 h => ?_⟩
      · have t := tX post h
        obtain ⟨_, _, _, _, _, _, _, _, _, _, _, _, _, _, _, _, _, _, _, _, _, _, _, _, _, _, _, _, _, _, _, _, _, _, _, _, _, _, _, _, _, _, _, _, _, _, rfl, rfl, _⟩ := R1
        exact br_f hlt (sX _ (nm_r (nI_1 s) t))
      · have t := tY post J x1 x2 x3 h
        have e0 : ¬ QC (nI s).toNatClampNeg ≤ 0 := by
          rw [es]
          exact en
        obtain ⟨_, _, _, _, _, _, _, _, _, _, _, _, _, _, _, _, _, _, _, _, _, _, _, _, _, _, _, _, _, _, _, _, _, _, _, _, _, _, _, _, _, _, _, _, _, _, rfl, rfl, _⟩ := R1
        exact br_f hlt ⟨is4, br_f e0 (sY _ (nm_r (nI_1 s) t))⟩
def cs_YN (post : Int32 → SY → Prop) (J : Int32 → Int32 → Int32 → Int32 → (Nat → Int32) → (Nat → Int32) → (Nat → Int32) → (Nat → Int32) → (Nat → Int32) → (Nat → Int32) → (Nat → Int32) → (Nat → Int32) → (Nat → Int32) → (Nat → Int32) → (Nat → Int32) → (Nat → Int32) → (Nat → Int32) → (Nat → Int32) → (Nat → Int32) → (Nat → Int32) → (Nat → Int32) → (Nat → Int32) → (Nat → Int32) → (Nat → Int32) → (Nat → Int32) → (Nat → Int32) → (Nat → Int32) → (Nat → Int32) → (Nat → Int32) → (Nat → Int32) → (Nat → Int32) → (Nat → Int32) → (Nat → Int32) → (Nat → Int32) → (Nat → Int32) → Prop) (x1 x2 x3 : Int32) (v : SY) : Prop := match v with
  | (now, bs, bf, CN, BU, op, FR, TO, GA, TL, DU, W, WT, NY, KY, KO, KM, KT, NU, CI, LE, SP, BY, LA, HA, CA, WA, QC, QF, QL, QT, BX, BH, BB) => ∃ n40 : Nat, wY_pass_40 post J x1 x2 x3 n40 0 (now + 1) bs bf CN BU op FR TO GA TL DU W WT NY KY KO KM KT NU CI LE SP BY LA HA CA WA QC QF QL QT BX BH BB
theorem cs_tick {k : Nat} {u : SX} {v : SY} (I : i_Rel k u v) : ∃ u' v', i_Rel k u' v' ∧ (∀ post : SX → Prop, post u' → wpX_tick post u) ∧
    (∀ (post : Int32 → SY → Prop) (J : Int32 → Int32 → Int32 → Int32 → (Nat → Int32) → (Nat → Int32) → (Nat → Int32) → (Nat → Int32) → (Nat → Int32) → (Nat → Int32) → (Nat → Int32) → (Nat → Int32) → (Nat → Int32) → (Nat → Int32) → (Nat → Int32) → (Nat → Int32) → (Nat → Int32) → (Nat → Int32) → (Nat → Int32) → (Nat → Int32) → (Nat → Int32) → (Nat → Int32) → (Nat → Int32) → (Nat → Int32) → (Nat → Int32) → (Nat → Int32) → (Nat → Int32) → (Nat → Int32) → (Nat → Int32) → (Nat → Int32) → (Nat → Int32) → (Nat → Int32) → (Nat → Int32) → (Nat → Int32) → (Nat → Int32) → Prop) (x1 x2 x3 : Int32), cs_YJ J (x3 + 1) v' → cs_YN post J x1 x2 x3 v) := by
  obtain ⟨now, bf, bs, CN, FB, FZ, FC, op, FR, TO, GA, TL, DU, W, WF, NX, HD, KX, KF, KS, LA, TA, WA, QC, QX, BX, IF, BU, WT, NY, KY, KO, KM, KT, NU, CI, LE, SP, BY, HA, CA, QF, QL, QT, BH, BB, rfl, rfl, h1, h2, h3, h4, h5, h6, h7, h8, h9, h10, h11⟩ := I
  obtain ⟨u1, v1, R1, aX, aY⟩ := cs_T12 4 0 (by omega) (now + 1, (nI bf), (nI bs), CN, FB, FZ, FC, op, FR, TO, GA, TL, DU, W, WF, NX, HD, KX, KF, KS, LA, TA, WA, QC, QX, BX, IF) (now + 1, (nI bs), (nI bf), CN, BU, op, FR, TO, GA, TL, DU, W, WT, NY, KY, KO, KM, KT, NU, CI, LE, SP, BY, LA, HA, CA, WA, QC, QF, QL, QT, BX, BH, BB) (cs_mk h1 h2 h3 h4 h5 h6 h7 h8 h9 h10 h11)
  obtain ⟨u2, v2, R2, bX, bY⟩ := cs_T30 4 0 (by omega) u1 v1 R1
  refine ⟨u2, v2, R2, fun post h => ?_, fun post J x1 x2 x3 h => ?_⟩
  · exact nm_e ⟨5, aX post ⟨5, bX post h⟩⟩
  · exact ⟨5, aY post J x1 x2 x3 ⟨5, bY post J x1 x2 x3 h⟩⟩
theorem cs_pass {k m : Nat} (hm : m ≤ 200) (x2 : Int32) : ∀ d i, i + d = m → ∀ (u : SX) (v : SY), i_Rel k u v → ∃ r u' v', i_Rel k u' v' ∧ (∀ post : Int32 → SX → Prop, post r u' → cs_XP22 post (nI m) x2 (d + 1) (nI i) u) ∧
    (∀ post : Int32 → SY → Prop, post r v' → cs_YP22 post (nI m) x2 (d + 1) (nI i) v) := by
  intro d
  induction d with
  | zero =>
    intro i hi u v I
    have e : i = m := by omega
    subst e
    have I0 := I
    obtain ⟨now, bf, bs, CN, FB, FZ, FC, op, FR, TO, GA, TL, DU, W, WF, NX, HD, KX, KF, KS, LA, TA, WA, QC, QX, BX, IF, BU, WT, NY, KY, KO, KM, KT, NU, CI, LE, SP, BY, HA, CA, QF, QL, QT, BH, BB, rfl, rfl, h1, h2, h3, h4, h5, h6, h7, h8, h9, h10, h11⟩ := I
    exact ⟨_, _, _, I0, fun post h => br_t (Int32.le_refl _) h, fun post h => br_t (Int32.le_refl _) h⟩
  | succ d ih =>
    intro i hi u v I
    obtain ⟨u1, v1, R1, aX, aY⟩ := cs_tick I
    obtain ⟨r, u', v', R', bX, bY⟩ := ih (i + 1) (by omega) u1 v1 R1
    have hlt : ¬ nI m ≤ nI i := nI_ge (by omega) (by omega)
    refine ⟨r, u', v', R', fun post h => ?_, fun post h => ?_⟩
    · have t := bX post h
      obtain ⟨_, _, _, _, _, _, _, _, _, _, _, _, _, _, _, _, _, _, _, _, _, _, _, _, _, _, _, _, _, _, _, _, _, _, _, _, _, _, _, _, _, _, _, _, _, _, rfl, rfl, _⟩ := I
      obtain ⟨_, _, _, _, _, _, _, _, _, _, _, _, _, _, _, _, _, _, _, _, _, _, _, _, _, _, _, _, _, _, _, _, _, _, _, _, _, _, _, _, _, _, _, _, _, _, rfl, rfl, _⟩ := R1
      exact br_f hlt (aX _ (nm_r (nI_1 i) t))
    · have t := bY post h
      obtain ⟨_, _, _, _, _, _, _, _, _, _, _, _, _, _, _, _, _, _, _, _, _, _, _, _, _, _, _, _, _, _, _, _, _, _, _, _, _, _, _, _, _, _, _, _, _, _, rfl, rfl, _⟩ := I
      obtain ⟨_, _, _, _, _, _, _, _, _, _, _, _, _, _, _, _, _, _, _, _, _, _, _, _, _, _, _, _, _, _, _, _, _, _, _, _, _, _, _, _, _, _, _, _, _, _, rfl, rfl, _⟩ := R1
      refine br_f hlt (nm_e (aY post _ (nI m) x2 (nI i) ?_))
      rw [nI_1]
      exact t
