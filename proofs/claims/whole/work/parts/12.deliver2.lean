theorem cs_deliver {now : Int32} {bf bs : Nat} {CN FB FZ FC op FR TO GA TL DU W WF NX HD KX KF KS LA TA WA QC QX BX IF BU WT NY KY KO KM KT NU CI LE SP BY HA CA QF QL QT BH BB : Nat → Int32} {k s : Nat} (h1 : bf ≤ 255) (h2 : bs ≤ 27) (h3 : cs_N k bf bs op) (h4 : ∀ i, i < bs → BU i = FB (27 * bf + i))
    (h5 : cs_W (cs_FP bf FC FZ FB NU CI LE BY) op W WF WT HD SP NX NY) (h6 : cs_K op KX KY KF KO KS KM KT) (h7 : cs_Q (cs_FP bf FC FZ FB NU CI LE BY) op TO QC QX QF QL QT)
    (h8 : cs_I bf FC FZ FB BX IF BH BB) (h9 : cs_T TA HA CA) (h10 : cs_L 4 LA 8) (h11 : cs_L 8 TO 4) (hs : s < 4) :
    (QC s = nI 0 ∧ ∀ post : SX → Prop, post (now, (nI bf), (nI bs), CN, FB, FZ, FC, op, FR, TO, GA, TL, DU, W, WF, NX, HD, KX, KF, KS, LA, TA, WA, QC, QX, BX, IF) → wpX_deliverTo post (now, (nI bf), (nI bs), CN, FB, FZ, FC, op, FR, TO, GA, TL, DU, W, WF, NX, HD, KX, KF, KS, LA, TA, WA, QC, QX, BX, IF) (nI s)) ∨
    (¬ QC s ≤ 0 ∧ ∃ u' v', i_Rel k u' v' ∧ (∀ post : SX → Prop, post u' → wpX_deliverTo post (now, (nI bf), (nI bs), CN, FB, FZ, FC, op, FR, TO, GA, TL, DU, W, WF, NX, HD, KX, KF, KS, LA, TA, WA, QC, QX, BX, IF) (nI s)) ∧ (∀ post : SY → Prop, post v' → wpY_comeToStation post (now, (nI bs), (nI bf), CN, BU, op, FR, TO, GA, TL, DU, W, WT, NY, KY, KO, KM, KT, NU, CI, LE, SP, BY, LA, HA, CA, WA, QC, QF, QL, QT, BX, BH, BB) (nI s))) := by
  have is4 : vp_in (nI s) 4 := vp_in_nI hs (by decide)
  have es : (nI s).toNatClampNeg = s := nI_clamp (by omega)
  obtain ⟨n, hn, en, hq⟩ := h7 s hs
  rcases n with _ | n
  · refine Or.inl ⟨en, fun post hp => ?_⟩
    unfold wpX_deliverTo
    dsimp only
    rw [es]
    exact ⟨is4, br_t en hp⟩
  refine Or.inr ⟨by rw [en]; exact nI_nle (by omega) (by omega), ?_⟩
  obtain ⟨f, p, c, z, l, t, a1, a2, a3, a4, a5, a6, a7, ho, a9⟩ := hq 0 (by omega)
  have hFP := a7
  obtain ⟨f1, f2, hc, f4, f5, f6, f7, f8, f9, f10, f11⟩ := a7
  obtain ⟨g1, g2, g3⟩ := (h6 c hc).2 ho
  obtain ⟨KF', hF⟩ : ∃ KF', (KX c = 0 ∧ KF' = upd KF c (nI f)) ∨ (¬ KX c = 0 ∧ KF' = KF) := by
    by_cases q : KX c = 0
    · exact ⟨_, Or.inl ⟨q, rfl⟩⟩
    · exact ⟨_, Or.inr ⟨q, rfl⟩⟩
  obtain ⟨KO', hO⟩ : ∃ KO', (KY c = 0 ∧ KO' = upd KO c (NU p)) ∨ (¬ KY c = 0 ∧ KO' = KO) := by
    by_cases q : KY c = 0
    · exact ⟨_, Or.inl ⟨q, rfl⟩⟩
    · exact ⟨_, Or.inr ⟨q, rfl⟩⟩
  have hF' : ∀ j, j ≠ c → KF' j = KF j := by
    intro j hj
    rcases hF with ⟨_, e⟩ | ⟨_, e⟩
    · rw [e, pk_un hj]
    · rw [e]
  have hO' : ∀ j, j ≠ c → KO' j = KO j := by
    intro j hj
    rcases hO with ⟨_, e⟩ | ⟨_, e⟩
    · rw [e, pk_un hj]
    · rw [e]
  have hfo : KO' c = KF' c + 1 := by
    rcases hF with ⟨q, e⟩ | ⟨q, e⟩
    · rcases hO with ⟨q', e'⟩ | ⟨q', e'⟩
      · rw [e, e', pk_us, pk_us, f6, nI_1]
      · exact absurd (g1.symm.trans q) q'
    · rcases hO with ⟨q', e'⟩ | ⟨q', e'⟩
      · exact absurd (g1.trans q') q
      · rw [e, e']
        exact g2 q
  have hK := cs_K_keep (f := f) (t := t) h6 ho hc hF' hO' hfo
  generalize hKS : (if KF' c = nI f ∧ t = 0 then KS else upd KS c 1) = KS' at hK
  generalize hzm : (if KM c = 0 ∧ KO' c = nI (f + 1) then (0 : Int32) else 1) = zm at hK
  generalize hzt : (if KT c = 0 ∧ t = 0 then (0 : Int32) else 1) = zt at hK
  have hztb : vp_nar .boolean zt = zt := by
    rw [← hzt]
    split
    · exact cs_b0
    · exact cs_b1
  have hQ := cs_Q_out h7 hs (by omega) en
  have hL : ∀ i, i ≤ n → vp_nar .boolean (QL (6 * s + i)) = QL (6 * s + i) := by
    intro i hi
    obtain ⟨_, _, _, _, l', _, _, _, b3, _, b5, _⟩ := hq i (by omega)
    rw [b3]
    exact cs_bn b5
  have hT : ∀ i, i ≤ n → vp_nar .boolean (QT (6 * s + i)) = QT (6 * s + i) := by
    intro i hi
    obtain ⟨_, _, _, _, _, t', _, _, _, b4, _, b6, _⟩ := hq i (by omega)
    rw [b4]
    exact cs_bn b6
  have hkX : ∀ post : SX → Prop, post (now, (nI bf), (nI bs), CN, FB, FZ, FC, op, FR, TO, GA, TL, DU, W, WF, NX, HD, upd KX c (KX c + 1), KF', KS', LA, TA, WA, upd QC s (nI n), cs_mv QX 1 (6 * s) n, BX, IF) → wpX_keep post (now, (nI bf), (nI bs), CN, FB, FZ, FC, op, FR, TO, GA, TL, DU, W, WF, NX, HD, KX, KF, KS, LA, TA, WA, upd QC s (nI n), cs_mv QX 1 (6 * s) n, BX, IF) (nI (4 * f + 2 * l + t)) :=
    fun post hp => cs_Xkeep (by omega) a5 a6 hc f7 hF (by rw [hKS]; exact hp)
  have hY : ∀ post : SY → Prop, wY_comeToStation_212 post (nI s) (nI p) (nI l) (nI c) zt (nI c) now (nI bs) (nI bf) CN BU op FR TO GA TL DU W WT NY KY KO' (upd KM c zm) KT NU CI LE SP BY LA HA CA WA (upd QC s (nI n)) (cs_mv QF 1 (6 * s) n) (cs_mv QL 1 (6 * s) n) (cs_mv QT 1 (6 * s) n) BX BH BB → wpY_comeToStation post (now, (nI bs), (nI bf), CN, BU, op, FR, TO, GA, TL, DU, W, WT, NY, KY, KO, KM, KT, NU, CI, LE, SP, BY, LA, HA, CA, WA, QC, QF, QL, QT, BX, BH, BB) (nI s) := by
    intro post hp
    refine cs_Ydel hs (by omega) f1 hc en f8 hO hL hT a2 a3 a4 (cs_Y148 f1 hc a6 ?_)
    rw [f6, hzm, hzt]
    exact hp
  rcases (show l = 0 ∨ l = 1 by omega) with e | e
  · subst e
    refine ⟨(now, (nI bf), (nI bs), CN, FB, FZ, FC, op, FR, TO, GA, TL, DU, W, WF, NX, HD, upd KX c (KX c + 1), KF', KS', LA, TA, WA, upd QC s (nI n), cs_mv QX 1 (6 * s) n, BX, IF), (now, (nI bs), (nI bf), CN, BU, op, FR, TO, GA, TL, DU, W, WT, NY, upd KY c (KY c + 1), KO', upd KM c zm, upd KT c zt, NU, CI, LE, SP, BY, LA, HA, CA, WA, upd QC s (nI n), cs_mv QF 1 (6 * s) n, cs_mv QL 1 (6 * s) n, cs_mv QT 1 (6 * s) n, BX, BH, BB),
      cs_mk h1 h2 h3 h4 h5 hK hQ h8 h9 h10 h11, fun post hp => ?_, fun post hp => ?_⟩
    · exact cs_Xdel hs (by omega) (by omega) a5 a6 en a1 hkX (fun _ => hp) (fun q => absurd q (by omega))
    · exact hY post (cs_Y212 f1 f5 hc a5 f10 hztb (fun _ => hp) (fun q => absurd q (by omega)) (fun q => absurd q (by omega)))
  · subst e
    have hKf := cs_K_forget hK ho
    obtain ⟨k1, k2, k3⟩ := (hK c hc).2 ho
    by_cases g : KS' c = 0 ∧ (upd KX c (KX c + 1)) c = nI ((z + 12) / 8)
    · have gY : upd KM c zm c = 0 ∧ zt = 0 ∧ KY c + 1 = nI ((z + 12) / 8) := by
        obtain ⟨m1, m2⟩ := k3.mp g.1
        rw [pk_us] at m2
        refine ⟨m1, m2, ?_⟩
        have m3 := k1.symm.trans g.2
        rw [pk_us] at m3
        exact m3
      obtain ⟨b, hb, eb, _⟩ := h8 s hs
      by_cases b4 : b = 4
      · subst b4
        refine ⟨(now, (nI bf), (nI bs), upd CN 6 (CN 6 + 1), FB, FZ, FC, op, FR, TO, GA, TL, DU, W, WF, NX, HD, upd (upd KX c (KX c + 1)) c 0, KF', upd KS' c 0, LA, TA, WA, upd QC s (nI n), cs_mv QX 1 (6 * s) n, BX, IF),
          (now, (nI bs), (nI bf), upd CN 6 (CN 6 + 1), BU, op, FR, TO, GA, TL, DU, W, WT, NY, upd (upd KY c (KY c + 1)) c 0, KO', upd (upd KM c zm) c 0, upd (upd KT c zt) c 0, NU, CI, LE, SP, BY, LA, HA, CA, WA, upd QC s (nI n), cs_mv QF 1 (6 * s) n, cs_mv QL 1 (6 * s) n, cs_mv QT 1 (6 * s) n, BX, BH, BB),
          cs_mk h1 h2 h3 h4 h5 hKf hQ h8 h9 h10 h11, fun post hp => ?_, fun post hp => ?_⟩
        · exact cs_Xdel hs (by omega) (by omega) a5 a6 en a1 hkX (fun q => absurd q (by omega)) (fun _ => cs_Xend (by omega) hc f5 f7 f9 (fun _ => cs_X35b hs hc eb hp) (fun q => absurd g q))
        · exact hY post (cs_Y212 f1 f5 hc a5 f10 hztb (fun q => absurd q (by omega)) (fun _ _ => cs_Y269b hc (cs_Ymiss hs eb hp)) (fun _ q => absurd gY q))
      · refine ⟨(now, (nI bf), (nI bs), upd CN 4 (CN 4 + 1), FB, FZ, FC, op, FR, TO, GA, TL, DU, W, WF, NX, HD, upd (upd KX c (KX c + 1)) c 0, KF', upd KS' c 0, LA, TA, WA, upd QC s (nI n), cs_mv QX 1 (6 * s) n, upd BX s (nI (b + 1)), upd IF (4 * s + b) (nI f)),
          (now, (nI bs), (nI bf), upd CN 4 (CN 4 + 1), BU, op, FR, TO, GA, TL, DU, W, WT, NY, upd (upd KY c (KY c + 1)) c 0, KO', upd (upd KM c zm) c 0, upd (upd KT c zt) c 0, NU, CI, LE, SP, BY, LA, HA, CA, WA, upd QC s (nI n), cs_mv QF 1 (6 * s) n, cs_mv QL 1 (6 * s) n, cs_mv QT 1 (6 * s) n, upd BX s (nI (b + 1)), upd BH (4 * s + b) (nI (32 * c + z)), cs_cp BB (27 * (4 * s + b)) (fun i => BY (27 * p + i)) 27),
          cs_mk h1 h2 h3 h4 h5 hKf hQ (cs_I_in h8 hs (by omega) eb hFP) h9 h10 h11, fun post hp => ?_, fun post hp => ?_⟩
        · exact cs_Xdel hs (by omega) (by omega) a5 a6 en a1 hkX (fun q => absurd q (by omega)) (fun _ => cs_Xend (by omega) hc f5 f7 f9 (fun _ => cs_X35c hs hc (by omega) eb hp) (fun q => absurd g q))
        · exact hY post (cs_Y212 f1 f5 hc a5 f10 hztb (fun q => absurd q (by omega)) (fun _ _ => cs_Y269b hc (cs_Ykeep hs f1 (by omega) eb f8 f10 hp)) (fun _ q => absurd gY q))
    · have gY : ¬ (upd KM c zm c = 0 ∧ zt = 0 ∧ KY c + 1 = nI ((z + 12) / 8)) := by
        intro ⟨m1, m2, m3⟩
        refine g ⟨k3.mpr ⟨m1, ?_⟩, k1.trans ?_⟩
        · rw [pk_us]
          exact m2
        · rw [pk_us]
          exact m3
      refine ⟨(now, (nI bf), (nI bs), upd CN 5 (CN 5 + 1), FB, FZ, FC, op, FR, TO, GA, TL, DU, W, WF, NX, HD, upd (upd KX c (KX c + 1)) c 0, KF', upd KS' c 0, LA, TA, WA, upd QC s (nI n), cs_mv QX 1 (6 * s) n, BX, IF),
        (now, (nI bs), (nI bf), upd CN 5 (CN 5 + 1), BU, op, FR, TO, GA, TL, DU, W, WT, NY, upd (upd KY c (KY c + 1)) c 0, KO', upd (upd KM c zm) c 0, upd (upd KT c zt) c 0, NU, CI, LE, SP, BY, LA, HA, CA, WA, upd QC s (nI n), cs_mv QF 1 (6 * s) n, cs_mv QL 1 (6 * s) n, cs_mv QT 1 (6 * s) n, BX, BH, BB),
        cs_mk h1 h2 h3 h4 h5 hKf hQ h8 h9 h10 h11, fun post hp => ?_, fun post hp => ?_⟩
      · exact cs_Xdel hs (by omega) (by omega) a5 a6 en a1 hkX (fun q => absurd q (by omega)) (fun _ => cs_Xend (by omega) hc f5 f7 f9 (fun q => absurd q g) (fun _ => cs_X35a hc hp))
      · exact hY post (cs_Y212 f1 f5 hc a5 f10 hztb (fun q => absurd q (by omega)) (fun _ q => absurd q gY) (fun _ _ => cs_Y269a hc hp))
