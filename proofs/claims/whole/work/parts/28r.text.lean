/-! text: a line -/
section
variable {hs he tp pos bg so vl wr : Int32} {d ta : Nat → Int32}
theorem bad143 {c : Nat} (h1 : 1 ≤ c) (h2 : c ≤ 5) {x1 s0 : Int32} (hz : isZ s0) : F_X7_readLine_143 hs he tp pos bg so vl (nI c) wr d ta x1 s0 = some (hs, s0, pos, bg, so, vl, nI c, wr, d) := by
  unfold F_X7_readLine_143
  rw [chk_pos hz, bad_reads h1 h2]
  simp only [ob]
  rw [if_neg (nI_nle (by omega) (by omega))]
theorem bad122 {c : Nat} (h1 : 1 ≤ c) (h2 : c ≤ 5) {x1 s0 : Int32} (hz : isZ s0) : ∃ b, F_X7_readLine_122 hs he tp pos bg so vl (nI c) wr d ta x1 s0 = some (s0, b, pos, bg, so, vl, nI c, wr, d) := by
  unfold F_X7_readLine_122 F_X7_readLine_138
  rw [chk_pos hz]
  split
  · split
    · exact ⟨_, bad143 h1 h2 (Or.inr rfl)⟩
    · exact ⟨_, bad143 h1 h2 (Or.inl rfl)⟩
  · exact ⟨_, bad143 h1 h2 (Or.inr rfl)⟩
theorem mid100 {c : Nat} (h1 : 1 ≤ c) (h2 : c ≤ 5) {x1 : Int32} : ∃ a b, (if hs = 0 then (if x1 = (4 : Int32) then (F_X7_readLine_117 hs he tp pos bg so vl (nI c) wr d ta x1) else (F_X7_readLine_122 hs he tp pos bg so vl (nI c) wr d ta x1 (0 : Int32))) else (F_X7_readLine_117 hs he tp pos bg so vl (nI c) wr d ta x1)) = some (a, b, pos, bg, so, vl, nI c, wr, d) := by
  unfold F_X7_readLine_117
  split
  · split
    · obtain ⟨b, z⟩ := bad122 h1 h2 (Or.inr rfl); exact ⟨_, b, z⟩
    · obtain ⟨b, z⟩ := bad122 h1 h2 (Or.inl rfl); exact ⟨_, b, z⟩
  · obtain ⟨b, z⟩ := bad122 h1 h2 (Or.inr rfl); exact ⟨_, b, z⟩
theorem bad100 {c : Nat} (h1 : 1 ≤ c) (h2 : c ≤ 5) {x1 s0 : Int32} : ∃ a b, F_X7_readLine_100 hs he tp pos bg so vl (nI c) wr d ta x1 s0 = some (a, b, pos, bg, so, vl, nI c, wr, d) := by
  unfold F_X7_readLine_100
  rw [req_bad h1 h2]
  simp only [ob]
  exact mid100 h1 h2
theorem mid78 {c : Nat} (h1 : 1 ≤ c) (h2 : c ≤ 5) {x1 : Int32} : ∃ a b, (if x1 = (5 : Int32) then (if he = 0 then (F_X7_readLine_95 hs he tp pos bg so vl (nI c) wr d ta x1) else (F_X7_readLine_100 hs he tp pos bg so vl (nI c) wr d ta x1 (0 : Int32))) else (F_X7_readLine_95 hs he tp pos bg so vl (nI c) wr d ta x1)) = some (a, b, pos, bg, so, vl, nI c, wr, d) := by
  unfold F_X7_readLine_95
  split
  · split
    · exact bad100 h1 h2
    · exact bad100 h1 h2
  · exact bad100 h1 h2
theorem bad78 {c : Nat} (h1 : 1 ≤ c) (h2 : c ≤ 5) {x1 s0 : Int32} : ∃ a b, F_X7_readLine_78 hs he tp pos bg so vl (nI c) wr d ta x1 s0 = some (a, b, pos, bg, so, vl, nI c, wr, d) := by
  unfold F_X7_readLine_78
  rw [req_bad h1 h2]
  simp only [ob]
  exact mid78 h1 h2
theorem mid56 {c : Nat} (h1 : 1 ≤ c) (h2 : c ≤ 5) {x1 : Int32} : ∃ a b, (if x1 = (4 : Int32) then (if hs = 0 then (F_X7_readLine_73 hs he tp pos bg so vl (nI c) wr d ta x1) else (F_X7_readLine_78 hs he tp pos bg so vl (nI c) wr d ta x1 (0 : Int32))) else (F_X7_readLine_73 hs he tp pos bg so vl (nI c) wr d ta x1)) = some (a, b, pos, bg, so, vl, nI c, wr, d) := by
  unfold F_X7_readLine_73
  split
  · split
    · exact bad78 h1 h2
    · exact bad78 h1 h2
  · exact bad78 h1 h2
theorem bad56 {c : Nat} (h1 : 1 ≤ c) (h2 : c ≤ 5) {x1 s0 : Int32} : ∃ a b, F_X7_readLine_56 hs he tp pos bg so vl (nI c) wr d ta x1 s0 = some (a, b, pos, bg, so, vl, nI c, wr, d) := by
  unfold F_X7_readLine_56
  rw [req_bad h1 h2]
  simp only [ob]
  exact mid56 h1 h2
/-- no line begins so -/
theorem rl_none : ∃ a b, F_X7_readLine_17 hs he tp pos bg so vl 0 wr d ta (-4) = some (a, b, pos, bg, so, vl, nI 2, bg, d) := by
  unfold F_X7_readLine_17 F_X7_readLine_30
  rw [if_pos rfl, req_no]
  simp only [ob]
  rw [if_neg (by decide), chk_pos (by decide)]
  unfold F_X7_readLine_51
  split
  · exact bad56 (c := 2) (by omega) (by omega)
  · exact bad56 (c := 2) (by omega) (by omega)
theorem eq143 {x1 s0 : Int32} (hz : isZ s0) {w2 w3 w4 w5 w6 w7 : Int32} (h : F_X7_reads tp pos bg so vl 0 wr ta = some (w2, w3, w4, w5, w6, w7)) : F_X7_readLine_143 hs he tp pos bg so vl 0 wr d ta x1 s0 = bodyM hs s0 tp w2 w3 w4 w5 w6 w7 d ta x1 := by
  unfold F_X7_readLine_143 bodyM tailM
  rw [chk_pos hz, h]
  simp only [ob]
theorem eq122 {x1 s0 : Int32} (h5 : ¬ x1 = 5) (hz : isZ s0) (hz2 : isZ he) : F_X7_readLine_122 hs he tp pos bg so vl 0 wr d ta x1 s0 = F_X7_readLine_143 s0 he tp pos bg so vl 0 wr d ta x1 he := by
  unfold F_X7_readLine_122 F_X7_readLine_138
  rw [chk_pos hz, if_neg h5]
  rcases hz2 with rfl | rfl
  · rw [if_pos rfl]
  · rw [if_neg i10]
theorem eq100 {x1 : Int32} (h4 : ¬ x1 = 4) (hz : isZ hs) : F_X7_readLine_100 hs he tp pos bg so vl 0 wr d ta x1 1 = F_X7_readLine_122 hs he tp pos bg so vl 0 wr d ta x1 hs := by
  unfold F_X7_readLine_100 F_X7_readLine_117
  rw [req_yes]
  simp only [ob]
  rw [if_neg h4]
  rcases hz with rfl | rfl
  · rw [if_pos rfl]
  · rw [if_neg i10]
theorem rl_rotor {c : Nat} (hc : c < 4) {R : Nat} (hR : R < 4) (hd : d 36 = nI R) (hz : isZ hs) (hz2 : isZ he) : F_X7_readLine_17 hs he tp pos bg so vl 0 wr d ta (nI c) = F_X7_readLine_143 hs he tp pos bg so vl 0 wr d ta (nI c) he := by
  have c4 : ¬ nI c = 4 := fun z => by have := (b_eq c (by omega) 4 (by omega)).1 z; omega
  have c5 : ¬ nI c = 5 := fun z => by have := (b_eq c (by omega) 5 (by omega)).1 z; omega
  unfold F_X7_readLine_17 F_X7_readLine_30
  rw [if_neg (best_ne c (by omega)), req_yes]
  simp only [ob]
  rw [if_neg (show ¬ (4 : Int32) ≤ nI c from nI_ge (b := 4) hc (by omega)), chk_pos (by decide), show (36 : Int32).toNatClampNeg = 36 from rfl, hd, if_neg (show ¬ (4 : Int32) ≤ nI R from nI_ge (b := 4) hR (by omega))]
  unfold F_X7_readLine_51 F_X7_readLine_56 F_X7_readLine_73 F_X7_readLine_78 F_X7_readLine_95
  rw [req_yes]
  simp only [ob]
  rw [if_neg c4, req_yes]
  simp only [ob]
  rw [if_neg c5, eq100 c4 hz, eq122 c5 hz hz2]
theorem rl_many {c : Nat} (hc : c < 4) (hd : d 36 = nI 4) : ∃ a b, F_X7_readLine_17 hs he tp pos bg so vl 0 wr d ta (nI c) = some (a, b, pos, bg, so, vl, nI 5, bg, d) := by
  unfold F_X7_readLine_17 F_X7_readLine_30
  rw [if_neg (best_ne c (by omega)), req_yes]
  simp only [ob]
  rw [if_neg (show ¬ (4 : Int32) ≤ nI c from nI_ge (b := 4) hc (by omega)), chk_pos (by decide), show (36 : Int32).toNatClampNeg = 36 from rfl, hd, if_pos (by decide)]
  unfold F_X7_readLine_56
  rw [req_no]
  simp only [ob]
  exact mid56 (c := 5) (by omega) (by omega)
theorem rl_signs (hz2 : isZ he) : F_X7_readLine_17 0 he tp pos bg so vl 0 wr d ta 4 = F_X7_readLine_143 1 he tp pos bg so vl 0 wr d ta 4 he := by
  unfold F_X7_readLine_17 F_X7_readLine_30
  rw [if_neg (by decide), req_yes]
  simp only [ob]
  rw [if_pos (by decide)]
  unfold F_X7_readLine_51 F_X7_readLine_56 F_X7_readLine_73 F_X7_readLine_78 F_X7_readLine_95 F_X7_readLine_100 F_X7_readLine_117
  rw [req_yes]
  simp only [ob, if_true]
  rw [req_yes]
  simp only [ob, if_true]
  rw [if_neg (by decide), req_yes]
  simp only [ob, if_true]
  rw [eq122 (by decide) (Or.inr rfl) hz2]
theorem rl_signs2 : ∃ a b, F_X7_readLine_17 1 he tp pos bg so vl 0 wr d ta 4 = some (a, b, pos, bg, so, vl, nI 4, bg, d) := by
  unfold F_X7_readLine_17 F_X7_readLine_30
  rw [if_neg (by decide), req_yes]
  simp only [ob]
  rw [if_pos (by decide)]
  unfold F_X7_readLine_51 F_X7_readLine_56
  rw [req_yes]
  simp only [ob, if_true]
  rw [if_neg i10]
  unfold F_X7_readLine_78
  rw [req_no]
  simp only [ob]
  exact mid78 (c := 4) (by omega) (by omega)
theorem rl_every (hz : isZ hs) : F_X7_readLine_17 hs 0 tp pos bg so vl 0 wr d ta 5 = F_X7_readLine_143 hs 0 tp pos bg so vl 0 wr d ta 5 1 := by
  unfold F_X7_readLine_17 F_X7_readLine_30
  rw [if_neg (by decide), req_yes]
  simp only [ob]
  rw [if_pos (by decide)]
  unfold F_X7_readLine_51 F_X7_readLine_56 F_X7_readLine_73 F_X7_readLine_78 F_X7_readLine_95
  rw [req_yes]
  simp only [ob]
  rw [if_neg (by decide), req_yes]
  simp only [ob, if_true]
  rw [eq100 (by decide) hz]
  unfold F_X7_readLine_122 F_X7_readLine_138
  rw [chk_pos hz, if_pos rfl, if_pos rfl]
theorem rl_every2 : ∃ a b, F_X7_readLine_17 hs 1 tp pos bg so vl 0 wr d ta 5 = some (a, b, pos, bg, so, vl, nI 4, bg, d) := by
  unfold F_X7_readLine_17 F_X7_readLine_30
  rw [if_neg (by decide), req_yes]
  simp only [ob]
  rw [if_pos (by decide)]
  unfold F_X7_readLine_51 F_X7_readLine_56 F_X7_readLine_73 F_X7_readLine_78
  rw [req_yes]
  simp only [ob]
  rw [if_neg (by decide), req_yes]
  simp only [ob, if_true]
  rw [if_neg i10]
  unfold F_X7_readLine_100
  rw [req_no]
  simp only [ob]
  exact mid100 (c := 4) (by omega) (by omega)
end
def lnS (sT eT : Int32) (P S R : Nat) (sg : Nat → Int32) (rt : Nat → Rot) (d : Nat → Int32) : Prop := isZ sT ∧ isZ eT ∧ (sT = 0 → S = 0) ∧ DR P S R sg rt d
section
variable {L : Nat} {by_ ta : Nat → Int32} {B : Nat → Nat}
theorem line_step (hB : TB8 L by_ ta B) {p k s e P S R : Nat} {v sT eT : Int32} {sg d : Nat → Int32} {rt : Nat → Rot} (ht : TokE L by_ ta p k s e v) (hk : 1 ≤ k) (hk4 : k < 4) (hl : lnS sT eT P S R sg rt d) (vl wr : Int32) :
    (∃ p' sT' eT' P' S' R' sg' rt' d', p < p' ∧ p' ≤ L ∧ lnS sT' eT' P' S' R' sg' rt' d' ∧ (∀ cf fp cv : Int32, ∃ a b v', F_X5_takeLine (nI L) cf fp (nI k) (nI s) (nI e) cv sT eT by_ (nI P) (nI S) (nI R) sg rt = some (1, cf, fp, a, b, nI p', v', sT', eT', nI P', nI S', nI R', sg', rt')) ∧ ∃ pos' bg' so' vl' fl' wr', F_X7_readLine sT eT (nI L) (nI e) (nI s) (nI k) vl 0 wr d ta = some (sT', eT', pos', bg', so', vl', fl', wr', d') ∧ MS L by_ ta p' pos' bg' so' vl' fl' wr') ∨
    (∃ q w, 1 ≤ q ∧ q ≤ 5 ∧ (∀ cf fp cv : Int32, ∃ a, F_X5_takeLine (nI L) cf fp (nI k) (nI s) (nI e) cv sT eT by_ (nI P) (nI S) (nI R) sg rt = some (0, nI q, nI w, a)) ∧ ∃ h1 h2 pos' bg' so' vl' d', F_X7_readLine sT eT (nI L) (nI e) (nI s) (nI k) vl 0 wr d ta = some (h1, h2, pos', bg', so', vl', nI q, nI w, d')) := by
  obtain ⟨⟨t1, t2, t3, t4, t5, t6⟩, hc, hm⟩ := ht
  obtain ⟨hz1, hz2, hS0, hd⟩ := hl
  obtain ⟨heL, hse⟩ := t4 hk4
  have hlt := t5 hk hk4
  have hL := hB.1
  unfold F_X7_readLine
  by_cases c1 : k = 1
  · subst c1
    rw [if_pos (show nI 1 = 1 from rfl)]
    obtain ⟨w2, w3, w4, w5, w6, w7, er, eMS⟩ := reads_MS hB heL (nI s) (nI 1) vl wr
    rcases name_cases hB hse heL with ⟨c, hc4, n1, n2⟩ | ⟨n1, n2, n3⟩ | ⟨n1, n2, n3, n4⟩ | ⟨n1, n2, n3, n4⟩
    · have hC : ∀ cf fp cv : Int32, F_X5_takeLine (nI L) cf fp (nI 1) (nI s) (nI e) cv sT eT by_ (nI P) (nI S) (nI R) sg rt = (F_X5_takeRotor (nI L) cf fp (nI 1) (nI s) (nI e) cv by_ (nI R) rt (nI c)).bind fun (r39, w40, w41, w42, w43, w44, w45, w46, w47) => chk (isZ r39) <| some (r39, w40, w41, w42, w43, w44, w45, sT, eT, nI P, nI S, w46, sg, w47) := by
        intro cf fp cv
        unfold F_X5_takeLine
        rw [if_pos (show nI 1 = 1 from rfl), n1]
        simp only [ob]
        rw [if_neg (show ¬ nI c < 0 by rw [show (0 : Int32) = nI 0 from rfl, nI_ltI (by omega) (by omega)]; omega)]
      rw [n2]
      simp only [ob]
      by_cases hR : R < 4
      · rw [rl_rotor hc4 hR hd.2.1.2.2.2.2.1 hz1 hz2, eq143 hz2 er]
        rcases rotor_step hB eMS hd hR hc4 with ⟨p', rt', d', g1, g2, g3, g4, g5⟩ | ⟨q, w, q1, q2, g4, g5⟩
        · left
          refine ⟨p', sT, eT, P, S, R + 1, sg, rt', d', by omega, g2, ⟨hz1, hz2, hS0, g3⟩, ?_, g5 sT eT⟩
          intro cf fp cv
          obtain ⟨a, b, v', z⟩ := g4 cf fp (nI 1) (nI s) cv
          rw [hC, z]
          simp only [ob]
          rw [chk_pos (by decide)]
          exact ⟨_, _, _, rfl⟩
        · right
          refine ⟨q, w, q1, q2, ?_, ?_⟩
          · intro cf fp cv
            obtain ⟨⟨a1, a2, a3, a4, a5, a6⟩, z⟩ := g4 cf fp (nI 1) (nI s) cv
            rw [hC, z]
            simp only [ob]
            rw [chk_pos (by decide)]
            exact ⟨_, rfl⟩
          · obtain ⟨a1, a2, a3, a4, a5, z⟩ := g5 sT eT
            exact ⟨_, _, _, _, _, _, _, z⟩
      · obtain rfl : R = 4 := by have := hd.1.2.2.2; omega
        right
        refine ⟨5, s, by omega, by omega, ?_, ?_⟩
        · intro cf fp cv
          rw [hC]
          unfold F_X5_takeRotor F_X5_refuse
          rw [if_neg (by decide)]
          simp only [ob]
          rw [chk_pos (by decide)]
          simp only [ob]
          rw [chk_pos (by decide)]
          exact ⟨_, rfl⟩
        · obtain ⟨a, b, z⟩ := rl_many (hs := sT) (he := eT) (tp := nI L) (pos := nI e) (bg := nI s) (so := nI 1) (vl := vl) (wr := wr) (d := d) (ta := ta) hc4 hd.2.1.2.2.2.2.1
          exact ⟨_, _, _, _, _, _, _, z⟩
    · have hC : ∀ cf fp cv : Int32, F_X5_takeLine (nI L) cf fp (nI 1) (nI s) (nI e) cv sT eT by_ (nI P) (nI S) (nI R) sg rt = (F_X5_takeSigns (nI L) cf fp (nI 1) (nI s) (nI e) cv sT by_ (nI S) sg).bind fun (r27, w28, w29, w30, w31, w32, w33, w34, w35, w36) => chk (isZ r27) <| some (r27, w28, w29, w30, w31, w32, w33, w34, eT, nI P, w35, nI R, w36, rt) := by
        intro cf fp cv
        unfold F_X5_takeLine
        rw [if_pos (show nI 1 = 1 from rfl), n1]
        simp only [ob]
        rw [if_pos (by decide), n2]
        simp only [ob]
        rw [if_neg i10]
      rw [n3]
      simp only [ob]
      rcases hz1 with rfl | rfl
      · obtain rfl : S = 0 := hS0 rfl
        rw [rl_signs hz2, eq143 hz2 er]
        rcases signs_step hB eMS hd with ⟨p', S', sg', d', g1, g2, g3, g4, g5⟩ | ⟨q, w, q1, q2, g4, g5⟩
        · left
          refine ⟨p', 1, eT, P, S', R, sg', rt, d', by omega, g2, ⟨Or.inr rfl, hz2, fun h => absurd h i10, g3⟩, ?_, g5 1 eT⟩
          intro cf fp cv
          obtain ⟨a, b, v', z⟩ := g4 cf fp (nI 1) (nI s) cv
          have z : F_X5_takeSigns (nI L) cf fp (nI 1) (nI s) (nI e) cv 0 by_ (nI 0) sg = _ := z
          rw [hC, z]
          simp only [ob]
          rw [chk_pos (by decide)]
          exact ⟨_, _, _, rfl⟩
        · right
          refine ⟨q, w, q1, q2, ?_, ?_⟩
          · intro cf fp cv
            obtain ⟨⟨a1, a2, a3, a4, a5, a6, a7⟩, z⟩ := g4 cf fp (nI 1) (nI s) cv
            have z : F_X5_takeSigns (nI L) cf fp (nI 1) (nI s) (nI e) cv 0 by_ (nI 0) sg = _ := z
            rw [hC, z]
            simp only [ob]
            rw [chk_pos (by decide)]
            exact ⟨_, rfl⟩
          · obtain ⟨a1, a2, a3, a4, a5, z⟩ := g5 1 eT
            exact ⟨_, _, _, _, _, _, _, z⟩
      · right
        refine ⟨4, s, by omega, by omega, ?_, ?_⟩
        · intro cf fp cv
          rw [hC]
          unfold F_X5_takeSigns F_X5_refuse
          rw [if_neg i10]
          simp only [ob]
          rw [chk_pos (by decide)]
          simp only [ob]
          rw [chk_pos (by decide)]
          exact ⟨_, rfl⟩
        · obtain ⟨a, b, z⟩ := rl_signs2 (he := eT) (tp := nI L) (pos := nI e) (bg := nI s) (so := nI 1) (vl := vl) (wr := wr) (d := d) (ta := ta)
          exact ⟨_, _, _, _, _, _, _, z⟩
    · have hC : ∀ cf fp cv : Int32, F_X5_takeLine (nI L) cf fp (nI 1) (nI s) (nI e) cv sT eT by_ (nI P) (nI S) (nI R) sg rt = (F_X5_takeEvery (nI L) cf fp (nI 1) (nI s) (nI e) cv eT by_ (nI P)).bind fun (r16, w17, w18, w19, w20, w21, w22, w23, w24) => chk (isZ r16) <| some (r16, w17, w18, w19, w20, w21, w22, sT, w23, w24, nI S, nI R, sg, rt) := by
        intro cf fp cv
        unfold F_X5_takeLine
        rw [if_pos (show nI 1 = 1 from rfl), n1]
        simp only [ob]
        rw [if_pos (by decide), n2]
        simp only [ob]
        rw [if_pos trivial, n3]
        simp only [ob]
        rw [if_neg i10]
      rw [n4]
      simp only [ob]
      rcases hz2 with rfl | rfl
      · rw [rl_every hz1, eq143 (Or.inr rfl) er]
        rcases every_step hB eMS hd with ⟨p', P', d', g1, g2, g3, g4, g5⟩ | ⟨q, w, q1, q2, g4, g5⟩
        · left
          refine ⟨p', sT, 1, P', S, R, sg, rt, d', by omega, g2, ⟨hz1, Or.inr rfl, hS0, g3⟩, ?_, g5 sT 1⟩
          intro cf fp cv
          obtain ⟨a, b, v', z⟩ := g4 cf fp (nI 1) (nI s) cv
          rw [hC, z]
          simp only [ob]
          rw [chk_pos (by decide)]
          exact ⟨_, _, _, rfl⟩
        · right
          refine ⟨q, w, q1, q2, ?_, ?_⟩
          · intro cf fp cv
            obtain ⟨⟨a1, a2, a3, a4, a5, a6⟩, z⟩ := g4 cf fp (nI 1) (nI s) cv
            rw [hC, z]
            simp only [ob]
            rw [chk_pos (by decide)]
            exact ⟨_, rfl⟩
          · obtain ⟨a1, a2, a3, a4, a5, z⟩ := g5 sT 1
            exact ⟨_, _, _, _, _, _, _, z⟩
      · right
        refine ⟨4, s, by omega, by omega, ?_, ?_⟩
        · intro cf fp cv
          rw [hC]
          unfold F_X5_takeEvery F_X5_refuse
          rw [if_neg i10]
          simp only [ob]
          rw [chk_pos (by decide)]
          simp only [ob]
          rw [chk_pos (by decide)]
          exact ⟨_, rfl⟩
        · obtain ⟨a, b, z⟩ := rl_every2 (hs := sT) (tp := nI L) (pos := nI e) (bg := nI s) (so := nI 1) (vl := vl) (wr := wr) (d := d) (ta := ta)
          exact ⟨_, _, _, _, _, _, _, z⟩
    · rw [n4]
      simp only [ob]
      right
      refine ⟨2, s, by omega, by omega, ?_, ?_⟩
      · intro cf fp cv
        unfold F_X5_takeLine F_X5_refuse
        rw [if_pos (show nI 1 = 1 from rfl), n1]
        simp only [ob]
        rw [if_pos (by decide), n2]
        simp only [ob]
        rw [if_pos trivial, n3]
        simp only [ob]
        rw [if_pos trivial]
        rw [chk_pos (by decide)]
        exact ⟨_, rfl⟩
      · obtain ⟨a, b, z⟩ := rl_none (hs := sT) (he := eT) (tp := nI L) (pos := nI e) (bg := nI s) (so := nI 1) (vl := vl) (wr := wr) (d := d) (ta := ta)
        exact ⟨_, _, _, _, _, _, _, z⟩
  · have q1 : ¬ nI k = 1 := fun z => c1 ((b_eq k (by omega) 1 (by omega)).1 z)
    rw [if_neg q1]
    right
    refine ⟨2, s, by omega, by omega, ?_, ?_⟩
    · intro cf fp cv
      unfold F_X5_takeLine F_X5_refuse
      rw [if_neg q1]
      simp only [ob]
      rw [chk_pos (by decide)]
      exact ⟨_, rfl⟩
    · obtain ⟨a, b, z⟩ := rl_none (hs := sT) (he := eT) (tp := nI L) (pos := nI e) (bg := nI s) (so := nI k) (vl := vl) (wr := wr) (d := d) (ta := ta)
      exact ⟨_, _, _, _, _, _, _, z⟩
theorem lines_loop (hB : TB8 L by_ ta B) {st0 kp : Nat → Int32} : ∀ (m p fu fu' j P S R : Nat) (sg d : Nat → Int32) (rt : Nat → Rot) (sT eT pos bg so vl fl wr : Int32), L - p < m → m < fu → m < fu' → j ≤ p → p ≤ L → MS L by_ ta p pos bg so vl fl wr → lnS sT eT P S R sg rt d →
    (∃ j' P' S' R' sg' rt' d', DR P' S' R' sg' rt' d' ∧ (∀ fp tk st cv : Int32, ∃ a1 a2 a3 a4 a5 a6 a7, F_X5_takeLines_34 fu (nI L) 0 fp tk st (nI p) cv sT eT by_ 0 0 (nI P) (nI S) (nI R) sg rt (nI j) = some (nI j', 0, a1, a2, a3, a4, a5, a6, a7, 0, 0, nI P', nI S', nI R', sg', rt')) ∧ ∃ hs' he' pos' bg' so' vl' wr', F_X7_text_20 fu' sT eT (nI L) pos bg so vl fl wr st0 kp d ta (nI j) = F_X7_text_44 hs' he' (nI L) pos' bg' so' vl' 0 wr' st0 kp d' ta (nI j')) ∨
    (∃ q w, 1 ≤ q ∧ q ≤ 5 ∧ (∀ fp tk st cv : Int32, ∃ x a, F_X5_takeLines_34 fu (nI L) 0 fp tk st (nI p) cv sT eT by_ 0 0 (nI P) (nI S) (nI R) sg rt (nI j) = some (x, nI q, nI w, a)) ∧ ∃ hs' he' pos' bg' so' vl' d' x', F_X7_text_20 fu' sT eT (nI L) pos bg so vl fl wr st0 kp d ta (nI j) = F_X7_text_44 hs' he' (nI L) pos' bg' so' vl' (nI q) (nI w) st0 kp d' ta x') := by
  have hL := hB.1
  intro m
  induction m with
  | zero => intro p fu fu' j P S R sg d rt sT eT pos bg so vl fl wr h1; omega
  | succ m ih =>
    intro p fu fu' j P S R sg d rt sT eT pos bg so vl fl wr h1 h2 h3 h4 h5 hMS hLS
    obtain ⟨fu, rfl⟩ : ∃ g, fu = g + 1 := ⟨fu - 1, by omega⟩
    obtain ⟨fu', rfl⟩ : ∃ g, fu' = g + 1 := ⟨fu' - 1, by omega⟩
    have c160 : ¬ (160 : Int32) < nI j := by rw [show (160 : Int32) = nI 160 from rfl, nI_ltI (by omega) (by omega)]; omega
    obtain ⟨k, s, e, v, hT, hk⟩ := hMS
    have hT0 := hT
    obtain ⟨⟨t1, t2, t3, t4, t5, -⟩, hc, hm⟩ := hT0
    rcases hk with ⟨hk4, rfl, rfl, rfl, hv, rfl⟩ | ⟨rfl, rfl, rfl⟩
    · by_cases c0 : k = 0
      · subst c0
        left
        refine ⟨j, P, S, R, sg, rt, d, hLS.2.2.2, ?_, ?_⟩
        · intro fp tk st cv
          rw [F_X5_takeLines_34, if_neg c160, (hc 0 fp tk st cv).1 hk4]
          simp only [ob]
          rw [if_neg i10, if_pos (show nI 0 = 0 from rfl)]
          exact ⟨_, _, _, _, _, _, _, rfl⟩
        · rw [F_X7_text_20, if_pos rfl, if_pos (show nI 0 = 0 from rfl)]
          exact ⟨_, _, _, _, _, _, _, rfl⟩
      · have q0 : ¬ nI k = 0 := nI_ne0 (by omega) (by omega)
        rcases line_step hB hT (by omega) hk4 hLS vl wr with ⟨p', sT', eT', P', S', R', sg', rt', d', g1, g2, g3, g4, pos', bg', so', vl', fl', wr', g5, g6⟩ | ⟨q, w, q1, q2, g4, a1, a2, a3, a4, a5, a6, a7, g5⟩
        · rcases ih p' fu fu' (j + 1) P' S' R' sg' d' rt' sT' eT' pos' bg' so' vl' fl' wr' (by omega) (by omega) (by omega) (by omega) g2 g6 g3 with ⟨j', P2, S2, R2, sg2, rt2, d2, l1, l2, hs2, he2, b1, b2, b3, b4, b5, l3⟩ | ⟨q, w, q1, q2, l2, hs2, he2, b1, b2, b3, b4, b5, b6, l3⟩
          · left
            refine ⟨j', P2, S2, R2, sg2, rt2, d2, l1, ?_, hs2, he2, b1, b2, b3, b4, b5, ?_⟩
            · intro fp tk st cv
              obtain ⟨a, b, v', z⟩ := g4 0 fp (if k = 2 then v else cv)
              rw [F_X5_takeLines_34, if_neg c160, (hc 0 fp tk st cv).1 hk4]
              simp only [ob]
              rw [if_neg i10, if_neg q0, z]
              simp only [ob]
              rw [if_neg i10, nI_1]
              exact l2 fp a b v'
            · rw [F_X7_text_20, if_pos rfl, if_neg q0, g5]
              simp only [ob]
              rw [nI_1]
              exact l3
          · right
            refine ⟨q, w, q1, q2, ?_, hs2, he2, b1, b2, b3, b4, b5, b6, ?_⟩
            · intro fp tk st cv
              obtain ⟨a, b, v', z⟩ := g4 0 fp (if k = 2 then v else cv)
              rw [F_X5_takeLines_34, if_neg c160, (hc 0 fp tk st cv).1 hk4]
              simp only [ob]
              rw [if_neg i10, if_neg q0, z]
              simp only [ob]
              rw [if_neg i10, nI_1]
              exact l2 fp a b v'
            · rw [F_X7_text_20, if_pos rfl, if_neg q0, g5]
              simp only [ob]
              rw [nI_1]
              exact l3
        · right
          refine ⟨q, w, q1, q2, ?_, ?_⟩
          · intro fp tk st cv
            obtain ⟨⟨a1, a2, a3, a4, a5, a6, a7, a8, a9, a10, a11⟩, z⟩ := g4 0 fp (if k = 2 then v else cv)
            rw [F_X5_takeLines_34, if_neg c160, (hc 0 fp tk st cv).1 hk4]
            simp only [ob]
            rw [if_neg i10, if_neg q0, z]
            simp only [ob]
            rw [if_pos trivial]
            exact ⟨_, _, rfl⟩
          · obtain ⟨fu', rfl⟩ : ∃ g, fu' = g + 1 := ⟨fu' - 1, by omega⟩
            rw [F_X7_text_20, if_pos rfl, if_neg q0, g5]
            simp only [ob]
            rw [F_X7_text_20, if_neg (nI_ne0 (by omega) (by omega))]
            exact ⟨_, _, _, _, _, _, _, _, rfl⟩
    · right
      refine ⟨1, s, by omega, by omega, ?_, ?_⟩
      · intro fp tk st cv
        obtain ⟨t', e', v', z⟩ := (hc 0 fp tk st cv).2 rfl
        rw [F_X5_takeLines_34, if_neg c160, z]
        simp only [ob]
        rw [if_pos trivial]
        exact ⟨_, _, rfl⟩
      · rw [F_X7_text_20, if_neg i10]
        exact ⟨_, _, _, _, _, _, _, _, rfl⟩
end
theorem text61 {len fl fp tk st nx vl sT eT df dt dp dsn drn : Int32} {by_ dsg : Nat → Int32} {drt : Nat → Rot} {f t p sn rn : Int32} {sg : Nat → Int32} {rt : Nat → Rot} {n k0 k1 x : Int32} : F_X6_text_61 FU len fl fp tk st nx vl sT eT by_ df dt dp dsn drn dsg drt f t p sn rn sg rt n k0 k1 x 0 = some (x, len, fl, fp, tk, st, nx, vl, sT, eT, df, dt, dp, dsn, drn, dsg, drt, f, t, p, sn, rn, sg, rt, n, 0, 0) := by
  obtain ⟨g, hg⟩ : ∃ g, FU = g + 1 + 1 + 1 := ⟨1997, rfl⟩
  rw [hg, F_X6_text_61, if_neg (by decide), chk_pos (by decide), if_pos rfl, F_X6_text_61, if_neg (by decide), chk_pos (by decide), if_neg (by decide), chk_pos (by decide), F_X6_text_61, if_pos (by decide)]
theorem p_text : P_text := by
  intro rf len fl tape_faultPlace tape_token tape_start tape_next tape_value tape_signsTold tape_everyTold by_ dr_f dr_t dr_p dr_sn dr_rn dr_sg dr_rt f t p sn rn sg rt n to wh le k0 f0 t0 p0 sn0 rn0 sg0 rt0 n0 to0 wh0 le0 k1 f1 t1 p1 sn1 rn1 sg1 rt1 n1 to1 wh1 le1 sh m_hasSigns m_hasEvery tp m_pos m_begun m_sort m_value mf m_wrongAt tn st kp m_draft ta la si ce hRel 
  have hRel0 := hRel
  obtain ⟨⟨h1, h1'⟩, hT, hB, hI0, hI1, hSh⟩ := hRel
  obtain ⟨L, hL, rfl, rfl, hb⟩ := hT
  have hB8 : TB8 L by_ ta (fun i => (ta i).toNatClampNeg) := by
    refine ⟨hL, ?_⟩
    intro i hi
    obtain ⟨e1, v, e2, e3⟩ := hb i hi
    have e4 : (ta i).toNatClampNeg = v := by rw [e3, cl_nI (by omega)]
    show by_ i = nI (ta i).toNatClampNeg ∧ ta i = nI (ta i).toNatClampNeg ∧ (ta i).toNatClampNeg < 128
    rw [e4]
    exact ⟨e1.trans e3, e3, e2⟩
  obtain ⟨d, e1, d0, d18⟩ := firstDraftM m_hasSigns m_hasEvery m_draft
  obtain ⟨pos', bg', so', vl', fl', wr', e2, eMS⟩ := reads_MS hB8 (p := 0) (by omega) m_begun m_sort m_value m_wrongAt
  have e2 : F_X7_reads (nI L) 0 m_begun m_sort m_value 0 m_wrongAt ta = _ := e2
  have hLS : lnS 0 0 1 0 0 dr_sg dr_rt d := by
    refine ⟨Or.inl rfl, Or.inl rfl, fun _ => rfl, ⟨by omega, by omega, by omega, by omega⟩, ⟨d0 0 (by omega) (by omega), d0 17 (by omega) (by omega), d18, d0 19 (by omega) (by omega), d0 36 (by omega) (by omega), d0 37 (by omega) (by omega)⟩, fun i hi => absurd hi (by omega), fun r hr => absurd hr (by omega), fun r hr => d0 _ (by omega) (by omega)⟩
  have hS : RT 0 by_ 0 ta := ⟨0, by omega, rfl, rfl, fun i hi => absurd hi (by omega)⟩
  unfold F_X6_text F_X7_text F_X5_takeLines F_X0_clear
  rw [e1]
  simp only [ob]
  rw [e2]
  simp only [ob]
  rcases lines_loop hB8 (st0 := st) (kp := kp) (L + 1) 0 FU FU 0 1 0 0 dr_sg d dr_rt 0 0 pos' bg' so' vl' fl' wr' (by omega) (by unfold FU; omega) (by unfold FU; omega) (by omega) (by omega) eMS hLS with ⟨j', P', S', R', sg', rt', d', hd, l2, hs2, he2, b1, b2, b3, b4, b5, l3⟩ | ⟨q, w, q1, q2, l2, hs2, he2, b1, b2, b3, b4, b5, b6, l3⟩
  · obtain ⟨a1, a2, a3, a4, a5, a6, a7, z⟩ := l2 0 tape_token tape_start tape_value
    have z : F_X5_takeLines_34 FU (nI L) 0 0 tape_token tape_start 0 tape_value 0 0 by_ 0 0 1 0 0 dr_sg dr_rt 0 = _ := z
    have l3 : F_X7_text_20 FU 0 0 (nI L) pos' bg' so' vl' fl' wr' st kp d ta 0 = _ := l3
    obtain ⟨⟨p1, p2, p3, p4⟩, ⟨c0, c17, c18, c19, c36, c37⟩, hs, hr, hw⟩ := hd
    obtain ⟨sg2, rt2, ec, es, er⟩ := copyC p4 f t p sn rn sg rt 0 0 (nI P') (nI S') sg' rt'
    obtain ⟨st', ek, k1', k2'⟩ := keepDraftM st kp d'
    rw [z, l3]
    simp only [ob]
    rw [if_pos trivial, ec]
    simp only [ob]
    rw [text61]
    unfold F_X7_text_44
    rw [if_pos (by decide), ek]
    simp only [ob]
    refine ⟨_, _, _, _, _, _, _, _, _, _, _, _, _, _, _, _, _, _, _, _, _, _, _, _, _, _, _, _, _, _, _, _, _, _, _, _, _, _, _, rfl, rfl, ⟨h1, rfl⟩, hS, ?_, ?_, ?_, hSh⟩
    · refine ⟨0, P', S', R', 0, ⟨by omega, p1, p2, p3, p4, by omega⟩, ⟨rfl, rfl, rfl, rfl, rfl⟩, ⟨(k1' 0 (by omega)).trans c0, (k1' 17 (by omega)).trans c17, (k1' 18 (by omega)).trans c18, (k1' 19 (by omega)).trans c19, (k1' 36 (by omega)).trans c36, (k1' 37 (by omega)).trans c37⟩, ?_, ?_, fun i hi => absurd hi (by omega), by decide⟩
      · intro i hi
        rw [k1' _ (by omega), es i (by omega)]
        exact hs i hi
      · intro r hr'
        obtain ⟨a, b, c, g1, g2, g3, g4, g5, g6, g7⟩ := hr r hr'
        rw [er r hr', g4]
        refine ⟨⟨(k1' _ (by omega)).trans g5, (k1' _ (by omega)).trans g6, (k1' _ (by omega)).trans g7, (k1' _ (by omega)).trans (hw r (by omega))⟩, ⟨a, g1, rfl⟩, ⟨b, g2, rfl⟩, ?_⟩
        show -(30000 + 2 * (0 : Nat) : Int) ≤ (nI c).toInt ∧ (nI c).toInt ≤ 30000 + 2 * (0 : Nat)
        rw [nI_toInt (by omega)]
        omega
    · exact ⟨by rw [upd_off _ _ (by omega), upd_at], Or.inl rfl⟩
    · exact ⟨by rw [upd_at], Or.inl rfl⟩
  · obtain ⟨x, ⟨a1, a2, a3, a4, a5, a6, a7, a8, a9, a10, a11, a12, a13⟩, z⟩ := l2 0 tape_token tape_start tape_value
    have z : F_X5_takeLines_34 FU (nI L) 0 0 tape_token tape_start 0 tape_value 0 0 by_ 0 0 1 0 0 dr_sg dr_rt 0 = _ := z
    have l3 : F_X7_text_20 FU 0 0 (nI L) pos' bg' so' vl' fl' wr' st kp d ta 0 = _ := l3
    rw [z, l3]
    simp only [ob]
    rw [if_neg (nI_ne0 (by omega) (by omega))]
    unfold F_X7_text_44
    rw [if_neg (nI_nle (by omega) (by omega))]
    exact ⟨_, _, _, _, _, _, _, _, _, _, _, _, _, _, _, _, _, _, _, _, _, _, _, _, _, _, _, _, _, _, _, _, _, _, _, _, _, _, _, rfl, rfl, ⟨h1, rfl⟩, hS, hB, hI0, hI1, hSh⟩
