/-! ===== undo, images, both sides ===== -/
section IMG
variable {st wy : Nat} {wg : Bool} {nc : Nat} {r : zA} {A : List zAc} {ss sw sg sp sc sh sv sb rs rw' rg rp rc rh rv rb kept : Int32} {sd sl sm ssh su sws rd rl rm rsh ru rws kinds spots words : Nat → Int32} {rf th tr wh acts : Int32} {past v0 : Nat → Int32}
theorem m_undo (h : zAb st wy wg nc r A) (hc : zCl st wy wg r A ss sw sg sp sc sd sl sm ssh su sws rs rw' rg rp rc rd rl rm rsh ru rws kept kinds spots words) (hM : zMo st wy wg r A acts past v0) (hnc : nc + 1 ≤ 600) :
    ∃ v t ss' sw2 sg' sp' sc' sh' sv' sb' kept' sd' sl' sm' ssh' su' sws' A', fX5_undo rf ss sw sg sp sc sh sv sb kept sd sl sm ssh su sws kinds rs rw' rg rp rc spots words rd rl rm rsh ru rws = some (v, t, ss', sw2, sg', sp', sc', sh', sv', sb', kept', sd', sl', sm', ssh', su', sws') ∧ zAb st wy wg (nc + 1) r A' ∧ zCl st wy wg r A' ss' sw2 sg' sp' sc' sd' sl' sm' ssh' su' sws' rs rw' rg rp rc rd rl rm rsh ru rws kept' kinds spots words ∧
      ∃ acts' v0', fX7_undo th tr wh acts past v0 = some (v, 0, t, -1, acts', v0') ∧ zMo st wy wg r A' acts' past v0' := by
  have h5 := h.2.2.2.2.1
  have hk := hc.2.2.1
  have ha := hM.1.1
  unfold fX5_undo fX0_takeBack fX7_undo
  rcases List.eq_nil_or_concat A with e | ⟨D, z, e⟩
  · have ek : kept = 0 := by rw [hk, e]; rfl
    have ea : acts = 0 := by rw [ha, e]; rfl
    rw [if_neg (show ¬ (1 : Int32) ≤ kept by rw [ek]; decide), Option.bind_some, if_pos rfl, if_pos ea]
    unfold fX7_denied fX7_refused
    rw [Option.bind_some, Option.bind_some, zbl_n0]
    exact ⟨_, _, _, _, _, _, _, _, _, _, _, _, _, _, _, _, _, A, rfl, zAb_mono h hnc, hc, _, _, rfl, hM⟩
  · have e : A = D ++ [z] := by simpa using e
    have hlen : A.length = D.length + 1 := by rw [e]; simp
    have hDA : D <+: A := ⟨[z], e.symm⟩
    have htk : A.take D.length = D := by rw [e]; simp
    obtain ⟨h1, h2, h3, h4, h5', h6, h7⟩ := h
    obtain ⟨r1, r2, r3, r4, r5, r6⟩ := hc.2.1
    obtain ⟨d, la, m, sh2, u, ws, g1, g2⟩ := pX3_copyOf (st := rs) (wy := rw') (cl := rc) (wg := wg) (pl := false) (s1 := ss) (s2 := sw) (s3 := sg) (s4 := sp) (s5 := sc) (s6 := sh) (s7 := sv) (s8 := sb) (used' := su) (last' := sl) (shape' := ssh) (dirty' := sd) (memory' := sm) (words' := sws) r6
    rw [← r3, ← r4] at g1
    obtain ⟨sh', sv', sb', sd', sl', sm', ssh', su', sws', k1, k2⟩ := pX0_take_loop h1 hc.2.1 h4 hc.2.2.2 h5' hDA D [] zF r 0 0 0 d la m sh2 u ws rfl (zF_gt (by omega)) h2 h3 (by omega) g2
    rw [← r1, ← r2, ← r3, ← r4, ← r5] at k1
    obtain ⟨y, q1, q2⟩ := pX7_undo_loop (past := past) (q := D.length) (th := 0) (tr := tr) (wh := wh) (by omega) 609 zF 0 v0 (by omega) (zF_gt (by omega)) (fun j hj => by omega)
    have c1 : (1 : Int32) ≤ kept := by rw [hk, hlen]; exact nI_le (a := 1) (b := D.length + 1) (by omega) (by omega)
    have c2 : kept - 1 = nI D.length := by rw [hk, hlen]; exact nI_pred _
    have c3 : ¬ acts = 0 := by rw [ha, hlen]; exact nI_ne0 (by omega) (by omega)
    have c4 : acts - 1 = nI D.length := by rw [ha, hlen]; exact nI_pred _
    rw [show nI ([] : List zAc).length = (0 : Int32) from rfl] at k1
    rw [show nI 0 = (0 : Int32) from rfl] at q1
    rw [if_pos c1, zlet_e, g1, Option.bind_some, c2]
    rw [k1, Option.bind_some, if_neg (show ¬ (1 : Int32) = 0 by decide), if_neg c3, zlet_e, c4, q1]
    have hx : zRX (aActs (mkK st wy wg false) r D) y := by
      have := hM.1.2 D.length (by omega)
      rw [htk] at this
      exact zRX_cg this (fun j hj => q2 j hj)
    refine ⟨_, _, _, _, _, _, _, _, _, _, _, _, _, _, _, _, _, D, rfl, ⟨h1, h2, h3, fun w hw => h4 w (hDA.subset hw), by omega, by omega, hnc⟩, ⟨⟨r1, r2, r3, r4, rfl, k2⟩, hc.2.1, rfl, fun i w hw => hc.2.2.2 i w ?_⟩, _, _, rfl, ⟨⟨rfl, fun i hi => ?_⟩, hx⟩⟩
    · have hi := (List.getElem?_eq_some_iff.mp hw).1
      rw [e, List.getElem?_append_left hi]
      exact hw
    · have := hM.1.2 i (by omega)
      rw [e, List.take_append_of_le_length (by omega)] at this
      exact this
/-- images -/
def zIok (st wy : Nat) (wg : Bool) (nc : Nat) (I : List zA) : Prop := I.length ≤ 3 ∧ ∀ b ∈ I, zIA 10000 b ∧ zIT (mkK st wy wg false) b ∧ aC b ≤ nc
def zMi (I : List zA) (images : Int32) (kp : Nat → Int32) : Prop := images = nI I.length ∧ ∀ i b, I[i]? = some b → zRX b (fun j => kp (609 * i + j))
variable {I : List zA} {imaged images : Int32} {kp : Nat → Int32}
theorem m_imageR (h3 : I.length = 3) (hi : imaged = nI I.length) (hm : zMi I images kp) : fX5_imageR 1 imaged rf = some (-1, 3) ∧ fX7_image th tr wh images kp v0 = some (-1, 0, 3, -1, images, kp) := by
  unfold fX5_imageR fX7_image
  rw [if_neg (show ¬ (1 : Int32) = 0 by decide), if_neg (show ¬ imaged < 3 by rw [hi, h3]; decide), if_pos (show images = 3 by rw [hm.1, h3]; rfl)]
  exact ⟨rfl, rfl⟩
theorem m_image_m (hl : I.length < 3) (hm : zMi I images kp) {a : zA} (hX : zRX a v0) : ∃ kp', fX7_image th tr wh images kp v0 = some (nI I.length, 0, 0, -1, nI (I.length + 1), kp') ∧ zMi (I ++ [a]) (nI (I.length + 1)) kp' := by
  unfold fX7_image
  rw [if_neg (show ¬ images = 3 by rw [hm.1]; exact fun z => by have := (nI_eq (a := I.length) (b := 3) (by omega) (by omega)).mp z; omega)]
  obtain ⟨kp', f1, f2⟩ := pX7_image_loop (q := I.length) (v0 := v0) (th := 0) (tr := tr) (wh := wh) hl kp 609 zF 0 kp (by omega) (zF_gt (by omega)) (fun j => by rw [if_neg (by omega)])
  rw [show nI 0 = (0 : Int32) from rfl] at f1
  rw [hm.1, f1]
  refine ⟨kp', rfl, by simp, fun i b hb => ?_⟩
  by_cases c : i < I.length
  · rw [List.getElem?_append_left c] at hb
    refine zRX_cg (hm.2 i b hb) (fun j hj => ?_)
    show kp' (609 * i + j) = kp (609 * i + j)
    rw [f2, if_neg (by omega)]
  · rw [List.getElem?_append_right (by omega)] at hb
    have : i - I.length = 0 := by
      have := (List.getElem?_eq_some_iff.mp hb).1
      simp at this; omega
    rw [this] at hb
    cases hb
    refine zRX_cg hX (fun j hj => ?_)
    show kp' (609 * i + j) = v0 j
    rw [f2, if_pos (by omega), show 609 * i + j - 609 * I.length = j by omega]
theorem m_imageA (hl : I.length < 3) (hi : imaged = nI I.length) {a : zA} (hn : zSt st wy wg a ss sw sg sp sc sd sl sm ssh su sws) :
    ∃ is iw ig ip ic ih iv ib id' il im ish iu iws, fX5_imageA 1 imaged rf ss sw sg sp sc sd sl sm ssh su sws = some (nI I.length, nI (I.length + 1), 0, is, iw, ig, ip, ic, ih, iv, ib, id', il, im, ish, iu, iws) ∧ zSt st wy wg a is iw ig ip ic id' il im ish iu iws := by
  obtain ⟨n1, n2, n3, n4, n5, n6⟩ := hn
  obtain ⟨d, la, m, sh2, u, ws, g1, g2⟩ := pX3_copyOf (st := ss) (wy := sw) (cl := sc) (wg := wg) (pl := false) (s1 := 1) (s2 := 1) (s3 := 0) (s4 := 0) (s5 := 0) (s6 := 0) (s7 := 0) (s8 := 0) (used' := fun _ => 0) (last' := fun _ => 0) (shape' := fun _ => 0) (dirty' := fun _ => 0) (memory' := fun _ => 0) (words' := fun _ => 0) n6
  rw [← n3, ← n4] at g1
  unfold fX5_imageA
  rw [if_neg (show ¬ (1 : Int32) = 0 by decide), if_pos (show imaged < 3 by rw [hi]; exact nI_lt (a := I.length) (b := 3) hl (by omega)), hi, zald_n hl (by omega), zald_n hl (by omega), g1, Option.bind_some, zlet_e, zlet_e, show nI I.length + 1 = nI (I.length + 1) from nI_1 _, show nI (I.length + 1) - 1 = nI I.length from nI_pred _]
  exact ⟨_, _, _, _, _, _, _, _, _, _, _, _, _, _, rfl, ⟨n1, n2, n3, n4, n5, g2⟩⟩
theorem m_imageB (hl : I.length < 3) (hi : imaged = nI I.length) {a : zA} (hn : zSt st wy wg a ss sw sg sp sc sd sl sm ssh su sws) {j1 j2 j3 j4 j5 j6 j7 j8 : Int32} {k1 k2 k3 k4 k5 k6 : Nat → Int32} :
    ∃ is iw ig ip ic ih iv ib id' il im ish iu iws, fX5_imageB 1 imaged rf j1 j2 j3 j4 j5 j6 j7 j8 k1 k2 k3 k4 k5 k6 ss sw sg sp sc sd sl sm ssh su sws = some (nI I.length, nI (I.length + 1), 0, is, iw, ig, ip, ic, ih, iv, ib, id', il, im, ish, iu, iws) ∧ zSt st wy wg a is iw ig ip ic id' il im ish iu iws := by
  obtain ⟨n1, n2, n3, n4, n5, n6⟩ := hn
  obtain ⟨d, la, m, sh2, u, ws, g1, g2⟩ := pX3_copyOf (st := ss) (wy := sw) (cl := sc) (wg := wg) (pl := false) (s1 := j1) (s2 := j2) (s3 := j3) (s4 := j4) (s5 := j5) (s6 := j6) (s7 := j7) (s8 := j8) (used' := k5) (last' := k2) (shape' := k4) (dirty' := k1) (memory' := k3) (words' := k6) n6
  rw [← n3, ← n4] at g1
  unfold fX5_imageB
  rw [if_neg (show ¬ (1 : Int32) = 0 by decide), if_pos (show imaged < 3 by rw [hi]; exact nI_lt (a := I.length) (b := 3) hl (by omega)), hi, zald_n hl (by omega), zald_n hl (by omega), g1, Option.bind_some, zlet_e, zlet_e, show nI I.length + 1 = nI (I.length + 1) from nI_1 _, show nI (I.length + 1) - 1 = nI I.length from nI_pred _]
  exact ⟨_, _, _, _, _, _, _, _, _, _, _, _, _, _, rfl, ⟨n1, n2, n3, n4, n5, g2⟩⟩
theorem m_backR (h3 : I.length ≤ 3) (hi : imaged = nI I.length) (hm : zMi I images kp) {a1 : Int32} (ha : ¬ ∃ q, q < I.length ∧ a1 = nI q) : fX5_backR imaged rf a1 = some (0, 1) ∧ fX7_back th tr wh acts images kp v0 a1 = some (0, 0, 1, -1, acts, v0) := by
  have hd : fX7_back_24 images kp 0 tr wh acts v0 = some (0, 0, 1, -1, acts, v0) := by
    unfold fX7_back_24 fX7_denied fX7_refused
    rw [Option.bind_some, Option.bind_some, zbl_n0]
  unfold fX5_backR fX7_back
  rcases pk_ix a1 (n := I.length) (by omega) with q | q | ⟨k, hk, e⟩
  · rw [if_pos q, if_pos q]; exact ⟨rfl, hd⟩
  · by_cases c : a1 < 0
    · rw [if_pos c, if_pos c]; exact ⟨rfl, hd⟩
    · rw [if_neg c, if_neg c, if_pos (by rw [hi]; exact q), if_neg (by rw [hm.1]; exact Int32.not_lt.mpr q)]; exact ⟨rfl, hd⟩
  · exact absurd ⟨k, hk, e⟩ ha
theorem m_backB (hI : zIok st wy wg nc I) (hnc : nc + 1 ≤ 600) (hsw : zSW st wy) (hi : imaged = nI I.length) (hm : zMi I images kp) {q : Nat} {b : zA} (hb : I[q]? = some b) {is iw ig ip ic : Int32} {id' il im ish iu iws : Nat → Int32} (hS : zSt st wy wg b is iw ig ip ic id' il im ish iu iws) :
    ∃ ss' sw2 sg' sp' sc' sh' sv' sb' kept' sd' sl' sm' ssh' su' sws' rs' rw2 rg' rp' rc' rh' rv' rb' rd' rl' rm' rsh' ru' rws', fX5_backB imaged rf is iw ig ip ic id' il im ish iu iws ss sw sg sp sc sh sv sb kept sd sl sm ssh su sws rs rw' rg rp rc rh rv rb rd rl rm rsh ru rws (nI q) = some (1, 0, ss', sw2, sg', sp', sc', sh', sv', sb', kept', sd', sl', sm', ssh', su', sws', rs', rw2, rg', rp', rc', rh', rv', rb', rd', rl', rm', rsh', ru', rws') ∧ zAb st wy wg (nc + 1) b [] ∧ (∀ kinds spots words : Nat → Int32, zCl st wy wg b [] ss' sw2 sg' sp' sc' sd' sl' sm' ssh' su' sws' rs' rw2 rg' rp' rc' rd' rl' rm' rsh' ru' rws' kept' kinds spots words) ∧
      ∃ v0', fX7_back th tr wh acts images kp v0 (nI q) = some (1, 0, 0, -1, 0, v0') ∧ ∀ past, zMo st wy wg b [] 0 past v0' := by
  have hq : q < I.length := (List.getElem?_eq_some_iff.mp hb).1
  have h3 := hI.1
  obtain ⟨b1, b2, b3⟩ := hI.2 b (List.mem_of_getElem? hb)
  obtain ⟨n1, n2, n3, n4, n5, n6⟩ := hS
  obtain ⟨d, la, m, sh2, u, ws, g1, g2⟩ := pX3_copyOf (st := is) (wy := iw) (cl := ic) (wg := wg) (pl := false) (s1 := ss) (s2 := sw) (s3 := sg) (s4 := sp) (s5 := sc) (s6 := sh) (s7 := sv) (s8 := sb) (used' := su) (last' := sl) (shape' := ssh) (dirty' := sd) (memory' := sm) (words' := sws) n6
  obtain ⟨d2, la2, m2, sh22, u2, ws2, g3, g4⟩ := pX3_copyOf (st := is) (wy := iw) (cl := ic) (wg := wg) (pl := false) (s1 := rs) (s2 := rw') (s3 := rg) (s4 := rp) (s5 := rc) (s6 := rh) (s7 := rv) (s8 := rb) (used' := ru) (last' := rl) (shape' := rsh) (dirty' := rd) (memory' := rm) (words' := rws) g2
  rw [← n3, ← n4] at g1 g3
  obtain ⟨y, q1, q2⟩ := pX7_back_loop (kept := kp) (q := q) (im := images) (th := 0) (tr := tr) (wh := wh) (ac := acts) (by omega) 609 zF 0 v0 (by omega) (zF_gt (by omega)) (fun j hj => by omega)
  rw [show nI 0 = (0 : Int32) from rfl] at q1
  unfold fX5_backB fX7_back fX0_forgetAll
  rw [if_neg (nI_pos (by omega)), if_neg (show ¬ imaged ≤ nI q by rw [hi]; exact nI_ge hq (by omega)), if_neg (show ¬ (3 : Int32) ≤ nI q from nI_ge (a := q) (b := 3) (by omega) (by omega)), zald_n (by omega) (by omega), zald_n (by omega) (by omega), g1, Option.bind_some]
  rw [g3, Option.bind_some, if_neg (nI_pos (by omega)), if_pos (show nI q < images by rw [hm.1]; exact nI_lt hq (by omega)), q1]
  exact ⟨_, _, _, _, _, _, _, _, _, _, _, _, _, _, _, _, _, _, _, _, _, _, _, _, _, _, _, _, _, rfl, ⟨hsw, b1, b2, (fun x hx => by cases hx), (by simp), (by show aC b + 0 ≤ nc + 1; omega), hnc⟩, fun kinds spots words => ⟨⟨n1, n2, n3, n4, n5, g2⟩, ⟨n1, n2, n3, n4, n5, g4⟩, rfl, fun i x hx => by simp at hx⟩, _, rfl, fun past => ⟨⟨rfl, fun i hi => by simp at hi⟩, zRX_cg (hm.2 q b hb) (fun j hj => q2 j hj)⟩⟩
end IMG
