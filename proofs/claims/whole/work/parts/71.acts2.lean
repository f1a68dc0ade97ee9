/-! ===== the acts, both sides ===== -/
theorem zAb_mono {st wy : Nat} {wg : Bool} {nc : Nat} {r : zA} {A : List zAc} (h : zAb st wy wg nc r A) (hn : nc + 1 ≤ 600) : zAb st wy wg (nc + 1) r A := by
  obtain ⟨h1, h2, h3, h4, h5, h6, h7⟩ := h
  exact ⟨h1, h2, h3, h4, h5, by omega, hn⟩
/-- the class: now, root, acts -/
def zCl (st wy : Nat) (wg : Bool) (r : zA) (A : List zAc) (ss sw sg sp sc : Int32) (sd sl sm ssh su sws : Nat → Int32) (rs rw' rg rp rc : Int32) (rd rl rm rsh ru rws : Nat → Int32) (kept : Int32) (kinds spots words : Nat → Int32) : Prop :=
  zSt st wy wg (aActs (mkK st wy wg false) r A) ss sw sg sp sc sd sl sm ssh su sws ∧ zSt st wy wg r rs rw' rg rp rc rd rl rm rsh ru rws ∧ zPs A kept kinds spots words
/-- the model: states kept, now -/
def zMo (st wy : Nat) (wg : Bool) (r : zA) (A : List zAc) (acts : Int32) (past v0 : Nat → Int32) : Prop := zMp (mkK st wy wg false) r A acts past ∧ zRX (aActs (mkK st wy wg false) r A) v0
section ACTS
variable {st wy : Nat} {wg : Bool} {nc : Nat} {r : zA} {A : List zAc} {ss sw sg sp sc sh sv sb rs rw' rg rp rc rh rv rb kept : Int32} {sd sl sm ssh su sws rd rl rm rsh ru rws kinds spots words : Nat → Int32} {rf th tr wh acts s1 s2 s3 s4 : Int32} {od past v0 x : Nat → Int32}
theorem zCl_next (h : zAb st wy wg nc r A) (hc : zCl st wy wg r A ss sw sg sp sc sd sl sm ssh su sws rs rw' rg rp rc rd rl rm rsh ru rws kept kinds spots words) {y : zAc} (hy : zXok y) (hnc : nc + 1 ≤ 600) :
    ∃ kept' sc' sh' sv' sb' sd' sl' sm' ssh' su' sws' kinds' rc' rh' rv' rb' spots' words' rd' rl' rm' rsh' ru' rws', fX0_doNext kept ss sw sg sp sc sh sv sb sd sl sm ssh su sws kinds rs rw' rg rp rc rh rv rb spots words rd rl rm rsh ru rws (nI y.1) (nI y.2.1) (zov (-1) y.2.2) = some (kept', sc', sh', sv', sb', sd', sl', sm', ssh', su', sws', kinds', rc', rh', rv', rb', spots', words', rd', rl', rm', rsh', ru', rws') ∧
      zCl st wy wg (zNx (mkK st wy wg false) r A y).1 (zNx (mkK st wy wg false) r A y).2 ss sw sg sp sc' sd' sl' sm' ssh' su' sws' rs rw' rg rp rc' rd' rl' rm' rsh' ru' rws' kept' kinds' spots' words' := by
  obtain ⟨kept', sc', sh', sv', sb', sd', sl', sm', ssh', su', sws', kinds', rc', rh', rv', rb', spots', words', rd', rl', rm', rsh', ru', rws', f1, f2, f3, f4⟩ := pX0_doNext (sh := sh) (sv := sv) (sb := sb) (rh := rh) (rv := rv) (rb := rb) h hc.1 hc.2.1 hc.2.2 hy hnc
  refine ⟨kept', sc', sh', sv', sb', sd', sl', sm', ssh', su', sws', kinds', rc', rh', rv', rb', spots', words', rd', rl', rm', rsh', ru', rws', f1, ?_, f3, f4⟩
  rw [zNx_now]
  exact f2
theorem pX7_done {a : zA} {y : Nat → Int32} (hy : zRX a y) (v : Int32) : ∃ v0', fX7_done tr wh v0 y v = some (v, 0, -1, v0') ∧ zRX a v0' := by
  obtain ⟨v0', e1, e2⟩ := pX7_remains (v0 := v0) hy
  unfold fX7_done fX7_good
  rw [e1, Option.bind_some, Option.bind_some]
  exact ⟨v0', rfl, e2⟩
theorem m_read (h : zAb st wy wg nc r A) (hc : zCl st wy wg r A ss sw sg sp sc sd sl sm ssh su sws rs rw' rg rp rc rd rl rm rsh ru rws kept kinds spots words) (hM : zMo st wy wg r A acts past v0) (hnc : nc + 1 ≤ 600) (a1 : Int32) (a2 : Int32) :
    ∃ v t sc' sh' sv' sb' kept' sd' sl' sm' ssh' su' sws' kinds' rc' rh' rv' rb' spots' words' rd' rl' rm' rsh' ru' rws' r' A', fX5_read 1 rf ss sw sg sp sc sh sv sb kept sd sl sm ssh su sws kinds rs rw' rg rp rc rh rv rb spots words rd rl rm rsh ru rws a1 a2 = some (v, t, sc', sh', sv', sb', kept', sd', sl', sm', ssh', su', sws', kinds', rc', rh', rv', rb', spots', words', rd', rl', rm', rsh', ru', rws') ∧ zAb st wy wg (nc + 1) r' A' ∧ zCl st wy wg r' A' ss sw sg sp sc' sd' sl' sm' ssh' su' sws' rs rw' rg rp rc' rd' rl' rm' rsh' ru' rws' kept' kinds' spots' words' ∧
      ∃ acts' w' v2' b' o' od' past' v0' x', fX7_read th tr wh acts s1 s2 s3 s4 (nI st) (nI wy) (nI (zbn wg)) od past v0 x a1 a2 = some (v, 0, t, -1, acts', w', v2', b', o', od', past', v0', x') ∧ zMo st wy wg r' A' acts' past' v0' := by
  obtain ⟨i1, i2, i3⟩ := zAb_now h
  have hsw := h.1
  unfold fX5_read fX7_read
  rcases zPl a1 a2 with ⟨h1, h2⟩ | ⟨l, i, hl, hi, e1, e2, h1, h2⟩
  · rw [h1, h2, Option.bind_some, Option.bind_some, if_pos rfl, if_pos rfl]
    exact ⟨_, _, _, _, _, _, _, _, _, _, _, _, _, _, _, _, _, _, _, _, _, _, _, _, _, _, r, A, rfl, zAb_mono h hnc, hc, _, _, _, _, _, _, _, _, _, rfl, hM⟩
  · have hxo : zXok (0, l * 8 + i, none) := ⟨Nat.le_of_ble_eq_true rfl, by show l * 8 + i < 256; omega, fun w z => by cases z⟩
    obtain ⟨kept', sc', sh', sv', sb', sd', sl', sm', ssh', su', sws', kinds', rc', rh', rv', rb', spots', words', rd', rl', rm', rsh', ru', rws', f1, f2⟩ := zCl_next (y := (0, l * 8 + i, none)) (sh := sh) (sv := sv) (sb := sb) (rh := rh) (rv := rv) (rb := rb) h hc hxo hnc
    obtain ⟨acts', past', y, g1, g2, g3⟩ := pX7_remembers (cw := nI wy) (s1 := s1) (s2 := s2) (s3 := s3) (x := x) h hM.1 hM.2 (0, l * 8 + i, none)
    obtain ⟨o2, od2, y2, k1, k2, k3⟩ := pX7_uses (wg := wg) (v := 0) (b := 0) (o := s4) (od := od) hsw hl i1 (by omega) g2 i2
    have hnow : aActs (mkK st wy wg false) (zNx (mkK st wy wg false) r A (0, l * 8 + i, none)).1 (zNx (mkK st wy wg false) r A (0, l * 8 + i, none)).2 = aTk (aMiss (mkK st wy wg false) (aActs (mkK st wy wg false) r A) l 0 0).1 l := by
      rw [zNx_now]
      show aTk (aMiss (mkK st wy wg false) (aActs (mkK st wy wg false) r A) ((l * 8 + i) / 8) 0 0).1 ((l * 8 + i) / 8) = _
      rw [show (l * 8 + i) / 8 = l by omega]
    have hw := (f2.1.2.2.2.2.2.2 (l * 8 + i) (by omega)).2
    rw [hnow] at hw
    obtain ⟨v0', n1, n2⟩ := pX7_done (tr := tr) (wh := wh) (v0 := v0) k2 (aLw (aTk (aMiss (mkK st wy wg false) (aActs (mkK st wy wg false) r A) l 0 0).1 l) l i)
    rw [show nI 0 = (0 : Int32) from rfl] at k1
    rw [show nI ((0, l * 8 + i, none) : zAc).1 = 0 from rfl, show zov (-1) ((0, l * 8 + i, none) : zAc).2.2 = -1 from rfl, show ((0, l * 8 + i, none) : zAc).2.1 = l * 8 + i from rfl] at f1
    rw [h1, h2, Option.bind_some, Option.bind_some, if_neg (show ¬ (1 : Int32) = 0 by decide), if_neg (show ¬ (1 : Int32) = 0 by decide), e1, e2, zlet_e, zlet_e, show nI l * 8 = nI (l * 8) from pk_mul l 8, nI_add, f1, Option.bind_some, zlet_e, zlet_e, nI_add, zald_n (f := sws') (by omega) (by omega), hw, g1, Option.bind_some]
    rw [k1, Option.bind_some]
    rw [pX7_word hl (zRX_W k3 k2 hl) hi, Option.bind_some, n1, Option.bind_some]
    exact ⟨_, _, _, _, _, _, _, _, _, _, _, _, _, _, _, _, _, _, _, _, _, _, _, _, _, _, _, _, rfl, zNx_ok h hxo hnc, f2, _, _, _, _, _, _, _, _, _, rfl, ⟨g3, by rw [hnow]; exact n2⟩⟩
theorem m_write (h : zAb st wy wg nc r A) (hc : zCl st wy wg r A ss sw sg sp sc sd sl sm ssh su sws rs rw' rg rp rc rd rl rm rsh ru rws kept kinds spots words) (hM : zMo st wy wg r A acts past v0) (hnc : nc + 1 ≤ 600) (a1 : Int32) (a2 : Int32) (a3 : Int32) :
    ∃ v t sc' sh' sv' sb' kept' sd' sl' sm' ssh' su' sws' kinds' rc' rh' rv' rb' spots' words' rd' rl' rm' rsh' ru' rws' r' A', fX5_write 1 rf ss sw sg sp sc sh sv sb kept sd sl sm ssh su sws kinds rs rw' rg rp rc rh rv rb spots words rd rl rm rsh ru rws a1 a2 a3 = some (v, t, sc', sh', sv', sb', kept', sd', sl', sm', ssh', su', sws', kinds', rc', rh', rv', rb', spots', words', rd', rl', rm', rsh', ru', rws') ∧ zAb st wy wg (nc + 1) r' A' ∧ zCl st wy wg r' A' ss sw sg sp sc' sd' sl' sm' ssh' su' sws' rs rw' rg rp rc' rd' rl' rm' rsh' ru' rws' kept' kinds' spots' words' ∧
      ∃ acts' w' v2' b' o' od' past' v0' x', fX7_write th tr wh acts s1 s2 s3 s4 (nI st) (nI wy) (nI (zbn wg)) od past v0 x a1 a2 a3 = some (v, 0, t, -1, acts', w', v2', b', o', od', past', v0', x') ∧ zMo st wy wg r' A' acts' past' v0' := by
  obtain ⟨i1, i2, i3⟩ := zAb_now h
  have hsw := h.1
  unfold fX5_write fX7_write
  rcases zPl a1 a2 with ⟨h1, h2⟩ | ⟨l, i, hl, hi, e1, e2, h1, h2⟩
  · rw [h1, h2, Option.bind_some, Option.bind_some, if_pos rfl, if_pos rfl]
    exact ⟨_, _, _, _, _, _, _, _, _, _, _, _, _, _, _, _, _, _, _, _, _, _, _, _, _, _, r, A, rfl, zAb_mono h hnc, hc, _, _, _, _, _, _, _, _, _, rfl, hM⟩
  · rw [h1, h2, Option.bind_some, Option.bind_some, if_neg (show ¬ (1 : Int32) = 0 by decide), if_neg (show ¬ (1 : Int32) = 0 by decide)]
    rcases qWd a3 with ⟨h3, h4⟩ | ⟨w, hw, e3, h3, h4⟩
    · rw [h3, h4, Option.bind_some, Option.bind_some, if_pos rfl, if_pos rfl]
      exact ⟨_, _, _, _, _, _, _, _, _, _, _, _, _, _, _, _, _, _, _, _, _, _, _, _, _, _, r, A, rfl, zAb_mono h hnc, hc, _, _, _, _, _, _, _, _, _, rfl, hM⟩
    · have hxo : zXok (1, l * 8 + i, some w) := ⟨Nat.le_of_ble_eq_true rfl, by show l * 8 + i < 256; omega, fun w z => by cases z; exact hw⟩
      obtain ⟨kept', sc', sh', sv', sb', sd', sl', sm', ssh', su', sws', kinds', rc', rh', rv', rb', spots', words', rd', rl', rm', rsh', ru', rws', f1, f2⟩ := zCl_next (y := (1, l * 8 + i, some w)) (sh := sh) (sv := sv) (sb := sb) (rh := rh) (rv := rv) (rb := rb) h hc hxo hnc
      obtain ⟨acts', past', y, g1, g2, g3⟩ := pX7_remembers (cw := nI wy) (s1 := s1) (s2 := s2) (s3 := s3) (x := x) h hM.1 hM.2 (1, l * 8 + i, some w)
      obtain ⟨o2, od2, y2, k1, k2⟩ := pX7_puts (wg := wg) (sp := l * 8 + i) (w := w) (v := 0) (b := 0) (o := s4) (od := od) hsw (by omega) hw i1 (by omega) g2 i2
      have hi' := aUse_I (k := mkK st wy wg false) (sp := l * 8 + i) (wo := some w) (v := 0) (b := 0) (by omega) i1 (by omega) (fun w' z => by cases z; exact hw)
      have hnow : aActs (mkK st wy wg false) (zNx (mkK st wy wg false) r A (1, l * 8 + i, some w)).1 (zNx (mkK st wy wg false) r A (1, l * 8 + i, some w)).2 = (aUse (mkK st wy wg false) (aActs (mkK st wy wg false) r A) (l * 8 + i) (some w) 0 0).1 := by
        rw [zNx_now]
        rfl
      have hu : 0 < aU (aUse (mkK st wy wg false) (aActs (mkK st wy wg false) r A) (l * 8 + i) (some w) 0 0).1 l := by
        have e8 : (l * 8 + i) / 8 = l := by omega
        have : aU (aUse (mkK st wy wg false) (aActs (mkK st wy wg false) r A) (l * 8 + i) (some w) 0 0).1 ((l * 8 + i) / 8) = aU (aTk (aMiss (mkK st wy wg false) (aActs (mkK st wy wg false) r A) ((l * 8 + i) / 8) 0 0).1 ((l * 8 + i) / 8)) ((l * 8 + i) / 8) := aMr_U
        rw [e8] at this
        rw [this]
        show 0 < nup _ _ _ _
        unfold nup
        rw [if_pos rfl]
        omega
      have hsh := ((f2.1.2.2.2.2.2.1 l hl).2.2 (by rw [hnow]; exact hu)).2
      rw [hnow] at hsh
      obtain ⟨v0', n1, n2⟩ := pX7_done (tr := tr) (wh := wh) (v0 := v0) k2 (nI (zform (aLw (aUse (mkK st wy wg false) (aActs (mkK st wy wg false) r A) (l * 8 + i) (some w) 0 0).1 l)))
      rw [show (l * 8 + i) / 8 = l by omega, show (l * 8 + i) % 8 = i by omega, show nI 0 = (0 : Int32) from rfl] at k1
      rw [show nI ((1, l * 8 + i, some w) : zAc).1 = 1 from rfl, show zov (-1) ((1, l * 8 + i, some w) : zAc).2.2 = nI w from rfl, show ((1, l * 8 + i, some w) : zAc).2.1 = l * 8 + i from rfl] at f1
      rw [h3, h4, Option.bind_some, Option.bind_some, if_neg (show ¬ (1 : Int32) = 0 by decide), if_neg (show ¬ (1 : Int32) = 0 by decide), e1, e2, e3, zlet_e, zlet_e, show nI l * 8 = nI (l * 8) from pk_mul l 8, nI_add, f1, Option.bind_some, zald_n (f := ssh') hl (by omega), hsh, show kF (mkK st wy wg false) (aLw (aUse (mkK st wy wg false) (aActs (mkK st wy wg false) r A) (l * 8 + i) (some w) 0 0).1 l) = zform (aLw (aUse (mkK st wy wg false) (aActs (mkK st wy wg false) r A) (l * 8 + i) (some w) 0 0).1 l) from rfl, g1, Option.bind_some]
      rw [k1, Option.bind_some]
      rw [pX7_formOf hl (zRX_W hi'.1 k2 hl), Option.bind_some, n1, Option.bind_some]
      exact ⟨_, _, _, _, _, _, _, _, _, _, _, _, _, _, _, _, _, _, _, _, _, _, _, _, _, _, _, _, rfl, zNx_ok h hxo hnc, f2, _, _, _, _, _, _, _, _, _, rfl, ⟨g3, by rw [hnow]; exact n2⟩⟩
theorem m_drop (h : zAb st wy wg nc r A) (hc : zCl st wy wg r A ss sw sg sp sc sd sl sm ssh su sws rs rw' rg rp rc rd rl rm rsh ru rws kept kinds spots words) (hM : zMo st wy wg r A acts past v0) (hnc : nc + 1 ≤ 600) (a1 : Int32) :
    ∃ v t sc' sh' sv' sb' kept' sd' sl' sm' ssh' su' sws' kinds' rc' rh' rv' rb' spots' words' rd' rl' rm' rsh' ru' rws' r' A', fX5_drop 1 rf ss sw sg sp sc sh sv sb kept sd sl sm ssh su sws kinds rs rw' rg rp rc rh rv rb spots words rd rl rm rsh ru rws a1 = some (v, t, sc', sh', sv', sb', kept', sd', sl', sm', ssh', su', sws', kinds', rc', rh', rv', rb', spots', words', rd', rl', rm', rsh', ru', rws') ∧ zAb st wy wg (nc + 1) r' A' ∧ zCl st wy wg r' A' ss sw sg sp sc' sd' sl' sm' ssh' su' sws' rs rw' rg rp rc' rd' rl' rm' rsh' ru' rws' kept' kinds' spots' words' ∧
      ∃ acts' w' v2' b' past' v0' x', fX7_drop th tr wh acts s1 s2 s3 (nI wy) past v0 x a1 = some (v, 0, t, -1, acts', w', v2', b', past', v0', x') ∧ zMo st wy wg r' A' acts' past' v0' := by
  obtain ⟨i1, i2, i3⟩ := zAb_now h
  have hsw := h.1
  unfold fX5_drop fX7_drop
  rcases qLn a1 with ⟨h1, h2⟩ | ⟨l, hl, e1, h1, h2⟩
  · rw [h1, h2, Option.bind_some, Option.bind_some, if_pos rfl, if_pos rfl]
    exact ⟨_, _, _, _, _, _, _, _, _, _, _, _, _, _, _, _, _, _, _, _, _, _, _, _, _, _, r, A, rfl, zAb_mono h hnc, hc, _, _, _, _, _, _, _, rfl, hM⟩
  · have hb := (i1.1 l hl).2.2.2.1
    have hB := i1.2.2.2
    have hd := (i1.1 l hl).1
    rw [h1, h2, Option.bind_some, Option.bind_some, if_neg (show ¬ (1 : Int32) = 0 by decide), if_neg (show ¬ (1 : Int32) = 0 by decide), e1, zald_n (f := su) hl (by omega), zlet_e, show (512 : Int32) + nI l = nI (512 + l) from nI_add 512 l, zald_n (f := v0) (by omega) (by omega), (hc.1.2.2.2.2.2.1 l hl).1, (hM.2.1 l hl).1]
    by_cases c : aU (aActs (mkK st wy wg false) r A) l = 0
    · rw [if_pos (show nI (aU (aActs (mkK st wy wg false) r A) l) = 0 by rw [c]; rfl), if_pos (show nI (aU (aActs (mkK st wy wg false) r A) l) = 0 by rw [c]; rfl)]
      exact ⟨_, _, _, _, _, _, _, _, _, _, _, _, _, _, _, _, _, _, _, _, _, _, _, _, _, _, r, A, rfl, zAb_mono h hnc, hc, _, _, _, _, _, _, _, rfl, hM⟩
    · have c' : ¬ nI (aU (aActs (mkK st wy wg false) r A) l) = 0 := nI_ne0 (by omega) (by omega)
      have hxo : zXok (2, l * 8, none) := ⟨Nat.le_of_ble_eq_true rfl, by show l * 8 < 256; omega, fun w z => by cases z⟩
      obtain ⟨kept', sc', sh', sv', sb', sd', sl', sm', ssh', su', sws', kinds', rc', rh', rv', rb', spots', words', rd', rl', rm', rsh', ru', rws', f1, f2⟩ := zCl_next (y := (2, l * 8, none)) (sh := sh) (sv := sv) (sb := sb) (rh := rh) (rv := rv) (rb := rb) h hc hxo hnc
      obtain ⟨acts', past', y, g1, g2, g3⟩ := pX7_remembers (cw := nI wy) (s1 := s1) (s2 := s2) (s3 := s3) (x := x) h hM.1 hM.2 (2, l * 8, none)
      obtain ⟨y2, k1, k2⟩ := pX7_leaves (b := 0) i1 g2 hl
      have hnow : aActs (mkK st wy wg false) (zNx (mkK st wy wg false) r A (2, l * 8, none)).1 (zNx (mkK st wy wg false) r A (2, l * 8, none)).2 = aFg (aActs (mkK st wy wg false) r A) l := by
        rw [zNx_now]
        show aFg (aActs (mkK st wy wg false) r A) (l * 8 / 8) = _
        rw [Nat.mul_div_cancel _ (by decide)]
      obtain ⟨v0', n1, n2⟩ := pX7_done (tr := tr) (wh := wh) (v0 := v0) k2 (nI (aD (aActs (mkK st wy wg false) r A) l))
      rw [show nI 0 = (0 : Int32) from rfl] at k1
      rw [show nI ((2, l * 8, none) : zAc).1 = 2 from rfl, show zov (-1) ((2, l * 8, none) : zAc).2.2 = -1 from rfl, show ((2, l * 8, none) : zAc).2.1 = l * 8 from rfl] at f1
      rw [if_neg c', if_neg c', zald_n (f := sd) hl (by omega), (hc.1.2.2.2.2.2.1 l hl).2.1, zlet_e, show nI l * 8 = nI (l * 8) from pk_mul l 8, f1, Option.bind_some, g1, Option.bind_some]
      rw [k1, Option.bind_some]
      unfold fX7_drop_56
      have fin : ∃ a9 w9 v9 b9 p9 z9 x9, ((fX7_done tr wh v0 y2 (nI (aD (aActs (mkK st wy wg false) r A) l))).bind fun x1 => some (x1.1, (0 : Int32), x1.2.1, x1.2.2.1, acts', nI wy, (0 : Int32), nI (0 + aD (aActs (mkK st wy wg false) r A) l), past', x1.2.2.2, y2)) = some (nI (aD (aActs (mkK st wy wg false) r A) l), 0, 0, -1, a9, w9, v9, b9, p9, z9, x9) ∧ zMo st wy wg (zNx (mkK st wy wg false) r A (2, l * 8, none)).1 (zNx (mkK st wy wg false) r A (2, l * 8, none)).2 a9 p9 z9 := by
        rw [n1, Option.bind_some]
        exact ⟨_, _, _, _, _, _, _, rfl, ⟨g3, by rw [hnow]; exact n2⟩⟩
      rcases (show aD (aActs (mkK st wy wg false) r A) l = 0 ∨ aD (aActs (mkK st wy wg false) r A) l = 1 by omega) with z | z
      · rw [z] at fin ⊢
        rw [if_pos (show zbi (decide (0 = 1)) = 0 from rfl)]
        exact ⟨_, _, _, _, _, _, _, _, _, _, _, _, _, _, _, _, _, _, _, _, _, _, _, _, _, _, _, _, rfl, zNx_ok h hxo hnc, f2, fin⟩
      · rw [z] at fin ⊢
        rw [if_neg (show ¬ zbi (decide (1 = 1)) = 0 by decide)]
        exact ⟨_, _, _, _, _, _, _, _, _, _, _, _, _, _, _, _, _, _, _, _, _, _, _, _, _, _, _, _, rfl, zNx_ok h hxo hnc, f2, fin⟩
/-- how many are dirty from l on -/
def zdc (a : zA) : Nat → Nat → Nat
  | 0, _ => 0
  | n + 1, l => aD a l + zdc a n (l + 1)
theorem zdc_le {B : Nat} {a : zA} (hI : zIA B a) : ∀ (n l : Nat), l + n ≤ 32 → zdc a n l ≤ n
  | 0, l, _ => Nat.le_refl _
  | n + 1, l, h => by
    have := zdc_le hI n (l + 1) (by omega)
    have := (hI.1 l (by omega)).1
    unfold zdc
    omega
theorem zdc_wb {B : Nat} {a : zA} (hI : zIA B a) {m : Nat} (hm : m < 32) : ∀ (n l : Nat), m < l → zdc (aWb a m) n l = zdc a n l
  | 0, l, _ => rfl
  | n + 1, l, h => by
    unfold zdc
    rw [zdc_wb hI hm n (l + 1) (by omega), aWb_Dx hI hm, if_neg (by omega)]
theorem pX7_clean24 {B : Nat} {cw th tr wh ac s1 s2 : Int32} {past v0 : Nat → Int32} : ∀ (n N l : Nat) (a : zA) (b : Nat) (x : Nat → Int32), l + n = 32 → n < N → zIA B a → zRX a x →
    ∃ y, fX7_clean_24 cw N (nI l) th tr wh ac s1 s2 (nI b) past v0 x = (if nI (b + zdc a n l) = 0 then ((fX7_refused tr wh 6).bind fun x2 => some (x2.1, th, x2.2.1, x2.2.2, ac, s1, s2, nI (b + zdc a n l), past, v0, y)) else ((fX7_remembers ac s1 s2 (nI (b + zdc a n l)) cw past v0 y).bind fun x1 => fX7_clean_64 cw zF (nI (b + zdc a n l)) 0 th tr wh x1.1 x1.2.1 x1.2.2.1 x1.2.2.2.1 x1.2.2.2.2.1 v0 x1.2.2.2.2.2)) := by
  intro n
  induction n with
  | zero =>
    intro N l a b x e hN hI hX
    obtain ⟨N, rfl⟩ : ∃ k, N = k + 1 := ⟨N - 1, by omega⟩
    rw [fX7_clean_24, if_pos (n32 (by omega) (by omega))]
    exact ⟨x, rfl⟩
  | succ n ih =>
    intro N l a b x e hN hI hX
    obtain ⟨N, rfl⟩ : ∃ k, N = k + 1 := ⟨N - 1, by omega⟩
    obtain ⟨y, f1, f2⟩ := pX7_writesBack (b := b) hI hX (show l < 32 by omega)
    rw [fX7_clean_24, if_neg (n32' (by omega)), f1, Option.bind_some, zlet_e, show nI l + 1 = nI (l + 1) from nI_1 _]
    have := ih N (l + 1) (aWb a l) (b + aD a l) y (by omega) (by omega) (aWb_I hI (by omega)) f2
    rw [zdc_wb hI (by omega) n (l + 1) (by omega), Nat.add_assoc] at this
    exact this
theorem pX7_clean64 {B : Nat} {cw th tr wh ac s1 s2 c : Int32} {past v0 : Nat → Int32} : ∀ (n N l : Nat) (a : zA) (b : Nat) (x : Nat → Int32), l + n = 32 → n < N → zIA B a → zRX a x →
    ∃ b' y v0', fX7_clean_64 cw N c (nI l) th tr wh ac s1 s2 (nI b) past v0 x = some (c, th, 0, -1, ac, s1, s2, b', past, v0', y) ∧ zRX (aClN n l a) v0' := by
  intro n
  induction n with
  | zero =>
    intro N l a b x e hN hI hX
    obtain ⟨N, rfl⟩ : ∃ k, N = k + 1 := ⟨N - 1, by omega⟩
    obtain ⟨v0', n1, n2⟩ := pX7_done (tr := tr) (wh := wh) (v0 := v0) hX c
    rw [fX7_clean_64, if_pos (n32 (by omega) (by omega)), n1, Option.bind_some]
    exact ⟨_, _, _, rfl, n2⟩
  | succ n ih =>
    intro N l a b x e hN hI hX
    obtain ⟨N, rfl⟩ : ∃ k, N = k + 1 := ⟨N - 1, by omega⟩
    obtain ⟨y, f1, f2⟩ := pX7_writesBack (b := b) hI hX (show l < 32 by omega)
    rw [fX7_clean_64, if_neg (n32' (by omega)), f1, Option.bind_some, zlet_e, show nI l + 1 = nI (l + 1) from nI_1 _]
    exact ih N (l + 1) (aWb a l) (b + aD a l) y (by omega) (by omega) (aWb_I hI (by omega)) f2
theorem pX5_clean17 {a : zA} (hR : zRS (mkK st wy wg false) a su sl ssh sd sm sws) : ∀ (n N l b : Nat), l + n = 32 → n < N →
    ∃ M, M + n = N ∧ fX5_clean_17 1 ss sw sg sp rs rw' rg rp N (nI b) (nI l) rf sc sh sv sb kept sd sl sm ssh su sws kinds rc rh rv rb spots words rd rl rm rsh ru rws = fX5_clean_17 1 ss sw sg sp rs rw' rg rp M (nI (b + zdc a n l)) (nI 32) rf sc sh sv sb kept sd sl sm ssh su sws kinds rc rh rv rb spots words rd rl rm rsh ru rws := by
  intro n
  induction n with
  | zero =>
    intro N l b e hN
    have : l = 32 := by omega
    rw [this]
    exact ⟨N, rfl, rfl⟩
  | succ n ih =>
    intro N l b e hN
    obtain ⟨N, rfl⟩ : ∃ k, N = k + 1 := ⟨N - 1, by omega⟩
    obtain ⟨M, hM, f⟩ := ih N (l + 1) (b + aD a l) (by omega) (by omega)
    refine ⟨M, by omega, ?_⟩
    rw [fX5_clean_17, if_neg (n32' (by omega)), zald_n (f := sd) (by omega) (by omega), (hR.1 l (by omega)).2.1, zlet_e, zlet_e, nI_add, show nI l + 1 = nI (l + 1) from nI_1 _, f, show zdc a (n + 1) l = aD a l + zdc a n (l + 1) from rfl, Nat.add_assoc]
theorem m_clean (h : zAb st wy wg nc r A) (hc : zCl st wy wg r A ss sw sg sp sc sd sl sm ssh su sws rs rw' rg rp rc rd rl rm rsh ru rws kept kinds spots words) (hM : zMo st wy wg r A acts past v0) (hnc : nc + 1 ≤ 600) :
    ∃ v t sc' sh' sv' sb' kept' sd' sl' sm' ssh' su' sws' kinds' rc' rh' rv' rb' spots' words' rd' rl' rm' rsh' ru' rws' r' A', fX5_clean 1 rf ss sw sg sp sc sh sv sb kept sd sl sm ssh su sws kinds rs rw' rg rp rc rh rv rb spots words rd rl rm rsh ru rws = some (v, t, sc', sh', sv', sb', kept', sd', sl', sm', ssh', su', sws', kinds', rc', rh', rv', rb', spots', words', rd', rl', rm', rsh', ru', rws') ∧ zAb st wy wg (nc + 1) r' A' ∧ zCl st wy wg r' A' ss sw sg sp sc' sd' sl' sm' ssh' su' sws' rs rw' rg rp rc' rd' rl' rm' rsh' ru' rws' kept' kinds' spots' words' ∧
      ∃ acts' w' v2' b' past' v0' x', fX7_clean th tr wh acts s1 s2 s3 (nI wy) past v0 x = some (v, 0, t, -1, acts', w', v2', b', past', v0', x') ∧ zMo st wy wg r' A' acts' past' v0' := by
  obtain ⟨i1, i2, i3⟩ := zAb_now h
  have hsw := h.1
  unfold fX5_clean fX7_clean
  obtain ⟨y0, w1, w2⟩ := pX7_works (s1 := s1) (s2 := s2) (s3 := s3) (cw := nI wy) (x := x) hM.2
  have hle := zdc_le i1 32 0 (by omega)
  obtain ⟨M, hMM, q1⟩ := pX5_clean17 (rf := rf) (sc := sc) (sh := sh) (sv := sv) (sb := sb) (kept := kept) (kinds := kinds) (rc := rc) (rh := rh) (rv := rv) (rb := rb) (spots := spots) (words := words) (rd := rd) (rl := rl) (rm := rm) (rsh := rsh) (ru := ru) (rws := rws) (ss := ss) (sw := sw) (sg := sg) (sp := sp) (rs := rs) (rw' := rw') (rg := rg) (rp := rp) hc.1.2.2.2.2.2 32 zF 0 0 (by omega) (zF_gt (by omega))
  obtain ⟨M, rfl⟩ : ∃ k, M = k + 1 := ⟨M - 1, by have := zF_ge; omega⟩
  obtain ⟨y1, q2⟩ := pX7_clean24 (cw := nI wy) (th := 0) (tr := tr) (wh := wh) (ac := acts) (s1 := nI wy) (s2 := 0) (past := past) (v0 := v0) 32 zF 0 (aActs (mkK st wy wg false) r A) 0 y0 (by omega) (zF_gt (by omega)) i1 w2
  rw [Nat.zero_add] at q1 q2
  rw [show nI 0 = (0 : Int32) from rfl] at q1 q2
  rw [if_neg (show ¬ (1 : Int32) = 0 by decide), q1, w1, Option.bind_some]
  rw [q2, fX5_clean_17, if_pos (n32 (l := 32) (by omega) (by omega))]
  by_cases c : zdc (aActs (mkK st wy wg false) r A) 32 0 = 0
  · have c' : nI (zdc (aActs (mkK st wy wg false) r A) 32 0) = 0 := by rw [c]; rfl
    rw [if_pos c', if_pos c']
    exact ⟨_, _, _, _, _, _, _, _, _, _, _, _, _, _, _, _, _, _, _, _, _, _, _, _, _, _, r, A, rfl, zAb_mono h hnc, hc, _, _, _, _, _, _, _, rfl, hM⟩
  · have c' : ¬ nI (zdc (aActs (mkK st wy wg false) r A) 32 0) = 0 := nI_ne0 (by omega) (by omega)
    have hxo : zXok (3, 0, none) := ⟨Nat.le_of_ble_eq_true rfl, by decide, fun w z => by cases z⟩
    obtain ⟨kept', sc', sh', sv', sb', sd', sl', sm', ssh', su', sws', kinds', rc', rh', rv', rb', spots', words', rd', rl', rm', rsh', ru', rws', f1, f2⟩ := zCl_next (y := (3, 0, none)) (sh := sh) (sv := sv) (sb := sb) (rh := rh) (rv := rv) (rb := rb) h hc hxo hnc
    obtain ⟨acts', past', y, g1, g2, g3⟩ := pX7_remembers (cw := nI wy) (s1 := nI wy) (s2 := 0) (s3 := nI (zdc (aActs (mkK st wy wg false) r A) 32 0)) (x := y1) h hM.1 hM.2 (3, 0, none)
    obtain ⟨b', y2, v0', k1, k2⟩ := pX7_clean64 (cw := nI wy) (th := 0) (tr := tr) (wh := wh) (ac := acts') (s1 := nI wy) (s2 := 0) (c := nI (zdc (aActs (mkK st wy wg false) r A) 32 0)) (past := past') (v0 := v0) 32 zF 0 (aActs (mkK st wy wg false) r A) 0 y (by omega) (zF_gt (by omega)) i1 g2
    have hnow : aActs (mkK st wy wg false) (zNx (mkK st wy wg false) r A (3, 0, none)).1 (zNx (mkK st wy wg false) r A (3, 0, none)).2 = aClN 32 0 (aActs (mkK st wy wg false) r A) := by
      rw [zNx_now]
      unfold aAct
      rw [if_neg (by decide), if_pos rfl]
      rfl
    rw [show nI 0 = (0 : Int32) from rfl] at k1
    rw [show nI ((3, 0, none) : zAc).1 = 3 from rfl, show zov (-1) ((3, 0, none) : zAc).2.2 = -1 from rfl, show nI ((3, 0, none) : zAc).2.1 = 0 from rfl] at f1
    rw [if_neg c', if_neg c', f1, Option.bind_some, g1, Option.bind_some]
    rw [k1]
    exact ⟨_, _, _, _, _, _, _, _, _, _, _, _, _, _, _, _, _, _, _, _, _, _, _, _, _, _, _, _, rfl, zNx_ok h hxo hnc, f2, _, _, _, _, _, _, _, rfl, ⟨g3, by rw [hnow]; exact k2⟩⟩
end ACTS
