/-! ===== the past: the class does acts again, the model keeps states ===== -/
/-- root and acts -/
def zAb (st wy : Nat) (wg : Bool) (nc : Nat) (r : zA) (A : List zAc) : Prop := zSW st wy ∧ zIA 10000 r ∧ zIT (mkK st wy wg false) r ∧ (∀ x ∈ A, zXok x) ∧ A.length ≤ 16 ∧ aC r + A.length ≤ nc ∧ nc ≤ 600
/-- the class's store holds a state -/
def zSt (st wy : Nat) (wg : Bool) (a : zA) (ss sw sg sp sc : Int32) (sd sl sm ssh su sws : Nat → Int32) : Prop := ss = nI st ∧ sw = nI wy ∧ sg = nI (zbn wg) ∧ sp = nI (zbn false) ∧ sc = nI (aC a) ∧ zRS (mkK st wy wg false) a su sl ssh sd sm sws
def zPs (A : List zAc) (kept : Int32) (kinds spots words : Nat → Int32) : Prop := kept = nI A.length ∧ ∀ i x, A[i]? = some x → kinds i = nI x.1 ∧ spots i = nI x.2.1 ∧ words i = zov (-1) x.2.2
/-- the model's states -/
def zMp (k : zK) (r : zA) (A : List zAc) (acts : Int32) (past : Nat → Int32) : Prop := acts = nI A.length ∧ ∀ i, i < A.length → zRX (aActs k r (A.take i)) (fun j => past (609 * i + j))
theorem zAb_now {st wy : Nat} {wg : Bool} {nc : Nat} {r : zA} {A : List zAc} (h : zAb st wy wg nc r A) : zIA 10000 (aActs (mkK st wy wg false) r A) ∧ zIT (mkK st wy wg false) (aActs (mkK st wy wg false) r A) ∧ aC (aActs (mkK st wy wg false) r A) ≤ nc := by
  obtain ⟨h1, h2, h3, h4, h5, h6, h7⟩ := h
  obtain ⟨q1, q2, q3⟩ := aActs_ok (mkK_ok h1) A r h4 h2 h3 (by omega)
  exact ⟨q1, q2, by omega⟩
/-- one act more -/
def zNx (k : zK) (r : zA) (A : List zAc) (x : zAc) : zA × List zAc := if A.length < 16 then (r, A ++ [x]) else match A with
  | [] => (r, [x])
  | y :: T => (aAct k r y, T ++ [x])
theorem zNx_now {k : zK} {r : zA} {A : List zAc} {x : zAc} : aActs k (zNx k r A x).1 (zNx k r A x).2 = aAct k (aActs k r A) x := by
  unfold zNx
  split
  · simp [aActs]
  · cases A with
    | nil => rfl
    | cons y T => simp [aActs]
theorem zNx_ok {st wy : Nat} {wg : Bool} {nc : Nat} {r : zA} {A : List zAc} {x : zAc} (h : zAb st wy wg nc r A) (hx : zXok x) (hn : nc + 1 ≤ 600) : zAb st wy wg (nc + 1) (zNx (mkK st wy wg false) r A x).1 (zNx (mkK st wy wg false) r A x).2 := by
  obtain ⟨h1, h2, h3, h4, h5, h6, h7⟩ := h
  unfold zNx
  split
  · refine ⟨h1, h2, h3, fun y hy => ?_, by simp; omega, by simp; omega, hn⟩
    rcases List.mem_append.mp hy with z | z
    · exact h4 y z
    · rw [List.mem_singleton.mp z]; exact hx
  · cases A with
    | nil => exact ⟨h1, h2, h3, fun y hy => by rw [List.mem_singleton.mp hy]; exact hx, by simp, by simp at h6 ⊢; omega, hn⟩
    | cons y T =>
      simp at h5 h6
      obtain ⟨q1, q2, q3⟩ := aAct_ok (mkK_ok h1) (h4 y List.mem_cons_self) h2 h3 (by omega)
      refine ⟨h1, q1, q2, fun z hz => ?_, by simp; omega, by simp; omega, hn⟩
      rcases List.mem_append.mp hz with e | e
      · exact h4 z (List.mem_cons_of_mem _ e)
      · rw [List.mem_singleton.mp e]; exact hx
section PAST
variable {st wy : Nat} {wg : Bool} {nc : Nat} {r : zA} {A : List zAc} {ss sw sg sp sc sh sv sb rs rw' rg rp rc rh rv rb kept : Int32} {sd sl sm ssh su sws rd rl rm rsh ru rws kinds spots words : Nat → Int32}
theorem pX0_doNext (h : zAb st wy wg nc r A) (hn : zSt st wy wg (aActs (mkK st wy wg false) r A) ss sw sg sp sc sd sl sm ssh su sws) (hr : zSt st wy wg r rs rw' rg rp rc rd rl rm rsh ru rws) (hp : zPs A kept kinds spots words) {x : zAc} (hx : zXok x) (hnc : nc + 1 ≤ 600) :
    ∃ kept' sc' sh' sv' sb' sd' sl' sm' ssh' su' sws' kinds' rc' rh' rv' rb' spots' words' rd' rl' rm' rsh' ru' rws', fX0_doNext kept ss sw sg sp sc sh sv sb sd sl sm ssh su sws kinds rs rw' rg rp rc rh rv rb spots words rd rl rm rsh ru rws (nI x.1) (nI x.2.1) (zov (-1) x.2.2) = some (kept', sc', sh', sv', sb', sd', sl', sm', ssh', su', sws', kinds', rc', rh', rv', rb', spots', words', rd', rl', rm', rsh', ru', rws') ∧
      zSt st wy wg (aAct (mkK st wy wg false) (aActs (mkK st wy wg false) r A) x) ss sw sg sp sc' sd' sl' sm' ssh' su' sws' ∧ zSt st wy wg (zNx (mkK st wy wg false) r A x).1 rs rw' rg rp rc' rd' rl' rm' rsh' ru' rws' ∧ zPs (zNx (mkK st wy wg false) r A x).2 kept' kinds' spots' words' := by
  obtain ⟨i1, i2, i3⟩ := zAb_now h
  obtain ⟨h1, h2, h3, h4, h5, h6, h7⟩ := h
  obtain ⟨n1, n2, n3, n4, n5, n6⟩ := hn
  obtain ⟨r1, r2, r3, r4, r5, r6⟩ := hr
  obtain ⟨p1, p2⟩ := hp
  obtain ⟨h', v', b', d, la, m, shh, u, ws, f1, f2⟩ := pX3_perform (h := sh) (v := sv) (b := sb) h1 hx i1 (by omega) n6
  rw [← n1, ← n2, ← n3, ← n4, ← n5] at f1
  unfold fX0_doNext
  rw [f1, Option.bind_some]
  have upd_ok : ∀ (C : List zAc) (ki sp' wo : Nat → Int32), C.length < 16 → (∀ i y, C[i]? = some y → ki i = nI y.1 ∧ sp' i = nI y.2.1 ∧ wo i = zov (-1) y.2.2) → ∀ i y, (C ++ [x])[i]? = some y → upd ki C.length (nI x.1) i = nI y.1 ∧ upd sp' C.length (nI x.2.1) i = nI y.2.1 ∧ upd wo C.length (zov (-1) x.2.2) i = zov (-1) y.2.2 := by
    intro C ki sp' wo hC hc i y hy
    by_cases e : i < C.length
    · rw [List.getElem?_append_left e] at hy
      rw [pk_un (by omega), pk_un (by omega), pk_un (by omega)]
      exact hc i y hy
    · rw [List.getElem?_append_right (by omega)] at hy
      have : i - C.length = 0 := by
        have := (List.getElem?_eq_some_iff.mp hy).1
        simp at this; omega
      rw [this] at hy
      cases hy
      rw [show i = C.length by omega, pk_us, pk_us, pk_us]
      exact ⟨rfl, rfl, rfl⟩
  by_cases c : A.length < 16
  · rw [if_pos (show kept < 16 by rw [p1]; exact nI_lt (a := A.length) (b := 16) c (by omega))]
    unfold fX0_doNext_93
    rw [p1, zast_n c (by omega), zast_n c (by omega), zast_n c (by omega), zlet_e, show nI A.length + 1 = nI (A.length + 1) from nI_1 _]
    have e : zNx (mkK st wy wg false) r A x = (r, A ++ [x]) := by unfold zNx; rw [if_pos c]
    rw [e]
    exact ⟨_, _, _, _, _, _, _, _, _, _, _, _, _, _, _, _, _, _, _, _, _, _, _, _, rfl, ⟨n1, n2, n3, n4, rfl, f2⟩, ⟨r1, r2, r3, r4, r5, r6⟩, ⟨by simp, upd_ok A kinds spots words c p2⟩⟩
  · rw [if_neg (show ¬ kept < 16 by rw [p1]; exact nI_nlt (a := A.length) (b := 16) (by omega) (by omega))]
    cases A with
    | nil => simp at c
    | cons y T =>
      simp at c h5 h6
      have hT : T.length = 15 := by omega
      have hy := p2 0 y rfl
      obtain ⟨hh, vv, bb, d2, la2, m2, sh2, u2, ws2, g1, g2⟩ := pX3_perform (h := rh) (v := rv) (b := rb) h1 (h4 y List.mem_cons_self) h2 (by omega) r6
      rw [← r1, ← r2, ← r3, ← r4, ← r5] at g1
      rw [show (0 : Int32) = nI 0 from rfl, zald_n (by omega) (by omega), zald_n (by omega) (by omega), zald_n (by omega) (by omega), hy.1, hy.2.1, hy.2.2, g1, Option.bind_some, show (1 : Int32) = nI 1 from rfl, show (15 : Int32) = nI 15 from rfl, zcpy_n (by omega) (by omega) (by omega) (by omega), zcpy_n (by omega) (by omega) (by omega) (by omega), zcpy_n (by omega) (by omega) (by omega) (by omega)]
      unfold fX0_doNext_93
      rw [zast_n (by omega) (by omega), zast_n (by omega) (by omega), zast_n (by omega) (by omega), zlet_e, show nI 15 + 1 = nI 16 from rfl]
      have e : zNx (mkK st wy wg false) r (y :: T) x = (aAct (mkK st wy wg false) r y, T ++ [x]) := by unfold zNx; rw [if_neg (by simp; omega)]
      rw [e]
      have hTk : ∀ i z, T[i]? = some z → va_cpy kinds kinds 1 0 15 i = nI z.1 ∧ va_cpy spots spots 1 0 15 i = nI z.2.1 ∧ va_cpy words words 1 0 15 i = zov (-1) z.2.2 := fun i z hz => by
        have hi : i < 15 := by
          have := (List.getElem?_eq_some_iff.mp hz).1
          omega
        rw [pk_cpy_in (by omega) (by omega), pk_cpy_in (by omega) (by omega), pk_cpy_in (by omega) (by omega), show 1 + (i - 0) = i + 1 by omega]
        exact p2 (i + 1) z (by simpa using hz)
      have hu := upd_ok T (va_cpy kinds kinds 1 0 15) (va_cpy spots spots 1 0 15) (va_cpy words words 1 0 15) (by omega) hTk
      rw [hT] at hu
      exact ⟨_, _, _, _, _, _, _, _, _, _, _, _, _, _, _, _, _, _, _, _, _, _, _, _, rfl, ⟨n1, n2, n3, n4, rfl, f2⟩, ⟨r1, r2, r3, r4, rfl, g2⟩, ⟨by simp [hT], hu⟩⟩
theorem pX0_take_loop (h1 : zSW st wy) (hr : zSt st wy wg r rs rw' rg rp rc rd rl rm rsh ru rws) (hok : ∀ x ∈ A, zXok x) (p2 : ∀ i x, A[i]? = some x → kinds i = nI x.1 ∧ spots i = nI x.2.1 ∧ words i = zov (-1) x.2.2) (hl : A.length ≤ 16) {D : List zAc} (hD : D <+: A) : ∀ (R P : List zAc) (N : Nat) (a : zA) (hh vv bb : Int32) (sd sl sm ssh su sws : Nat → Int32), P ++ R = D → R.length < N → zIA 10000 a → zIT (mkK st wy wg false) a → aC a + R.length ≤ 10000 → zRS (mkK st wy wg false) a su sl ssh sd sm sws →
    ∃ sh' sv' sb' sd' sl' sm' ssh' su' sws', fX0_takeBack_30 kinds rs rw' rg rp rc spots words rd rl rm rsh ru rws N (nI P.length) (nI D.length) (nI st) (nI wy) (nI (zbn wg)) (nI (zbn false)) (nI (aC a)) hh vv bb sd sl sm ssh su sws = some (1, nI D.length, nI st, nI wy, nI (zbn wg), nI (zbn false), nI (aC (aActs (mkK st wy wg false) a R)), sh', sv', sb', sd', sl', sm', ssh', su', sws') ∧ zRS (mkK st wy wg false) (aActs (mkK st wy wg false) a R) su' sl' ssh' sd' sm' sws' := by
  have hDl : D.length ≤ A.length := hD.length_le
  intro R
  induction R with
  | nil =>
    intro P N a hh vv bb sd sl sm ssh su sws e hN hI hT hC hR
    obtain ⟨N, rfl⟩ : ∃ k, N = k + 1 := ⟨N - 1, by omega⟩
    rw [List.append_nil] at e
    rw [fX0_takeBack_30, e, if_pos (Int32.le_refl _)]
    exact ⟨_, _, _, _, _, _, _, _, _, rfl, hR⟩
  | cons x R ih =>
    intro P N a hh vv bb sd sl sm ssh su sws e hN hI hT hC hR
    obtain ⟨N, rfl⟩ : ∃ k, N = k + 1 := ⟨N - 1, by omega⟩
    have hlen : D.length = P.length + R.length + 1 := by rw [← e]; simp; omega
    have hx : A[P.length]? = some x := by
      obtain ⟨E, hE⟩ := hD
      rw [← hE, ← e, List.append_assoc]
      simp
    have hxo := hok x (List.mem_of_getElem? hx)
    obtain ⟨x1, x2, x3⟩ := p2 _ _ hx
    have e' : (P ++ [x]) ++ R = D := by rw [← e]; simp
    simp at hC hN
    obtain ⟨h', v', b', d, la, m, shh, u, ws, f1, f2⟩ := pX3_perform (h := hh) (v := vv) (b := bb) h1 hxo hI (by omega) hR
    obtain ⟨q1, q2, q3⟩ := aAct_ok (mkK_ok h1) hxo hI hT (by omega)
    rw [fX0_takeBack_30, if_neg (nI_ge (by omega) (by omega)), zald_n (by omega) (by omega), zald_n (by omega) (by omega), zald_n (by omega) (by omega), x1, x2, x3, f1, Option.bind_some, zlet_e, show nI P.length + 1 = nI (P.length + 1) from nI_1 _]
    have := ih (P ++ [x]) N (aAct (mkK st wy wg false) a x) h' v' b' d la m shh u ws e' (by omega) q1 q2 (by omega) f2
    rw [show (P ++ [x]).length = P.length + 1 by simp] at this
    exact this
end PAST
