/-! ===== sets of unsure words that fit ===== -/
def pFt (p : zP) (o : Nat) : Bool := (zwr (aRn p (pWy p) false (nI o)).2.1 0 (pS p)).isNone
def pN (p : zP) : Nat := 2 ^ (pU p).length
def pF (p : zP) : List Nat := zrun (pFt p) 0 (pN p)
def pB (p : zP) : Nat := zFb (pFt p) (pN p) 0 0
theorem pN_le {p : zP} (hp : zPok p) : pN p ≤ 16 := by
  have h : (pU p).length ≤ 4 := hp.2.2.2.2.2.1
  have : 2 ^ (pU p).length ≤ 2 ^ 4 := Nat.pow_le_pow_right (by decide) h
  exact this
theorem pB_lt {p : zP} (hp : zPok p) : pB p < 65536 := zFb_lt _ _ _ _ (by have := pN_le hp; omega) (by decide)
theorem pB_run {p : zP} (hp : zPok p) : zrun (fun j => (pB p).testBit j) 0 16 = pF p := zrun_bits (pN_le hp)
theorem pF_lt {p : zP} (hp : zPok p) {o : Nat} (h : o ∈ pF p) : o < pN p := by
  have := (zrun_mem.mp h).1
  omega
theorem pF_len {p : zP} (hp : zPok p) : (pF p).length ≤ 16 := Nat.le_trans zrun_len (pN_le hp)
theorem pB_0 {p : zP} (hp : zPok p) : pB p = 0 ↔ pF p = [] := by
  rw [← pB_run hp]
  constructor
  · intro h
    rw [h]
    exact List.filter_eq_nil_iff.mpr (fun j _ => by simp)
  · intro h
    apply Nat.eq_of_testBit_eq
    intro j
    rw [Nat.zero_testBit]
    by_cases c : j < 16
    · have := List.filter_eq_nil_iff.mp h j (List.mem_range'_1.mpr (by omega))
      cases hb : (pB p).testBit j with
      | false => rfl
      | true => exact absurd hb this
    · exact Nat.testBit_lt_two_pow (Nat.lt_of_lt_of_le (pB_lt hp) (by show 2 ^ 16 ≤ 2 ^ j; exact Nat.pow_le_pow_right (by decide) (by omega)))
theorem pN_sh {p : zP} (hp : zPok p) : (1 : Int32) <<< (nI (pU p).length &&& 31) = nI (pN p) := nI_shl1 (by have := hp.2.2.2.2.2.1; omega)
section FITX
variable {p : zP} {sets ways weighed steps unsure seen : Int32} {memory seenHit seenStep stepSpot stepWord unsureSpot unsureWord : Nat → Int32}
theorem pX5_fit_loop (hp : zPok p) (hx : zPX p sets ways weighed steps unsure seen memory seenHit seenStep stepSpot stepWord unsureSpot unsureWord) : ∀ (m N i n : Nat) (k0 b0 s1 s2 s3 s4 s5 s6 s7 s8 : Int32) (t1 t2 t3 t4 t5 t6 : Nat → Int32), i + m = pN p → m < N →
    ∃ r, fX5_fitBits_22 sets ways weighed steps unsure seen memory seenHit seenStep stepSpot stepWord unsureSpot unsureWord N (nI n) (nI i) k0 b0 s1 s2 s3 s4 s5 s6 s7 s8 t1 t2 t3 t4 t5 t6 = some (nI (zFb (pFt p) m i n), 1, nI (zFb (pFt p) m i n), r) := by
  have hN16 := pN_le hp
  have e2 := hx.2.1
  have e5 := hx.2.2.2.2.1
  intro m
  induction m with
  | zero =>
    intro N i n k0 b0 s1 s2 s3 s4 s5 s6 s7 s8 t1 t2 t3 t4 t5 t6 h hN
    obtain ⟨N, rfl⟩ : ∃ k, N = k + 1 := ⟨N - 1, by omega⟩
    rw [fX5_fitBits_22, e5, pN_sh hp, zlet_e, if_pos (nI_le (by omega) (by omega))]
    exact ⟨_, rfl⟩
  | succ m ih =>
    intro N i n k0 b0 s1 s2 s3 s4 s5 s6 s7 s8 t1 t2 t3 t4 t5 t6 h hN
    obtain ⟨N, rfl⟩ : ∃ k, N = k + 1 := ⟨N - 1, by omega⟩
    obtain ⟨d, mm, u, ws, f1, c, d2, la2, m2, sh2, u2, ws2, f2⟩ := pX3_runs (o := nI i) (wy := pWy p) (pl := false) (s1 := s1) (s2 := s2) (s3 := s3) (s4 := s4) (s5 := s5) (s6 := s6) (s7 := s7) (s8 := s8) (t1 := t1) (t2 := t2) (t3 := t3) (t4 := t4) (t5 := t5) (t6 := t6) hp hx hp.1.2.2.1 hp.1.2.2.2
    rw [← e2, show nI (zbn false) = 0 from rfl] at f1
    rw [← e2, show nI (zbn false) = 0 from rfl] at f2
    rw [fX5_fitBits_22, show (1 : Int32) <<< (unsure &&& 31) = nI (pN p) by rw [e5]; exact pN_sh hp, zlet_e, if_neg (nI_ge (by omega) (by omega)), f1, Option.bind_some]
    rw [f2, Option.bind_some, pX1_agrees hp hx, Option.bind_some, zlet_e, zlet_e, zlet_e, zlet_e, show nI i + 1 = nI (i + 1) from nI_1 _]
    unfold zFb
    have hb : (zwr (aRn p (pWy p) false (nI i)).2.1 0 (pS p)).isNone = pFt p i := rfl
    rw [hb]
    cases hf : pFt p i with
    | false =>
      rw [if_pos (show zbi false = 0 from rfl), if_neg (by decide)]
      exact ih N (i + 1) n _ _ _ _ _ _ _ _ _ _ _ _ _ _ _ _ (by omega) (by omega)
    | true =>
      rw [if_neg (show ¬ zbi true = 0 by decide), if_pos rfl, nI_shl1 (by omega), fa_or]
      exact ih N (i + 1) (n ||| 2 ^ i) _ _ _ _ _ _ _ _ _ _ _ _ _ _ _ _ (by omega) (by omega)
/-- the bits are known, or not yet -/
def zFK (p : zP) (known bits : Int32) : Prop := known = 0 ∨ (known = 1 ∧ bits = nI (pB p))
theorem pX5_fitBits (hp : zPok p) (hx : zPX p sets ways weighed steps unsure seen memory seenHit seenStep stepSpot stepWord unsureSpot unsureWord) {known bits : Int32} (hk : zFK p known bits) {s1 s2 s3 s4 s5 s6 s7 s8 : Int32} {t1 t2 t3 t4 t5 t6 : Nat → Int32} :
    ∃ r, fX5_fitBits sets ways weighed steps unsure seen known bits s1 s2 s3 s4 s5 s6 s7 s8 memory seenHit seenStep stepSpot stepWord unsureSpot unsureWord t1 t2 t3 t4 t5 t6 = some (nI (pB p), 1, nI (pB p), r) := by
  unfold fX5_fitBits
  rcases hk with h | ⟨h, h2⟩
  · rw [if_pos h]
    exact pX5_fit_loop hp hx (pN p) zF 0 0 _ _ _ _ _ _ _ _ _ _ _ _ _ _ _ _ (by omega) (zF_gt (by have := pN_le hp; omega))
  · rw [if_neg (by rw [h]; decide), h2, h]
    exact ⟨_, rfl⟩
end FITX
/-- the one at place b1 -/
def zfa (b1 : Int32) : Nat → List Nat → Option Nat
  | _, [] => none
  | c, o :: F => if nI c = b1 then some o else zfa b1 (c + 1) F
def zfd (b1 : Int32) : Nat → List Nat → Int32 → Int32
  | _, [], fd => fd
  | c, o :: F, fd => zfd b1 (c + 1) F (if nI c = b1 then nI o else fd)
theorem zfd_past {c0 : Nat} : ∀ {F : List Nat} {c : Nat} {fd : Int32}, c0 < c → c + F.length < 2 ^ 31 → zfd (nI c0) c F fd = fd
  | [], c, fd, _, _ => rfl
  | o :: F, c, fd, h, h2 => by
    unfold zfd
    simp at h2
    rw [if_neg (fun z => by have := (nI_eq (by omega) (by omega)).mp z; omega)]
    exact zfd_past (by omega) (by omega)
theorem zfd_eq {b1 : Int32} : ∀ {F : List Nat} {c : Nat} {fd : Int32}, c + F.length < 2 ^ 31 → zfd b1 c F fd = (match zfa b1 c F with | none => fd | some o => nI o)
  | [], c, fd, _ => rfl
  | o :: F, c, fd, h => by
    simp at h
    unfold zfd zfa
    by_cases e : nI c = b1
    · rw [if_pos e, if_pos e, ← e, zfd_past (by omega) (by omega)]
    · rw [if_neg e, if_neg e]
      exact zfd_eq (by omega)
def zcn (F : List Nat) (j : Nat) : Nat := (F.filter (fun o => o.testBit j)).length
theorem zcn_cons (o : Nat) (F : List Nat) (j : Nat) : zcn (o :: F) j = (if o.testBit j then 1 else 0) + zcn F j := by
  unfold zcn
  rw [List.filter_cons]
  split
  · simp; omega
  · simp
section FITM
variable {p : zP} {sets ways steps unsures saws hit weighed : Int32} {at' line may memory put saw unsure : Nat → Int32}
theorem pX7_fit118 (hp : zPok p) (hm : zPM p sets ways steps unsures saws hit weighed at' line may memory put saw unsure) {K : Int32 → Int32 → Int32 → Int32 → Int32 → Int32 → Int32 → Int32 → Int32 → Int32 → Int32 → Int32 → (Nat → Int32) → (Nat → Int32) → (Nat → Int32) → Option (Int32 × Int32 × Int32 × Int32 × Int32 × Int32 × Int32 × Int32 × Int32 × Int32 × (Nat → Int32) × (Nat → Int32) × (Nat → Int32))} {b1 b2 w v b od hn hs fn sn en : Int32} {ord x : Nat → Int32} {o : Nat} (ho : o < 16) : ∀ (n N k : Nat) (oi : Nat → Int32), k + n = (pU p).length → n < N →
    ∃ oi', fX7_fitting_118 sets ways steps unsures saws hit weighed at' line may memory put saw unsure K N b1 b2 (nI o) (nI k) w v b od hn hs fn sn en ord oi x = K b1 b2 (nI (o + 1)) w v b od hn hs fn sn en ord oi' x ∧ ∀ j, j < 4 → oi' j = if k ≤ j ∧ j < (pU p).length then oi j + nI (if o.testBit j then 1 else 0) else oi j := by
  have h4 : (pU p).length ≤ 4 := hp.2.2.2.2.2.1
  have e5 := hm.2.2.2.2.1
  intro n
  induction n with
  | zero =>
    intro N k oi h hN
    obtain ⟨N, rfl⟩ : ∃ k, N = k + 1 := ⟨N - 1, by omega⟩
    rw [fX7_fitting_118, e5, if_pos (nI_le (by omega) (by omega)), zlet_e, show nI o + 1 = nI (o + 1) from nI_1 _]
    exact ⟨oi, rfl, fun j hj => by rw [if_neg (by omega)]⟩
  | succ n ih =>
    intro N k oi h hN
    obtain ⟨N, rfl⟩ : ∃ k, N = k + 1 := ⟨N - 1, by omega⟩
    rw [fX7_fitting_118, if_neg (show ¬ unsures ≤ nI k by rw [e5]; exact nI_ge (by omega) (by omega)), zald_n (by omega) (by omega), pX7_bit, Option.bind_some, zbt_n (by omega) (by omega)]
    have key : ∀ q : Int32, q = oi k + nI (if o.testBit k then 1 else 0) → ∃ oi', fX7_fitting_118 sets ways steps unsures saws hit weighed at' line may memory put saw unsure K N b1 b2 (nI o) (nI (k + 1)) w v b od hn hs fn sn en ord (upd oi k q) x = K b1 b2 (nI (o + 1)) w v b od hn hs fn sn en ord oi' x ∧ ∀ j, j < 4 → oi' j = if k ≤ j ∧ j < (pU p).length then oi j + nI (if o.testBit j then 1 else 0) else oi j := by
      intro q hq
      obtain ⟨oi', f1, f2⟩ := ih N (k + 1) (upd oi k q) (by omega) (by omega)
      refine ⟨oi', f1, fun j hj => ?_⟩
      rw [f2 j hj]
      by_cases c : j = k
      · subst c
        rw [if_neg (by omega), if_pos (by omega), pk_us, hq]
      · rw [pk_un c]
        by_cases c2 : k + 1 ≤ j ∧ j < (pU p).length
        · rw [if_pos c2, if_pos (show k ≤ j ∧ j < (pU p).length by omega)]
        · rw [if_neg c2, if_neg (by omega)]
    cases hb : o.testBit k with
    | false =>
      rw [if_pos (show zbi false = 0 from rfl), zlet_e, zast_n (by omega) (by omega), zlet_e, show nI k + 1 = nI (k + 1) from nI_1 _]
      exact key _ (by rw [hb]; rfl)
    | true =>
      rw [if_neg (show ¬ zbi true = 0 by decide), zlet_e, zast_n (by omega) (by omega), zlet_e, show nI k + 1 = nI (k + 1) from nI_1 _]
      exact key _ (by rw [hb]; rfl)
theorem pX7_fit49 (hp : zPok p) (hm : zPM p sets ways steps unsures saws hit weighed at' line may memory put saw unsure) {b1 : Int32} : ∀ (m N i c : Nat) (b2 w v b od hn hs sm ev : Int32) (ord oi x : Nat → Int32), i + m = pN p → m < N →
    ∃ w' v' b' od' hn' hs' ord' oi' x', fX7_fitting_49 sets ways steps unsures saws hit weighed at' line may memory put saw unsure N b1 b2 (nI i) w v b od hn hs (nI c) sm ev ord oi x = some (zfd b1 c (zrun (pFt p) i m) b2, w', v', b', od', hn', hs', nI (c + (zrun (pFt p) i m).length), (zrun (pFt p) i m).foldl (fun a o => a ||| nI o) sm, (if nI (c + (zrun (pFt p) i m).length) = 0 then 0 else (zrun (pFt p) i m).foldl (fun a o => a &&& nI o) ev), ord', oi', x') ∧ ∀ j, j < (pU p).length → oi' j = oi j + nI (zcn (zrun (pFt p) i m) j) := by
  have hN16 := pN_le hp
  have h4 : (pU p).length ≤ 4 := hp.2.2.2.2.2.1
  have e5 := hm.2.2.2.2.1
  intro m
  induction m with
  | zero =>
    intro N i c b2 w v b od hn hs sm ev ord oi x h hN
    obtain ⟨N, rfl⟩ : ∃ k, N = k + 1 := ⟨N - 1, by omega⟩
    rw [fX7_fitting_49, e5, pN_sh hp, zlet_e, if_pos (nI_le (by omega) (by omega)), zrun_0]
    have fin : ∀ j, j < (pU p).length → oi j = oi j + nI (zcn [] j) := fun j _ => (Int32.add_zero _).symm
    by_cases q : nI c = 0
    · rw [if_pos q]
      refine ⟨w, v, b, od, hn, hs, ord, oi, x, ?_, fin⟩
      rw [show nI (c + ([] : List Nat).length) = nI c from rfl, if_pos q]
      rfl
    · rw [if_neg q]
      refine ⟨w, v, b, od, hn, hs, ord, oi, x, ?_, fin⟩
      rw [show nI (c + ([] : List Nat).length) = nI c from rfl, if_neg q]
      rfl
  | succ m ih =>
    intro N i c b2 w v b od hn hs sm ev ord oi x h hN
    obtain ⟨N, rfl⟩ : ∃ k, N = k + 1 := ⟨N - 1, by omega⟩
    obtain ⟨r, f1⟩ := pX7_wrongSaw (o := nI i) (s1 := w) (s2 := v) (s3 := b) (s4 := od) (s5 := hn) (s6 := hs) (x := x) (od := ord) hp hm
    rw [fX7_fitting_49, show (1 : Int32) <<< (unsures &&& 31) = nI (pN p) by rw [e5]; exact pN_sh hp, zlet_e, if_neg (nI_ge (by omega) (by omega)), f1, Option.bind_some, zlet_e, show nI i + 1 = nI (i + 1) from nI_1 _]
    have hb : pFt p i = (zwr (aRn p (pWy p) false (nI i)).2.1 0 (pS p)).isNone := rfl
    cases hw : zwr (aRn p (pWy p) false (nI i)).2.1 0 (pS p) with
    | some k =>
      have hf : pFt p i = false := by rw [hb, hw]; rfl
      have hk : ¬ zov (-2) (some k) = -2 := by
        have hkl : ∀ (S : List (Nat × Bool)) (t : Int32) (k0 k : Nat), zwr t k0 S = some k → k < k0 + S.length := by
          intro S
          induction S with
          | nil => intro t k0 k h; cases h
          | cons s S ihS =>
            intro t k0 k h
            obtain ⟨s1, s2⟩ := s
            unfold zwr at h
            split at h
            · have := ihS t (k0 + 1) k h
              simp; omega
            · cases h; simp
        have := hkl _ _ _ _ hw
        have h6 := hp.2.2.2.2.2.2.1
        exact fun z => nI_pos (n := k) (by omega) (by rw [show nI k = zov (-2) (some k) from rfl, z]; decide)
      rw [if_neg hk, zrun_f hf]
      exact ih N (i + 1) c b2 _ _ _ _ _ _ sm ev _ oi _ (by omega) (by omega)
    | none =>
      have hf : pFt p i = true := by rw [hb, hw]; rfl
      rw [if_pos (show zov (-2) none = -2 from rfl), zrun_t hf]
      have key : ∀ b2' : Int32, b2' = (if nI c = b1 then nI i else b2) → ∃ w' v' b' od' hn' hs' ord' oi' x', fX7_fitting_85 sets ways steps unsures saws hit weighed at' line may memory put saw unsure (fX7_fitting_49 sets ways steps unsures saws hit weighed at' line may memory put saw unsure N) b1 b2' (nI i) r.1 r.2.1 r.2.2.1 r.2.2.2.1 r.2.2.2.2.1 r.2.2.2.2.2.1 (nI c) sm ev r.2.2.2.2.2.2.1 oi r.2.2.2.2.2.2.2 = some (zfd b1 c (i :: zrun (pFt p) (i + 1) m) b2, w', v', b', od', hn', hs', nI (c + (i :: zrun (pFt p) (i + 1) m).length), (i :: zrun (pFt p) (i + 1) m).foldl (fun a o => a ||| nI o) sm, (if nI (c + (i :: zrun (pFt p) (i + 1) m).length) = 0 then 0 else (i :: zrun (pFt p) (i + 1) m).foldl (fun a o => a &&& nI o) ev), ord', oi', x') ∧ ∀ j, j < (pU p).length → oi' j = oi j + nI (zcn (i :: zrun (pFt p) (i + 1) m) j) := by
        intro b2' hb2
        unfold fX7_fitting_85
        simp only [zlet_e]
        obtain ⟨oi1, g1, g2⟩ := pX7_fit118 (K := fX7_fitting_49 sets ways steps unsures saws hit weighed at' line may memory put saw unsure N) (b1 := b1) (b2 := b2') (w := r.1) (v := r.2.1) (b := r.2.2.1) (od := r.2.2.2.1) (hn := r.2.2.2.2.1) (hs := r.2.2.2.2.2.1) (fn := nI c + 1) (sn := sm ||| nI i) (en := ev &&& nI i) (ord := r.2.2.2.2.2.2.1) (x := r.2.2.2.2.2.2.2) hp hm (show i < 16 by omega) (pU p).length zF 0 oi (by omega) (zF_gt (by omega))
        rw [show (0 : Int32) = nI 0 from rfl, g1, show nI c + 1 = nI (c + 1) from nI_1 _]
        obtain ⟨w', v', b', od', hn', hs', ord', oi', x', k1, k2⟩ := ih N (i + 1) (c + 1) b2' r.1 r.2.1 r.2.2.1 r.2.2.2.1 r.2.2.2.2.1 r.2.2.2.2.2.1 (sm ||| nI i) (ev &&& nI i) r.2.2.2.2.2.2.1 oi1 r.2.2.2.2.2.2.2 (by omega) (by omega)
        refine ⟨w', v', b', od', hn', hs', ord', oi', x', ?_, fun j hj => ?_⟩
        · rw [k1, hb2, show c + (i :: zrun (pFt p) (i + 1) m).length = c + 1 + (zrun (pFt p) (i + 1) m).length by simp; omega]
          rfl
        · rw [k2 j hj, g2 j (by omega), if_pos (by omega), zcn_cons, Int32.add_assoc, nI_add]
      by_cases q : nI c = b1
      · rw [if_pos q]
        exact key (nI i) (by rw [if_pos q])
      · rw [if_neg q]
        exact key b2 (by rw [if_neg q])
theorem pX7_fit29 (hp : zPok p) {b1 b2 w v b od hn hs fn sn en : Int32} {ord x : Nat → Int32} : ∀ (n N k : Nat) (oi : Nat → Int32), k + n = 4 → n < N → (∀ j, j < k → oi j = 0) →
    ∃ oi', fX7_fitting_29 sets ways steps unsures saws hit weighed at' line may memory put saw unsure N b1 b2 (nI k) w v b od hn hs fn sn en ord oi x = fX7_fitting_49 sets ways steps unsures saws hit weighed at' line may memory put saw unsure zF b1 b2 (nI 0) w v b od hn hs fn sn en ord oi' x ∧ ∀ j, j < 4 → oi' j = 0 := by
  intro n
  induction n with
  | zero =>
    intro N k oi h hN hz
    obtain ⟨N, rfl⟩ : ∃ k, N = k + 1 := ⟨N - 1, by omega⟩
    rw [fX7_fitting_29, if_pos (show (4 : Int32) ≤ nI k from nI_le (a := 4) (b := k) (by omega) (by omega))]
    exact ⟨oi, rfl, fun j hj => hz j (by omega)⟩
  | succ n ih =>
    intro N k oi h hN hz
    obtain ⟨N, rfl⟩ : ∃ k, N = k + 1 := ⟨N - 1, by omega⟩
    rw [fX7_fitting_29, if_neg (show ¬ (4 : Int32) ≤ nI k from nI_ge (a := k) (b := 4) (by omega) (by omega)), zast_n (by omega) (by omega), zlet_e, show nI k + 1 = nI (k + 1) from nI_1 _]
    exact ih N (k + 1) _ (by omega) (by omega) (fun j hj => by
      by_cases c : j = k
      · rw [c, pk_us]
      · rw [pk_un c]; exact hz j (by omega))
theorem pX7_fitting (hp : zPok p) (hm : zPM p sets ways steps unsures saws hit weighed at' line may memory put saw unsure) {a1 w v b od hn hs fn sn en : Int32} {ord oi x : Nat → Int32} :
    ∃ w' v' b' od' hn' hs' ord' oi' x', fX7_fitting w v b od hn hs fn sn en sets ways steps unsures saws hit weighed ord oi x at' line may memory put saw unsure a1 = some (zfd a1 0 (pF p) (-1), w', v', b', od', hn', hs', nI (pF p).length, (pF p).foldl (fun a o => a ||| nI o) 0, (if nI (pF p).length = 0 then 0 else (pF p).foldl (fun a o => a &&& nI o) (nI (pN p) - 1)), ord', oi', x') ∧ ∀ j, j < (pU p).length → oi' j = nI (zcn (pF p) j) := by
  have h4 : (pU p).length ≤ 4 := hp.2.2.2.2.2.1
  unfold fX7_fitting
  rw [show (1 : Int32) <<< (unsures &&& 31) = nI (pN p) by rw [hm.2.2.2.2.1]; exact pN_sh hp, zlet_e, zlet_e]
  obtain ⟨oi1, g1, g2⟩ := pX7_fit29 (sets := sets) (ways := ways) (steps := steps) (unsures := unsures) (saws := saws) (hit := hit) (weighed := weighed) (at' := at') (line := line) (may := may) (memory := memory) (put := put) (saw := saw) (unsure := unsure) (b1 := a1) (b2 := -1) (w := w) (v := v) (b := b) (od := od) (hn := hn) (hs := hs) (fn := 0) (sn := 0) (en := nI (pN p) - 1) (ord := ord) (x := x) hp 4 zF 0 oi (by omega) (zF_gt (by omega)) (fun j hj => by omega)
  rw [show nI 0 = (0 : Int32) from rfl] at g1
  rw [g1]
  obtain ⟨w', v', b', od', hn', hs', ord', oi', x', k1, k2⟩ := pX7_fit49 (b1 := a1) hp hm (pN p) zF 0 0 (-1) w v b od hn hs 0 (nI (pN p) - 1) ord oi1 x (by omega) (zF_gt (by have := pN_le hp; omega))
  rw [Nat.zero_add] at k1
  refine ⟨w', v', b', od', hn', hs', ord', oi', x', k1, fun j hj => ?_⟩
  rw [k2 j hj, g2 j (by omega), Int32.zero_add]
  rfl
end FITM
