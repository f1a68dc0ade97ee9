/-! ===== cache, image, back: both sides ===== -/
def zv {α : Type} (f : Nat → α) (i : Nat) (v : α) : Nat → α := fun j => if j = i then v else f j
theorem zv_same {α : Type} {f : Nat → α} {i : Nat} {v : α} : zv f i v i = v := if_pos rfl
theorem zv_other {α : Type} {f : Nat → α} {i j : Nat} {v : α} (h : ¬ j = i) : zv f i v j = f j := if_neg h
theorem zv_self {α : Type} {f : Nat → α} {i : Nat} : zv f i (f i) = f := by
  funext j
  unfold zv
  split
  · rename_i h
    rw [h]
  · rfl
theorem IM_low {E : zE} {rs : Nat → Nat → Nat} {ss : Nat → Nat → Int32} {ca : Nat → Nat → Nat → Int32} {d : Nat} {r : Nat → Nat} {x : Nat → Int32} {y : Nat → Nat → Int32} : ∀ e, e ≤ d → IM E (zv rs d r) (zv ss d x) (zv ca d y) e = IM E rs ss ca e
  | 0, _ => rfl
  | e + 1, h => by
    unfold IM
    rw [IM_low e (by omega), zv_other (by omega), zv_other (by omega), zv_other (by omega)]
theorem IM_new {E : zE} {rs : Nat → Nat → Nat} {ss : Nat → Nat → Int32} {ca : Nat → Nat → Nat → Int32} {e : Nat} {r : Nat → Nat} {x : Nat → Int32} {y : Nat → Nat → Int32} : IM E (zv rs e r) (zv ss e x) (zv ca e y) (e + 1) = ST E r x y ++ IM E rs ss ca e := by
  show ST E (zv rs e r e) (zv ss e x e) (zv ca e y e) ++ IM E (zv rs e r) (zv ss e x) (zv ca e y) e = _
  rw [IM_low e (Nat.le_refl _), zv_same, zv_same, zv_same]
/-- one store brought forward, whatever it holds -/
theorem IM_at {E : zE} {rs : Nat → Nat → Nat} {ss : Nat → Nat → Int32} {ca : Nat → Nat → Nat → Int32} {d : Nat} : ∀ e, d < e → ∃ Y : va_W, ∀ (x : Nat → Int32) (y : Nat → Nat → Int32), (ST E (rs d) x y ++ Y).Perm (IM E rs (zv ss d x) (zv ca d y) e)
  | 0, h => absurd h (Nat.not_lt_zero _)
  | e + 1, h => by
    by_cases c : d = e
    · subst c
      refine ⟨IM E rs ss ca d, fun x y => ?_⟩
      have := IM_new (E := E) (rs := rs) (ss := ss) (ca := ca) (e := d) (r := rs d) (x := x) (y := y)
      rw [zv_self] at this
      rw [this]
    · obtain ⟨Y, hY⟩ := IM_at (E := E) (rs := rs) (ss := ss) (ca := ca) e (show d < e by omega)
      refine ⟨ST E (rs e) (ss e) (ca e) ++ Y, fun x y => ?_⟩
      show (ST E (rs d) x y ++ (ST E (rs e) (ss e) (ca e) ++ Y)).Perm (ST E (rs e) (zv ss d x e) (zv ca d y e) ++ IM E rs (zv ss d x) (zv ca d y) e)
      rw [zv_other (fun h => c h.symm), zv_other (fun h => c h.symm)]
      have h1 : (ST E (rs d) x y ++ (ST E (rs e) (ss e) (ca e) ++ Y)).Perm (ST E (rs e) (ss e) (ca e) ++ (ST E (rs d) x y ++ Y)) := by
        rw [← List.append_assoc, ← List.append_assoc]
        exact List.perm_append_comm.append_right Y
      exact h1.trans (List.Perm.append_left _ (hY x y))
section CIB
variable {j e t : Nat} {s : Nat → Int32} {a : Nat → Nat → Int32} {g : Nat → Option Nat} {ms : Nat → Int32} {ma : Nat → Nat → Int32} {sl : Int64} {rs : Nat → Nat → Nat} {ss : Nat → Nat → Int32} {ca : Nat → Nat → Nat → Int32}
set_option maxHeartbeats 2000000 in
theorem b_cache (h0 : zB0 t s a ms ma) (hg : zBg e g rs) (a1 : Int32) :
    (∃ (x : Int32 × Int32) (y : Int32 × Int32 × Int32 × Int32), fX5_cacheR (s 0) (s 3) a1 = some x ∧ fX7_cacheR (ms 0) (ms 1) (ms 2) (ms 3) a1 = some y ∧ x.1 = y.1 ∧ zB0 t (zu s 3 x.2) a (zu (zu (zu ms 0 y.2.1) 1 y.2.2.1) 2 y.2.2.2) ma) ∨
    (∃ (x : Int32 × Int32 × Int32 × Int32 × Int32 × Int32 × Int32 × Int32 × Int32 × Int32 × Int32 × Int32 × Int32 × Int32 × Int32 × Int32 × Int32 × Int32 × (Nat → Int32) × (Nat → Int32) × (Nat → Int32) × (Nat → Int32) × (Nat → Int32) × (Nat → Int32) × (Nat → Int32) × (Nat → Int32)) (y : Int32 × Int32 × Int32 × Int32 × Int32 × Int32 × Int32 × Int32 × Int32 × Int32 × Int32 × Int32 × Int64 × Int32 × Int32 × Int32 × Int32 × Int32 × Int32 × Int32 × Int32 × Int32 × (Nat → Int32) × (Nat → Int32) × (Nat → Int32) × (Nat → Int32) × (Nat → Int32) × (Nat → Int32) × (Nat → Int32)), fX5_cacheF (s 0) (s 3) (s 13) (s 14) (s 15) (s 16) (s 17) (s 18) (s 19) (s 20) (a 1) (s 22) (s 23) (s 24) (s 25) (s 26) (s 27) (s 28) (a 13) (a 19) (a 18) (a 14) (a 15) (a 12) (a 16) (a 17) a1 = some x ∧ fX7_cacheF (ms 0) (ms 1) (ms 2) (ms 3) (ms 4) (ms 5) (ms 6) (ms 7) (ms 8) (ms 9) (ms 10) sl (ma 1) a1 = some y ∧ x.1 = y.1 ∧ zB0 0 (zu (zu (zu (zu (zu (zu (zu (zu (zu (zu (zu (zu (zu (zu (zu (zu (zu s 0 x.2.1) 3 x.2.2.1) 13 x.2.2.2.1) 14 x.2.2.2.2.1) 15 x.2.2.2.2.2.1) 16 x.2.2.2.2.2.2.1) 17 x.2.2.2.2.2.2.2.1) 18 x.2.2.2.2.2.2.2.2.1) 19 x.2.2.2.2.2.2.2.2.2.1) 20 x.2.2.2.2.2.2.2.2.2.2.1) 22 x.2.2.2.2.2.2.2.2.2.2.2.1) 23 x.2.2.2.2.2.2.2.2.2.2.2.2.1) 24 x.2.2.2.2.2.2.2.2.2.2.2.2.2.1) 25 x.2.2.2.2.2.2.2.2.2.2.2.2.2.2.1) 26 x.2.2.2.2.2.2.2.2.2.2.2.2.2.2.2.1) 27 x.2.2.2.2.2.2.2.2.2.2.2.2.2.2.2.2.1) 28 x.2.2.2.2.2.2.2.2.2.2.2.2.2.2.2.2.2.1) (zu (zu (zu (zu (zu (zu (zu (zu a 13 x.2.2.2.2.2.2.2.2.2.2.2.2.2.2.2.2.2.2.1) 19 x.2.2.2.2.2.2.2.2.2.2.2.2.2.2.2.2.2.2.2.1) 18 x.2.2.2.2.2.2.2.2.2.2.2.2.2.2.2.2.2.2.2.2.1) 14 x.2.2.2.2.2.2.2.2.2.2.2.2.2.2.2.2.2.2.2.2.2.1) 15 x.2.2.2.2.2.2.2.2.2.2.2.2.2.2.2.2.2.2.2.2.2.2.1) 12 x.2.2.2.2.2.2.2.2.2.2.2.2.2.2.2.2.2.2.2.2.2.2.2.1) 16 x.2.2.2.2.2.2.2.2.2.2.2.2.2.2.2.2.2.2.2.2.2.2.2.2.1) 17 x.2.2.2.2.2.2.2.2.2.2.2.2.2.2.2.2.2.2.2.2.2.2.2.2.2) (zu (zu (zu (zu (zu (zu (zu (zu (zu (zu (zu ms 0 y.2.1) 1 y.2.2.1) 2 y.2.2.2.1) 3 y.2.2.2.2.1) 4 y.2.2.2.2.2.1) 5 y.2.2.2.2.2.2.1) 6 y.2.2.2.2.2.2.2.1) 7 y.2.2.2.2.2.2.2.2.1) 8 y.2.2.2.2.2.2.2.2.2.1) 9 y.2.2.2.2.2.2.2.2.2.2.1) 10 y.2.2.2.2.2.2.2.2.2.2.2.1) ma) ∨
    (∃ (x : Int32 × Int32 × Int32 × Int32 × Int32 × Int32 × Int32 × Int32 × Int32 × Int32 × Int32 × Int32 × Int32 × Int32 × Int32 × Int32 × Int32 × Int32 × Int32 × Int32 × Int32 × Int32 × Int32 × Int32 × Int32 × Int32 × Int32 × Int32 × Int32 × (Nat → Int32) × (Nat → Int32) × (Nat → Int32) × (Nat → Int32) × Int32 × Int32 × Int32 × Int32 × Int32 × Int32 × Int32 × Int32 × (Nat → Int32) × (Nat → Int32) × (Nat → Int32) × (Nat → Int32) × (Nat → Int32) × (Nat → Int32) × (Nat → Int32) × (Nat → Int32) × (Nat → Int32) × (Nat → Int32) × (Nat → Int32) × (Nat → Int32) × (Nat → Int32) × (Nat → Int32)) (y : Int32 × Int32 × Int32 × Int32 × Int32 × Int32 × Int32 × Int32 × Int32 × Int32 × Int32 × Int32 × Int64 × Int32 × Int32 × Int32 × Int32 × Int32 × Int32 × Int32 × Int32 × Int32 × Int32 × Int32 × Int32 × Int32 × Int32 × (Nat → Int32) × (Nat → Int32) × (Nat → Int32) × (Nat → Int32) × (Nat → Int32) × (Nat → Int32) × (Nat → Int32) × (Nat → Int32) × (Nat → Int32)), fX5_cacheS (s 0) (s 1) (s 2) (s 3) (s 29) (s 30) (s 31) (s 32) (s 33) (s 34) (s 35) (s 36) (s 45) (s 13) (s 14) (s 15) (s 16) (s 17) (s 18) (s 19) (s 20) (a 1) (s 22) (s 23) (s 24) (s 25) (s 26) (s 27) (s 28) (a 27) (a 25) (a 22) (a 26) (a 24) (a 23) (s 46) (s 47) (s 48) (s 49) (s 50) (s 51) (s 52) (s 53) (a 13) (a 19) (a 18) (a 14) (a 15) (a 12) (a 16) (a 17) (a 42) (a 40) (a 37) (a 41) (a 39) (a 38) a1 = some x ∧ fX7_cacheS (ms 0) (ms 1) (ms 2) (ms 3) (ms 4) (ms 5) (ms 6) (ms 7) (ms 8) (ms 9) (ms 10) sl (ms 11) (ms 12) (ms 13) (ms 14) (ms 15) (ma 1) (ma 2) (ma 3) a1 = some y ∧ x.1 = y.1 ∧ zGC (j + 1) e (fun i => (zu (zu (zu (zu (zu (zu (zu (zu (zu (zu (zu (zu (zu (zu (zu (zu (zu (zu (zu (zu (zu (zu (zu (zu (zu (zu (zu (zu (zu (zu (zu (zu (zu (zu (zu (zu s 0 x.2.1) 1 x.2.2.1) 2 x.2.2.2.1) 3 x.2.2.2.2.1) 29 x.2.2.2.2.2.1) 30 x.2.2.2.2.2.2.1) 31 x.2.2.2.2.2.2.2.1) 32 x.2.2.2.2.2.2.2.2.1) 33 x.2.2.2.2.2.2.2.2.2.1) 34 x.2.2.2.2.2.2.2.2.2.2.1) 35 x.2.2.2.2.2.2.2.2.2.2.2.1) 36 x.2.2.2.2.2.2.2.2.2.2.2.2.1) 45 x.2.2.2.2.2.2.2.2.2.2.2.2.2.1) 13 x.2.2.2.2.2.2.2.2.2.2.2.2.2.2.1) 14 x.2.2.2.2.2.2.2.2.2.2.2.2.2.2.2.1) 15 x.2.2.2.2.2.2.2.2.2.2.2.2.2.2.2.2.1) 16 x.2.2.2.2.2.2.2.2.2.2.2.2.2.2.2.2.2.1) 17 x.2.2.2.2.2.2.2.2.2.2.2.2.2.2.2.2.2.2.1) 18 x.2.2.2.2.2.2.2.2.2.2.2.2.2.2.2.2.2.2.2.1) 19 x.2.2.2.2.2.2.2.2.2.2.2.2.2.2.2.2.2.2.2.2.1) 20 x.2.2.2.2.2.2.2.2.2.2.2.2.2.2.2.2.2.2.2.2.2.1) 22 x.2.2.2.2.2.2.2.2.2.2.2.2.2.2.2.2.2.2.2.2.2.2.1) 23 x.2.2.2.2.2.2.2.2.2.2.2.2.2.2.2.2.2.2.2.2.2.2.2.1) 24 x.2.2.2.2.2.2.2.2.2.2.2.2.2.2.2.2.2.2.2.2.2.2.2.2.1) 25 x.2.2.2.2.2.2.2.2.2.2.2.2.2.2.2.2.2.2.2.2.2.2.2.2.2.1) 26 x.2.2.2.2.2.2.2.2.2.2.2.2.2.2.2.2.2.2.2.2.2.2.2.2.2.2.1) 27 x.2.2.2.2.2.2.2.2.2.2.2.2.2.2.2.2.2.2.2.2.2.2.2.2.2.2.2.1) 28 x.2.2.2.2.2.2.2.2.2.2.2.2.2.2.2.2.2.2.2.2.2.2.2.2.2.2.2.2.1) 46 x.2.2.2.2.2.2.2.2.2.2.2.2.2.2.2.2.2.2.2.2.2.2.2.2.2.2.2.2.2.2.2.2.2.1) 47 x.2.2.2.2.2.2.2.2.2.2.2.2.2.2.2.2.2.2.2.2.2.2.2.2.2.2.2.2.2.2.2.2.2.2.1) 48 x.2.2.2.2.2.2.2.2.2.2.2.2.2.2.2.2.2.2.2.2.2.2.2.2.2.2.2.2.2.2.2.2.2.2.2.1) 49 x.2.2.2.2.2.2.2.2.2.2.2.2.2.2.2.2.2.2.2.2.2.2.2.2.2.2.2.2.2.2.2.2.2.2.2.2.1) 50 x.2.2.2.2.2.2.2.2.2.2.2.2.2.2.2.2.2.2.2.2.2.2.2.2.2.2.2.2.2.2.2.2.2.2.2.2.2.1) 51 x.2.2.2.2.2.2.2.2.2.2.2.2.2.2.2.2.2.2.2.2.2.2.2.2.2.2.2.2.2.2.2.2.2.2.2.2.2.2.1) 52 x.2.2.2.2.2.2.2.2.2.2.2.2.2.2.2.2.2.2.2.2.2.2.2.2.2.2.2.2.2.2.2.2.2.2.2.2.2.2.2.1) 53 x.2.2.2.2.2.2.2.2.2.2.2.2.2.2.2.2.2.2.2.2.2.2.2.2.2.2.2.2.2.2.2.2.2.2.2.2.2.2.2.2.1) (zss i)) (fun i => (zu (zu (zu (zu (zu (zu (zu (zu (zu (zu (zu (zu (zu (zu (zu (zu (zu (zu a 27 x.2.2.2.2.2.2.2.2.2.2.2.2.2.2.2.2.2.2.2.2.2.2.2.2.2.2.2.2.2.1) 22 x.2.2.2.2.2.2.2.2.2.2.2.2.2.2.2.2.2.2.2.2.2.2.2.2.2.2.2.2.2.2.1) 24 x.2.2.2.2.2.2.2.2.2.2.2.2.2.2.2.2.2.2.2.2.2.2.2.2.2.2.2.2.2.2.2.1) 23 x.2.2.2.2.2.2.2.2.2.2.2.2.2.2.2.2.2.2.2.2.2.2.2.2.2.2.2.2.2.2.2.2.1) 13 x.2.2.2.2.2.2.2.2.2.2.2.2.2.2.2.2.2.2.2.2.2.2.2.2.2.2.2.2.2.2.2.2.2.2.2.2.2.2.2.2.2.1) 19 x.2.2.2.2.2.2.2.2.2.2.2.2.2.2.2.2.2.2.2.2.2.2.2.2.2.2.2.2.2.2.2.2.2.2.2.2.2.2.2.2.2.2.1) 18 x.2.2.2.2.2.2.2.2.2.2.2.2.2.2.2.2.2.2.2.2.2.2.2.2.2.2.2.2.2.2.2.2.2.2.2.2.2.2.2.2.2.2.2.1) 14 x.2.2.2.2.2.2.2.2.2.2.2.2.2.2.2.2.2.2.2.2.2.2.2.2.2.2.2.2.2.2.2.2.2.2.2.2.2.2.2.2.2.2.2.2.1) 15 x.2.2.2.2.2.2.2.2.2.2.2.2.2.2.2.2.2.2.2.2.2.2.2.2.2.2.2.2.2.2.2.2.2.2.2.2.2.2.2.2.2.2.2.2.2.1) 12 x.2.2.2.2.2.2.2.2.2.2.2.2.2.2.2.2.2.2.2.2.2.2.2.2.2.2.2.2.2.2.2.2.2.2.2.2.2.2.2.2.2.2.2.2.2.2.1) 16 x.2.2.2.2.2.2.2.2.2.2.2.2.2.2.2.2.2.2.2.2.2.2.2.2.2.2.2.2.2.2.2.2.2.2.2.2.2.2.2.2.2.2.2.2.2.2.2.1) 17 x.2.2.2.2.2.2.2.2.2.2.2.2.2.2.2.2.2.2.2.2.2.2.2.2.2.2.2.2.2.2.2.2.2.2.2.2.2.2.2.2.2.2.2.2.2.2.2.2.1) 42 x.2.2.2.2.2.2.2.2.2.2.2.2.2.2.2.2.2.2.2.2.2.2.2.2.2.2.2.2.2.2.2.2.2.2.2.2.2.2.2.2.2.2.2.2.2.2.2.2.2.1) 40 x.2.2.2.2.2.2.2.2.2.2.2.2.2.2.2.2.2.2.2.2.2.2.2.2.2.2.2.2.2.2.2.2.2.2.2.2.2.2.2.2.2.2.2.2.2.2.2.2.2.2.1) 37 x.2.2.2.2.2.2.2.2.2.2.2.2.2.2.2.2.2.2.2.2.2.2.2.2.2.2.2.2.2.2.2.2.2.2.2.2.2.2.2.2.2.2.2.2.2.2.2.2.2.2.2.1) 41 x.2.2.2.2.2.2.2.2.2.2.2.2.2.2.2.2.2.2.2.2.2.2.2.2.2.2.2.2.2.2.2.2.2.2.2.2.2.2.2.2.2.2.2.2.2.2.2.2.2.2.2.2.1) 39 x.2.2.2.2.2.2.2.2.2.2.2.2.2.2.2.2.2.2.2.2.2.2.2.2.2.2.2.2.2.2.2.2.2.2.2.2.2.2.2.2.2.2.2.2.2.2.2.2.2.2.2.2.2.1) 38 x.2.2.2.2.2.2.2.2.2.2.2.2.2.2.2.2.2.2.2.2.2.2.2.2.2.2.2.2.2.2.2.2.2.2.2.2.2.2.2.2.2.2.2.2.2.2.2.2.2.2.2.2.2.2) (zsw i)) g (zu (zu (zu (zu (zu (zu (zu (zu (zu (zu (zu (zu (zu (zu (zu (zu (zu (zu (zu (zu (zu (zu (zu (zu (zu ms 0 y.2.1) 1 y.2.2.1) 2 y.2.2.2.1) 3 y.2.2.2.2.1) 4 y.2.2.2.2.2.1) 5 y.2.2.2.2.2.2.1) 6 y.2.2.2.2.2.2.2.1) 7 y.2.2.2.2.2.2.2.2.1) 8 y.2.2.2.2.2.2.2.2.2.1) 9 y.2.2.2.2.2.2.2.2.2.2.1) 10 y.2.2.2.2.2.2.2.2.2.2.2.1) 11 y.2.2.2.2.2.2.2.2.2.2.2.2.2.1) 12 y.2.2.2.2.2.2.2.2.2.2.2.2.2.2.1) 13 y.2.2.2.2.2.2.2.2.2.2.2.2.2.2.2.1) 14 y.2.2.2.2.2.2.2.2.2.2.2.2.2.2.2.2.1) 15 y.2.2.2.2.2.2.2.2.2.2.2.2.2.2.2.2.2.1) 26 y.2.2.2.2.2.2.2.2.2.2.2.2.2.2.2.2.2.2.1) 27 y.2.2.2.2.2.2.2.2.2.2.2.2.2.2.2.2.2.2.2.1) 28 y.2.2.2.2.2.2.2.2.2.2.2.2.2.2.2.2.2.2.2.2.1) 29 y.2.2.2.2.2.2.2.2.2.2.2.2.2.2.2.2.2.2.2.2.2.1) 30 y.2.2.2.2.2.2.2.2.2.2.2.2.2.2.2.2.2.2.2.2.2.2.1) 31 y.2.2.2.2.2.2.2.2.2.2.2.2.2.2.2.2.2.2.2.2.2.2.2.1) 32 y.2.2.2.2.2.2.2.2.2.2.2.2.2.2.2.2.2.2.2.2.2.2.2.2.1) 33 y.2.2.2.2.2.2.2.2.2.2.2.2.2.2.2.2.2.2.2.2.2.2.2.2.2.1) 34 y.2.2.2.2.2.2.2.2.2.2.2.2.2.2.2.2.2.2.2.2.2.2.2.2.2.2.1) (zu (zu (zu (zu (zu (zu (zu (zu (zu ma 2 y.2.2.2.2.2.2.2.2.2.2.2.2.2.2.2.2.2.2.2.2.2.2.2.2.2.2.2.2.2.2.2.2.2.2.1) 3 y.2.2.2.2.2.2.2.2.2.2.2.2.2.2.2.2.2.2.2.2.2.2.2.2.2.2.2.2.2.2.2.2.2.2.2) 11 y.2.2.2.2.2.2.2.2.2.2.2.2.2.2.2.2.2.2.2.2.2.2.2.2.2.2.2.2.2.2.1) 12 y.2.2.2.2.2.2.2.2.2.2.2.2.2.2.2.2.2.2.2.2.2.2.2.2.2.2.2.2.1) 13 y.2.2.2.2.2.2.2.2.2.2.2.2.2.2.2.2.2.2.2.2.2.2.2.2.2.2.2.1) 14 y.2.2.2.2.2.2.2.2.2.2.2.2.2.2.2.2.2.2.2.2.2.2.2.2.2.2.2.2.2.2.2.1) 15 y.2.2.2.2.2.2.2.2.2.2.2.2.2.2.2.2.2.2.2.2.2.2.2.2.2.2.2.2.2.2.2.2.2.1) 16 y.2.2.2.2.2.2.2.2.2.2.2.2.2.2.2.2.2.2.2.2.2.2.2.2.2.2.2.2.2.1) 17 y.2.2.2.2.2.2.2.2.2.2.2.2.2.2.2.2.2.2.2.2.2.2.2.2.2.2.2.2.2.2.2.2.1) rs ss ca) := by
  obtain ⟨hT, z0, z3, hr⟩ := id h0
  by_cases c : ∃ n, n ≤ t ∧ a1 = nI n
  · obtain ⟨n, hn, rfl⟩ := c
    refine Or.inr ?_
    rcases m_cache (nc := 0) (n := n) (hc := (s 1)) (im := (s 2)) (rf := (s 3)) (ss := (s 29)) (sw := (s 30)) (sg := (s 31)) (sp := (s 32)) (sc := (s 33)) (sh := (s 34)) (sv := (s 35)) (sb := (s 36)) (kept := (s 45)) (cs := (s 13)) (cw := (s 14)) (cg := (s 15)) (cl := (s 16)) (cst := (s 17)) (cu := (s 18)) (cse := (s 19)) (kn := (s 20)) (te := (s 22)) (ta := (s 23)) (tk := (s 24)) (ts := (s 25)) (tv := (s 26)) (tf := (s 27)) (tpl := (s 28)) (sd := (a 27)) (sl := (a 25)) (sm := (a 22)) (ssh := (a 26)) (su := (a 24)) (sws := (a 23)) (rs := (s 46)) (rw' := (s 47)) (rg := (s 48)) (rp := (s 49)) (rc := (s 50)) (rh := (s 51)) (rv := (s 52)) (rb := (s 53)) (cm := (a 13)) (csh := (a 19)) (css := (a 18)) (csp := (a 14)) (csw := (a 15)) (cta := (a 12)) (cus := (a 16)) (cuw := (a 17)) (rd := (a 42)) (rl := (a 40)) (rm := (a 37)) (rsh := (a 41)) (ru := (a 39)) (rws := (a 38)) (th := (ms 0)) (tr := (ms 1)) (wh := (ms 2)) (m1 := (ms 4)) (m2 := (ms 5)) (m3 := (ms 6)) (m4 := (ms 7)) (m5 := (ms 8)) (mf := (ms 9)) (m6 := (ms 10)) (m7 := sl) (ac := (ms 11)) (ims := (ms 12)) (m8 := (ms 13)) (m9 := (ms 14)) (m10 := (ms 15)) (v0 := (ma 2)) (x := (ma 3)) hT hn (by decide) with ⟨p, nl, v1, v2, v3, v4, v5, v6, v7, v8, v9, v10, v11, v12, v13, v14, v15, v16, v17, v18, v19, v20, v21, v22, v23, v24, v25, v26, v27, v28, v29, v30, c1, c2, c3, c4, c5, c6, c7, c8, c9, c10, c11, c12, c13, c14, c15, c16, c17, c18, hpo, e1, hpx, hl1, hAb, hCl, b1, b2, b3, b4, b5, b6, b7, b8, b9, d1, d2, d3, d4, d5, d6, d7, d8, d9, f1, f2, f3, f4, f5, f6, f7, f8, f9, e2, hpm, hl2, hMo⟩ | ⟨fl, pos, hfl, ⟨v1, v2, v3, v4, v5, v6, v7, v8, v9, v10, v11, v12, v13, w, e1⟩, b1, b2, b3, b4, b5, w2, e2⟩
    · refine Or.inr ?_
      rw [← z0] at e1
      rw [← z3] at e2
      exact ⟨_, _, e1, e2, rfl, rfl, hg, 0, 1, p, nl, _, [], [], Nat.succ_le_succ (Nat.zero_le j), ⟨⟨Nat.zero_le _, rfl, fun _ h => absurd h (Nat.not_lt_zero _)⟩, rfl, rfl, rfl, fun h => absurd h (show ¬ (0 : Int32) = 4 by decide), fun _ => rfl, rfl⟩, ⟨hpo, hpx, Or.inl rfl, hl1, hl2, hpm⟩, ⟨hAb, hCl _ _ _, hMo _⟩, ⟨⟨Nat.zero_le _, fun _ h => nomatch h⟩, rfl, ⟨rfl, fun _ _ h => nomatch h⟩, Nat.zero_le _, fun _ _ h => nomatch h⟩⟩
    · refine Or.inl ?_
      rw [← z0] at e1
      rw [← z3] at e2
      exact ⟨_, _, e1, e2, rfl, ⟨Nat.zero_le _, rfl, fun _ h => absurd h (Nat.not_lt_zero _)⟩, rfl, rfl, rfl, fun _ => rfl, fun h => absurd rfl h, rfl⟩
  · obtain ⟨e1, e2⟩ := m_cacheR (th := ms 0) (tr := ms 1) (wh := ms 2) (rf := s 3) hT.1 c
    rw [← z0] at e1
    rw [← z3] at e2
    exact Or.inl ⟨_, _, e1, e2, rfl, zB0_q (t' := 2) h0 (by decide) rfl rfl rfl rfl rfl rfl rfl rfl rfl⟩
set_option maxHeartbeats 2000000 in
theorem r_image (H : zGC j e s a g ms ma rs ss ca) (hj : j < 512) :
    (∃ (x : Int32 × Int32) (y : Int32 × Int32 × Int32 × Int32 × Int32 × (Nat → Int32)), fX5_imageR (s 1) (s 2) (s 3) = some x ∧ fX7_image (ms 0) (ms 1) (ms 2) (ms 12) (ma 5) (ma 2) = some y ∧ x.1 = y.1 ∧ zGC (j + 1) e (zu s 3 x.2) a g (zu (zu (zu (zu ms 0 y.2.1) 1 y.2.2.1) 2 y.2.2.2.1) 12 y.2.2.2.2.1) (zu ma 5 y.2.2.2.2.2) rs ss ca) ∨
    (g (Int32.toNatClampNeg (s 2)) = none ∧ ∃ (x : Int32 × Int32 × Int32 × Int32 × Int32 × Int32 × Int32 × Int32 × Int32 × Int32 × Int32 × (Nat → Int32) × (Nat → Int32) × (Nat → Int32) × (Nat → Int32) × (Nat → Int32) × (Nat → Int32)) (y : Int32 × Int32 × Int32 × Int32 × Int32 × (Nat → Int32)), fX5_imageA (s 1) (s 2) (s 3) (s 29) (s 30) (s 31) (s 32) (s 33) (a 27) (a 25) (a 22) (a 26) (a 24) (a 23) = some x ∧ fX7_image (ms 0) (ms 1) (ms 2) (ms 12) (ma 5) (ma 2) = some y ∧ x.1 = y.1 ∧ ∀ r : Nat → Nat, zGC (j + 1) (e + 1) (zu (zu s 2 x.2.1) 3 x.2.2.1) a (va_up g (Int32.toNatClampNeg (s 2)) (some (r 0))) (zu (zu (zu (zu ms 0 y.2.1) 1 y.2.2.1) 2 y.2.2.2.1) 12 y.2.2.2.2.1) (zu ma 5 y.2.2.2.2.2) (zv rs e r) (zv ss e (zu (zu (zu (zu (zu (zu (zu (zu (fun _ => 0) 0 x.2.2.2.1) 1 x.2.2.2.2.1) 2 x.2.2.2.2.2.1) 3 x.2.2.2.2.2.2.1) 4 x.2.2.2.2.2.2.2.1) 5 x.2.2.2.2.2.2.2.2.1) 6 x.2.2.2.2.2.2.2.2.2.1) 7 x.2.2.2.2.2.2.2.2.2.2.1)) (zv ca e (zu (zu (zu (zu (zu (zu (fun _ _ => 0) 1 x.2.2.2.2.2.2.2.2.2.2.2.2.2.1) 2 x.2.2.2.2.2.2.2.2.2.2.2.2.2.2.2.2) 3 x.2.2.2.2.2.2.2.2.2.2.2.2.2.2.2.1) 4 x.2.2.2.2.2.2.2.2.2.2.2.2.1) 5 x.2.2.2.2.2.2.2.2.2.2.2.2.2.2.1) 6 x.2.2.2.2.2.2.2.2.2.2.2.1))) ∨
    (∃ d, d < e ∧ g (Int32.toNatClampNeg (s 2)) = some (rs d 0) ∧ ∃ (x : Int32 × Int32 × Int32 × Int32 × Int32 × Int32 × Int32 × Int32 × Int32 × Int32 × Int32 × (Nat → Int32) × (Nat → Int32) × (Nat → Int32) × (Nat → Int32) × (Nat → Int32) × (Nat → Int32)) (y : Int32 × Int32 × Int32 × Int32 × Int32 × (Nat → Int32)), fX5_imageB (s 1) (s 2) (s 3) (ss d 0) (ss d 1) (ss d 2) (ss d 3) (ss d 4) (ss d 5) (ss d 6) (ss d 7) (ca d 6) (ca d 4) (ca d 1) (ca d 5) (ca d 3) (ca d 2) (s 29) (s 30) (s 31) (s 32) (s 33) (a 27) (a 25) (a 22) (a 26) (a 24) (a 23) = some x ∧ fX7_image (ms 0) (ms 1) (ms 2) (ms 12) (ma 5) (ma 2) = some y ∧ x.1 = y.1 ∧ zGC (j + 1) e (zu (zu s 2 x.2.1) 3 x.2.2.1) a g (zu (zu (zu (zu ms 0 y.2.1) 1 y.2.2.1) 2 y.2.2.2.1) 12 y.2.2.2.2.1) (zu ma 5 y.2.2.2.2.2) rs (zv ss d (zu (zu (zu (zu (zu (zu (zu (zu (ss d) 0 x.2.2.2.1) 1 x.2.2.2.2.1) 2 x.2.2.2.2.2.1) 3 x.2.2.2.2.2.2.1) 4 x.2.2.2.2.2.2.2.1) 5 x.2.2.2.2.2.2.2.2.1) 6 x.2.2.2.2.2.2.2.2.2.1) 7 x.2.2.2.2.2.2.2.2.2.2.1)) (zv ca d (zu (zu (zu (zu (zu (zu (ca d) 6 x.2.2.2.2.2.2.2.2.2.2.2.1) 4 x.2.2.2.2.2.2.2.2.2.2.2.2.1) 1 x.2.2.2.2.2.2.2.2.2.2.2.2.2.1) 5 x.2.2.2.2.2.2.2.2.2.2.2.2.2.2.1) 3 x.2.2.2.2.2.2.2.2.2.2.2.2.2.2.2.1) 2 x.2.2.2.2.2.2.2.2.2.2.2.2.2.2.2.2))) := by
  obtain ⟨h1, hg, t, nc, p, nl, r, A, I, hnc, h0, hP, hN, hi⟩ := H
  obtain ⟨hb, hcl, hmo⟩ := id hN
  obtain ⟨hio, hi2, him, hie, his⟩ := id hi
  by_cases c3 : I.length = 3
  · obtain ⟨e1, e2⟩ := m_imageR (rf := s 3) (th := ms 0) (tr := ms 1) (wh := ms 2) (v0 := ma 2) c3 hi2 him
    have e1 : fX5_imageR (s 1) (s 2) (s 3) = some (-1, 3) := by
      rw [h1]
      exact e1
    exact Or.inl ⟨_, _, e1, e2, rfl, h1, hg, t, nc, p, nl, r, A, I, Nat.le_succ_of_le hnc, zB0_q (t' := 3) h0 (by decide) rfl rfl rfl rfl rfl rfl rfl rfl rfl, hP, hN, hi⟩
  · have hl : I.length < 3 := by have := hio.1; omega
    have hcp : Int32.toNatClampNeg (s 2) = I.length := by rw [hi2, nI_clamp (by omega)]
    obtain ⟨kp', e2, hmi'⟩ := m_image_m (th := ms 0) (tr := ms 1) (wh := ms 2) hl him hmo.2
    have hio' : zIok (pSt p) (pWy p) (pWg p) nc (I ++ [aActs (mkK (pSt p) (pWy p) (pWg p) false) r A]) := by
      refine ⟨by simp; omega, fun b hbm => ?_⟩
      rcases List.mem_append.mp hbm with h | h
      · exact hio.2 b h
      · rw [List.mem_singleton.mp h]
        exact zAb_now hb
    by_cases ce : I.length < e
    · refine Or.inr (Or.inr ⟨I.length, ce, ?_, ?_⟩)
      · rw [hcp, hg.2 _ (by omega), if_pos ce]
      · obtain ⟨i1, i2, i3, i4, i5, i6, i7, i8, i9, i10, i11, i12, i13, i14, e1, hS⟩ := m_imageB (rf := s 3) (j1 := ss I.length 0) (j2 := ss I.length 1) (j3 := ss I.length 2) (j4 := ss I.length 3) (j5 := ss I.length 4) (j6 := ss I.length 5) (j7 := ss I.length 6) (j8 := ss I.length 7) (k1 := ca I.length 6) (k2 := ca I.length 4) (k3 := ca I.length 1) (k4 := ca I.length 5) (k5 := ca I.length 3) (k6 := ca I.length 2) hl hi2 hcl.1
        rw [← h1] at e1
        refine ⟨_, _, e1, e2, rfl, h1, hg, t, nc, p, nl, r, A, I ++ [aActs (mkK (pSt p) (pWy p) (pWg p) false) r A], Nat.le_succ_of_le hnc, zB0_q (t' := 0) h0 (by decide) rfl rfl rfl rfl rfl rfl rfl rfl rfl, hP, hN, hio', ?_, hmi', ?_, ?_⟩
        · show nI (I.length + 1) = nI (I ++ [_]).length
          rw [List.length_append]
          rfl
        · rw [List.length_append]
          exact ce
        · intro d b hd
          by_cases cd : d = I.length
          · subst cd
            rw [List.getElem?_append_right (Nat.le_refl _), Nat.sub_self] at hd
            cases hd
            rw [zv_same, zv_same]
            exact hS
          · have hd2 : d < I.length := by
              have := (List.getElem?_eq_some_iff.mp hd).1
              rw [List.length_append] at this
              have h9 : [aActs (mkK (pSt p) (pWy p) (pWg p) false) r A].length = 1 := rfl
              omega
            rw [List.getElem?_append_left hd2] at hd
            rw [zv_other cd, zv_other cd]
            exact his d b hd
    · have hee : e = I.length := by omega
      subst hee
      refine Or.inr (Or.inl ⟨?_, ?_⟩)
      · rw [hcp, hg.2 _ (by omega), if_neg (Nat.lt_irrefl _)]
      · obtain ⟨i1, i2, i3, i4, i5, i6, i7, i8, i9, i10, i11, i12, i13, i14, e1, hS⟩ := m_imageA (rf := s 3) hl hi2 hcl.1
        rw [← h1] at e1
        refine ⟨_, _, e1, e2, rfl, fun rr => ⟨h1, ⟨by omega, fun d hd => ?_⟩, t, nc, p, nl, r, A, I ++ [aActs (mkK (pSt p) (pWy p) (pWg p) false) r A], Nat.le_succ_of_le hnc, zB0_q (t' := 0) h0 (by decide) rfl rfl rfl rfl rfl rfl rfl rfl rfl, hP, hN, hio', ?_, hmi', ?_, ?_⟩⟩
        · rw [hcp]
          by_cases cd : d = I.length
          · subst cd
            rw [if_pos (Nat.lt_succ_self _), zv_same]
            exact if_pos rfl
          · rw [zv_other cd]
            unfold va_up
            rw [if_neg cd, hg.2 d hd]
            by_cases c4 : d < I.length
            · rw [if_pos c4, if_pos (by omega)]
            · rw [if_neg c4, if_neg (by omega)]
        · show nI (I.length + 1) = nI (I ++ [_]).length
          rw [List.length_append]
          rfl
        · rw [List.length_append]
          exact Nat.le_refl _
        · intro d b hd
          by_cases cd : d = I.length
          · subst cd
            rw [List.getElem?_append_right (Nat.le_refl _), Nat.sub_self] at hd
            cases hd
            rw [zv_same, zv_same]
            exact hS
          · have hd2 : d < I.length := by
              have := (List.getElem?_eq_some_iff.mp hd).1
              rw [List.length_append] at this
              have h9 : [aActs (mkK (pSt p) (pWy p) (pWg p) false) r A].length = 1 := rfl
              omega
            rw [List.getElem?_append_left hd2] at hd
            rw [zv_other cd, zv_other cd]
            exact his d b hd
set_option maxHeartbeats 2000000 in
theorem r_back (H : zGC j e s a g ms ma rs ss ca) (hj : j < 512) (a1 : Int32) :
    (∃ (x : Int32 × Int32) (y : Int32 × Int32 × Int32 × Int32 × Int32 × (Nat → Int32)), fX5_backR (s 2) (s 3) a1 = some x ∧ fX7_back (ms 0) (ms 1) (ms 2) (ms 11) (ms 12) (ma 5) (ma 2) a1 = some y ∧ x.1 = y.1 ∧ zGC (j + 1) e (zu s 3 x.2) a g (zu (zu (zu (zu ms 0 y.2.1) 1 y.2.2.1) 2 y.2.2.2.1) 11 y.2.2.2.2.1) (zu ma 2 y.2.2.2.2.2) rs ss ca) ∨
    (∃ d, d < e ∧ g (Int32.toNatClampNeg a1) = some (rs d 0) ∧ ∃ (x : Int32 × Int32 × Int32 × Int32 × Int32 × Int32 × Int32 × Int32 × Int32 × Int32 × Int32 × (Nat → Int32) × (Nat → Int32) × (Nat → Int32) × (Nat → Int32) × (Nat → Int32) × (Nat → Int32) × Int32 × Int32 × Int32 × Int32 × Int32 × Int32 × Int32 × Int32 × (Nat → Int32) × (Nat → Int32) × (Nat → Int32) × (Nat → Int32) × (Nat → Int32) × (Nat → Int32)) (y : Int32 × Int32 × Int32 × Int32 × Int32 × (Nat → Int32)), fX5_backB (s 2) (s 3) (ss d 0) (ss d 1) (ss d 2) (ss d 3) (ss d 4) (ca d 6) (ca d 4) (ca d 1) (ca d 5) (ca d 3) (ca d 2) (s 29) (s 30) (s 31) (s 32) (s 33) (s 34) (s 35) (s 36) (s 45) (a 27) (a 25) (a 22) (a 26) (a 24) (a 23) (s 46) (s 47) (s 48) (s 49) (s 50) (s 51) (s 52) (s 53) (a 42) (a 40) (a 37) (a 41) (a 39) (a 38) a1 = some x ∧ fX7_back (ms 0) (ms 1) (ms 2) (ms 11) (ms 12) (ma 5) (ma 2) a1 = some y ∧ x.1 = y.1 ∧ zGC (j + 1) e (zu (zu (zu (zu (zu (zu (zu (zu (zu (zu (zu (zu (zu (zu (zu (zu (zu (zu s 3 x.2.1) 29 x.2.2.1) 30 x.2.2.2.1) 31 x.2.2.2.2.1) 32 x.2.2.2.2.2.1) 33 x.2.2.2.2.2.2.1) 34 x.2.2.2.2.2.2.2.1) 35 x.2.2.2.2.2.2.2.2.1) 36 x.2.2.2.2.2.2.2.2.2.1) 45 x.2.2.2.2.2.2.2.2.2.2.1) 46 x.2.2.2.2.2.2.2.2.2.2.2.2.2.2.2.2.2.1) 47 x.2.2.2.2.2.2.2.2.2.2.2.2.2.2.2.2.2.2.1) 48 x.2.2.2.2.2.2.2.2.2.2.2.2.2.2.2.2.2.2.2.1) 49 x.2.2.2.2.2.2.2.2.2.2.2.2.2.2.2.2.2.2.2.2.1) 50 x.2.2.2.2.2.2.2.2.2.2.2.2.2.2.2.2.2.2.2.2.2.1) 51 x.2.2.2.2.2.2.2.2.2.2.2.2.2.2.2.2.2.2.2.2.2.2.1) 52 x.2.2.2.2.2.2.2.2.2.2.2.2.2.2.2.2.2.2.2.2.2.2.2.1) 53 x.2.2.2.2.2.2.2.2.2.2.2.2.2.2.2.2.2.2.2.2.2.2.2.2.1) (zu (zu (zu (zu (zu (zu (zu (zu (zu (zu (zu (zu a 27 x.2.2.2.2.2.2.2.2.2.2.2.1) 25 x.2.2.2.2.2.2.2.2.2.2.2.2.1) 22 x.2.2.2.2.2.2.2.2.2.2.2.2.2.1) 26 x.2.2.2.2.2.2.2.2.2.2.2.2.2.2.1) 24 x.2.2.2.2.2.2.2.2.2.2.2.2.2.2.2.1) 23 x.2.2.2.2.2.2.2.2.2.2.2.2.2.2.2.2.1) 42 x.2.2.2.2.2.2.2.2.2.2.2.2.2.2.2.2.2.2.2.2.2.2.2.2.2.1) 40 x.2.2.2.2.2.2.2.2.2.2.2.2.2.2.2.2.2.2.2.2.2.2.2.2.2.2.1) 37 x.2.2.2.2.2.2.2.2.2.2.2.2.2.2.2.2.2.2.2.2.2.2.2.2.2.2.2.1) 41 x.2.2.2.2.2.2.2.2.2.2.2.2.2.2.2.2.2.2.2.2.2.2.2.2.2.2.2.2.1) 39 x.2.2.2.2.2.2.2.2.2.2.2.2.2.2.2.2.2.2.2.2.2.2.2.2.2.2.2.2.2.1) 38 x.2.2.2.2.2.2.2.2.2.2.2.2.2.2.2.2.2.2.2.2.2.2.2.2.2.2.2.2.2.2) g (zu (zu (zu (zu ms 0 y.2.1) 1 y.2.2.1) 2 y.2.2.2.1) 11 y.2.2.2.2.1) (zu ma 2 y.2.2.2.2.2) rs ss ca) := by
  obtain ⟨h1, hg, t, nc, p, nl, r, A, I, hnc, h0, hP, hN, hi⟩ := H
  obtain ⟨hb, hcl, hmo⟩ := id hN
  obtain ⟨hio, hi2, him, hie, his⟩ := id hi
  by_cases c : ∃ d, d < I.length ∧ a1 = nI d
  · obtain ⟨d, hd, rfl⟩ := c
    have hd3 := hio.1
    have hgd : g (Int32.toNatClampNeg (nI d)) = some (rs d 0) := by rw [nI_clamp (by omega), hg.2 d (by omega), if_pos (by omega)]
    have hbd : I[d]? = some (I[d]) := List.getElem?_eq_getElem hd
    obtain ⟨w0, w1, w2, w3, w4, w5, w6, w7, w8, w9, w10, w11, w12, w13, w14, w15, w16, w17, w18, w19, w20, w21, w22, w23, w24, w25, w26, w27, w28, e1, k1, k2, v0', e2, k3⟩ := m_backB (rf := (s 3)) (is := (ss d 0)) (iw := (ss d 1)) (ig := (ss d 2)) (ip := (ss d 3)) (ic := (ss d 4)) (id' := (ca d 6)) (il := (ca d 4)) (im := (ca d 1)) (ish := (ca d 5)) (iu := (ca d 3)) (iws := (ca d 2)) (ss := (s 29)) (sw := (s 30)) (sg := (s 31)) (sp := (s 32)) (sc := (s 33)) (sh := (s 34)) (sv := (s 35)) (sb := (s 36)) (kept := (s 45)) (sd := (a 27)) (sl := (a 25)) (sm := (a 22)) (ssh := (a 26)) (su := (a 24)) (sws := (a 23)) (rs := (s 46)) (rw' := (s 47)) (rg := (s 48)) (rp := (s 49)) (rc := (s 50)) (rh := (s 51)) (rv := (s 52)) (rb := (s 53)) (rd := (a 42)) (rl := (a 40)) (rm := (a 37)) (rsh := (a 41)) (ru := (a 39)) (rws := (a 38)) (th := ms 0) (tr := ms 1) (wh := ms 2) (acts := ms 11) (v0 := ma 2) hio (by omega) hb.1 hi2 him hbd (his d _ hbd)
    exact Or.inr ⟨d, by omega, hgd, _, _, e1, e2, rfl, h1, hg, t, nc + 1, p, nl, _, [], I, Nat.succ_le_succ hnc, zB0_q (t' := 0) h0 (by decide) rfl rfl rfl rfl rfl rfl rfl rfl rfl, hP, ⟨k1, k2 _ _ _, k3 _⟩, zBi_up hi⟩
  · obtain ⟨e1, e2⟩ := m_backR (rf := s 3) (th := ms 0) (tr := ms 1) (wh := ms 2) (acts := ms 11) (v0 := ma 2) hio.1 hi2 him c
    exact Or.inl ⟨_, _, e1, e2, rfl, h1, hg, t, nc, p, nl, r, A, I, Nat.le_succ_of_le hnc, zB0_q (t' := 1) h0 (by decide) rfl rfl rfl rfl rfl rfl rfl rfl rfl, hP, hN, hi⟩
end CIB
